set_option maxRecDepth 100000 in
set_option maxHeartbeats 4000000 in
theorem E_X9_of_J34 {G : oG} {m : oM} {x1 : Int32} {x2 : Int32} {w : Int32} (h : F_X9_of_J34 m x1 x2 = some w) : oRun G M_X9_of 34 [(0, .ref 51), (1, .int x1), (2, .int x2)] [] m (some (.int w)) m := by
  unfold F_X9_of_J34 at h
  refine oRun.iload_n 35 dX9_of_34 2 rfl rfl rfl ?_
  refine oRun.iconst 36 dX9_of_35 oc_i2 rfl ?_
  by_cases c36 : 2 ≤ x2
  · replace h := oIp c36 h
    refine oRun.icmp_ge_t 69 dX9_of_36 c36 rfl ?_
    refine oRun.iload_n 70 dX9_of_69 2 rfl rfl rfl ?_
    refine oRun.bipush 72 dX9_of_70 oc_b10 rfl ?_
    refine oRun.isub 73 dX9_of_72 rfl ?_
    refine oRun.aload_n 74 dX9_of_73 0 rfl rfl (Nat.le_of_ble_eq_true rfl) rfl ?_
    refine oRun.getR 77 dX9_of_74 fd_RX9_11 rfl rfl (Nat.le_of_ble_eq_true rfl) rfl ?_
    refine oRun.bipush 79 dX9_of_77 oc_b19 rfl ?_
    refine oRun.iload_n 80 dX9_of_79 1 rfl rfl rfl ?_
    refine oRun.iadd 81 dX9_of_80 rfl ?_
    obtain ⟨v81, hv81, h⟩ := oB1 h
    refine oRun.iaload 82 dX9_of_81 (Or.inr ⟨_, rfl⟩) hv81 rfl ?_
    by_cases c82 : v81 ≤ (x2 - 10)
    · replace h := oIp c82 h
      refine oRun.icmp_ge_t 97 dX9_of_82 c82 rfl ?_
      refine oRun.bipush 99 dX9_of_97 oc_bm5 rfl ?_
      rw [← Option.some.inj h]
      exact oRun.ret (r := some (.int (-5))) dX9_of_99
    · replace h := oIn c82 h
      refine oRun.icmp_ge_f 85 dX9_of_82 rfl c82 rfl ?_
      refine oRun.aload_n 86 dX9_of_85 0 rfl rfl (Nat.le_of_ble_eq_true rfl) rfl ?_
      refine oRun.iload_n 87 dX9_of_86 1 rfl rfl rfl ?_
      refine oRun.iload_n 88 dX9_of_87 2 rfl rfl rfl ?_
      refine oRun.bipush 90 dX9_of_88 oc_b10 rfl ?_
      refine oRun.isub 91 dX9_of_90 rfl ?_
      obtain ⟨r91, hr91, h⟩ := oB1 h
      refine oRun.callV (as := [.int x1, .int (x2 - 10)]) 94 dX9_of_91 lk_RX9_86 (oFit_i (Nat.le_of_ble_eq_true rfl) (Nat.le_of_ble_eq_true rfl)) rfl rfl rfl rfl (Nat.le_of_ble_eq_true rfl) (Nat.le_of_ble_eq_true rfl) rfl (E_X9_pairAt hr91) rfl ?_
      show oRun G _ 94 _ [.int r91] _ _ _
      refine oRun.goto 99 dX9_of_94 rfl ?_
      rw [← Option.some.inj h]
      exact oRun.ret (r := some (.int r91)) dX9_of_99
  · replace h := oIn c36 h
    refine oRun.icmp_ge_f 39 dX9_of_36 rfl c36 rfl ?_
    refine oRun.iload_n 40 dX9_of_39 2 rfl rfl rfl ?_
    by_cases c40 : x2 = 0
    · replace h := oIp c40 h
      refine oRun.if_ne_f 43 dX9_of_40 rfl c40 rfl ?_
      refine oRun.aload_n 44 dX9_of_43 0 rfl rfl (Nat.le_of_ble_eq_true rfl) rfl ?_
      refine oRun.getR 47 dX9_of_44 fd_RX9_11 rfl rfl (Nat.le_of_ble_eq_true rfl) rfl ?_
      refine oRun.bipush 49 dX9_of_47 oc_b19 rfl ?_
      refine oRun.iload_n 50 dX9_of_49 1 rfl rfl rfl ?_
      refine oRun.iadd 51 dX9_of_50 rfl ?_
      obtain ⟨v51, hv51, h⟩ := oB1 h
      refine oRun.iaload 52 dX9_of_51 (Or.inr ⟨_, rfl⟩) hv51 rfl ?_
      refine oRun.goto 68 dX9_of_52 rfl ?_
      rw [← Option.some.inj h]
      exact oRun.ret (r := some (.int v51)) dX9_of_68
    · replace h := oIn c40 h
      refine oRun.if_ne_t 55 dX9_of_40 c40 rfl ?_
      refine oRun.aload_n 56 dX9_of_55 0 rfl rfl (Nat.le_of_ble_eq_true rfl) rfl ?_
      refine oRun.iload_n 57 dX9_of_56 1 rfl rfl rfl ?_
      obtain ⟨r57, hr57, h⟩ := oB1 h
      refine oRun.callV (as := [.int x1]) 60 dX9_of_57 lk_RX9_147 (oFit_i (Nat.le_of_ble_eq_true rfl) (Nat.le_of_ble_eq_true rfl)) rfl rfl rfl rfl (Nat.le_of_ble_eq_true rfl) (Nat.le_of_ble_eq_true rfl) rfl (E_X9_isRound hr57) rfl ?_
      show oRun G _ 60 _ [.int r57] _ _ _
      by_cases c60 : r57 = 0
      · replace h := oIp c60 h
        refine oRun.if_eq_t 67 dX9_of_60 c60 rfl ?_
        refine oRun.iconst 68 dX9_of_67 oc_i0 rfl ?_
        rw [← Option.some.inj h]
        exact oRun.ret (r := some (.int 0)) dX9_of_68
      · replace h := oIn c60 h
        refine oRun.if_eq_f 63 dX9_of_60 rfl c60 rfl ?_
        refine oRun.iconst 64 dX9_of_63 oc_i1 rfl ?_
        refine oRun.goto 68 dX9_of_64 rfl ?_
        rw [← Option.some.inj h]
        exact oRun.ret (r := some (.int 1)) dX9_of_68
set_option maxRecDepth 100000 in
set_option maxHeartbeats 4000000 in
theorem E_X9_of {G : oG} {m : oM} {x1 : Int32} {x2 : Int32} {w : Int32} (h : F_X9_of m x1 x2 = some w) : oEv G M_X9_of [.ref 51, .int x1, .int x2] m (some (.int w)) m := by
  unfold F_X9_of at h
  refine ⟨?_, ?_⟩
  · show oRun G M_X9_of 0 [(0, .ref 51), (1, .int x1), (2, .int x2)] [] m (some (.int w)) m
    refine oRun.aload_n 1 dX9_of_0 0 rfl rfl (Nat.le_of_ble_eq_true rfl) rfl ?_
    refine oRun.iload_n 2 dX9_of_1 1 rfl rfl rfl ?_
    obtain ⟨r2, hr2, h⟩ := oB1 h
    refine oRun.callV (as := [.int x1]) 5 dX9_of_2 lk_RX9_62 (oFit_i (Nat.le_of_ble_eq_true rfl) (Nat.le_of_ble_eq_true rfl)) rfl rfl rfl rfl (Nat.le_of_ble_eq_true rfl) (Nat.le_of_ble_eq_true rfl) rfl (E_X9_isBody hr2) rfl ?_
    show oRun G _ 5 _ [.int r2] _ _ _
    by_cases c5 : r2 = 0
    · replace h := oIp c5 h
      refine oRun.if_eq_t 32 dX9_of_5 c5 rfl ?_
      refine oRun.iconst 33 dX9_of_32 oc_im1 rfl ?_
      rw [← Option.some.inj h]
      exact oRun.ret (r := some (.int (-1))) dX9_of_33
    · replace h := oIn c5 h
      refine oRun.if_eq_f 8 dX9_of_5 rfl c5 rfl ?_
      refine oRun.iload_n 9 dX9_of_8 2 rfl rfl rfl ?_
      refine oRun.i2l 10 dX9_of_9 rfl ?_
      refine oRun.lconst 11 dX9_of_10 oc_l0 rfl ?_
      refine oRun.lconst 12 dX9_of_11 oc_l1 rfl ?_
      obtain ⟨r12, hr12, h⟩ := oB1 h
      refine oRun.callS (as := [.long x2.toInt64, .long 0, .long 1]) 15 dX9_of_12 lk_RX9_44 (oFit_i (Nat.le_of_ble_eq_true rfl) (Nat.le_of_ble_eq_true rfl)) rfl (Nat.le_of_ble_eq_true rfl) (Nat.le_of_ble_eq_true rfl) rfl (E_X9_isIn hr12) rfl ?_
      show oRun G _ 15 _ [.int r12] _ _ _
      by_cases c15 : r12 = 0
      · replace h := oIp c15 h
        refine oRun.if_ne_f 18 dX9_of_15 rfl c15 rfl ?_
        refine oRun.iload_n 19 dX9_of_18 2 rfl rfl rfl ?_
        refine oRun.i2l 20 dX9_of_19 rfl ?_
        refine oRun.ldc2 23 dX9_of_20 wd_4_211 rfl ?_
        refine oRun.ldc2 26 dX9_of_23 wd_5_104 rfl ?_
        obtain ⟨r26, hr26, h⟩ := oB1 h
        refine oRun.callS (as := [.long x2.toInt64, .long 10, .long 12]) 29 dX9_of_26 lk_RX9_44 (oFit_i (Nat.le_of_ble_eq_true rfl) (Nat.le_of_ble_eq_true rfl)) rfl (Nat.le_of_ble_eq_true rfl) (Nat.le_of_ble_eq_true rfl) rfl (E_X9_isIn hr26) rfl ?_
        show oRun G _ 29 _ [.int r26] _ _ _
        by_cases c29 : r26 = 0
        · replace h := oIp c29 h
          refine oRun.if_ne_f 32 dX9_of_29 rfl c29 rfl ?_
          refine oRun.iconst 33 dX9_of_32 oc_im1 rfl ?_
          rw [← Option.some.inj h]
          exact oRun.ret (r := some (.int (-1))) dX9_of_33
        · replace h := oIn c29 h
          refine oRun.if_ne_t 34 dX9_of_29 c29 rfl ?_
          refine oRun.sub [0, 1, 2] rfl ?_
          exact E_X9_of_J34 h
      · replace h := oIn c15 h
        refine oRun.if_ne_t 34 dX9_of_15 c15 rfl ?_
        refine oRun.sub [0, 1, 2] rfl ?_
        exact E_X9_of_J34 h
  · exact True.intro
set_option maxRecDepth 100000 in
set_option maxHeartbeats 4000000 in
theorem E_X1_drivers_L5 {G : oG} {o : Nat} (ho : oOb o = true) {m : oM} {x1 : Int32} {r : Option Value} {m' : oM} : ∀ (n : Nat) (x2 : Int64) (x4 : Int32) (b : Int64), oLoop (fun s : Int64 × Int32 => F_X1_drivers_L5 o m x1 s.1 s.2) n (x2, x4) = some b → oRun G M_X1_drivers 48 [(2, .long b)] [] m r m' → oRun G M_X1_drivers 5 [(0, .ref o), (1, .int x1), (2, .long x2), (4, .int x4)] [] m r m' := by
  intro n
  induction n with
  | zero => intro x2 x4 b h _; exact (oLoop_zero h).elim
  | succ n ih =>
    intro x2 x4 b h he
    obtain ⟨q', hq', h⟩ := oLoop_succ h
    have hc : ∀ s' : Int64 × Int32, q' = .inl s' → oRun G M_X1_drivers 5 [(0, .ref o), (1, .int x1), (2, .long s'.1), (4, .int s'.2)] [] m r m' := by
      rintro s' rfl
      exact ih (s'.1) (s'.2) b h he
    have hx : ∀ b' : Int64, q' = .inr b' → oRun G M_X1_drivers 48 [(2, .long b')] [] m r m' := by
      rintro b' rfl
      have h : b' = b := h
      rw [h]
      exact he
    clear h he ih
    have h := hq'
    clear hq'
    replace h : F_X1_drivers_L5 o m x1 x2 x4 = some q' := h
    unfold F_X1_drivers_L5 at h
    refine oRun.iload 7 dX1_drivers_5 3 rfl rfl ?_
    refine oRun.aload_n 8 dX1_drivers_7 0 rfl rfl (oLt66 (oO_lt ho)) rfl ?_
    refine oRun.getR 11 dX1_drivers_8 fd_RX1_38 (oO_sh ho) rfl (oO_l8 ho) rfl ?_
    refine oRun.iload_n 12 dX1_drivers_11 1 rfl rfl rfl ?_
    obtain ⟨r12, hr12, h⟩ := oB1 h
    refine oRun.callV (as := [.int x1]) 15 dX1_drivers_12 lk_RX1_74 (oFit_i (Nat.le_of_ble_eq_true rfl) (Nat.le_of_ble_eq_true rfl)) (oT_sh (oO_T ho)) rfl rfl rfl (Nat.le_of_ble_eq_true rfl) (Nat.le_of_ble_eq_true rfl) rfl (E_X7_length (oO_T ho) hr12) rfl ?_
    show oRun G _ 15 _ [.int r12, .int x4] _ _ _
    by_cases c15 : r12 ≤ x4
    · replace h := oIp c15 h
      refine oRun.icmp_ge_t 48 dX1_drivers_15 c15 rfl ?_
      cases h
      refine oRun.sub [2] rfl ?_
      exact hx _ rfl
    · replace h := oIn c15 h
      refine oRun.icmp_ge_f 18 dX1_drivers_15 rfl c15 rfl ?_
      refine oRun.lload_n 19 dX1_drivers_18 2 rfl rfl rfl ?_
      refine oRun.aload_n 20 dX1_drivers_19 0 rfl rfl (oLt66 (oO_lt ho)) rfl ?_
      refine oRun.getR 23 dX1_drivers_20 fd_RX1_31 (oO_sh ho) rfl (oO_l3 ho) rfl ?_
      refine oRun.getR 26 dX1_drivers_23 fd_RX1_86 (oP_sh (oO_P ho)) rfl (oP_l3 (oO_P ho)) rfl ?_
      refine oRun.aload_n 27 dX1_drivers_26 0 rfl rfl (oLt66 (oO_lt ho)) rfl ?_
      refine oRun.getR 30 dX1_drivers_27 fd_RX1_38 (oO_sh ho) rfl (oO_l8 ho) rfl ?_
      refine oRun.iload_n 31 dX1_drivers_30 1 rfl rfl rfl ?_
      refine oRun.iload 33 dX1_drivers_31 3 rfl rfl ?_
      obtain ⟨r33, hr33, h⟩ := oB1 h
      refine oRun.callV (as := [.int x1, .int x4]) 36 dX1_drivers_33 lk_RX1_89 (oFit_i (Nat.le_of_ble_eq_true rfl) (Nat.le_of_ble_eq_true rfl)) (oT_sh (oO_T ho)) rfl rfl rfl (Nat.le_of_ble_eq_true rfl) (Nat.le_of_ble_eq_true rfl) rfl (E_X7_pairAt (oO_T ho) hr33) rfl ?_
      show oRun G _ 36 _ [.int r33, .ref (o + 6), .long x2] _ _ _
      obtain ⟨r36, hr36, h⟩ := oB1 h
      refine oRun.callN (as := [.ref (o + 6), .int r33]) 39 dX1_drivers_36 lk_RX1_93 (oFit_i (Nat.le_of_ble_eq_true rfl) (Nat.le_of_ble_eq_true rfl)) rfl (Nat.le_of_ble_eq_true rfl) (Nat.le_of_ble_eq_true rfl) rfl (E_X8_at (Or.inr ⟨_, (oP_a3 (oO_P ho))⟩) hr36) rfl ?_
      show oRun G _ 39 _ [.int r36, .long x2] _ _ _
      refine oRun.i2l 40 dX1_drivers_39 rfl ?_
      refine oRun.lmul 41 dX1_drivers_40 rfl ?_
      obtain ⟨x2_41, hx2_41, h⟩ := oB1 h
      refine oRun.nameJ hx2_41 ?_
      refine oRun.lstore_n 42 dX1_drivers_41 rfl (Nat.le_of_ble_eq_true rfl) rfl rfl ?_
      refine oRun.iinc 45 dX1_drivers_42 3 rfl (oAddC oc_i1) (Nat.le_of_ble_eq_true rfl) rfl rfl ?_
      refine oRun.goto 5 dX1_drivers_45 rfl ?_
      cases h
      refine oRun.sub [2, 3, 1, 0] rfl ?_
      exact hc _ rfl
set_option maxRecDepth 100000 in
set_option maxHeartbeats 4000000 in
theorem E_X1_drivers {G : oG} {o : Nat} (ho : oOb o = true) {m : oM} {x1 : Int32} {w : Int64} (h : F_X1_drivers o m x1 = some w) : oEv G M_X1_drivers [.ref o, .int x1] m (some (.long w)) m := by
  unfold F_X1_drivers at h
  refine ⟨?_, ?_⟩
  · show oRun G M_X1_drivers 0 [(0, .ref o), (1, .int x1)] [] m (some (.long w)) m
    refine oRun.lconst 1 dX1_drivers_0 oc_l1 rfl ?_
    refine oRun.lstore_n 2 dX1_drivers_1 rfl (Nat.le_of_ble_eq_true rfl) rfl rfl ?_
    refine oRun.iconst 3 dX1_drivers_2 oc_i0 rfl ?_
    refine oRun.istore 5 dX1_drivers_3 (Nat.le_of_ble_eq_true rfl) rfl rfl ?_
    obtain ⟨b5, hb5, h⟩ := oB1 h
    refine oRun.sub [2, 3, 1, 0] rfl ?_
    refine E_X1_drivers_L5 ho _ _ _ _ hb5 ?_
    refine oRun.lload_n 49 dX1_drivers_48 0 rfl rfl rfl ?_
    rw [← Option.some.inj h]
    exact oRun.ret (r := some (.long b5)) dX1_drivers_49
  · exact True.intro
set_option maxRecDepth 100000 in
set_option maxHeartbeats 4000000 in
theorem E_X1_drivens_L5 {G : oG} {o : Nat} (ho : oOb o = true) {m : oM} {x1 : Int32} {r : Option Value} {m' : oM} : ∀ (n : Nat) (x2 : Int64) (x4 : Int32) (b : Int64), oLoop (fun s : Int64 × Int32 => F_X1_drivens_L5 o m x1 s.1 s.2) n (x2, x4) = some b → oRun G M_X1_drivens 48 [(2, .long b)] [] m r m' → oRun G M_X1_drivens 5 [(0, .ref o), (1, .int x1), (2, .long x2), (4, .int x4)] [] m r m' := by
  intro n
  induction n with
  | zero => intro x2 x4 b h _; exact (oLoop_zero h).elim
  | succ n ih =>
    intro x2 x4 b h he
    obtain ⟨q', hq', h⟩ := oLoop_succ h
    have hc : ∀ s' : Int64 × Int32, q' = .inl s' → oRun G M_X1_drivens 5 [(0, .ref o), (1, .int x1), (2, .long s'.1), (4, .int s'.2)] [] m r m' := by
      rintro s' rfl
      exact ih (s'.1) (s'.2) b h he
    have hx : ∀ b' : Int64, q' = .inr b' → oRun G M_X1_drivens 48 [(2, .long b')] [] m r m' := by
      rintro b' rfl
      have h : b' = b := h
      rw [h]
      exact he
    clear h he ih
    have h := hq'
    clear hq'
    replace h : F_X1_drivens_L5 o m x1 x2 x4 = some q' := h
    unfold F_X1_drivens_L5 at h
    refine oRun.iload 7 dX1_drivens_5 3 rfl rfl ?_
    refine oRun.aload_n 8 dX1_drivens_7 0 rfl rfl (oLt66 (oO_lt ho)) rfl ?_
    refine oRun.getR 11 dX1_drivens_8 fd_RX1_38 (oO_sh ho) rfl (oO_l8 ho) rfl ?_
    refine oRun.iload_n 12 dX1_drivens_11 1 rfl rfl rfl ?_
    obtain ⟨r12, hr12, h⟩ := oB1 h
    refine oRun.callV (as := [.int x1]) 15 dX1_drivens_12 lk_RX1_74 (oFit_i (Nat.le_of_ble_eq_true rfl) (Nat.le_of_ble_eq_true rfl)) (oT_sh (oO_T ho)) rfl rfl rfl (Nat.le_of_ble_eq_true rfl) (Nat.le_of_ble_eq_true rfl) rfl (E_X7_length (oO_T ho) hr12) rfl ?_
    show oRun G _ 15 _ [.int r12, .int x4] _ _ _
    by_cases c15 : r12 ≤ x4
    · replace h := oIp c15 h
      refine oRun.icmp_ge_t 48 dX1_drivens_15 c15 rfl ?_
      cases h
      refine oRun.sub [2] rfl ?_
      exact hx _ rfl
    · replace h := oIn c15 h
      refine oRun.icmp_ge_f 18 dX1_drivens_15 rfl c15 rfl ?_
      refine oRun.lload_n 19 dX1_drivens_18 2 rfl rfl rfl ?_
      refine oRun.aload_n 20 dX1_drivens_19 0 rfl rfl (oLt66 (oO_lt ho)) rfl ?_
      refine oRun.getR 23 dX1_drivens_20 fd_RX1_31 (oO_sh ho) rfl (oO_l3 ho) rfl ?_
      refine oRun.getR 26 dX1_drivens_23 fd_RX1_97 (oP_sh (oO_P ho)) rfl (oP_l4 (oO_P ho)) rfl ?_
      refine oRun.aload_n 27 dX1_drivens_26 0 rfl rfl (oLt66 (oO_lt ho)) rfl ?_
      refine oRun.getR 30 dX1_drivens_27 fd_RX1_38 (oO_sh ho) rfl (oO_l8 ho) rfl ?_
      refine oRun.iload_n 31 dX1_drivens_30 1 rfl rfl rfl ?_
      refine oRun.iload 33 dX1_drivens_31 3 rfl rfl ?_
      obtain ⟨r33, hr33, h⟩ := oB1 h
      refine oRun.callV (as := [.int x1, .int x4]) 36 dX1_drivens_33 lk_RX1_89 (oFit_i (Nat.le_of_ble_eq_true rfl) (Nat.le_of_ble_eq_true rfl)) (oT_sh (oO_T ho)) rfl rfl rfl (Nat.le_of_ble_eq_true rfl) (Nat.le_of_ble_eq_true rfl) rfl (E_X7_pairAt (oO_T ho) hr33) rfl ?_
      show oRun G _ 36 _ [.int r33, .ref (o + 7), .long x2] _ _ _
      obtain ⟨r36, hr36, h⟩ := oB1 h
      refine oRun.callN (as := [.ref (o + 7), .int r33]) 39 dX1_drivens_36 lk_RX1_93 (oFit_i (Nat.le_of_ble_eq_true rfl) (Nat.le_of_ble_eq_true rfl)) rfl (Nat.le_of_ble_eq_true rfl) (Nat.le_of_ble_eq_true rfl) rfl (E_X8_at (Or.inr ⟨_, (oP_a4 (oO_P ho))⟩) hr36) rfl ?_
      show oRun G _ 39 _ [.int r36, .long x2] _ _ _
      refine oRun.i2l 40 dX1_drivens_39 rfl ?_
      refine oRun.lmul 41 dX1_drivens_40 rfl ?_
      obtain ⟨x2_41, hx2_41, h⟩ := oB1 h
      refine oRun.nameJ hx2_41 ?_
      refine oRun.lstore_n 42 dX1_drivens_41 rfl (Nat.le_of_ble_eq_true rfl) rfl rfl ?_
      refine oRun.iinc 45 dX1_drivens_42 3 rfl (oAddC oc_i1) (Nat.le_of_ble_eq_true rfl) rfl rfl ?_
      refine oRun.goto 5 dX1_drivens_45 rfl ?_
      cases h
      refine oRun.sub [2, 3, 1, 0] rfl ?_
      exact hc _ rfl
set_option maxRecDepth 100000 in
set_option maxHeartbeats 4000000 in
theorem E_X1_drivens {G : oG} {o : Nat} (ho : oOb o = true) {m : oM} {x1 : Int32} {w : Int64} (h : F_X1_drivens o m x1 = some w) : oEv G M_X1_drivens [.ref o, .int x1] m (some (.long w)) m := by
  unfold F_X1_drivens at h
  refine ⟨?_, ?_⟩
  · show oRun G M_X1_drivens 0 [(0, .ref o), (1, .int x1)] [] m (some (.long w)) m
    refine oRun.lconst 1 dX1_drivens_0 oc_l1 rfl ?_
    refine oRun.lstore_n 2 dX1_drivens_1 rfl (Nat.le_of_ble_eq_true rfl) rfl rfl ?_
    refine oRun.iconst 3 dX1_drivens_2 oc_i0 rfl ?_
    refine oRun.istore 5 dX1_drivens_3 (Nat.le_of_ble_eq_true rfl) rfl rfl ?_
    obtain ⟨b5, hb5, h⟩ := oB1 h
    refine oRun.sub [2, 3, 1, 0] rfl ?_
    refine E_X1_drivens_L5 ho _ _ _ _ hb5 ?_
    refine oRun.lload_n 49 dX1_drivens_48 0 rfl rfl rfl ?_
    rw [← Option.some.inj h]
    exact oRun.ret (r := some (.long b5)) dX1_drivens_49
  · exact True.intro
set_option maxRecDepth 100000 in
set_option maxHeartbeats 4000000 in
theorem E_X8_turns {G : oG} {m : oM} {x1 : Int32} {x2 : Int32} {w : Int64} (h : F_X8_turns m x1 x2 = some w) : oEv G M_X8_turns [.ref 0, .int x1, .int x2] m (some (.long w)) m := by
  unfold F_X8_turns at h
  refine ⟨?_, ?_⟩
  · show oRun G M_X8_turns 0 [(0, .ref 0), (1, .int x1), (2, .int x2)] [] m (some (.long w)) m
    refine oRun.aload_n 1 dX8_turns_0 0 rfl rfl (Nat.le_of_ble_eq_true rfl) rfl ?_
    refine oRun.getR 4 dX8_turns_1 fd_RX8_12 rfl rfl (Nat.le_of_ble_eq_true rfl) rfl ?_
    refine oRun.iload_n 5 dX8_turns_4 1 rfl rfl rfl ?_
    obtain ⟨r5, hr5, h⟩ := oB1 h
    refine oRun.callV (as := [.int x1]) 8 dX8_turns_5 lk_RX8_192 (oFit_i (Nat.le_of_ble_eq_true rfl) (Nat.le_of_ble_eq_true rfl)) rfl rfl rfl rfl (Nat.le_of_ble_eq_true rfl) (Nat.le_of_ble_eq_true rfl) rfl (E_X1_hasTrain rfl hr5) rfl ?_
    show oRun G _ 8 _ [.int r5] _ _ _
    by_cases c8 : r5 = 0
    · replace h := oIp c8 h
      refine oRun.if_eq_t 18 dX8_turns_8 c8 rfl ?_
      refine oRun.ldc2 21 dX8_turns_18 wd_2_48 rfl ?_
      rw [← Option.some.inj h]
      exact oRun.ret (r := some (.long (-9223372036854775808))) dX8_turns_21
    · replace h := oIn c8 h
      refine oRun.if_eq_f 11 dX8_turns_8 rfl c8 rfl ?_
      refine oRun.iload_n 12 dX8_turns_11 2 rfl rfl rfl ?_
      obtain ⟨r12, hr12, h⟩ := oB1 h
      refine oRun.callS (as := [.int x2]) 15 dX8_turns_12 lk_RX8_83 (oFit_i (Nat.le_of_ble_eq_true rfl) (Nat.le_of_ble_eq_true rfl)) rfl (Nat.le_of_ble_eq_true rfl) (Nat.le_of_ble_eq_true rfl) rfl (E_X8_isPart hr12) rfl ?_
      show oRun G _ 15 _ [.int r12] _ _ _
      by_cases c15 : r12 = 0
      · replace h := oIp c15 h
        refine oRun.if_ne_f 18 dX8_turns_15 rfl c15 rfl ?_
        refine oRun.ldc2 21 dX8_turns_18 wd_2_48 rfl ?_
        rw [← Option.some.inj h]
        exact oRun.ret (r := some (.long (-9223372036854775808))) dX8_turns_21
      · replace h := oIn c15 h
        refine oRun.if_ne_t 22 dX8_turns_15 c15 rfl ?_
        refine oRun.aload_n 23 dX8_turns_22 0 rfl rfl (Nat.le_of_ble_eq_true rfl) rfl ?_
        refine oRun.getR 26 dX8_turns_23 fd_RX8_12 rfl rfl (Nat.le_of_ble_eq_true rfl) rfl ?_
        refine oRun.iload_n 27 dX8_turns_26 1 rfl rfl rfl ?_
        obtain ⟨r27, hr27, h⟩ := oB1 h
        refine oRun.callV (as := [.int x1]) 30 dX8_turns_27 lk_RX8_206 (oFit_i (Nat.le_of_ble_eq_true rfl) (Nat.le_of_ble_eq_true rfl)) rfl rfl rfl rfl (Nat.le_of_ble_eq_true rfl) (Nat.le_of_ble_eq_true rfl) rfl (E_X1_drivers rfl hr27) rfl ?_
        show oRun G _ 30 _ [.long r27] _ _ _
        refine oRun.aload_n 31 dX8_turns_30 0 rfl rfl (Nat.le_of_ble_eq_true rfl) rfl ?_
        refine oRun.getR 34 dX8_turns_31 fd_RX8_12 rfl rfl (Nat.le_of_ble_eq_true rfl) rfl ?_
        refine oRun.iload_n 35 dX8_turns_34 1 rfl rfl rfl ?_
        obtain ⟨r35, hr35, h⟩ := oB1 h
        refine oRun.callV (as := [.int x1]) 38 dX8_turns_35 lk_RX8_209 (oFit_i (Nat.le_of_ble_eq_true rfl) (Nat.le_of_ble_eq_true rfl)) rfl rfl rfl rfl (Nat.le_of_ble_eq_true rfl) (Nat.le_of_ble_eq_true rfl) rfl (E_X1_drivens rfl hr35) rfl ?_
        show oRun G _ 38 _ [.long r35, .long r27] _ _ _
        refine oRun.iload_n 39 dX8_turns_38 2 rfl rfl rfl ?_
        obtain ⟨r39, hr39, h⟩ := oB1 h
        refine oRun.callS (as := [.long r27, .long r35, .int x2]) 42 dX8_turns_39 lk_RX8_88 (oFit_i (Nat.le_of_ble_eq_true rfl) (Nat.le_of_ble_eq_true rfl)) rfl (Nat.le_of_ble_eq_true rfl) (Nat.le_of_ble_eq_true rfl) rfl (E_X8_lowest hr39) rfl ?_
        show oRun G _ 42 _ [.long r39] _ _ _
        rw [← Option.some.inj h]
        exact oRun.ret (r := some (.long r39)) dX8_turns_42
  · exact True.intro
set_option maxRecDepth 100000 in
set_option maxHeartbeats 4000000 in
theorem E_X9_hasTrain {G : oG} {m : oM} {x1 : Int32} {w : Int32} (h : F_X9_hasTrain m x1 = some w) : oEv G M_X9_hasTrain [.ref 51, .int x1] m (some (.int w)) m := by
  unfold F_X9_hasTrain at h
  refine ⟨?_, ?_⟩
  · show oRun G M_X9_hasTrain 0 [(0, .ref 51), (1, .int x1)] [] m (some (.int w)) m
    refine oRun.aload_n 1 dX9_hasTrain_0 0 rfl rfl (Nat.le_of_ble_eq_true rfl) rfl ?_
    refine oRun.iload_n 2 dX9_hasTrain_1 1 rfl rfl rfl ?_
    obtain ⟨r2, hr2, h⟩ := oB1 h
    refine oRun.callV (as := [.int x1]) 5 dX9_hasTrain_2 lk_RX9_62 (oFit_i (Nat.le_of_ble_eq_true rfl) (Nat.le_of_ble_eq_true rfl)) rfl rfl rfl rfl (Nat.le_of_ble_eq_true rfl) (Nat.le_of_ble_eq_true rfl) rfl (E_X9_isBody hr2) rfl ?_
    show oRun G _ 5 _ [.int r2] _ _ _
    by_cases c5 : r2 = 0
    · replace h := oIp c5 h
      refine oRun.if_eq_t 24 dX9_hasTrain_5 c5 rfl ?_
      refine oRun.iconst 25 dX9_hasTrain_24 oc_i0 rfl ?_
      rw [← Option.some.inj h]
      exact oRun.ret (r := some (.int 0)) dX9_hasTrain_25
    · replace h := oIn c5 h
      refine oRun.if_eq_f 8 dX9_hasTrain_5 rfl c5 rfl ?_
      refine oRun.aload_n 9 dX9_hasTrain_8 0 rfl rfl (Nat.le_of_ble_eq_true rfl) rfl ?_
      refine oRun.getR 12 dX9_hasTrain_9 fd_RX9_11 rfl rfl (Nat.le_of_ble_eq_true rfl) rfl ?_
      refine oRun.bipush 14 dX9_hasTrain_12 oc_b19 rfl ?_
      refine oRun.iload_n 15 dX9_hasTrain_14 1 rfl rfl rfl ?_
      refine oRun.iadd 16 dX9_hasTrain_15 rfl ?_
      obtain ⟨v16, hv16, h⟩ := oB1 h
      refine oRun.iaload 17 dX9_hasTrain_16 (Or.inr ⟨_, rfl⟩) hv16 rfl ?_
      by_cases c17 : v16 ≤ 0
      · replace h := oIp c17 h
        refine oRun.if_le_t 24 dX9_hasTrain_17 c17 rfl ?_
        refine oRun.iconst 25 dX9_hasTrain_24 oc_i0 rfl ?_
        rw [← Option.some.inj h]
        exact oRun.ret (r := some (.int 0)) dX9_hasTrain_25
      · replace h := oIn c17 h
        refine oRun.if_le_f 20 dX9_hasTrain_17 rfl c17 rfl ?_
        refine oRun.iconst 21 dX9_hasTrain_20 oc_i1 rfl ?_
        refine oRun.goto 25 dX9_hasTrain_21 rfl ?_
        rw [← Option.some.inj h]
        exact oRun.ret (r := some (.int 1)) dX9_hasTrain_25
  · show oROK (some .boolean) (some (.int w))
    obtain ⟨r2, hr2, h⟩ := oB1 h
    by_cases c5 : r2 = 0
    · replace h := oIp c5 h
      rw [← Option.some.inj h]
      exact Or.inl rfl
    · replace h := oIn c5 h
      obtain ⟨v16, hv16, h⟩ := oB1 h
      by_cases c17 : v16 ≤ 0
      · replace h := oIp c17 h
        rw [← Option.some.inj h]
        exact Or.inl rfl
      · replace h := oIn c17 h
        rw [← Option.some.inj h]
        exact Or.inr rfl
set_option maxRecDepth 100000 in
set_option maxHeartbeats 4000000 in
theorem E_X9_product_L6 {G : oG} {m : oM} {x1 : Int32} {x2 : Int32} {x4 : Int32} {r : Option Value} {m' : oM} : ∀ (n : Nat) (x5 : Int64) (x7 : Int32) (b : Int64), oLoop (fun s : Int64 × Int32 => F_X9_product_L6 m x1 x2 x4 s.1 s.2) n (x5, x7) = some b → oRun G M_X9_product 39 [(5, .long b)] [] m r m' → oRun G M_X9_product 6 [(0, .ref 51), (1, .int x1), (2, .int x2), (4, .int x4), (5, .long x5), (7, .int x7)] [] m r m' := by
  intro n
  induction n with
  | zero => intro x5 x7 b h _; exact (oLoop_zero h).elim
  | succ n ih =>
    intro x5 x7 b h he
    obtain ⟨q', hq', h⟩ := oLoop_succ h
    have hc : ∀ s' : Int64 × Int32, q' = .inl s' → oRun G M_X9_product 6 [(0, .ref 51), (1, .int x1), (2, .int x2), (4, .int x4), (5, .long s'.1), (7, .int s'.2)] [] m r m' := by
      rintro s' rfl
      exact ih (s'.1) (s'.2) b h he
    have hx : ∀ b' : Int64, q' = .inr b' → oRun G M_X9_product 39 [(5, .long b')] [] m r m' := by
      rintro b' rfl
      have h : b' = b := h
      rw [h]
      exact he
    clear h he ih
    have h := hq'
    clear hq'
    replace h : F_X9_product_L6 m x1 x2 x4 x5 x7 = some q' := h
    unfold F_X9_product_L6 at h
    refine oRun.iload 8 dX9_product_6 5 rfl rfl ?_
    refine oRun.iload 10 dX9_product_8 3 rfl rfl ?_
    by_cases c10 : x4 ≤ x7
    · replace h := oIp c10 h
      refine oRun.icmp_ge_t 39 dX9_product_10 c10 rfl ?_
      cases h
      refine oRun.sub [4] rfl ?_
      exact hx _ rfl
    · replace h := oIn c10 h
      refine oRun.icmp_ge_f 13 dX9_product_10 rfl c10 rfl ?_
      refine oRun.lload 15 dX9_product_13 4 rfl rfl ?_
      refine oRun.aload_n 16 dX9_product_15 0 rfl rfl (Nat.le_of_ble_eq_true rfl) rfl ?_
      refine oRun.getR 19 dX9_product_16 fd_RX9_11 rfl rfl (Nat.le_of_ble_eq_true rfl) rfl ?_
      refine oRun.iload_n 20 dX9_product_19 2 rfl rfl rfl ?_
      refine oRun.aload_n 21 dX9_product_20 0 rfl rfl (Nat.le_of_ble_eq_true rfl) rfl ?_
      refine oRun.iload_n 22 dX9_product_21 1 rfl rfl rfl ?_
      refine oRun.iload 24 dX9_product_22 5 rfl rfl ?_
      obtain ⟨r24, hr24, h⟩ := oB1 h
      refine oRun.callV (as := [.int x1, .int x7]) 27 dX9_product_24 lk_RX9_86 (oFit_i (Nat.le_of_ble_eq_true rfl) (Nat.le_of_ble_eq_true rfl)) rfl rfl rfl rfl (Nat.le_of_ble_eq_true rfl) (Nat.le_of_ble_eq_true rfl) rfl (E_X9_pairAt hr24) rfl ?_
      show oRun G _ 27 _ [.int r24, .int x2, .ref 52, .long x5] _ _ _
      refine oRun.iadd 28 dX9_product_27 rfl ?_
      obtain ⟨v28, hv28, h⟩ := oB1 h
      refine oRun.iaload 29 dX9_product_28 (Or.inr ⟨_, rfl⟩) hv28 rfl ?_
      refine oRun.i2l 30 dX9_product_29 rfl ?_
      refine oRun.lmul 31 dX9_product_30 rfl ?_
      obtain ⟨x5_31, hx5_31, h⟩ := oB1 h
      refine oRun.nameJ hx5_31 ?_
      refine oRun.lstore 33 dX9_product_31 (Nat.le_of_ble_eq_true rfl) rfl rfl ?_
      refine oRun.iinc 36 dX9_product_33 5 rfl (oAddC oc_i1) (Nat.le_of_ble_eq_true rfl) rfl rfl ?_
      refine oRun.goto 6 dX9_product_36 rfl ?_
      cases h
      refine oRun.sub [2, 3, 4, 5, 1, 0] rfl ?_
      exact hc _ rfl
set_option maxRecDepth 100000 in
set_option maxHeartbeats 4000000 in
theorem E_X9_product {G : oG} {m : oM} {x1 : Int32} {x2 : Int32} {x3 : Int32} {x4 : Int32} {w : Int64} (h : F_X9_product m x1 x2 x3 x4 = some w) : oEv G M_X9_product [.ref 51, .int x1, .int x2, .int x3, .int x4] m (some (.long w)) m := by
  unfold F_X9_product at h
  refine ⟨?_, ?_⟩
  · show oRun G M_X9_product 0 [(0, .ref 51), (1, .int x1), (2, .int x2), (3, .int x3), (4, .int x4)] [] m (some (.long w)) m
    refine oRun.lconst 1 dX9_product_0 oc_l1 rfl ?_
    refine oRun.lstore 3 dX9_product_1 (Nat.le_of_ble_eq_true rfl) rfl rfl ?_
    refine oRun.iload_n 4 dX9_product_3 4 rfl rfl rfl ?_
    refine oRun.istore 6 dX9_product_4 (Nat.le_of_ble_eq_true rfl) rfl rfl ?_
    obtain ⟨b6, hb6, h⟩ := oB1 h
    refine oRun.sub [2, 3, 4, 6, 1, 0] rfl ?_
    refine E_X9_product_L6 _ _ _ _ hb6 ?_
    refine oRun.lload 41 dX9_product_39 0 rfl rfl ?_
    rw [← Option.some.inj h]
    exact oRun.ret (r := some (.long b6)) dX9_product_41
  · exact True.intro
set_option maxRecDepth 100000 in
set_option maxHeartbeats 4000000 in
theorem E_X9_drivers {G : oG} {m : oM} {x1 : Int32} {w : Int64} (h : F_X9_drivers m x1 = some w) : oEv G M_X9_drivers [.ref 51, .int x1] m (some (.long w)) m := by
  unfold F_X9_drivers at h
  refine ⟨?_, ?_⟩
  · show oRun G M_X9_drivers 0 [(0, .ref 51), (1, .int x1)] [] m (some (.long w)) m
    refine oRun.aload_n 1 dX9_drivers_0 0 rfl rfl (Nat.le_of_ble_eq_true rfl) rfl ?_
    refine oRun.iload_n 2 dX9_drivers_1 1 rfl rfl rfl ?_
    refine oRun.bipush 4 dX9_drivers_2 oc_b63 rfl ?_
    refine oRun.iconst 5 dX9_drivers_4 oc_i0 rfl ?_
    refine oRun.aload_n 6 dX9_drivers_5 0 rfl rfl (Nat.le_of_ble_eq_true rfl) rfl ?_
    refine oRun.getR 9 dX9_drivers_6 fd_RX9_11 rfl rfl (Nat.le_of_ble_eq_true rfl) rfl ?_
    refine oRun.bipush 11 dX9_drivers_9 oc_b19 rfl ?_
    refine oRun.iload_n 12 dX9_drivers_11 1 rfl rfl rfl ?_
    refine oRun.iadd 13 dX9_drivers_12 rfl ?_
    obtain ⟨v13, hv13, h⟩ := oB1 h
    refine oRun.iaload 14 dX9_drivers_13 (Or.inr ⟨_, rfl⟩) hv13 rfl ?_
    obtain ⟨r14, hr14, h⟩ := oB1 h
    refine oRun.callV (as := [.int x1, .int 63, .int 0, .int v13]) 17 dX9_drivers_14 lk_RX9_150 (oFit_i (Nat.le_of_ble_eq_true rfl) (Nat.le_of_ble_eq_true rfl)) rfl rfl rfl rfl (Nat.le_of_ble_eq_true rfl) (Nat.le_of_ble_eq_true rfl) rfl (E_X9_product hr14) rfl ?_
    show oRun G _ 17 _ [.long r14] _ _ _
    rw [← Option.some.inj h]
    exact oRun.ret (r := some (.long r14)) dX9_drivers_17
  · exact True.intro
set_option maxRecDepth 100000 in
set_option maxHeartbeats 4000000 in
theorem E_X9_drivens {G : oG} {m : oM} {x1 : Int32} {w : Int64} (h : F_X9_drivens m x1 = some w) : oEv G M_X9_drivens [.ref 51, .int x1] m (some (.long w)) m := by
  unfold F_X9_drivens at h
  refine ⟨?_, ?_⟩
  · show oRun G M_X9_drivens 0 [(0, .ref 51), (1, .int x1)] [] m (some (.long w)) m
    refine oRun.aload_n 1 dX9_drivens_0 0 rfl rfl (Nat.le_of_ble_eq_true rfl) rfl ?_
    refine oRun.iload_n 2 dX9_drivens_1 1 rfl rfl rfl ?_
    refine oRun.bipush 4 dX9_drivens_2 oc_b73 rfl ?_
    refine oRun.iconst 5 dX9_drivens_4 oc_i0 rfl ?_
    refine oRun.aload_n 6 dX9_drivens_5 0 rfl rfl (Nat.le_of_ble_eq_true rfl) rfl ?_
    refine oRun.getR 9 dX9_drivens_6 fd_RX9_11 rfl rfl (Nat.le_of_ble_eq_true rfl) rfl ?_
    refine oRun.bipush 11 dX9_drivens_9 oc_b19 rfl ?_
    refine oRun.iload_n 12 dX9_drivens_11 1 rfl rfl rfl ?_
    refine oRun.iadd 13 dX9_drivens_12 rfl ?_
    obtain ⟨v13, hv13, h⟩ := oB1 h
    refine oRun.iaload 14 dX9_drivens_13 (Or.inr ⟨_, rfl⟩) hv13 rfl ?_
    obtain ⟨r14, hr14, h⟩ := oB1 h
    refine oRun.callV (as := [.int x1, .int 73, .int 0, .int v13]) 17 dX9_drivens_14 lk_RX9_150 (oFit_i (Nat.le_of_ble_eq_true rfl) (Nat.le_of_ble_eq_true rfl)) rfl rfl rfl rfl (Nat.le_of_ble_eq_true rfl) (Nat.le_of_ble_eq_true rfl) rfl (E_X9_product hr14) rfl ?_
    show oRun G _ 17 _ [.long r14] _ _ _
    rw [← Option.some.inj h]
    exact oRun.ret (r := some (.long r14)) dX9_drivens_17
  · exact True.intro
set_option maxRecDepth 100000 in
set_option maxHeartbeats 4000000 in
theorem E_X9_turns {G : oG} {m : oM} {x1 : Int32} {x2 : Int32} {w : Int64} (h : F_X9_turns m x1 x2 = some w) : oEv G M_X9_turns [.ref 51, .int x1, .int x2] m (some (.long w)) m := by
  unfold F_X9_turns at h
  refine ⟨?_, ?_⟩
  · show oRun G M_X9_turns 0 [(0, .ref 51), (1, .int x1), (2, .int x2)] [] m (some (.long w)) m
    refine oRun.aload_n 1 dX9_turns_0 0 rfl rfl (Nat.le_of_ble_eq_true rfl) rfl ?_
    refine oRun.iload_n 2 dX9_turns_1 1 rfl rfl rfl ?_
    obtain ⟨r2, hr2, h⟩ := oB1 h
    refine oRun.callV (as := [.int x1]) 5 dX9_turns_2 lk_RX9_154 (oFit_i (Nat.le_of_ble_eq_true rfl) (Nat.le_of_ble_eq_true rfl)) rfl rfl rfl rfl (Nat.le_of_ble_eq_true rfl) (Nat.le_of_ble_eq_true rfl) rfl (E_X9_hasTrain hr2) rfl ?_
    show oRun G _ 5 _ [.int r2] _ _ _
    by_cases c5 : r2 = 0
    · replace h := oIp c5 h
      refine oRun.if_eq_t 32 dX9_turns_5 c5 rfl ?_
      refine oRun.ldc2 35 dX9_turns_32 wd_4_201 rfl ?_
      rw [← Option.some.inj h]
      exact oRun.ret (r := some (.long (-9223372036854775808))) dX9_turns_35
    · replace h := oIn c5 h
      refine oRun.if_eq_f 8 dX9_turns_5 rfl c5 rfl ?_
      refine oRun.iload_n 9 dX9_turns_8 2 rfl rfl rfl ?_
      obtain ⟨r9, hr9, h⟩ := oB1 h
      refine oRun.callS (as := [.int x2]) 12 dX9_turns_9 lk_RX9_70 (oFit_i (Nat.le_of_ble_eq_true rfl) (Nat.le_of_ble_eq_true rfl)) rfl (Nat.le_of_ble_eq_true rfl) (Nat.le_of_ble_eq_true rfl) rfl (E_X9_isPart hr9) rfl ?_
      show oRun G _ 12 _ [.int r9] _ _ _
      by_cases c12 : r9 = 0
      · replace h := oIp c12 h
        refine oRun.if_eq_t 32 dX9_turns_12 c12 rfl ?_
        refine oRun.ldc2 35 dX9_turns_32 wd_4_201 rfl ?_
        rw [← Option.some.inj h]
        exact oRun.ret (r := some (.long (-9223372036854775808))) dX9_turns_35
      · replace h := oIn c12 h
        refine oRun.if_eq_f 15 dX9_turns_12 rfl c12 rfl ?_
        refine oRun.aload_n 16 dX9_turns_15 0 rfl rfl (Nat.le_of_ble_eq_true rfl) rfl ?_
        refine oRun.iload_n 17 dX9_turns_16 1 rfl rfl rfl ?_
        obtain ⟨r17, hr17, h⟩ := oB1 h
        refine oRun.callV (as := [.int x1]) 20 dX9_turns_17 lk_RX9_157 (oFit_i (Nat.le_of_ble_eq_true rfl) (Nat.le_of_ble_eq_true rfl)) rfl rfl rfl rfl (Nat.le_of_ble_eq_true rfl) (Nat.le_of_ble_eq_true rfl) rfl (E_X9_drivers hr17) rfl ?_
        show oRun G _ 20 _ [.long r17] _ _ _
        refine oRun.aload_n 21 dX9_turns_20 0 rfl rfl (Nat.le_of_ble_eq_true rfl) rfl ?_
        refine oRun.iload_n 22 dX9_turns_21 1 rfl rfl rfl ?_
        obtain ⟨r22, hr22, h⟩ := oB1 h
        refine oRun.callV (as := [.int x1]) 25 dX9_turns_22 lk_RX9_161 (oFit_i (Nat.le_of_ble_eq_true rfl) (Nat.le_of_ble_eq_true rfl)) rfl rfl rfl rfl (Nat.le_of_ble_eq_true rfl) (Nat.le_of_ble_eq_true rfl) rfl (E_X9_drivens hr22) rfl ?_
        show oRun G _ 25 _ [.long r22, .long r17] _ _ _
        refine oRun.iload_n 26 dX9_turns_25 2 rfl rfl rfl ?_
        obtain ⟨r26, hr26, h⟩ := oB1 h
        refine oRun.callS (as := [.long r17, .long r22, .int x2]) 29 dX9_turns_26 lk_RX9_50 (oFit_i (Nat.le_of_ble_eq_true rfl) (Nat.le_of_ble_eq_true rfl)) rfl (Nat.le_of_ble_eq_true rfl) (Nat.le_of_ble_eq_true rfl) rfl (E_X9_told hr26) rfl ?_
        show oRun G _ 29 _ [.long r26] _ _ _
        refine oRun.goto 35 dX9_turns_29 rfl ?_
        rw [← Option.some.inj h]
        exact oRun.ret (r := some (.long r26)) dX9_turns_35
  · exact True.intro
set_option maxRecDepth 100000 in
set_option maxHeartbeats 4000000 in
theorem E_X1_wrongAbove {G : oG} {o : Nat} (ho : oOb o = true) {m : oM} {x1 : Int32} {w : Int64} (h : F_X1_wrongAbove o m x1 = some w) : oEv G M_X1_wrongAbove [.ref o, .int x1] m (some (.long w)) m := by
  unfold F_X1_wrongAbove at h
  refine ⟨?_, ?_⟩
  · show oRun G M_X1_wrongAbove 0 [(0, .ref o), (1, .int x1)] [] m (some (.long w)) m
    refine oRun.aload_n 1 dX1_wrongAbove_0 0 rfl rfl (oLt66 (oO_lt ho)) rfl ?_
    refine oRun.iload_n 2 dX1_wrongAbove_1 1 rfl rfl rfl ?_
    obtain ⟨r2, hr2, h⟩ := oB1 h
    refine oRun.callV (as := [.int x1]) 5 dX1_wrongAbove_2 lk_RX1_100 (oFit_i (Nat.le_of_ble_eq_true rfl) (Nat.le_of_ble_eq_true rfl)) (oO_sh ho) rfl rfl rfl (Nat.le_of_ble_eq_true rfl) (Nat.le_of_ble_eq_true rfl) rfl (E_X1_drivers ho hr2) rfl ?_
    show oRun G _ 5 _ [.long r2] _ _ _
    refine oRun.aload_n 6 dX1_wrongAbove_5 0 rfl rfl (oLt66 (oO_lt ho)) rfl ?_
    refine oRun.getR 9 dX1_wrongAbove_6 fd_RX1_19 (oO_sh ho) rfl (oO_l2 ho) rfl ?_
    refine oRun.iload_n 10 dX1_wrongAbove_9 1 rfl rfl rfl ?_
    obtain ⟨r10, hr10, h⟩ := oB1 h
    refine oRun.callN (as := [.ref (o + 2), .int x1]) 13 dX1_wrongAbove_10 lk_RX1_93 (oFit_i (Nat.le_of_ble_eq_true rfl) (Nat.le_of_ble_eq_true rfl)) rfl (Nat.le_of_ble_eq_true rfl) (Nat.le_of_ble_eq_true rfl) rfl (E_X8_at (Or.inr ⟨_, (oO_a2 ho)⟩) hr10) rfl ?_
    show oRun G _ 13 _ [.int r10, .long r2] _ _ _
    refine oRun.i2l 14 dX1_wrongAbove_13 rfl ?_
    refine oRun.lmul 15 dX1_wrongAbove_14 rfl ?_
    refine oRun.aload_n 16 dX1_wrongAbove_15 0 rfl rfl (oLt66 (oO_lt ho)) rfl ?_
    refine oRun.getR 19 dX1_wrongAbove_16 fd_RX1_15 (oO_sh ho) rfl (oO_l1 ho) rfl ?_
    refine oRun.iload_n 20 dX1_wrongAbove_19 1 rfl rfl rfl ?_
    obtain ⟨r20, hr20, h⟩ := oB1 h
    refine oRun.callN (as := [.ref (o + 1), .int x1]) 23 dX1_wrongAbove_20 lk_RX1_93 (oFit_i (Nat.le_of_ble_eq_true rfl) (Nat.le_of_ble_eq_true rfl)) rfl (Nat.le_of_ble_eq_true rfl) (Nat.le_of_ble_eq_true rfl) rfl (E_X8_at (Or.inr ⟨_, (oO_a1 ho)⟩) hr20) rfl ?_
    show oRun G _ 23 _ [.int r20, .long (r2 * r10.toInt64)] _ _ _
    refine oRun.i2l 24 dX1_wrongAbove_23 rfl ?_
    refine oRun.aload_n 25 dX1_wrongAbove_24 0 rfl rfl (oLt66 (oO_lt ho)) rfl ?_
    refine oRun.iload_n 26 dX1_wrongAbove_25 1 rfl rfl rfl ?_
    obtain ⟨r26, hr26, h⟩ := oB1 h
    refine oRun.callV (as := [.int x1]) 29 dX1_wrongAbove_26 lk_RX1_103 (oFit_i (Nat.le_of_ble_eq_true rfl) (Nat.le_of_ble_eq_true rfl)) (oO_sh ho) rfl rfl rfl (Nat.le_of_ble_eq_true rfl) (Nat.le_of_ble_eq_true rfl) rfl (E_X1_drivens ho hr26) rfl ?_
    show oRun G _ 29 _ [.long r26, .long r20.toInt64, .long (r2 * r10.toInt64)] _ _ _
    refine oRun.lmul 30 dX1_wrongAbove_29 rfl ?_
    refine oRun.lsub 31 dX1_wrongAbove_30 rfl ?_
    rw [← Option.some.inj h]
    exact oRun.ret (r := some (.long ((r2 * r10.toInt64) - (r20.toInt64 * r26)))) dX1_wrongAbove_31
  · exact True.intro
set_option maxRecDepth 100000 in
set_option maxHeartbeats 4000000 in
theorem E_X1_wrongBelow {G : oG} {o : Nat} (ho : oOb o = true) {m : oM} {x1 : Int32} {w : Int64} (h : F_X1_wrongBelow o m x1 = some w) : oEv G M_X1_wrongBelow [.ref o, .int x1] m (some (.long w)) m := by
  unfold F_X1_wrongBelow at h
  refine ⟨?_, ?_⟩
  · show oRun G M_X1_wrongBelow 0 [(0, .ref o), (1, .int x1)] [] m (some (.long w)) m
    refine oRun.aload_n 1 dX1_wrongBelow_0 0 rfl rfl (oLt66 (oO_lt ho)) rfl ?_
    refine oRun.iload_n 2 dX1_wrongBelow_1 1 rfl rfl rfl ?_
    obtain ⟨r2, hr2, h⟩ := oB1 h
    refine oRun.callV (as := [.int x1]) 5 dX1_wrongBelow_2 lk_RX1_103 (oFit_i (Nat.le_of_ble_eq_true rfl) (Nat.le_of_ble_eq_true rfl)) (oO_sh ho) rfl rfl rfl (Nat.le_of_ble_eq_true rfl) (Nat.le_of_ble_eq_true rfl) rfl (E_X1_drivens ho hr2) rfl ?_
    show oRun G _ 5 _ [.long r2] _ _ _
    refine oRun.aload_n 6 dX1_wrongBelow_5 0 rfl rfl (oLt66 (oO_lt ho)) rfl ?_
    refine oRun.getR 9 dX1_wrongBelow_6 fd_RX1_19 (oO_sh ho) rfl (oO_l2 ho) rfl ?_
    refine oRun.iload_n 10 dX1_wrongBelow_9 1 rfl rfl rfl ?_
    obtain ⟨r10, hr10, h⟩ := oB1 h
    refine oRun.callN (as := [.ref (o + 2), .int x1]) 13 dX1_wrongBelow_10 lk_RX1_93 (oFit_i (Nat.le_of_ble_eq_true rfl) (Nat.le_of_ble_eq_true rfl)) rfl (Nat.le_of_ble_eq_true rfl) (Nat.le_of_ble_eq_true rfl) rfl (E_X8_at (Or.inr ⟨_, (oO_a2 ho)⟩) hr10) rfl ?_
    show oRun G _ 13 _ [.int r10, .long r2] _ _ _
    refine oRun.i2l 14 dX1_wrongBelow_13 rfl ?_
    refine oRun.lmul 15 dX1_wrongBelow_14 rfl ?_
    rw [← Option.some.inj h]
    exact oRun.ret (r := some (.long (r2 * r10.toInt64))) dX1_wrongBelow_15
  · exact True.intro
set_option maxRecDepth 100000 in
set_option maxHeartbeats 4000000 in
theorem E_X8_wrong {G : oG} {m : oM} {x1 : Int32} {x2 : Int32} {w : Int64} (h : F_X8_wrong m x1 x2 = some w) : oEv G M_X8_wrong [.ref 0, .int x1, .int x2] m (some (.long w)) m := by
  unfold F_X8_wrong at h
  refine ⟨?_, ?_⟩
  · show oRun G M_X8_wrong 0 [(0, .ref 0), (1, .int x1), (2, .int x2)] [] m (some (.long w)) m
    refine oRun.aload_n 1 dX8_wrong_0 0 rfl rfl (Nat.le_of_ble_eq_true rfl) rfl ?_
    refine oRun.getR 4 dX8_wrong_1 fd_RX8_12 rfl rfl (Nat.le_of_ble_eq_true rfl) rfl ?_
    refine oRun.iload_n 5 dX8_wrong_4 1 rfl rfl rfl ?_
    obtain ⟨r5, hr5, h⟩ := oB1 h
    refine oRun.callV (as := [.int x1]) 8 dX8_wrong_5 lk_RX8_192 (oFit_i (Nat.le_of_ble_eq_true rfl) (Nat.le_of_ble_eq_true rfl)) rfl rfl rfl rfl (Nat.le_of_ble_eq_true rfl) (Nat.le_of_ble_eq_true rfl) rfl (E_X1_hasTrain rfl hr5) rfl ?_
    show oRun G _ 8 _ [.int r5] _ _ _
    by_cases c8 : r5 = 0
    · replace h := oIp c8 h
      refine oRun.if_eq_t 18 dX8_wrong_8 c8 rfl ?_
      refine oRun.ldc2 21 dX8_wrong_18 wd_2_48 rfl ?_
      rw [← Option.some.inj h]
      exact oRun.ret (r := some (.long (-9223372036854775808))) dX8_wrong_21
    · replace h := oIn c8 h
      refine oRun.if_eq_f 11 dX8_wrong_8 rfl c8 rfl ?_
      refine oRun.iload_n 12 dX8_wrong_11 2 rfl rfl rfl ?_
      obtain ⟨r12, hr12, h⟩ := oB1 h
      refine oRun.callS (as := [.int x2]) 15 dX8_wrong_12 lk_RX8_83 (oFit_i (Nat.le_of_ble_eq_true rfl) (Nat.le_of_ble_eq_true rfl)) rfl (Nat.le_of_ble_eq_true rfl) (Nat.le_of_ble_eq_true rfl) rfl (E_X8_isPart hr12) rfl ?_
      show oRun G _ 15 _ [.int r12] _ _ _
      by_cases c15 : r12 = 0
      · replace h := oIp c15 h
        refine oRun.if_ne_f 18 dX8_wrong_15 rfl c15 rfl ?_
        refine oRun.ldc2 21 dX8_wrong_18 wd_2_48 rfl ?_
        rw [← Option.some.inj h]
        exact oRun.ret (r := some (.long (-9223372036854775808))) dX8_wrong_21
      · replace h := oIn c15 h
        refine oRun.if_ne_t 22 dX8_wrong_15 c15 rfl ?_
        refine oRun.aload_n 23 dX8_wrong_22 0 rfl rfl (Nat.le_of_ble_eq_true rfl) rfl ?_
        refine oRun.getR 26 dX8_wrong_23 fd_RX8_12 rfl rfl (Nat.le_of_ble_eq_true rfl) rfl ?_
        refine oRun.iload_n 27 dX8_wrong_26 1 rfl rfl rfl ?_
        obtain ⟨r27, hr27, h⟩ := oB1 h
        refine oRun.callV (as := [.int x1]) 30 dX8_wrong_27 lk_RX8_211 (oFit_i (Nat.le_of_ble_eq_true rfl) (Nat.le_of_ble_eq_true rfl)) rfl rfl rfl rfl (Nat.le_of_ble_eq_true rfl) (Nat.le_of_ble_eq_true rfl) rfl (E_X1_wrongAbove rfl hr27) rfl ?_
        show oRun G _ 30 _ [.long r27] _ _ _
        refine oRun.aload_n 31 dX8_wrong_30 0 rfl rfl (Nat.le_of_ble_eq_true rfl) rfl ?_
        refine oRun.getR 34 dX8_wrong_31 fd_RX8_12 rfl rfl (Nat.le_of_ble_eq_true rfl) rfl ?_
        refine oRun.iload_n 35 dX8_wrong_34 1 rfl rfl rfl ?_
        obtain ⟨r35, hr35, h⟩ := oB1 h
        refine oRun.callV (as := [.int x1]) 38 dX8_wrong_35 lk_RX8_214 (oFit_i (Nat.le_of_ble_eq_true rfl) (Nat.le_of_ble_eq_true rfl)) rfl rfl rfl rfl (Nat.le_of_ble_eq_true rfl) (Nat.le_of_ble_eq_true rfl) rfl (E_X1_wrongBelow rfl hr35) rfl ?_
        show oRun G _ 38 _ [.long r35, .long r27] _ _ _
        refine oRun.iload_n 39 dX8_wrong_38 2 rfl rfl rfl ?_
        obtain ⟨r39, hr39, h⟩ := oB1 h
        refine oRun.callS (as := [.long r27, .long r35, .int x2]) 42 dX8_wrong_39 lk_RX8_88 (oFit_i (Nat.le_of_ble_eq_true rfl) (Nat.le_of_ble_eq_true rfl)) rfl (Nat.le_of_ble_eq_true rfl) (Nat.le_of_ble_eq_true rfl) rfl (E_X8_lowest hr39) rfl ?_
        show oRun G _ 42 _ [.long r39] _ _ _
        rw [← Option.some.inj h]
        exact oRun.ret (r := some (.long r39)) dX8_wrong_42
  · exact True.intro
set_option maxRecDepth 100000 in
set_option maxHeartbeats 4000000 in
theorem E_X9_off {G : oG} {m : oM} {x1 : Int32} {x2 : Int64} {x4 : Int64} {w : Int64} (h : F_X9_off m x1 x2 x4 = some w) : oEv G M_X9_off [.ref 51, .int x1, .long x2, .long x4] m (some (.long w)) m := by
  unfold F_X9_off at h
  refine ⟨?_, ?_⟩
  · show oRun G M_X9_off 0 [(0, .ref 51), (1, .int x1), (2, .long x2), (4, .long x4)] [] m (some (.long w)) m
    refine oRun.lload_n 1 dX9_off_0 2 rfl rfl rfl ?_
    refine oRun.aload_n 2 dX9_off_1 0 rfl rfl (Nat.le_of_ble_eq_true rfl) rfl ?_
    refine oRun.getR 5 dX9_off_2 fd_RX9_11 rfl rfl (Nat.le_of_ble_eq_true rfl) rfl ?_
    refine oRun.bipush 7 dX9_off_5 oc_b13 rfl ?_
    refine oRun.iload_n 8 dX9_off_7 1 rfl rfl rfl ?_
    refine oRun.iadd 9 dX9_off_8 rfl ?_
    obtain ⟨v9, hv9, h⟩ := oB1 h
    refine oRun.iaload 10 dX9_off_9 (Or.inr ⟨_, rfl⟩) hv9 rfl ?_
    refine oRun.i2l 11 dX9_off_10 rfl ?_
    refine oRun.lmul 12 dX9_off_11 rfl ?_
    refine oRun.lload 14 dX9_off_12 3 rfl rfl ?_
    refine oRun.aload_n 15 dX9_off_14 0 rfl rfl (Nat.le_of_ble_eq_true rfl) rfl ?_
    refine oRun.getR 18 dX9_off_15 fd_RX9_11 rfl rfl (Nat.le_of_ble_eq_true rfl) rfl ?_
    refine oRun.bipush 20 dX9_off_18 oc_b7 rfl ?_
    refine oRun.iload_n 21 dX9_off_20 1 rfl rfl rfl ?_
    refine oRun.iadd 22 dX9_off_21 rfl ?_
    obtain ⟨v22, hv22, h⟩ := oB1 h
    refine oRun.iaload 23 dX9_off_22 (Or.inr ⟨_, rfl⟩) hv22 rfl ?_
    refine oRun.i2l 24 dX9_off_23 rfl ?_
    refine oRun.lmul 25 dX9_off_24 rfl ?_
    refine oRun.lsub 26 dX9_off_25 rfl ?_
    rw [← Option.some.inj h]
    exact oRun.ret (r := some (.long ((x2 * v9.toInt64) - (x4 * v22.toInt64)))) dX9_off_26
  · exact True.intro
set_option maxRecDepth 100000 in
set_option maxHeartbeats 4000000 in
theorem E_X9_wrong {G : oG} {m : oM} {x1 : Int32} {x2 : Int32} {w : Int64} (h : F_X9_wrong m x1 x2 = some w) : oEv G M_X9_wrong [.ref 51, .int x1, .int x2] m (some (.long w)) m := by
  unfold F_X9_wrong at h
  refine ⟨?_, ?_⟩
  · show oRun G M_X9_wrong 0 [(0, .ref 51), (1, .int x1), (2, .int x2)] [] m (some (.long w)) m
    refine oRun.aload_n 1 dX9_wrong_0 0 rfl rfl (Nat.le_of_ble_eq_true rfl) rfl ?_
    refine oRun.iload_n 2 dX9_wrong_1 1 rfl rfl rfl ?_
    obtain ⟨r2, hr2, h⟩ := oB1 h
    refine oRun.callV (as := [.int x1]) 5 dX9_wrong_2 lk_RX9_154 (oFit_i (Nat.le_of_ble_eq_true rfl) (Nat.le_of_ble_eq_true rfl)) rfl rfl rfl rfl (Nat.le_of_ble_eq_true rfl) (Nat.le_of_ble_eq_true rfl) rfl (E_X9_hasTrain hr2) rfl ?_
    show oRun G _ 5 _ [.int r2] _ _ _
    by_cases c5 : r2 = 0
    · replace h := oIp c5 h
      refine oRun.if_eq_t 15 dX9_wrong_5 c5 rfl ?_
      refine oRun.ldc2 18 dX9_wrong_15 wd_4_201 rfl ?_
      rw [← Option.some.inj h]
      exact oRun.ret (r := some (.long (-9223372036854775808))) dX9_wrong_18
    · replace h := oIn c5 h
      refine oRun.if_eq_f 8 dX9_wrong_5 rfl c5 rfl ?_
      refine oRun.iload_n 9 dX9_wrong_8 2 rfl rfl rfl ?_
      obtain ⟨r9, hr9, h⟩ := oB1 h
      refine oRun.callS (as := [.int x2]) 12 dX9_wrong_9 lk_RX9_70 (oFit_i (Nat.le_of_ble_eq_true rfl) (Nat.le_of_ble_eq_true rfl)) rfl (Nat.le_of_ble_eq_true rfl) (Nat.le_of_ble_eq_true rfl) rfl (E_X9_isPart hr9) rfl ?_
      show oRun G _ 12 _ [.int r9] _ _ _
      by_cases c12 : r9 = 0
      · replace h := oIp c12 h
        refine oRun.if_ne_f 15 dX9_wrong_12 rfl c12 rfl ?_
        refine oRun.ldc2 18 dX9_wrong_15 wd_4_201 rfl ?_
        rw [← Option.some.inj h]
        exact oRun.ret (r := some (.long (-9223372036854775808))) dX9_wrong_18
      · replace h := oIn c12 h
        refine oRun.if_ne_t 19 dX9_wrong_12 c12 rfl ?_
        refine oRun.aload_n 20 dX9_wrong_19 0 rfl rfl (Nat.le_of_ble_eq_true rfl) rfl ?_
        refine oRun.iload_n 21 dX9_wrong_20 1 rfl rfl rfl ?_
        obtain ⟨r21, hr21, h⟩ := oB1 h
        refine oRun.callV (as := [.int x1]) 24 dX9_wrong_21 lk_RX9_161 (oFit_i (Nat.le_of_ble_eq_true rfl) (Nat.le_of_ble_eq_true rfl)) rfl rfl rfl rfl (Nat.le_of_ble_eq_true rfl) (Nat.le_of_ble_eq_true rfl) rfl (E_X9_drivens hr21) rfl ?_
        show oRun G _ 24 _ [.long r21] _ _ _
        refine oRun.lstore_n 25 dX9_wrong_24 rfl (Nat.le_of_ble_eq_true rfl) rfl rfl ?_
        refine oRun.aload_n 26 dX9_wrong_25 1 rfl rfl (Nat.le_of_ble_eq_true rfl) rfl ?_
        refine oRun.iload_n 27 dX9_wrong_26 2 rfl rfl rfl ?_
        refine oRun.aload_n 28 dX9_wrong_27 1 rfl rfl (Nat.le_of_ble_eq_true rfl) rfl ?_
        refine oRun.iload_n 29 dX9_wrong_28 2 rfl rfl rfl ?_
        obtain ⟨r29, hr29, h⟩ := oB1 h
        refine oRun.callV (as := [.int x1]) 32 dX9_wrong_29 lk_RX9_157 (oFit_i (Nat.le_of_ble_eq_true rfl) (Nat.le_of_ble_eq_true rfl)) rfl rfl rfl rfl (Nat.le_of_ble_eq_true rfl) (Nat.le_of_ble_eq_true rfl) rfl (E_X9_drivers hr29) rfl ?_
        show oRun G _ 32 _ [.long r29, .int x1, .ref 51] _ _ _
        refine oRun.lload_n 33 dX9_wrong_32 0 rfl rfl rfl ?_
        obtain ⟨r33, hr33, h⟩ := oB1 h
        refine oRun.callV (as := [.int x1, .long r29, .long r21]) 36 dX9_wrong_33 lk_RX9_164 (oFit_i (Nat.le_of_ble_eq_true rfl) (Nat.le_of_ble_eq_true rfl)) rfl rfl rfl rfl (Nat.le_of_ble_eq_true rfl) (Nat.le_of_ble_eq_true rfl) rfl (E_X9_off hr33) rfl ?_
        show oRun G _ 36 _ [.long r33] _ _ _
        refine oRun.lload_n 37 dX9_wrong_36 0 rfl rfl rfl ?_
        refine oRun.aload_n 38 dX9_wrong_37 1 rfl rfl (Nat.le_of_ble_eq_true rfl) rfl ?_
        refine oRun.getR 41 dX9_wrong_38 fd_RX9_11 rfl rfl (Nat.le_of_ble_eq_true rfl) rfl ?_
        refine oRun.bipush 43 dX9_wrong_41 oc_b13 rfl ?_
        refine oRun.iload_n 44 dX9_wrong_43 2 rfl rfl rfl ?_
        refine oRun.iadd 45 dX9_wrong_44 rfl ?_
        obtain ⟨v45, hv45, h⟩ := oB1 h
        refine oRun.iaload 46 dX9_wrong_45 (Or.inr ⟨_, rfl⟩) hv45 rfl ?_
        refine oRun.i2l 47 dX9_wrong_46 rfl ?_
        refine oRun.lmul 48 dX9_wrong_47 rfl ?_
        refine oRun.iload_n 49 dX9_wrong_48 3 rfl rfl rfl ?_
        obtain ⟨r49, hr49, h⟩ := oB1 h
        refine oRun.callS (as := [.long r33, .long (r21 * v45.toInt64), .int x2]) 52 dX9_wrong_49 lk_RX9_50 (oFit_i (Nat.le_of_ble_eq_true rfl) (Nat.le_of_ble_eq_true rfl)) rfl (Nat.le_of_ble_eq_true rfl) (Nat.le_of_ble_eq_true rfl) rfl (E_X9_told hr49) rfl ?_
        show oRun G _ 52 _ [.long r49] _ _ _
        rw [← Option.some.inj h]
        exact oRun.ret (r := some (.long r49)) dX9_wrong_52
  · exact True.intro
set_option maxRecDepth 100000 in
set_option maxHeartbeats 4000000 in
theorem E_X1_slackAbove_L8 {G : oG} {o : Nat} (ho : oOb o = true) {m : oM} {x1 : Int32} {r : Option Value} {m' : oM} : ∀ (n : Nat) (x2 : Int64) (x4 : Int64) (x6 : Int32) (b : Int64), oLoop (fun s : Int64 × Int64 × Int32 => F_X1_slackAbove_L8 o m x1 s.1 s.2.1 s.2.2) n (x2, x4, x6) = some b → oRun G M_X1_slackAbove 87 [(2, .long b)] [] m r m' → oRun G M_X1_slackAbove 8 [(0, .ref o), (1, .int x1), (2, .long x2), (4, .long x4), (6, .int x6)] [] m r m' := by
  intro n
  induction n with
  | zero => intro x2 x4 x6 b h _; exact (oLoop_zero h).elim
  | succ n ih =>
    intro x2 x4 x6 b h he
    obtain ⟨q', hq', h⟩ := oLoop_succ h
    have hc : ∀ s' : Int64 × Int64 × Int32, q' = .inl s' → oRun G M_X1_slackAbove 8 [(0, .ref o), (1, .int x1), (2, .long s'.1), (4, .long s'.2.1), (6, .int s'.2.2)] [] m r m' := by
      rintro s' rfl
      exact ih (s'.1) (s'.2.1) (s'.2.2) b h he
    have hx : ∀ b' : Int64, q' = .inr b' → oRun G M_X1_slackAbove 87 [(2, .long b')] [] m r m' := by
      rintro b' rfl
      have h : b' = b := h
      rw [h]
      exact he
    clear h he ih
    have h := hq'
    clear hq'
    replace h : F_X1_slackAbove_L8 o m x1 x2 x4 x6 = some q' := h
    unfold F_X1_slackAbove_L8 at h
    refine oRun.iload 10 dX1_slackAbove_8 4 rfl rfl ?_
    refine oRun.aload_n 11 dX1_slackAbove_10 0 rfl rfl (oLt66 (oO_lt ho)) rfl ?_
    refine oRun.getR 14 dX1_slackAbove_11 fd_RX1_38 (oO_sh ho) rfl (oO_l8 ho) rfl ?_
    refine oRun.iload_n 15 dX1_slackAbove_14 1 rfl rfl rfl ?_
    obtain ⟨r15, hr15, h⟩ := oB1 h
    refine oRun.callV (as := [.int x1]) 18 dX1_slackAbove_15 lk_RX1_74 (oFit_i (Nat.le_of_ble_eq_true rfl) (Nat.le_of_ble_eq_true rfl)) (oT_sh (oO_T ho)) rfl rfl rfl (Nat.le_of_ble_eq_true rfl) (Nat.le_of_ble_eq_true rfl) rfl (E_X7_length (oO_T ho) hr15) rfl ?_
    show oRun G _ 18 _ [.int r15, .int x6] _ _ _
    by_cases c18 : r15 ≤ x6
    · replace h := oIp c18 h
      refine oRun.icmp_ge_t 87 dX1_slackAbove_18 c18 rfl ?_
      cases h
      refine oRun.sub [2] rfl ?_
      exact hx _ rfl
    · replace h := oIn c18 h
      refine oRun.icmp_ge_f 21 dX1_slackAbove_18 rfl c18 rfl ?_
      refine oRun.aload_n 22 dX1_slackAbove_21 0 rfl rfl (oLt66 (oO_lt ho)) rfl ?_
      refine oRun.getR 25 dX1_slackAbove_22 fd_RX1_38 (oO_sh ho) rfl (oO_l8 ho) rfl ?_
      refine oRun.iload_n 26 dX1_slackAbove_25 1 rfl rfl rfl ?_
      refine oRun.iload 28 dX1_slackAbove_26 4 rfl rfl ?_
      obtain ⟨r28, hr28, h⟩ := oB1 h
      refine oRun.callV (as := [.int x1, .int x6]) 31 dX1_slackAbove_28 lk_RX1_89 (oFit_i (Nat.le_of_ble_eq_true rfl) (Nat.le_of_ble_eq_true rfl)) (oT_sh (oO_T ho)) rfl rfl rfl (Nat.le_of_ble_eq_true rfl) (Nat.le_of_ble_eq_true rfl) rfl (E_X7_pairAt (oO_T ho) hr28) rfl ?_
      show oRun G _ 31 _ [.int r28] _ _ _
      refine oRun.istore 33 dX1_slackAbove_31 (Nat.le_of_ble_eq_true rfl) rfl rfl ?_
      refine oRun.lload_n 34 dX1_slackAbove_33 3 rfl rfl rfl ?_
      refine oRun.aload_n 35 dX1_slackAbove_34 1 rfl rfl (oLt66 (oO_lt ho)) rfl ?_
      refine oRun.getR 38 dX1_slackAbove_35 fd_RX1_31 (oO_sh ho) rfl (oO_l3 ho) rfl ?_
      refine oRun.getR 41 dX1_slackAbove_38 fd_RX1_86 (oP_sh (oO_P ho)) rfl (oP_l3 (oO_P ho)) rfl ?_
      refine oRun.iload 43 dX1_slackAbove_41 0 rfl rfl ?_
      obtain ⟨r43, hr43, h⟩ := oB1 h
      refine oRun.callN (as := [.ref (o + 6), .int r28]) 46 dX1_slackAbove_43 lk_RX1_93 (oFit_i (Nat.le_of_ble_eq_true rfl) (Nat.le_of_ble_eq_true rfl)) rfl (Nat.le_of_ble_eq_true rfl) (Nat.le_of_ble_eq_true rfl) rfl (E_X8_at (Or.inr ⟨_, (oP_a3 (oO_P ho))⟩) hr43) rfl ?_
      show oRun G _ 46 _ [.int r43, .long x2] _ _ _
      refine oRun.i2l 47 dX1_slackAbove_46 rfl ?_
      refine oRun.lmul 48 dX1_slackAbove_47 rfl ?_
      refine oRun.aload_n 49 dX1_slackAbove_48 1 rfl rfl (oLt66 (oO_lt ho)) rfl ?_
      refine oRun.getR 52 dX1_slackAbove_49 fd_RX1_31 (oO_sh ho) rfl (oO_l3 ho) rfl ?_
      refine oRun.iload 54 dX1_slackAbove_52 0 rfl rfl ?_
      obtain ⟨r54, hr54, h⟩ := oB1 h
      refine oRun.callV (as := [.int r28]) 57 dX1_slackAbove_54 lk_RX1_108 (oFit_i (Nat.le_of_ble_eq_true rfl) (Nat.le_of_ble_eq_true rfl)) (oP_sh (oO_P ho)) rfl rfl rfl (Nat.le_of_ble_eq_true rfl) (Nat.le_of_ble_eq_true rfl) rfl (E_X2_play (oO_P ho) hr54) rfl ?_
      show oRun G _ 57 _ [.int r54, .long (x2 * r43.toInt64)] _ _ _
      refine oRun.i2l 58 dX1_slackAbove_57 rfl ?_
      refine oRun.lload 60 dX1_slackAbove_58 4 rfl rfl ?_
      refine oRun.lmul 61 dX1_slackAbove_60 rfl ?_
      refine oRun.ladd 62 dX1_slackAbove_61 rfl ?_
      obtain ⟨x2_62, hx2_62, h⟩ := oB1 h
      refine oRun.nameJ hx2_62 ?_
      refine oRun.lstore_n 63 dX1_slackAbove_62 rfl (Nat.le_of_ble_eq_true rfl) rfl rfl ?_
      refine oRun.lload 65 dX1_slackAbove_63 4 rfl rfl ?_
      refine oRun.aload_n 66 dX1_slackAbove_65 2 rfl rfl (oLt66 (oO_lt ho)) rfl ?_
      refine oRun.getR 69 dX1_slackAbove_66 fd_RX1_31 (oO_sh ho) rfl (oO_l3 ho) rfl ?_
      refine oRun.getR 72 dX1_slackAbove_69 fd_RX1_97 (oP_sh (oO_P ho)) rfl (oP_l4 (oO_P ho)) rfl ?_
      refine oRun.iload 74 dX1_slackAbove_72 1 rfl rfl ?_
      obtain ⟨r74, hr74, h⟩ := oB1 h
      refine oRun.callN (as := [.ref (o + 7), .int r28]) 77 dX1_slackAbove_74 lk_RX1_93 (oFit_i (Nat.le_of_ble_eq_true rfl) (Nat.le_of_ble_eq_true rfl)) rfl (Nat.le_of_ble_eq_true rfl) (Nat.le_of_ble_eq_true rfl) rfl (E_X8_at (Or.inr ⟨_, (oP_a4 (oO_P ho))⟩) hr74) rfl ?_
      show oRun G _ 77 _ [.int r74, .long x4] _ _ _
      refine oRun.i2l 78 dX1_slackAbove_77 rfl ?_
      refine oRun.lmul 79 dX1_slackAbove_78 rfl ?_
      obtain ⟨x4_79, hx4_79, h⟩ := oB1 h
      refine oRun.nameJ hx4_79 ?_
      refine oRun.lstore 81 dX1_slackAbove_79 (Nat.le_of_ble_eq_true rfl) rfl rfl ?_
      refine oRun.iinc 84 dX1_slackAbove_81 5 rfl (oAddC oc_i1) (Nat.le_of_ble_eq_true rfl) rfl rfl ?_
      refine oRun.goto 8 dX1_slackAbove_84 rfl ?_
      cases h
      refine oRun.sub [4, 5, 2, 1, 0] rfl ?_
      exact hc _ rfl
set_option maxRecDepth 100000 in
set_option maxHeartbeats 4000000 in
theorem E_X1_slackAbove {G : oG} {o : Nat} (ho : oOb o = true) {m : oM} {x1 : Int32} {w : Int64} (h : F_X1_slackAbove o m x1 = some w) : oEv G M_X1_slackAbove [.ref o, .int x1] m (some (.long w)) m := by
  unfold F_X1_slackAbove at h
  refine ⟨?_, ?_⟩
  · show oRun G M_X1_slackAbove 0 [(0, .ref o), (1, .int x1)] [] m (some (.long w)) m
    refine oRun.lconst 1 dX1_slackAbove_0 oc_l0 rfl ?_
    refine oRun.lstore_n 2 dX1_slackAbove_1 rfl (Nat.le_of_ble_eq_true rfl) rfl rfl ?_
    refine oRun.lconst 3 dX1_slackAbove_2 oc_l1 rfl ?_
    refine oRun.lstore 5 dX1_slackAbove_3 (Nat.le_of_ble_eq_true rfl) rfl rfl ?_
    refine oRun.iconst 6 dX1_slackAbove_5 oc_i0 rfl ?_
    refine oRun.istore 8 dX1_slackAbove_6 (Nat.le_of_ble_eq_true rfl) rfl rfl ?_
    obtain ⟨b8, hb8, h⟩ := oB1 h
    refine oRun.sub [3, 4, 2, 1, 0] rfl ?_
    refine E_X1_slackAbove_L8 ho _ _ _ _ _ hb8 ?_
    refine oRun.lload_n 88 dX1_slackAbove_87 0 rfl rfl rfl ?_
    rw [← Option.some.inj h]
    exact oRun.ret (r := some (.long b8)) dX1_slackAbove_88
  · exact True.intro
set_option maxRecDepth 100000 in
set_option maxHeartbeats 4000000 in
theorem E_X1_slackBelow {G : oG} {o : Nat} (ho : oOb o = true) {m : oM} {x1 : Int32} {w : Int64} (h : F_X1_slackBelow o m x1 = some w) : oEv G M_X1_slackBelow [.ref o, .int x1] m (some (.long w)) m := by
  unfold F_X1_slackBelow at h
  refine ⟨?_, ?_⟩
  · show oRun G M_X1_slackBelow 0 [(0, .ref o), (1, .int x1)] [] m (some (.long w)) m
    refine oRun.ldc2 3 dX1_slackBelow_0 wd_3_9 rfl ?_
    refine oRun.aload_n 4 dX1_slackBelow_3 0 rfl rfl (oLt66 (oO_lt ho)) rfl ?_
    refine oRun.iload_n 5 dX1_slackBelow_4 1 rfl rfl rfl ?_
    obtain ⟨r5, hr5, h⟩ := oB1 h
    refine oRun.callV (as := [.int x1]) 8 dX1_slackBelow_5 lk_RX1_103 (oFit_i (Nat.le_of_ble_eq_true rfl) (Nat.le_of_ble_eq_true rfl)) (oO_sh ho) rfl rfl rfl (Nat.le_of_ble_eq_true rfl) (Nat.le_of_ble_eq_true rfl) rfl (E_X1_drivens ho hr5) rfl ?_
    show oRun G _ 8 _ [.long r5, .long 100] _ _ _
    refine oRun.lmul 9 dX1_slackBelow_8 rfl ?_
    rw [← Option.some.inj h]
    exact oRun.ret (r := some (.long (100 * r5))) dX1_slackBelow_9
  · exact True.intro
set_option maxRecDepth 100000 in
set_option maxHeartbeats 4000000 in
theorem E_X8_backlash {G : oG} {m : oM} {x1 : Int32} {x2 : Int32} {w : Int64} (h : F_X8_backlash m x1 x2 = some w) : oEv G M_X8_backlash [.ref 0, .int x1, .int x2] m (some (.long w)) m := by
  unfold F_X8_backlash at h
  refine ⟨?_, ?_⟩
  · show oRun G M_X8_backlash 0 [(0, .ref 0), (1, .int x1), (2, .int x2)] [] m (some (.long w)) m
    refine oRun.aload_n 1 dX8_backlash_0 0 rfl rfl (Nat.le_of_ble_eq_true rfl) rfl ?_
    refine oRun.getR 4 dX8_backlash_1 fd_RX8_12 rfl rfl (Nat.le_of_ble_eq_true rfl) rfl ?_
    refine oRun.iload_n 5 dX8_backlash_4 1 rfl rfl rfl ?_
    obtain ⟨r5, hr5, h⟩ := oB1 h
    refine oRun.callV (as := [.int x1]) 8 dX8_backlash_5 lk_RX8_192 (oFit_i (Nat.le_of_ble_eq_true rfl) (Nat.le_of_ble_eq_true rfl)) rfl rfl rfl rfl (Nat.le_of_ble_eq_true rfl) (Nat.le_of_ble_eq_true rfl) rfl (E_X1_hasTrain rfl hr5) rfl ?_
    show oRun G _ 8 _ [.int r5] _ _ _
    by_cases c8 : r5 = 0
    · replace h := oIp c8 h
      refine oRun.if_eq_t 18 dX8_backlash_8 c8 rfl ?_
      refine oRun.ldc2 21 dX8_backlash_18 wd_2_48 rfl ?_
      rw [← Option.some.inj h]
      exact oRun.ret (r := some (.long (-9223372036854775808))) dX8_backlash_21
    · replace h := oIn c8 h
      refine oRun.if_eq_f 11 dX8_backlash_8 rfl c8 rfl ?_
      refine oRun.iload_n 12 dX8_backlash_11 2 rfl rfl rfl ?_
      obtain ⟨r12, hr12, h⟩ := oB1 h
      refine oRun.callS (as := [.int x2]) 15 dX8_backlash_12 lk_RX8_83 (oFit_i (Nat.le_of_ble_eq_true rfl) (Nat.le_of_ble_eq_true rfl)) rfl (Nat.le_of_ble_eq_true rfl) (Nat.le_of_ble_eq_true rfl) rfl (E_X8_isPart hr12) rfl ?_
      show oRun G _ 15 _ [.int r12] _ _ _
      by_cases c15 : r12 = 0
      · replace h := oIp c15 h
        refine oRun.if_ne_f 18 dX8_backlash_15 rfl c15 rfl ?_
        refine oRun.ldc2 21 dX8_backlash_18 wd_2_48 rfl ?_
        rw [← Option.some.inj h]
        exact oRun.ret (r := some (.long (-9223372036854775808))) dX8_backlash_21
      · replace h := oIn c15 h
        refine oRun.if_ne_t 22 dX8_backlash_15 c15 rfl ?_
        refine oRun.aload_n 23 dX8_backlash_22 0 rfl rfl (Nat.le_of_ble_eq_true rfl) rfl ?_
        refine oRun.getR 26 dX8_backlash_23 fd_RX8_12 rfl rfl (Nat.le_of_ble_eq_true rfl) rfl ?_
        refine oRun.iload_n 27 dX8_backlash_26 1 rfl rfl rfl ?_
        obtain ⟨r27, hr27, h⟩ := oB1 h
        refine oRun.callV (as := [.int x1]) 30 dX8_backlash_27 lk_RX8_217 (oFit_i (Nat.le_of_ble_eq_true rfl) (Nat.le_of_ble_eq_true rfl)) rfl rfl rfl rfl (Nat.le_of_ble_eq_true rfl) (Nat.le_of_ble_eq_true rfl) rfl (E_X1_slackAbove rfl hr27) rfl ?_
        show oRun G _ 30 _ [.long r27] _ _ _
        refine oRun.aload_n 31 dX8_backlash_30 0 rfl rfl (Nat.le_of_ble_eq_true rfl) rfl ?_
        refine oRun.getR 34 dX8_backlash_31 fd_RX8_12 rfl rfl (Nat.le_of_ble_eq_true rfl) rfl ?_
        refine oRun.iload_n 35 dX8_backlash_34 1 rfl rfl rfl ?_
        obtain ⟨r35, hr35, h⟩ := oB1 h
        refine oRun.callV (as := [.int x1]) 38 dX8_backlash_35 lk_RX8_220 (oFit_i (Nat.le_of_ble_eq_true rfl) (Nat.le_of_ble_eq_true rfl)) rfl rfl rfl rfl (Nat.le_of_ble_eq_true rfl) (Nat.le_of_ble_eq_true rfl) rfl (E_X1_slackBelow rfl hr35) rfl ?_
        show oRun G _ 38 _ [.long r35, .long r27] _ _ _
        refine oRun.iload_n 39 dX8_backlash_38 2 rfl rfl rfl ?_
        obtain ⟨r39, hr39, h⟩ := oB1 h
        refine oRun.callS (as := [.long r27, .long r35, .int x2]) 42 dX8_backlash_39 lk_RX8_88 (oFit_i (Nat.le_of_ble_eq_true rfl) (Nat.le_of_ble_eq_true rfl)) rfl (Nat.le_of_ble_eq_true rfl) (Nat.le_of_ble_eq_true rfl) rfl (E_X8_lowest hr39) rfl ?_
        show oRun G _ 42 _ [.long r39] _ _ _
        rw [← Option.some.inj h]
        exact oRun.ret (r := some (.long r39)) dX8_backlash_42
  · exact True.intro
set_option maxRecDepth 100000 in
set_option maxHeartbeats 4000000 in
theorem E_X9_lag_L15 {G : oG} {m : oM} {x1 : Int32} {x2 : Int32} {r : Option Value} {m' : oM} : ∀ (n : Nat) (x3 : Int64) (x5 : Int32) (b : Int64), oLoop (fun s : Int64 × Int32 => F_X9_lag_L15 m x1 x2 s.1 s.2) n (x3, x5) = some b → oRun G M_X9_lag 66 [(3, .long b)] [] m r m' → oRun G M_X9_lag 15 [(0, .ref 51), (1, .int x1), (2, .int x2), (3, .long x3), (5, .int x5)] [] m r m' := by
  intro n
  induction n with
  | zero => intro x3 x5 b h _; exact (oLoop_zero h).elim
  | succ n ih =>
    intro x3 x5 b h he
    obtain ⟨q', hq', h⟩ := oLoop_succ h
    have hc : ∀ s' : Int64 × Int32, q' = .inl s' → oRun G M_X9_lag 15 [(0, .ref 51), (1, .int x1), (2, .int x2), (3, .long s'.1), (5, .int s'.2)] [] m r m' := by
      rintro s' rfl
      exact ih (s'.1) (s'.2) b h he
    have hx : ∀ b' : Int64, q' = .inr b' → oRun G M_X9_lag 66 [(3, .long b')] [] m r m' := by
      rintro b' rfl
      have h : b' = b := h
      rw [h]
      exact he
    clear h he ih
    have h := hq'
    clear hq'
    replace h : F_X9_lag_L15 m x1 x2 x3 x5 = some q' := h
    unfold F_X9_lag_L15 at h
    refine oRun.iload 17 dX9_lag_15 4 rfl rfl ?_
    refine oRun.iload_n 18 dX9_lag_17 2 rfl rfl rfl ?_
    by_cases c18 : x2 ≤ x5
    · replace h := oIp c18 h
      refine oRun.icmp_ge_t 66 dX9_lag_18 c18 rfl ?_
      cases h
      refine oRun.sub [3] rfl ?_
      exact hx _ rfl
    · replace h := oIn c18 h
      refine oRun.icmp_ge_f 21 dX9_lag_18 rfl c18 rfl ?_
      refine oRun.lload_n 22 dX9_lag_21 3 rfl rfl rfl ?_
      refine oRun.aload_n 23 dX9_lag_22 0 rfl rfl (Nat.le_of_ble_eq_true rfl) rfl ?_
      refine oRun.aload_n 24 dX9_lag_23 0 rfl rfl (Nat.le_of_ble_eq_true rfl) rfl ?_
      refine oRun.iload_n 25 dX9_lag_24 1 rfl rfl rfl ?_
      refine oRun.iload 27 dX9_lag_25 4 rfl rfl ?_
      obtain ⟨r27, hr27, h⟩ := oB1 h
      refine oRun.callV (as := [.int x1, .int x5]) 30 dX9_lag_27 lk_RX9_86 (oFit_i (Nat.le_of_ble_eq_true rfl) (Nat.le_of_ble_eq_true rfl)) rfl rfl rfl rfl (Nat.le_of_ble_eq_true rfl) (Nat.le_of_ble_eq_true rfl) rfl (E_X9_pairAt hr27) rfl ?_
      show oRun G _ 30 _ [.int r27, .ref 51, .long x3] _ _ _
      obtain ⟨r30, hr30, h⟩ := oB1 h
      refine oRun.callV (as := [.int r27]) 33 dX9_lag_30 lk_RX9_139 (oFit_i (Nat.le_of_ble_eq_true rfl) (Nat.le_of_ble_eq_true rfl)) rfl rfl rfl rfl (Nat.le_of_ble_eq_true rfl) (Nat.le_of_ble_eq_true rfl) rfl (E_X9_play hr30) rfl ?_
      show oRun G _ 33 _ [.int r30, .long x3] _ _ _
      refine oRun.i2l 34 dX9_lag_33 rfl ?_
      refine oRun.aload_n 35 dX9_lag_34 0 rfl rfl (Nat.le_of_ble_eq_true rfl) rfl ?_
      refine oRun.iload_n 36 dX9_lag_35 1 rfl rfl rfl ?_
      refine oRun.bipush 38 dX9_lag_36 oc_b73 rfl ?_
      refine oRun.iconst 39 dX9_lag_38 oc_i0 rfl ?_
      refine oRun.iload 41 dX9_lag_39 4 rfl rfl ?_
      obtain ⟨r41, hr41, h⟩ := oB1 h
      refine oRun.callV (as := [.int x1, .int 73, .int 0, .int x5]) 44 dX9_lag_41 lk_RX9_150 (oFit_i (Nat.le_of_ble_eq_true rfl) (Nat.le_of_ble_eq_true rfl)) rfl rfl rfl rfl (Nat.le_of_ble_eq_true rfl) (Nat.le_of_ble_eq_true rfl) rfl (E_X9_product hr41) rfl ?_
      show oRun G _ 44 _ [.long r41, .long r30.toInt64, .long x3] _ _ _
      refine oRun.lmul 45 dX9_lag_44 rfl ?_
      refine oRun.aload_n 46 dX9_lag_45 0 rfl rfl (Nat.le_of_ble_eq_true rfl) rfl ?_
      refine oRun.iload_n 47 dX9_lag_46 1 rfl rfl rfl ?_
      refine oRun.bipush 49 dX9_lag_47 oc_b63 rfl ?_
      refine oRun.iload 51 dX9_lag_49 4 rfl rfl ?_
      refine oRun.iconst 52 dX9_lag_51 oc_i1 rfl ?_
      refine oRun.iadd 53 dX9_lag_52 rfl ?_
      refine oRun.iload_n 54 dX9_lag_53 2 rfl rfl rfl ?_
      obtain ⟨r54, hr54, h⟩ := oB1 h
      refine oRun.callV (as := [.int x1, .int 63, .int (x5 + 1), .int x2]) 57 dX9_lag_54 lk_RX9_150 (oFit_i (Nat.le_of_ble_eq_true rfl) (Nat.le_of_ble_eq_true rfl)) rfl rfl rfl rfl (Nat.le_of_ble_eq_true rfl) (Nat.le_of_ble_eq_true rfl) rfl (E_X9_product hr54) rfl ?_
      show oRun G _ 57 _ [.long r54, .long (r30.toInt64 * r41), .long x3] _ _ _
      refine oRun.lmul 58 dX9_lag_57 rfl ?_
      refine oRun.ladd 59 dX9_lag_58 rfl ?_
      obtain ⟨x3_59, hx3_59, h⟩ := oB1 h
      refine oRun.nameJ hx3_59 ?_
      refine oRun.lstore_n 60 dX9_lag_59 rfl (Nat.le_of_ble_eq_true rfl) rfl rfl ?_
      refine oRun.iinc 63 dX9_lag_60 4 rfl (oAddC oc_i1) (Nat.le_of_ble_eq_true rfl) rfl rfl ?_
      refine oRun.goto 15 dX9_lag_63 rfl ?_
      cases h
      refine oRun.sub [2, 3, 4, 1, 0] rfl ?_
      exact hc _ rfl
set_option maxRecDepth 100000 in
set_option maxHeartbeats 4000000 in
theorem E_X9_lag {G : oG} {m : oM} {x1 : Int32} {w : Int64} (h : F_X9_lag m x1 = some w) : oEv G M_X9_lag [.ref 51, .int x1] m (some (.long w)) m := by
  unfold F_X9_lag at h
  refine ⟨?_, ?_⟩
  · show oRun G M_X9_lag 0 [(0, .ref 51), (1, .int x1)] [] m (some (.long w)) m
    refine oRun.aload_n 1 dX9_lag_0 0 rfl rfl (Nat.le_of_ble_eq_true rfl) rfl ?_
    refine oRun.getR 4 dX9_lag_1 fd_RX9_11 rfl rfl (Nat.le_of_ble_eq_true rfl) rfl ?_
    refine oRun.bipush 6 dX9_lag_4 oc_b19 rfl ?_
    refine oRun.iload_n 7 dX9_lag_6 1 rfl rfl rfl ?_
    refine oRun.iadd 8 dX9_lag_7 rfl ?_
    obtain ⟨v8, hv8, h⟩ := oB1 h
    refine oRun.iaload 9 dX9_lag_8 (Or.inr ⟨_, rfl⟩) hv8 rfl ?_
    refine oRun.istore_n 10 dX9_lag_9 rfl (Nat.le_of_ble_eq_true rfl) rfl rfl ?_
    refine oRun.lconst 11 dX9_lag_10 oc_l0 rfl ?_
    refine oRun.lstore_n 12 dX9_lag_11 rfl (Nat.le_of_ble_eq_true rfl) rfl rfl ?_
    refine oRun.iconst 13 dX9_lag_12 oc_i0 rfl ?_
    refine oRun.istore 15 dX9_lag_13 (Nat.le_of_ble_eq_true rfl) rfl rfl ?_
    obtain ⟨b15, hb15, h⟩ := oB1 h
    refine oRun.sub [3, 4, 2, 1, 0] rfl ?_
    refine E_X9_lag_L15 _ _ _ _ hb15 ?_
    refine oRun.lload_n 67 dX9_lag_66 0 rfl rfl rfl ?_
    rw [← Option.some.inj h]
    exact oRun.ret (r := some (.long b15)) dX9_lag_67
  · exact True.intro
set_option maxRecDepth 100000 in
set_option maxHeartbeats 4000000 in
theorem E_X9_backlash {G : oG} {m : oM} {x1 : Int32} {x2 : Int32} {w : Int64} (h : F_X9_backlash m x1 x2 = some w) : oEv G M_X9_backlash [.ref 51, .int x1, .int x2] m (some (.long w)) m := by
  unfold F_X9_backlash at h
  refine ⟨?_, ?_⟩
  · show oRun G M_X9_backlash 0 [(0, .ref 51), (1, .int x1), (2, .int x2)] [] m (some (.long w)) m
    refine oRun.aload_n 1 dX9_backlash_0 0 rfl rfl (Nat.le_of_ble_eq_true rfl) rfl ?_
    refine oRun.iload_n 2 dX9_backlash_1 1 rfl rfl rfl ?_
    obtain ⟨r2, hr2, h⟩ := oB1 h
    refine oRun.callV (as := [.int x1]) 5 dX9_backlash_2 lk_RX9_154 (oFit_i (Nat.le_of_ble_eq_true rfl) (Nat.le_of_ble_eq_true rfl)) rfl rfl rfl rfl (Nat.le_of_ble_eq_true rfl) (Nat.le_of_ble_eq_true rfl) rfl (E_X9_hasTrain hr2) rfl ?_
    show oRun G _ 5 _ [.int r2] _ _ _
    by_cases c5 : r2 = 0
    · replace h := oIp c5 h
      refine oRun.if_eq_t 36 dX9_backlash_5 c5 rfl ?_
      refine oRun.ldc2 39 dX9_backlash_36 wd_4_201 rfl ?_
      rw [← Option.some.inj h]
      exact oRun.ret (r := some (.long (-9223372036854775808))) dX9_backlash_39
    · replace h := oIn c5 h
      refine oRun.if_eq_f 8 dX9_backlash_5 rfl c5 rfl ?_
      refine oRun.iload_n 9 dX9_backlash_8 2 rfl rfl rfl ?_
      obtain ⟨r9, hr9, h⟩ := oB1 h
      refine oRun.callS (as := [.int x2]) 12 dX9_backlash_9 lk_RX9_70 (oFit_i (Nat.le_of_ble_eq_true rfl) (Nat.le_of_ble_eq_true rfl)) rfl (Nat.le_of_ble_eq_true rfl) (Nat.le_of_ble_eq_true rfl) rfl (E_X9_isPart hr9) rfl ?_
      show oRun G _ 12 _ [.int r9] _ _ _
      by_cases c12 : r9 = 0
      · replace h := oIp c12 h
        refine oRun.if_eq_t 36 dX9_backlash_12 c12 rfl ?_
        refine oRun.ldc2 39 dX9_backlash_36 wd_4_201 rfl ?_
        rw [← Option.some.inj h]
        exact oRun.ret (r := some (.long (-9223372036854775808))) dX9_backlash_39
      · replace h := oIn c12 h
        refine oRun.if_eq_f 15 dX9_backlash_12 rfl c12 rfl ?_
        refine oRun.aload_n 16 dX9_backlash_15 0 rfl rfl (Nat.le_of_ble_eq_true rfl) rfl ?_
        refine oRun.iload_n 17 dX9_backlash_16 1 rfl rfl rfl ?_
        obtain ⟨r17, hr17, h⟩ := oB1 h
        refine oRun.callV (as := [.int x1]) 20 dX9_backlash_17 lk_RX9_168 (oFit_i (Nat.le_of_ble_eq_true rfl) (Nat.le_of_ble_eq_true rfl)) rfl rfl rfl rfl (Nat.le_of_ble_eq_true rfl) (Nat.le_of_ble_eq_true rfl) rfl (E_X9_lag hr17) rfl ?_
        show oRun G _ 20 _ [.long r17] _ _ _
        refine oRun.ldc2 23 dX9_backlash_20 wd_5_145 rfl ?_
        refine oRun.aload_n 24 dX9_backlash_23 0 rfl rfl (Nat.le_of_ble_eq_true rfl) rfl ?_
        refine oRun.iload_n 25 dX9_backlash_24 1 rfl rfl rfl ?_
        obtain ⟨r25, hr25, h⟩ := oB1 h
        refine oRun.callV (as := [.int x1]) 28 dX9_backlash_25 lk_RX9_161 (oFit_i (Nat.le_of_ble_eq_true rfl) (Nat.le_of_ble_eq_true rfl)) rfl rfl rfl rfl (Nat.le_of_ble_eq_true rfl) (Nat.le_of_ble_eq_true rfl) rfl (E_X9_drivens hr25) rfl ?_
        show oRun G _ 28 _ [.long r25, .long 100, .long r17] _ _ _
        refine oRun.lmul 29 dX9_backlash_28 rfl ?_
        refine oRun.iload_n 30 dX9_backlash_29 2 rfl rfl rfl ?_
        obtain ⟨r30, hr30, h⟩ := oB1 h
        refine oRun.callS (as := [.long r17, .long (100 * r25), .int x2]) 33 dX9_backlash_30 lk_RX9_50 (oFit_i (Nat.le_of_ble_eq_true rfl) (Nat.le_of_ble_eq_true rfl)) rfl (Nat.le_of_ble_eq_true rfl) (Nat.le_of_ble_eq_true rfl) rfl (E_X9_told hr30) rfl ?_
        show oRun G _ 33 _ [.long r30] _ _ _
        refine oRun.goto 39 dX9_backlash_33 rfl ?_
        rw [← Option.some.inj h]
        exact oRun.ret (r := some (.long r30)) dX9_backlash_39
  · exact True.intro
set_option maxRecDepth 100000 in
set_option maxHeartbeats 4000000 in
theorem E_X8_areTwo {G : oG} {m : oM} {x1 : Int32} {x2 : Int32} {w : Int32} (h : F_X8_areTwo m x1 x2 = some w) : oEv G M_X8_areTwo [.ref 0, .int x1, .int x2] m (some (.int w)) m := by
  unfold F_X8_areTwo at h
  refine ⟨?_, ?_⟩
  · show oRun G M_X8_areTwo 0 [(0, .ref 0), (1, .int x1), (2, .int x2)] [] m (some (.int w)) m
    refine oRun.aload_n 1 dX8_areTwo_0 0 rfl rfl (Nat.le_of_ble_eq_true rfl) rfl ?_
    refine oRun.getR 4 dX8_areTwo_1 fd_RX8_12 rfl rfl (Nat.le_of_ble_eq_true rfl) rfl ?_
    refine oRun.iload_n 5 dX8_areTwo_4 1 rfl rfl rfl ?_
    obtain ⟨r5, hr5, h⟩ := oB1 h
    refine oRun.callV (as := [.int x1]) 8 dX8_areTwo_5 lk_RX8_68 (oFit_i (Nat.le_of_ble_eq_true rfl) (Nat.le_of_ble_eq_true rfl)) rfl rfl rfl rfl (Nat.le_of_ble_eq_true rfl) (Nat.le_of_ble_eq_true rfl) rfl (E_X1_hasBody rfl hr5) rfl ?_
    show oRun G _ 8 _ [.int r5] _ _ _
    by_cases c8 : r5 = 0
    · replace h := oIp c8 h
      refine oRun.if_eq_t 31 dX8_areTwo_8 c8 rfl ?_
      refine oRun.iconst 32 dX8_areTwo_31 oc_i0 rfl ?_
      rw [← Option.some.inj h]
      exact oRun.ret (r := some (.int 0)) dX8_areTwo_32
    · replace h := oIn c8 h
      refine oRun.if_eq_f 11 dX8_areTwo_8 rfl c8 rfl ?_
      refine oRun.aload_n 12 dX8_areTwo_11 0 rfl rfl (Nat.le_of_ble_eq_true rfl) rfl ?_
      refine oRun.getR 15 dX8_areTwo_12 fd_RX8_12 rfl rfl (Nat.le_of_ble_eq_true rfl) rfl ?_
      refine oRun.iload_n 16 dX8_areTwo_15 2 rfl rfl rfl ?_
      obtain ⟨r16, hr16, h⟩ := oB1 h
      refine oRun.callV (as := [.int x2]) 19 dX8_areTwo_16 lk_RX8_68 (oFit_i (Nat.le_of_ble_eq_true rfl) (Nat.le_of_ble_eq_true rfl)) rfl rfl rfl rfl (Nat.le_of_ble_eq_true rfl) (Nat.le_of_ble_eq_true rfl) rfl (E_X1_hasBody rfl hr16) rfl ?_
      show oRun G _ 19 _ [.int r16] _ _ _
      by_cases c19 : r16 = 0
      · replace h := oIp c19 h
        refine oRun.if_eq_t 31 dX8_areTwo_19 c19 rfl ?_
        refine oRun.iconst 32 dX8_areTwo_31 oc_i0 rfl ?_
        rw [← Option.some.inj h]
        exact oRun.ret (r := some (.int 0)) dX8_areTwo_32
      · replace h := oIn c19 h
        refine oRun.if_eq_f 22 dX8_areTwo_19 rfl c19 rfl ?_
        refine oRun.iload_n 23 dX8_areTwo_22 1 rfl rfl rfl ?_
        refine oRun.iload_n 24 dX8_areTwo_23 2 rfl rfl rfl ?_
        by_cases c24 : x1 = x2
        · replace h := oIp c24 h
          refine oRun.icmp_eq_t 31 dX8_areTwo_24 c24 rfl ?_
          refine oRun.iconst 32 dX8_areTwo_31 oc_i0 rfl ?_
          rw [← Option.some.inj h]
          exact oRun.ret (r := some (.int 0)) dX8_areTwo_32
        · replace h := oIn c24 h
          refine oRun.icmp_eq_f 27 dX8_areTwo_24 rfl c24 rfl ?_
          refine oRun.iconst 28 dX8_areTwo_27 oc_i1 rfl ?_
          refine oRun.goto 32 dX8_areTwo_28 rfl ?_
          rw [← Option.some.inj h]
          exact oRun.ret (r := some (.int 1)) dX8_areTwo_32
  · show oROK (some .boolean) (some (.int w))
    obtain ⟨r5, hr5, h⟩ := oB1 h
    by_cases c8 : r5 = 0
    · replace h := oIp c8 h
      rw [← Option.some.inj h]
      exact Or.inl rfl
    · replace h := oIn c8 h
      obtain ⟨r16, hr16, h⟩ := oB1 h
      by_cases c19 : r16 = 0
      · replace h := oIp c19 h
        rw [← Option.some.inj h]
        exact Or.inl rfl
      · replace h := oIn c19 h
        by_cases c24 : x1 = x2
        · replace h := oIp c24 h
          rw [← Option.some.inj h]
          exact Or.inl rfl
        · replace h := oIn c24 h
          rw [← Option.some.inj h]
          exact Or.inr rfl
set_option maxRecDepth 100000 in
set_option maxHeartbeats 4000000 in
theorem E_J9_min_7cf53 {G : oG} {m : oM} {x0 : Int32} {x1 : Int32} {w : Int32} (h : F_J9_min_7cf53 x0 x1 = some w) : oEv G M_J9_min_7cf53 [.int x0, .int x1] m (some (.int w)) m := by
  unfold F_J9_min_7cf53 at h
  refine ⟨?_, ?_⟩
  · show oRun G M_J9_min_7cf53 0 [(0, .int x0), (1, .int x1)] [] m (some (.int w)) m
    refine oRun.iload_n 1 dJ9_min_7cf53_0 0 rfl rfl rfl ?_
    refine oRun.iload_n 2 dJ9_min_7cf53_1 1 rfl rfl rfl ?_
    by_cases c2 : x1 < x0
    · replace h := oIp c2 h
      refine oRun.icmp_gt_t 9 dJ9_min_7cf53_2 c2 rfl ?_
      refine oRun.iload_n 10 dJ9_min_7cf53_9 1 rfl rfl rfl ?_
      rw [← Option.some.inj h]
      exact oRun.ret (r := some (.int x1)) dJ9_min_7cf53_10
    · replace h := oIn c2 h
      refine oRun.icmp_gt_f 5 dJ9_min_7cf53_2 rfl c2 rfl ?_
      refine oRun.iload_n 6 dJ9_min_7cf53_5 0 rfl rfl rfl ?_
      refine oRun.goto 10 dJ9_min_7cf53_6 rfl ?_
      rw [← Option.some.inj h]
      exact oRun.ret (r := some (.int x0)) dJ9_min_7cf53_10
  · exact True.intro
set_option maxRecDepth 100000 in
set_option maxHeartbeats 4000000 in
theorem E_X7_shared_L17 {G : oG} {o : Nat} (ho : oTb o = true) {m : oM} {x1 : Int32} {x2 : Int32} {x3 : Int32} {r : Option Value} {m' : oM} : ∀ (n : Nat) (x4 : Int32) (b : (Unit) ⊕ (Int32)), oLoop (fun s : Int32 => F_X7_shared_L17 o m x1 x2 x3 s) n x4 = some b → Sum.elim (fun yy => oRun G M_X7_shared 49 [(3, .int x3)] [] m r m') (fun zz => r = (some (.int zz)) ∧ m' = m) b → oRun G M_X7_shared 17 [(0, .ref o), (1, .int x1), (2, .int x2), (3, .int x3), (4, .int x4)] [] m r m' := by
  intro n
  induction n with
  | zero => intro x4 b h _; exact (oLoop_zero h).elim
  | succ n ih =>
    intro x4 b h he
    obtain ⟨q', hq', h⟩ := oLoop_succ h
    have hc : ∀ s' : Int32, q' = .inl s' → oRun G M_X7_shared 17 [(0, .ref o), (1, .int x1), (2, .int x2), (3, .int x3), (4, .int s')] [] m r m' := by
      rintro s' rfl
      exact ih (s') b h he
    have hx : ∀ b' : (Unit) ⊕ (Int32), q' = .inr b' → Sum.elim (fun yy => oRun G M_X7_shared 49 [(3, .int x3)] [] m r m') (fun zz => r = (some (.int zz)) ∧ m' = m) b' := by
      rintro b' rfl
      have h : b' = b := h
      rw [h]
      exact he
    clear h he ih
    have h := hq'
    clear hq'
    replace h : F_X7_shared_L17 o m x1 x2 x3 x4 = some q' := h
    unfold F_X7_shared_L17 at h
    refine oRun.iload 19 dX7_shared_17 4 rfl rfl ?_
    refine oRun.iload_n 20 dX7_shared_19 3 rfl rfl rfl ?_
    by_cases c20 : x3 ≤ x4
    · replace h := oIp c20 h
      refine oRun.icmp_ge_t 49 dX7_shared_20 c20 rfl ?_
      cases h
      refine oRun.sub [3] rfl ?_
      exact hx _ rfl
    · replace h := oIn c20 h
      refine oRun.icmp_ge_f 23 dX7_shared_20 rfl c20 rfl ?_
      refine oRun.aload_n 24 dX7_shared_23 0 rfl rfl (oLt66 (oT_lt ho)) rfl ?_
      refine oRun.iload_n 25 dX7_shared_24 1 rfl rfl rfl ?_
      refine oRun.iload 27 dX7_shared_25 4 rfl rfl ?_
      obtain ⟨r27, hr27, h⟩ := oB1 h
      refine oRun.callV (as := [.int x1, .int x4]) 30 dX7_shared_27 lk_RX7_34 (oFit_i (Nat.le_of_ble_eq_true rfl) (Nat.le_of_ble_eq_true rfl)) (oT_sh ho) rfl rfl rfl (Nat.le_of_ble_eq_true rfl) (Nat.le_of_ble_eq_true rfl) rfl (E_X7_pairAt ho hr27) rfl ?_
      show oRun G _ 30 _ [.int r27] _ _ _
      refine oRun.aload_n 31 dX7_shared_30 0 rfl rfl (oLt66 (oT_lt ho)) rfl ?_
      refine oRun.iload_n 32 dX7_shared_31 2 rfl rfl rfl ?_
      refine oRun.iload 34 dX7_shared_32 4 rfl rfl ?_
      obtain ⟨r34, hr34, h⟩ := oB1 h
      refine oRun.callV (as := [.int x2, .int x4]) 37 dX7_shared_34 lk_RX7_34 (oFit_i (Nat.le_of_ble_eq_true rfl) (Nat.le_of_ble_eq_true rfl)) (oT_sh ho) rfl rfl rfl (Nat.le_of_ble_eq_true rfl) (Nat.le_of_ble_eq_true rfl) rfl (E_X7_pairAt ho hr34) rfl ?_
      show oRun G _ 37 _ [.int r34, .int r27] _ _ _
      by_cases c37 : r27 = r34
      · replace h := oIp c37 h
        refine oRun.icmp_eq_t 43 dX7_shared_37 c37 rfl ?_
        refine oRun.iinc 46 dX7_shared_43 4 rfl (oAddC oc_i1) (Nat.le_of_ble_eq_true rfl) rfl rfl ?_
        refine oRun.goto 17 dX7_shared_46 rfl ?_
        cases h
        refine oRun.sub [1, 2, 3, 4, 0] rfl ?_
        exact hc _ rfl
      · replace h := oIn c37 h
        refine oRun.icmp_eq_f 40 dX7_shared_37 rfl c37 rfl ?_
        refine oRun.iload 42 dX7_shared_40 4 rfl rfl ?_
        cases h
        obtain ⟨hr1, hr2⟩ := hx _ rfl
        rw [hr1, hr2]
        exact oRun.ret (r := some (.int x4)) dX7_shared_42
set_option maxRecDepth 100000 in
set_option maxHeartbeats 4000000 in
theorem E_X7_shared {G : oG} {o : Nat} (ho : oTb o = true) {m : oM} {x1 : Int32} {x2 : Int32} {w : Int32} (h : F_X7_shared o m x1 x2 = some w) : oEv G M_X7_shared [.ref o, .int x1, .int x2] m (some (.int w)) m := by
  unfold F_X7_shared at h
  refine ⟨?_, ?_⟩
  · show oRun G M_X7_shared 0 [(0, .ref o), (1, .int x1), (2, .int x2)] [] m (some (.int w)) m
    refine oRun.aload_n 1 dX7_shared_0 0 rfl rfl (oLt66 (oT_lt ho)) rfl ?_
    refine oRun.iload_n 2 dX7_shared_1 1 rfl rfl rfl ?_
    obtain ⟨r2, hr2, h⟩ := oB1 h
    refine oRun.callV (as := [.int x1]) 5 dX7_shared_2 lk_RX7_30 (oFit_i (Nat.le_of_ble_eq_true rfl) (Nat.le_of_ble_eq_true rfl)) (oT_sh ho) rfl rfl rfl (Nat.le_of_ble_eq_true rfl) (Nat.le_of_ble_eq_true rfl) rfl (E_X7_length ho hr2) rfl ?_
    show oRun G _ 5 _ [.int r2] _ _ _
    refine oRun.aload_n 6 dX7_shared_5 0 rfl rfl (oLt66 (oT_lt ho)) rfl ?_
    refine oRun.iload_n 7 dX7_shared_6 2 rfl rfl rfl ?_
    obtain ⟨r7, hr7, h⟩ := oB1 h
    refine oRun.callV (as := [.int x2]) 10 dX7_shared_7 lk_RX7_30 (oFit_i (Nat.le_of_ble_eq_true rfl) (Nat.le_of_ble_eq_true rfl)) (oT_sh ho) rfl rfl rfl (Nat.le_of_ble_eq_true rfl) (Nat.le_of_ble_eq_true rfl) rfl (E_X7_length ho hr7) rfl ?_
    show oRun G _ 10 _ [.int r7, .int r2] _ _ _
    obtain ⟨r10, hr10, h⟩ := oB1 h
    refine oRun.callS (as := [.int r2, .int r7]) 13 dX7_shared_10 lk_RX7_42 (oFit_i (Nat.le_of_ble_eq_true rfl) (Nat.le_of_ble_eq_true rfl)) rfl (Nat.le_of_ble_eq_true rfl) (Nat.le_of_ble_eq_true rfl) rfl (E_J9_min_7cf53 hr10) rfl ?_
    show oRun G _ 13 _ [.int r10] _ _ _
    refine oRun.istore_n 14 dX7_shared_13 rfl (Nat.le_of_ble_eq_true rfl) rfl rfl ?_
    refine oRun.iconst 15 dX7_shared_14 oc_i0 rfl ?_
    refine oRun.istore 17 dX7_shared_15 (Nat.le_of_ble_eq_true rfl) rfl rfl ?_
    obtain ⟨b17, hb17, h⟩ := oB1 h
    refine oRun.sub [2, 3, 4, 1, 0] rfl ?_
    refine E_X7_shared_L17 ho _ _ _ hb17 ?_
    rcases b17 with y17 | z17
    · replace h := oSl h
      show oRun G _ _ _ _ _ _ _
      refine oRun.iload_n 50 dX7_shared_49 0 rfl rfl rfl ?_
      rw [← Option.some.inj h]
      exact oRun.ret (r := some (.int r10)) dX7_shared_50
    · replace h := oSr h
      cases h
      exact ⟨rfl, rfl⟩
  · exact True.intro
set_option maxRecDepth 100000 in
set_option maxHeartbeats 4000000 in
theorem E_X8_share {G : oG} {m : oM} {x1 : Int32} {x2 : Int32} {w : Int32} (h : F_X8_share m x1 x2 = some w) : oEv G M_X8_share [.ref 0, .int x1, .int x2] m (some (.int w)) m := by
  unfold F_X8_share at h
  refine ⟨?_, ?_⟩
  · show oRun G M_X8_share 0 [(0, .ref 0), (1, .int x1), (2, .int x2)] [] m (some (.int w)) m
    refine oRun.aload_n 1 dX8_share_0 0 rfl rfl (Nat.le_of_ble_eq_true rfl) rfl ?_
    refine oRun.iload_n 2 dX8_share_1 1 rfl rfl rfl ?_
    refine oRun.iload_n 3 dX8_share_2 2 rfl rfl rfl ?_
    obtain ⟨r3, hr3, h⟩ := oB1 h
    refine oRun.callV (as := [.int x1, .int x2]) 6 dX8_share_3 lk_RX8_223 (oFit_i (Nat.le_of_ble_eq_true rfl) (Nat.le_of_ble_eq_true rfl)) rfl rfl rfl rfl (Nat.le_of_ble_eq_true rfl) (Nat.le_of_ble_eq_true rfl) rfl (E_X8_areTwo hr3) rfl ?_
    show oRun G _ 6 _ [.int r3] _ _ _
    by_cases c6 : r3 = 0
    · replace h := oIp c6 h
      refine oRun.if_ne_f 9 dX8_share_6 rfl c6 rfl ?_
      refine oRun.iconst 10 dX8_share_9 oc_im1 rfl ?_
      rw [← Option.some.inj h]
      exact oRun.ret (r := some (.int (-1))) dX8_share_10
    · replace h := oIn c6 h
      refine oRun.if_ne_t 11 dX8_share_6 c6 rfl ?_
      refine oRun.aload_n 12 dX8_share_11 0 rfl rfl (Nat.le_of_ble_eq_true rfl) rfl ?_
      refine oRun.getR 15 dX8_share_12 fd_RX8_12 rfl rfl (Nat.le_of_ble_eq_true rfl) rfl ?_
      refine oRun.iload_n 16 dX8_share_15 1 rfl rfl rfl ?_
      obtain ⟨r16, hr16, h⟩ := oB1 h
      refine oRun.callV (as := [.int x1]) 19 dX8_share_16 lk_RX8_192 (oFit_i (Nat.le_of_ble_eq_true rfl) (Nat.le_of_ble_eq_true rfl)) rfl rfl rfl rfl (Nat.le_of_ble_eq_true rfl) (Nat.le_of_ble_eq_true rfl) rfl (E_X1_hasTrain rfl hr16) rfl ?_
      show oRun G _ 19 _ [.int r16] _ _ _
      by_cases c19 : r16 = 0
      · replace h := oIp c19 h
        refine oRun.if_eq_t 33 dX8_share_19 c19 rfl ?_
        refine oRun.bipush 35 dX8_share_33 oc_bm3 rfl ?_
        rw [← Option.some.inj h]
        exact oRun.ret (r := some (.int (-3))) dX8_share_35
      · replace h := oIn c19 h
        refine oRun.if_eq_f 22 dX8_share_19 rfl c19 rfl ?_
        refine oRun.aload_n 23 dX8_share_22 0 rfl rfl (Nat.le_of_ble_eq_true rfl) rfl ?_
        refine oRun.getR 26 dX8_share_23 fd_RX8_12 rfl rfl (Nat.le_of_ble_eq_true rfl) rfl ?_
        refine oRun.iload_n 27 dX8_share_26 2 rfl rfl rfl ?_
        obtain ⟨r27, hr27, h⟩ := oB1 h
        refine oRun.callV (as := [.int x2]) 30 dX8_share_27 lk_RX8_192 (oFit_i (Nat.le_of_ble_eq_true rfl) (Nat.le_of_ble_eq_true rfl)) rfl rfl rfl rfl (Nat.le_of_ble_eq_true rfl) (Nat.le_of_ble_eq_true rfl) rfl (E_X1_hasTrain rfl hr27) rfl ?_
        show oRun G _ 30 _ [.int r27] _ _ _
        by_cases c30 : r27 = 0
        · replace h := oIp c30 h
          refine oRun.if_ne_f 33 dX8_share_30 rfl c30 rfl ?_
          refine oRun.bipush 35 dX8_share_33 oc_bm3 rfl ?_
          rw [← Option.some.inj h]
          exact oRun.ret (r := some (.int (-3))) dX8_share_35
        · replace h := oIn c30 h
          refine oRun.if_ne_t 36 dX8_share_30 c30 rfl ?_
          refine oRun.aload_n 37 dX8_share_36 0 rfl rfl (Nat.le_of_ble_eq_true rfl) rfl ?_
          refine oRun.getR 40 dX8_share_37 fd_RX8_12 rfl rfl (Nat.le_of_ble_eq_true rfl) rfl ?_
          refine oRun.getR 43 dX8_share_40 fd_RX8_170 rfl rfl (Nat.le_of_ble_eq_true rfl) rfl ?_
          refine oRun.iload_n 44 dX8_share_43 1 rfl rfl rfl ?_
          refine oRun.iload_n 45 dX8_share_44 2 rfl rfl rfl ?_
          obtain ⟨r45, hr45, h⟩ := oB1 h
          refine oRun.callV (as := [.int x1, .int x2]) 48 dX8_share_45 lk_RX8_226 (oFit_i (Nat.le_of_ble_eq_true rfl) (Nat.le_of_ble_eq_true rfl)) rfl rfl rfl rfl (Nat.le_of_ble_eq_true rfl) (Nat.le_of_ble_eq_true rfl) rfl (E_X7_shared rfl hr45) rfl ?_
          show oRun G _ 48 _ [.int r45] _ _ _
          rw [← Option.some.inj h]
          exact oRun.ret (r := some (.int r45)) dX8_share_48
  · exact True.intro
set_option maxRecDepth 100000 in
set_option maxHeartbeats 4000000 in
theorem E_X9_areTwo {G : oG} {m : oM} {x1 : Int32} {x2 : Int32} {w : Int32} (h : F_X9_areTwo m x1 x2 = some w) : oEv G M_X9_areTwo [.ref 51, .int x1, .int x2] m (some (.int w)) m := by
  unfold F_X9_areTwo at h
  refine ⟨?_, ?_⟩
  · show oRun G M_X9_areTwo 0 [(0, .ref 51), (1, .int x1), (2, .int x2)] [] m (some (.int w)) m
    refine oRun.aload_n 1 dX9_areTwo_0 0 rfl rfl (Nat.le_of_ble_eq_true rfl) rfl ?_
    refine oRun.iload_n 2 dX9_areTwo_1 1 rfl rfl rfl ?_
    obtain ⟨r2, hr2, h⟩ := oB1 h
    refine oRun.callV (as := [.int x1]) 5 dX9_areTwo_2 lk_RX9_62 (oFit_i (Nat.le_of_ble_eq_true rfl) (Nat.le_of_ble_eq_true rfl)) rfl rfl rfl rfl (Nat.le_of_ble_eq_true rfl) (Nat.le_of_ble_eq_true rfl) rfl (E_X9_isBody hr2) rfl ?_
    show oRun G _ 5 _ [.int r2] _ _ _
    by_cases c5 : r2 = 0
    · replace h := oIp c5 h
      refine oRun.if_eq_t 25 dX9_areTwo_5 c5 rfl ?_
      refine oRun.iconst 26 dX9_areTwo_25 oc_i0 rfl ?_
      rw [← Option.some.inj h]
      exact oRun.ret (r := some (.int 0)) dX9_areTwo_26
    · replace h := oIn c5 h
      refine oRun.if_eq_f 8 dX9_areTwo_5 rfl c5 rfl ?_
      refine oRun.aload_n 9 dX9_areTwo_8 0 rfl rfl (Nat.le_of_ble_eq_true rfl) rfl ?_
      refine oRun.iload_n 10 dX9_areTwo_9 2 rfl rfl rfl ?_
      obtain ⟨r10, hr10, h⟩ := oB1 h
      refine oRun.callV (as := [.int x2]) 13 dX9_areTwo_10 lk_RX9_62 (oFit_i (Nat.le_of_ble_eq_true rfl) (Nat.le_of_ble_eq_true rfl)) rfl rfl rfl rfl (Nat.le_of_ble_eq_true rfl) (Nat.le_of_ble_eq_true rfl) rfl (E_X9_isBody hr10) rfl ?_
      show oRun G _ 13 _ [.int r10] _ _ _
      by_cases c13 : r10 = 0
      · replace h := oIp c13 h
        refine oRun.if_eq_t 25 dX9_areTwo_13 c13 rfl ?_
        refine oRun.iconst 26 dX9_areTwo_25 oc_i0 rfl ?_
        rw [← Option.some.inj h]
        exact oRun.ret (r := some (.int 0)) dX9_areTwo_26
      · replace h := oIn c13 h
        refine oRun.if_eq_f 16 dX9_areTwo_13 rfl c13 rfl ?_
        refine oRun.iload_n 17 dX9_areTwo_16 1 rfl rfl rfl ?_
        refine oRun.iload_n 18 dX9_areTwo_17 2 rfl rfl rfl ?_
        by_cases c18 : x1 = x2
        · replace h := oIp c18 h
          refine oRun.icmp_eq_t 25 dX9_areTwo_18 c18 rfl ?_
          refine oRun.iconst 26 dX9_areTwo_25 oc_i0 rfl ?_
          rw [← Option.some.inj h]
          exact oRun.ret (r := some (.int 0)) dX9_areTwo_26
        · replace h := oIn c18 h
          refine oRun.icmp_eq_f 21 dX9_areTwo_18 rfl c18 rfl ?_
          refine oRun.iconst 22 dX9_areTwo_21 oc_i1 rfl ?_
          refine oRun.goto 26 dX9_areTwo_22 rfl ?_
          rw [← Option.some.inj h]
          exact oRun.ret (r := some (.int 1)) dX9_areTwo_26
  · show oROK (some .boolean) (some (.int w))
    obtain ⟨r2, hr2, h⟩ := oB1 h
    by_cases c5 : r2 = 0
    · replace h := oIp c5 h
      rw [← Option.some.inj h]
      exact Or.inl rfl
    · replace h := oIn c5 h
      obtain ⟨r10, hr10, h⟩ := oB1 h
      by_cases c13 : r10 = 0
      · replace h := oIp c13 h
        rw [← Option.some.inj h]
        exact Or.inl rfl
      · replace h := oIn c13 h
        by_cases c18 : x1 = x2
        · replace h := oIp c18 h
          rw [← Option.some.inj h]
          exact Or.inl rfl
        · replace h := oIn c18 h
          rw [← Option.some.inj h]
          exact Or.inr rfl
set_option maxRecDepth 100000 in
set_option maxHeartbeats 4000000 in
theorem E_X9_shared_L2 {G : oG} {m : oM} {x1 : Int32} {x2 : Int32} {r : Option Value} {m' : oM} : ∀ (n : Nat) (x3 : Int32) (b : Int32), oLoop (fun s : Int32 => F_X9_shared_L2 m x1 x2 s) n x3 = some b → oRun G M_X9_shared 49 [(3, .int b)] [] m r m' → oRun G M_X9_shared 2 [(0, .ref 51), (1, .int x1), (2, .int x2), (3, .int x3)] [] m r m' := by
  intro n
  induction n with
  | zero => intro x3 b h _; exact (oLoop_zero h).elim
  | succ n ih =>
    intro x3 b h he
    obtain ⟨q', hq', h⟩ := oLoop_succ h
    have hc : ∀ s' : Int32, q' = .inl s' → oRun G M_X9_shared 2 [(0, .ref 51), (1, .int x1), (2, .int x2), (3, .int s')] [] m r m' := by
      rintro s' rfl
      exact ih (s') b h he
    have hx : ∀ b' : Int32, q' = .inr b' → oRun G M_X9_shared 49 [(3, .int b')] [] m r m' := by
      rintro b' rfl
      have h : b' = b := h
      rw [h]
      exact he
    clear h he ih
    have h := hq'
    clear hq'
    replace h : F_X9_shared_L2 m x1 x2 x3 = some q' := h
    unfold F_X9_shared_L2 at h
    refine oRun.iload_n 3 dX9_shared_2 3 rfl rfl rfl ?_
    refine oRun.aload_n 4 dX9_shared_3 0 rfl rfl (Nat.le_of_ble_eq_true rfl) rfl ?_
    refine oRun.getR 7 dX9_shared_4 fd_RX9_11 rfl rfl (Nat.le_of_ble_eq_true rfl) rfl ?_
    refine oRun.bipush 9 dX9_shared_7 oc_b19 rfl ?_
    refine oRun.iload_n 10 dX9_shared_9 1 rfl rfl rfl ?_
    refine oRun.iadd 11 dX9_shared_10 rfl ?_
    obtain ⟨v11, hv11, h⟩ := oB1 h
    refine oRun.iaload 12 dX9_shared_11 (Or.inr ⟨_, rfl⟩) hv11 rfl ?_
    by_cases c12 : v11 ≤ x3
    · replace h := oIp c12 h
      refine oRun.icmp_ge_t 49 dX9_shared_12 c12 rfl ?_
      cases h
      refine oRun.sub [3] rfl ?_
      exact hx _ rfl
    · replace h := oIn c12 h
      refine oRun.icmp_ge_f 15 dX9_shared_12 rfl c12 rfl ?_
      refine oRun.iload_n 16 dX9_shared_15 3 rfl rfl rfl ?_
      refine oRun.aload_n 17 dX9_shared_16 0 rfl rfl (Nat.le_of_ble_eq_true rfl) rfl ?_
      refine oRun.getR 20 dX9_shared_17 fd_RX9_11 rfl rfl (Nat.le_of_ble_eq_true rfl) rfl ?_
      refine oRun.bipush 22 dX9_shared_20 oc_b19 rfl ?_
      refine oRun.iload_n 23 dX9_shared_22 2 rfl rfl rfl ?_
      refine oRun.iadd 24 dX9_shared_23 rfl ?_
      obtain ⟨v24, hv24, h⟩ := oB1 h
      refine oRun.iaload 25 dX9_shared_24 (Or.inr ⟨_, rfl⟩) hv24 rfl ?_
      by_cases c25 : v24 ≤ x3
      · replace h := oIp c25 h
        refine oRun.icmp_ge_t 49 dX9_shared_25 c25 rfl ?_
        cases h
        refine oRun.sub [3] rfl ?_
        exact hx _ rfl
      · replace h := oIn c25 h
        refine oRun.icmp_ge_f 28 dX9_shared_25 rfl c25 rfl ?_
        refine oRun.aload_n 29 dX9_shared_28 0 rfl rfl (Nat.le_of_ble_eq_true rfl) rfl ?_
        refine oRun.iload_n 30 dX9_shared_29 1 rfl rfl rfl ?_
        refine oRun.iload_n 31 dX9_shared_30 3 rfl rfl rfl ?_
        obtain ⟨r31, hr31, h⟩ := oB1 h
        refine oRun.callV (as := [.int x1, .int x3]) 34 dX9_shared_31 lk_RX9_86 (oFit_i (Nat.le_of_ble_eq_true rfl) (Nat.le_of_ble_eq_true rfl)) rfl rfl rfl rfl (Nat.le_of_ble_eq_true rfl) (Nat.le_of_ble_eq_true rfl) rfl (E_X9_pairAt hr31) rfl ?_
        show oRun G _ 34 _ [.int r31] _ _ _
        refine oRun.aload_n 35 dX9_shared_34 0 rfl rfl (Nat.le_of_ble_eq_true rfl) rfl ?_
        refine oRun.iload_n 36 dX9_shared_35 2 rfl rfl rfl ?_
        refine oRun.iload_n 37 dX9_shared_36 3 rfl rfl rfl ?_
        obtain ⟨r37, hr37, h⟩ := oB1 h
        refine oRun.callV (as := [.int x2, .int x3]) 40 dX9_shared_37 lk_RX9_86 (oFit_i (Nat.le_of_ble_eq_true rfl) (Nat.le_of_ble_eq_true rfl)) rfl rfl rfl rfl (Nat.le_of_ble_eq_true rfl) (Nat.le_of_ble_eq_true rfl) rfl (E_X9_pairAt hr37) rfl ?_
        show oRun G _ 40 _ [.int r37, .int r31] _ _ _
        by_cases c40 : r31 = r37
        · replace h := oIp c40 h
          refine oRun.icmp_ne_f 43 dX9_shared_40 rfl c40 rfl ?_
          refine oRun.iinc 46 dX9_shared_43 3 rfl (oAddC oc_i1) (Nat.le_of_ble_eq_true rfl) rfl rfl ?_
          refine oRun.goto 2 dX9_shared_46 rfl ?_
          cases h
          refine oRun.sub [1, 2, 3, 0] rfl ?_
          exact hc _ rfl
        · replace h := oIn c40 h
          refine oRun.icmp_ne_t 49 dX9_shared_40 c40 rfl ?_
          cases h
          refine oRun.sub [3] rfl ?_
          exact hx _ rfl
set_option maxRecDepth 100000 in
set_option maxHeartbeats 4000000 in
theorem E_X9_shared {G : oG} {m : oM} {x1 : Int32} {x2 : Int32} {w : Int32} (h : F_X9_shared m x1 x2 = some w) : oEv G M_X9_shared [.ref 51, .int x1, .int x2] m (some (.int w)) m := by
  unfold F_X9_shared at h
  refine ⟨?_, ?_⟩
  · show oRun G M_X9_shared 0 [(0, .ref 51), (1, .int x1), (2, .int x2)] [] m (some (.int w)) m
    refine oRun.iconst 1 dX9_shared_0 oc_i0 rfl ?_
    refine oRun.istore_n 2 dX9_shared_1 rfl (Nat.le_of_ble_eq_true rfl) rfl rfl ?_
    obtain ⟨b2, hb2, h⟩ := oB1 h
    refine oRun.sub [1, 2, 3, 0] rfl ?_
    refine E_X9_shared_L2 _ _ _ hb2 ?_
    refine oRun.iload_n 50 dX9_shared_49 0 rfl rfl rfl ?_
    rw [← Option.some.inj h]
    exact oRun.ret (r := some (.int b2)) dX9_shared_50
  · exact True.intro
set_option maxRecDepth 100000 in
set_option maxHeartbeats 4000000 in
theorem E_X9_share {G : oG} {m : oM} {x1 : Int32} {x2 : Int32} {w : Int32} (h : F_X9_share m x1 x2 = some w) : oEv G M_X9_share [.ref 51, .int x1, .int x2] m (some (.int w)) m := by
  unfold F_X9_share at h
  refine ⟨?_, ?_⟩
  · show oRun G M_X9_share 0 [(0, .ref 51), (1, .int x1), (2, .int x2)] [] m (some (.int w)) m
    refine oRun.aload_n 1 dX9_share_0 0 rfl rfl (Nat.le_of_ble_eq_true rfl) rfl ?_
    refine oRun.iload_n 2 dX9_share_1 1 rfl rfl rfl ?_
    refine oRun.iload_n 3 dX9_share_2 2 rfl rfl rfl ?_
    obtain ⟨r3, hr3, h⟩ := oB1 h
    refine oRun.callV (as := [.int x1, .int x2]) 6 dX9_share_3 lk_RX9_173 (oFit_i (Nat.le_of_ble_eq_true rfl) (Nat.le_of_ble_eq_true rfl)) rfl rfl rfl rfl (Nat.le_of_ble_eq_true rfl) (Nat.le_of_ble_eq_true rfl) rfl (E_X9_areTwo hr3) rfl ?_
    show oRun G _ 6 _ [.int r3] _ _ _
    by_cases c6 : r3 = 0
    · replace h := oIp c6 h
      refine oRun.if_ne_f 9 dX9_share_6 rfl c6 rfl ?_
      refine oRun.iconst 10 dX9_share_9 oc_im1 rfl ?_
      rw [← Option.some.inj h]
      exact oRun.ret (r := some (.int (-1))) dX9_share_10
    · replace h := oIn c6 h
      refine oRun.if_ne_t 11 dX9_share_6 c6 rfl ?_
      refine oRun.aload_n 12 dX9_share_11 0 rfl rfl (Nat.le_of_ble_eq_true rfl) rfl ?_
      refine oRun.iload_n 13 dX9_share_12 1 rfl rfl rfl ?_
      obtain ⟨r13, hr13, h⟩ := oB1 h
      refine oRun.callV (as := [.int x1]) 16 dX9_share_13 lk_RX9_154 (oFit_i (Nat.le_of_ble_eq_true rfl) (Nat.le_of_ble_eq_true rfl)) rfl rfl rfl rfl (Nat.le_of_ble_eq_true rfl) (Nat.le_of_ble_eq_true rfl) rfl (E_X9_hasTrain hr13) rfl ?_
      show oRun G _ 16 _ [.int r13] _ _ _
      by_cases c16 : r13 = 0
      · replace h := oIp c16 h
        refine oRun.if_eq_t 36 dX9_share_16 c16 rfl ?_
        refine oRun.bipush 38 dX9_share_36 oc_bm3 rfl ?_
        rw [← Option.some.inj h]
        exact oRun.ret (r := some (.int (-3))) dX9_share_38
      · replace h := oIn c16 h
        refine oRun.if_eq_f 19 dX9_share_16 rfl c16 rfl ?_
        refine oRun.aload_n 20 dX9_share_19 0 rfl rfl (Nat.le_of_ble_eq_true rfl) rfl ?_
        refine oRun.iload_n 21 dX9_share_20 2 rfl rfl rfl ?_
        obtain ⟨r21, hr21, h⟩ := oB1 h
        refine oRun.callV (as := [.int x2]) 24 dX9_share_21 lk_RX9_154 (oFit_i (Nat.le_of_ble_eq_true rfl) (Nat.le_of_ble_eq_true rfl)) rfl rfl rfl rfl (Nat.le_of_ble_eq_true rfl) (Nat.le_of_ble_eq_true rfl) rfl (E_X9_hasTrain hr21) rfl ?_
        show oRun G _ 24 _ [.int r21] _ _ _
        by_cases c24 : r21 = 0
        · replace h := oIp c24 h
          refine oRun.if_eq_t 36 dX9_share_24 c24 rfl ?_
          refine oRun.bipush 38 dX9_share_36 oc_bm3 rfl ?_
          rw [← Option.some.inj h]
          exact oRun.ret (r := some (.int (-3))) dX9_share_38
        · replace h := oIn c24 h
          refine oRun.if_eq_f 27 dX9_share_24 rfl c24 rfl ?_
          refine oRun.aload_n 28 dX9_share_27 0 rfl rfl (Nat.le_of_ble_eq_true rfl) rfl ?_
          refine oRun.iload_n 29 dX9_share_28 1 rfl rfl rfl ?_
          refine oRun.iload_n 30 dX9_share_29 2 rfl rfl rfl ?_
          obtain ⟨r30, hr30, h⟩ := oB1 h
          refine oRun.callV (as := [.int x1, .int x2]) 33 dX9_share_30 lk_RX9_176 (oFit_i (Nat.le_of_ble_eq_true rfl) (Nat.le_of_ble_eq_true rfl)) rfl rfl rfl rfl (Nat.le_of_ble_eq_true rfl) (Nat.le_of_ble_eq_true rfl) rfl (E_X9_shared hr30) rfl ?_
          show oRun G _ 33 _ [.int r30] _ _ _
          refine oRun.goto 38 dX9_share_33 rfl ?_
          rw [← Option.some.inj h]
          exact oRun.ret (r := some (.int r30)) dX9_share_38
  · exact True.intro
set_option maxRecDepth 100000 in
set_option maxHeartbeats 4000000 in
theorem E_X8_copy_L2 {G : oG} {p0 : Nat} {p1 : Nat} (hp0 : oIA p0) (hp1 : oWA p1) {r : Option Value} {m' : oM} : ∀ (n : Nat) (x2 : Int32) (m : oM) (b : oM), oLoop (fun s : Int32 × oM => F_X8_copy_L2 p0 p1 s.1 s.2) n (x2, m) = some b → oRun G M_X8_copy 26 [] [] b r m' → oRun G M_X8_copy 2 [(0, .ref p0), (1, .ref p1), (2, .int x2)] [] m r m' := by
  intro n
  induction n with
  | zero => intro x2 m b h _; exact (oLoop_zero h).elim
  | succ n ih =>
    intro x2 m b h he
    obtain ⟨q', hq', h⟩ := oLoop_succ h
    have hc : ∀ s' : Int32 × oM, q' = .inl s' → oRun G M_X8_copy 2 [(0, .ref p0), (1, .ref p1), (2, .int s'.1)] [] s'.2 r m' := by
      rintro s' rfl
      exact ih (s'.1) (s'.2) b h he
    have hx : ∀ b' : oM, q' = .inr b' → oRun G M_X8_copy 26 [] [] b' r m' := by
      rintro b' rfl
      have h : b' = b := h
      rw [h]
      exact he
    clear h he ih
    have h := hq'
    clear hq'
    replace h : F_X8_copy_L2 p0 p1 x2 m = some q' := h
    unfold F_X8_copy_L2 at h
    refine oRun.iload_n 3 dX8_copy_2 2 rfl rfl rfl ?_
    refine oRun.aload_n 4 dX8_copy_3 0 rfl rfl (oIA_lt hp0) rfl ?_
    refine oRun.aleni 5 dX8_copy_4 hp0 rfl ?_
    by_cases c5 : (Int32.ofNat (oLn p0)) ≤ x2
    · replace h := oIp c5 h
      refine oRun.icmp_ge_t 26 dX8_copy_5 c5 rfl ?_
      cases h
      refine oRun.sub [] rfl ?_
      exact hx _ rfl
    · replace h := oIn c5 h
      refine oRun.icmp_ge_f 8 dX8_copy_5 rfl c5 rfl ?_
      refine oRun.iload_n 9 dX8_copy_8 2 rfl rfl rfl ?_
      refine oRun.aload_n 10 dX8_copy_9 1 rfl rfl (oWA_lt hp1) rfl ?_
      refine oRun.aleni 11 dX8_copy_10 (Or.inr hp1) rfl ?_
      by_cases c11 : (Int32.ofNat (oLn p1)) ≤ x2
      · replace h := oIp c11 h
        refine oRun.icmp_ge_t 26 dX8_copy_11 c11 rfl ?_
        cases h
        refine oRun.sub [] rfl ?_
        exact hx _ rfl
      · replace h := oIn c11 h
        refine oRun.icmp_ge_f 14 dX8_copy_11 rfl c11 rfl ?_
        refine oRun.aload_n 15 dX8_copy_14 1 rfl rfl (oWA_lt hp1) rfl ?_
        refine oRun.iload_n 16 dX8_copy_15 2 rfl rfl rfl ?_
        refine oRun.aload_n 17 dX8_copy_16 0 rfl rfl (oIA_lt hp0) rfl ?_
        refine oRun.iload_n 18 dX8_copy_17 2 rfl rfl rfl ?_
        obtain ⟨v18, hv18, h⟩ := oB1 h
        refine oRun.iaload 19 dX8_copy_18 hp0 hv18 rfl ?_
        obtain ⟨m19, hm19, h⟩ := oB1 h
        refine oRun.iastore 20 dX8_copy_19 (hp1).choose_spec hm19 rfl ?_
        refine oRun.iinc 23 dX8_copy_20 2 rfl (oAddC oc_i1) (Nat.le_of_ble_eq_true rfl) rfl rfl ?_
        refine oRun.goto 2 dX8_copy_23 rfl ?_
        cases h
        refine oRun.sub [1, 2, 0] rfl ?_
        exact hc _ rfl
set_option maxRecDepth 100000 in
set_option maxHeartbeats 4000000 in
theorem E_X8_copy {G : oG} {p0 : Nat} {p1 : Nat} (hp0 : oIA p0) (hp1 : oWA p1) {m : oM} {w : oM} (h : F_X8_copy p0 p1 m = some w) : oEv G M_X8_copy [.ref p0, .ref p1] m none w := by
  unfold F_X8_copy at h
  refine ⟨?_, ?_⟩
  · show oRun G M_X8_copy 0 [(0, .ref p0), (1, .ref p1)] [] m none w
    refine oRun.iconst 1 dX8_copy_0 oc_i0 rfl ?_
    refine oRun.istore_n 2 dX8_copy_1 rfl (Nat.le_of_ble_eq_true rfl) rfl rfl ?_
    obtain ⟨b2, hb2, h⟩ := oB1 h
    refine oRun.sub [1, 2, 0] rfl ?_
    refine E_X8_copy_L2 hp0 hp1 _ _ _ _ hb2 ?_
    rw [← Option.some.inj h]
    exact oRun.ret (r := none) dX8_copy_26
  · exact True.intro
set_option maxRecDepth 100000 in
set_option maxHeartbeats 4000000 in
theorem E_X2_copyFrom {G : oG} {o : Nat} {q : Nat} (ho : oPb o = true) (hq : oPb q = true) {m : oM} {w : oM} (h : F_X2_copyFrom o q m = some w) : oEv G M_X2_copyFrom [.ref o, .ref q] m none w := by
  unfold F_X2_copyFrom at h
  refine ⟨?_, ?_⟩
  · show oRun G M_X2_copyFrom 0 [(0, .ref o), (1, .ref q)] [] m none w
    refine oRun.aload_n 1 dX2_copyFrom_0 0 rfl rfl (oLt66 (oP_lt ho)) rfl ?_
    refine oRun.aload_n 2 dX2_copyFrom_1 1 rfl rfl (oLt66 (oP_lt hq)) rfl ?_
    refine oRun.getI 5 dX2_copyFrom_2 fd_RX2_9 (oP_sh hq) rfl rfl ?_
    obtain ⟨m5, hm5, h⟩ := oB1 h
    refine oRun.putI 8 dX2_copyFrom_5 fp_RX2_9 (oP_sh ho) rfl rfl ?_
    refine oRun.nameM hm5 ?_
    refine oRun.aload_n 9 dX2_copyFrom_8 1 rfl rfl (oLt66 (oP_lt hq)) rfl ?_
    refine oRun.getR 12 dX2_copyFrom_9 fd_RX2_15 (oP_sh hq) rfl (oP_l1 hq) rfl ?_
    refine oRun.aload_n 13 dX2_copyFrom_12 0 rfl rfl (oLt66 (oP_lt ho)) rfl ?_
    refine oRun.getR 16 dX2_copyFrom_13 fd_RX2_15 (oP_sh ho) rfl (oP_l1 ho) rfl ?_
    obtain ⟨r16, hr16, h⟩ := oB1 h
    refine oRun.callN (as := [.ref (q + 1), .ref (o + 1)]) 19 dX2_copyFrom_16 lk_RX2_28 (oFit_i (Nat.le_of_ble_eq_true rfl) (Nat.le_of_ble_eq_true rfl)) rfl (Nat.le_of_ble_eq_true rfl) (Nat.le_of_ble_eq_true rfl) rfl (E_X8_copy (Or.inr ⟨_, (oP_a1 hq)⟩) (oWA_i (oP_a1 ho)) hr16) rfl ?_
    show oRun G _ 19 _ [] _ _ _
    refine oRun.aload_n 20 dX2_copyFrom_19 1 rfl rfl (oLt66 (oP_lt hq)) rfl ?_
    refine oRun.getR 23 dX2_copyFrom_20 fd_RX2_19 (oP_sh hq) rfl (oP_l2 hq) rfl ?_
    refine oRun.aload_n 24 dX2_copyFrom_23 0 rfl rfl (oLt66 (oP_lt ho)) rfl ?_
    refine oRun.getR 27 dX2_copyFrom_24 fd_RX2_19 (oP_sh ho) rfl (oP_l2 ho) rfl ?_
    obtain ⟨r27, hr27, h⟩ := oB1 h
    refine oRun.callN (as := [.ref (q + 2), .ref (o + 2)]) 30 dX2_copyFrom_27 lk_RX2_28 (oFit_i (Nat.le_of_ble_eq_true rfl) (Nat.le_of_ble_eq_true rfl)) rfl (Nat.le_of_ble_eq_true rfl) (Nat.le_of_ble_eq_true rfl) rfl (E_X8_copy (Or.inr ⟨_, (oP_a2 hq)⟩) (oWA_i (oP_a2 ho)) hr27) rfl ?_
    show oRun G _ 30 _ [] _ _ _
    refine oRun.aload_n 31 dX2_copyFrom_30 1 rfl rfl (oLt66 (oP_lt hq)) rfl ?_
    refine oRun.getR 34 dX2_copyFrom_31 fd_RX2_22 (oP_sh hq) rfl (oP_l3 hq) rfl ?_
    refine oRun.aload_n 35 dX2_copyFrom_34 0 rfl rfl (oLt66 (oP_lt ho)) rfl ?_
    refine oRun.getR 38 dX2_copyFrom_35 fd_RX2_22 (oP_sh ho) rfl (oP_l3 ho) rfl ?_
    obtain ⟨r38, hr38, h⟩ := oB1 h
    refine oRun.callN (as := [.ref (q + 3), .ref (o + 3)]) 41 dX2_copyFrom_38 lk_RX2_28 (oFit_i (Nat.le_of_ble_eq_true rfl) (Nat.le_of_ble_eq_true rfl)) rfl (Nat.le_of_ble_eq_true rfl) (Nat.le_of_ble_eq_true rfl) rfl (E_X8_copy (Or.inr ⟨_, (oP_a3 hq)⟩) (oWA_i (oP_a3 ho)) hr38) rfl ?_
    show oRun G _ 41 _ [] _ _ _
    refine oRun.aload_n 42 dX2_copyFrom_41 1 rfl rfl (oLt66 (oP_lt hq)) rfl ?_
    refine oRun.getR 45 dX2_copyFrom_42 fd_RX2_25 (oP_sh hq) rfl (oP_l4 hq) rfl ?_
    refine oRun.aload_n 46 dX2_copyFrom_45 0 rfl rfl (oLt66 (oP_lt ho)) rfl ?_
    refine oRun.getR 49 dX2_copyFrom_46 fd_RX2_25 (oP_sh ho) rfl (oP_l4 ho) rfl ?_
    obtain ⟨r49, hr49, h⟩ := oB1 h
    refine oRun.callN (as := [.ref (q + 4), .ref (o + 4)]) 52 dX2_copyFrom_49 lk_RX2_28 (oFit_i (Nat.le_of_ble_eq_true rfl) (Nat.le_of_ble_eq_true rfl)) rfl (Nat.le_of_ble_eq_true rfl) (Nat.le_of_ble_eq_true rfl) rfl (E_X8_copy (Or.inr ⟨_, (oP_a4 hq)⟩) (oWA_i (oP_a4 ho)) hr49) rfl ?_
    show oRun G _ 52 _ [] _ _ _
    rw [← Option.some.inj h]
    exact oRun.ret (r := none) dX2_copyFrom_52
  · exact True.intro
set_option maxRecDepth 100000 in
set_option maxHeartbeats 4000000 in
theorem E_X7_copyFrom {G : oG} {o : Nat} {q : Nat} (ho : oTb o = true) (hq : oTb q = true) {m : oM} {w : oM} (h : F_X7_copyFrom o q m = some w) : oEv G M_X7_copyFrom [.ref o, .ref q] m none w := by
  unfold F_X7_copyFrom at h
  refine ⟨?_, ?_⟩
  · show oRun G M_X7_copyFrom 0 [(0, .ref o), (1, .ref q)] [] m none w
    refine oRun.aload_n 1 dX7_copyFrom_0 1 rfl rfl (oLt66 (oT_lt hq)) rfl ?_
    refine oRun.getR 4 dX7_copyFrom_1 fd_RX7_9 (oT_sh hq) rfl (oT_l1 hq) rfl ?_
    refine oRun.aload_n 5 dX7_copyFrom_4 0 rfl rfl (oLt66 (oT_lt ho)) rfl ?_
    refine oRun.getR 8 dX7_copyFrom_5 fd_RX7_9 (oT_sh ho) rfl (oT_l1 ho) rfl ?_
    obtain ⟨r8, hr8, h⟩ := oB1 h
    refine oRun.callN (as := [.ref (q + 1), .ref (o + 1)]) 11 dX7_copyFrom_8 lk_RX7_18 (oFit_i (Nat.le_of_ble_eq_true rfl) (Nat.le_of_ble_eq_true rfl)) rfl (Nat.le_of_ble_eq_true rfl) (Nat.le_of_ble_eq_true rfl) rfl (E_X8_copy (Or.inr ⟨_, (oT_a1 hq)⟩) (oWA_i (oT_a1 ho)) hr8) rfl ?_
    show oRun G _ 11 _ [] _ _ _
    refine oRun.aload_n 12 dX7_copyFrom_11 1 rfl rfl (oLt66 (oT_lt hq)) rfl ?_
    refine oRun.getR 15 dX7_copyFrom_12 fd_RX7_15 (oT_sh hq) rfl (oT_l2 hq) rfl ?_
    refine oRun.aload_n 16 dX7_copyFrom_15 0 rfl rfl (oLt66 (oT_lt ho)) rfl ?_
    refine oRun.getR 19 dX7_copyFrom_16 fd_RX7_15 (oT_sh ho) rfl (oT_l2 ho) rfl ?_
    obtain ⟨r19, hr19, h⟩ := oB1 h
    refine oRun.callN (as := [.ref (q + 2), .ref (o + 2)]) 22 dX7_copyFrom_19 lk_RX7_18 (oFit_i (Nat.le_of_ble_eq_true rfl) (Nat.le_of_ble_eq_true rfl)) rfl (Nat.le_of_ble_eq_true rfl) (Nat.le_of_ble_eq_true rfl) rfl (E_X8_copy (Or.inr ⟨_, (oT_a2 hq)⟩) (oWA_i (oT_a2 ho)) hr19) rfl ?_
    show oRun G _ 22 _ [] _ _ _
    rw [← Option.some.inj h]
    exact oRun.ret (r := none) dX7_copyFrom_22
  · exact True.intro
set_option maxRecDepth 100000 in
set_option maxHeartbeats 4000000 in
theorem E_X3_copyFrom {G : oG} {o : Nat} {q : Nat} (ho : oNb o = true) (hq : oNb q = true) {m : oM} {w : oM} (h : F_X3_copyFrom o q m = some w) : oEv G M_X3_copyFrom [.ref o, .ref q] m none w := by
  unfold F_X3_copyFrom at h
  refine ⟨?_, ?_⟩
  · show oRun G M_X3_copyFrom 0 [(0, .ref o), (1, .ref q)] [] m none w
    refine oRun.aload_n 1 dX3_copyFrom_0 0 rfl rfl (oLt66 (oN_lt ho)) rfl ?_
    refine oRun.aload_n 2 dX3_copyFrom_1 1 rfl rfl (oLt66 (oN_lt hq)) rfl ?_
    refine oRun.getI 5 dX3_copyFrom_2 fd_RX3_9 (oN_sh hq) rfl rfl ?_
    obtain ⟨m5, hm5, h⟩ := oB1 h
    refine oRun.putI 8 dX3_copyFrom_5 fp_RX3_9 (oN_sh ho) rfl rfl ?_
    refine oRun.nameM hm5 ?_
    refine oRun.aload_n 9 dX3_copyFrom_8 1 rfl rfl (oLt66 (oN_lt hq)) rfl ?_
    refine oRun.getR 12 dX3_copyFrom_9 fd_RX3_15 (oN_sh hq) rfl (oN_l1 hq) rfl ?_
    refine oRun.aload_n 13 dX3_copyFrom_12 0 rfl rfl (oLt66 (oN_lt ho)) rfl ?_
    refine oRun.getR 16 dX3_copyFrom_13 fd_RX3_15 (oN_sh ho) rfl (oN_l1 ho) rfl ?_
    obtain ⟨r16, hr16, h⟩ := oB1 h
    refine oRun.callN (as := [.ref (q + 1), .ref (o + 1)]) 19 dX3_copyFrom_16 lk_RX3_22 (oFit_i (Nat.le_of_ble_eq_true rfl) (Nat.le_of_ble_eq_true rfl)) rfl (Nat.le_of_ble_eq_true rfl) (Nat.le_of_ble_eq_true rfl) rfl (E_X8_copy (Or.inr ⟨_, (oN_a1 hq)⟩) (oWA_i (oN_a1 ho)) hr16) rfl ?_
    show oRun G _ 19 _ [] _ _ _
    refine oRun.aload_n 20 dX3_copyFrom_19 1 rfl rfl (oLt66 (oN_lt hq)) rfl ?_
    refine oRun.getR 23 dX3_copyFrom_20 fd_RX3_19 (oN_sh hq) rfl (oN_l2 hq) rfl ?_
    refine oRun.aload_n 24 dX3_copyFrom_23 0 rfl rfl (oLt66 (oN_lt ho)) rfl ?_
    refine oRun.getR 27 dX3_copyFrom_24 fd_RX3_19 (oN_sh ho) rfl (oN_l2 ho) rfl ?_
    obtain ⟨r27, hr27, h⟩ := oB1 h
    refine oRun.callN (as := [.ref (q + 2), .ref (o + 2)]) 30 dX3_copyFrom_27 lk_RX3_22 (oFit_i (Nat.le_of_ble_eq_true rfl) (Nat.le_of_ble_eq_true rfl)) rfl (Nat.le_of_ble_eq_true rfl) (Nat.le_of_ble_eq_true rfl) rfl (E_X8_copy (Or.inr ⟨_, (oN_a2 hq)⟩) (oWA_i (oN_a2 ho)) hr27) rfl ?_
    show oRun G _ 30 _ [] _ _ _
    rw [← Option.some.inj h]
    exact oRun.ret (r := none) dX3_copyFrom_30
  · exact True.intro
set_option maxRecDepth 100000 in
set_option maxHeartbeats 4000000 in
theorem E_X1_copyFrom {G : oG} {o : Nat} {q : Nat} (ho : oOb o = true) (hq : oOb q = true) {m : oM} {w : oM} (h : F_X1_copyFrom o q m = some w) : oEv G M_X1_copyFrom [.ref o, .ref q] m none w := by
  unfold F_X1_copyFrom at h
  refine ⟨?_, ?_⟩
  · show oRun G M_X1_copyFrom 0 [(0, .ref o), (1, .ref q)] [] m none w
    refine oRun.aload_n 1 dX1_copyFrom_0 0 rfl rfl (oLt66 (oO_lt ho)) rfl ?_
    refine oRun.aload_n 2 dX1_copyFrom_1 1 rfl rfl (oLt66 (oO_lt hq)) rfl ?_
    refine oRun.getI 5 dX1_copyFrom_2 fd_RX1_9 (oO_sh hq) rfl rfl ?_
    obtain ⟨m5, hm5, h⟩ := oB1 h
    refine oRun.putI 8 dX1_copyFrom_5 fp_RX1_9 (oO_sh ho) rfl rfl ?_
    refine oRun.nameM hm5 ?_
    refine oRun.aload_n 9 dX1_copyFrom_8 1 rfl rfl (oLt66 (oO_lt hq)) rfl ?_
    refine oRun.getR 12 dX1_copyFrom_9 fd_RX1_15 (oO_sh hq) rfl (oO_l1 hq) rfl ?_
    refine oRun.aload_n 13 dX1_copyFrom_12 0 rfl rfl (oLt66 (oO_lt ho)) rfl ?_
    refine oRun.getR 16 dX1_copyFrom_13 fd_RX1_15 (oO_sh ho) rfl (oO_l1 ho) rfl ?_
    obtain ⟨r16, hr16, h⟩ := oB1 h
    refine oRun.callN (as := [.ref (q + 1), .ref (o + 1)]) 19 dX1_copyFrom_16 lk_RX1_56 (oFit_i (Nat.le_of_ble_eq_true rfl) (Nat.le_of_ble_eq_true rfl)) rfl (Nat.le_of_ble_eq_true rfl) (Nat.le_of_ble_eq_true rfl) rfl (E_X8_copy (Or.inr ⟨_, (oO_a1 hq)⟩) (oWA_i (oO_a1 ho)) hr16) rfl ?_
    show oRun G _ 19 _ [] _ _ _
    refine oRun.aload_n 20 dX1_copyFrom_19 1 rfl rfl (oLt66 (oO_lt hq)) rfl ?_
    refine oRun.getR 23 dX1_copyFrom_20 fd_RX1_19 (oO_sh hq) rfl (oO_l2 hq) rfl ?_
    refine oRun.aload_n 24 dX1_copyFrom_23 0 rfl rfl (oLt66 (oO_lt ho)) rfl ?_
    refine oRun.getR 27 dX1_copyFrom_24 fd_RX1_19 (oO_sh ho) rfl (oO_l2 ho) rfl ?_
    obtain ⟨r27, hr27, h⟩ := oB1 h
    refine oRun.callN (as := [.ref (q + 2), .ref (o + 2)]) 30 dX1_copyFrom_27 lk_RX1_56 (oFit_i (Nat.le_of_ble_eq_true rfl) (Nat.le_of_ble_eq_true rfl)) rfl (Nat.le_of_ble_eq_true rfl) (Nat.le_of_ble_eq_true rfl) rfl (E_X8_copy (Or.inr ⟨_, (oO_a2 hq)⟩) (oWA_i (oO_a2 ho)) hr27) rfl ?_
    show oRun G _ 30 _ [] _ _ _
    refine oRun.aload_n 31 dX1_copyFrom_30 0 rfl rfl (oLt66 (oO_lt ho)) rfl ?_
    refine oRun.aload_n 32 dX1_copyFrom_31 1 rfl rfl (oLt66 (oO_lt hq)) rfl ?_
    refine oRun.getI 35 dX1_copyFrom_32 fd_RX1_22 (oO_sh hq) rfl rfl ?_
    obtain ⟨m35, hm35, h⟩ := oB1 h
    refine oRun.putI 38 dX1_copyFrom_35 fp_RX1_22 (oO_sh ho) rfl rfl ?_
    refine oRun.nameM hm35 ?_
    refine oRun.aload_n 39 dX1_copyFrom_38 0 rfl rfl (oLt66 (oO_lt ho)) rfl ?_
    refine oRun.aload_n 40 dX1_copyFrom_39 1 rfl rfl (oLt66 (oO_lt hq)) rfl ?_
    refine oRun.getI 43 dX1_copyFrom_40 fd_RX1_25 (oO_sh hq) rfl rfl ?_
    obtain ⟨m43, hm43, h⟩ := oB1 h
    refine oRun.putI 46 dX1_copyFrom_43 fp_RX1_25 (oO_sh ho) rfl rfl ?_
    refine oRun.nameM hm43 ?_
    refine oRun.aload_n 47 dX1_copyFrom_46 0 rfl rfl (oLt66 (oO_lt ho)) rfl ?_
    refine oRun.getR 50 dX1_copyFrom_47 fd_RX1_31 (oO_sh ho) rfl (oO_l3 ho) rfl ?_
    refine oRun.aload_n 51 dX1_copyFrom_50 1 rfl rfl (oLt66 (oO_lt hq)) rfl ?_
    refine oRun.getR 54 dX1_copyFrom_51 fd_RX1_31 (oO_sh hq) rfl (oO_l3 hq) rfl ?_
    obtain ⟨r54, hr54, h⟩ := oB1 h
    refine oRun.callV (as := [.ref (q + 3)]) 57 dX1_copyFrom_54 lk_RX1_60 (oFit_i (Nat.le_of_ble_eq_true rfl) (Nat.le_of_ble_eq_true rfl)) (oP_sh (oO_P ho)) rfl rfl rfl (Nat.le_of_ble_eq_true rfl) (Nat.le_of_ble_eq_true rfl) rfl (E_X2_copyFrom (oO_P ho) (oO_P hq) hr54) rfl ?_
    show oRun G _ 57 _ [] _ _ _
    refine oRun.aload_n 58 dX1_copyFrom_57 0 rfl rfl (oLt66 (oO_lt ho)) rfl ?_
    refine oRun.getR 61 dX1_copyFrom_58 fd_RX1_38 (oO_sh ho) rfl (oO_l8 ho) rfl ?_
    refine oRun.aload_n 62 dX1_copyFrom_61 1 rfl rfl (oLt66 (oO_lt hq)) rfl ?_
    refine oRun.getR 65 dX1_copyFrom_62 fd_RX1_38 (oO_sh hq) rfl (oO_l8 hq) rfl ?_
    obtain ⟨r65, hr65, h⟩ := oB1 h
    refine oRun.callV (as := [.ref (q + 8)]) 68 dX1_copyFrom_65 lk_RX1_64 (oFit_i (Nat.le_of_ble_eq_true rfl) (Nat.le_of_ble_eq_true rfl)) (oT_sh (oO_T ho)) rfl rfl rfl (Nat.le_of_ble_eq_true rfl) (Nat.le_of_ble_eq_true rfl) rfl (E_X7_copyFrom (oO_T ho) (oO_T hq) hr65) rfl ?_
    show oRun G _ 68 _ [] _ _ _
    refine oRun.aload_n 69 dX1_copyFrom_68 0 rfl rfl (oLt66 (oO_lt ho)) rfl ?_
    refine oRun.aload_n 70 dX1_copyFrom_69 1 rfl rfl (oLt66 (oO_lt hq)) rfl ?_
    refine oRun.getI 73 dX1_copyFrom_70 fd_RX1_42 (oO_sh hq) rfl rfl ?_
    obtain ⟨m73, hm73, h⟩ := oB1 h
    refine oRun.putI 76 dX1_copyFrom_73 fp_RX1_42 (oO_sh ho) rfl rfl ?_
    refine oRun.nameM hm73 ?_
    refine oRun.aload_n 77 dX1_copyFrom_76 0 rfl rfl (oLt66 (oO_lt ho)) rfl ?_
    refine oRun.aload_n 78 dX1_copyFrom_77 1 rfl rfl (oLt66 (oO_lt hq)) rfl ?_
    refine oRun.getI 81 dX1_copyFrom_78 fd_RX1_45 (oO_sh hq) rfl rfl ?_
    obtain ⟨m81, hm81, h⟩ := oB1 h
    obtain ⟨hz81, hm81⟩ := oPZ_ok hm81
    refine oRun.putZ 84 dX1_copyFrom_81 fp_RX1_45 (oO_sh ho) rfl hz81 rfl ?_
    refine oRun.nameM hm81 ?_
    refine oRun.aload_n 85 dX1_copyFrom_84 0 rfl rfl (oLt66 (oO_lt ho)) rfl ?_
    refine oRun.getR 88 dX1_copyFrom_85 fd_RX1_52 (oO_sh ho) rfl (oO_l11 ho) rfl ?_
    refine oRun.aload_n 89 dX1_copyFrom_88 1 rfl rfl (oLt66 (oO_lt hq)) rfl ?_
    refine oRun.getR 92 dX1_copyFrom_89 fd_RX1_52 (oO_sh hq) rfl (oO_l11 hq) rfl ?_
    obtain ⟨r92, hr92, h⟩ := oB1 h
    refine oRun.callV (as := [.ref (q + 11)]) 95 dX1_copyFrom_92 lk_RX1_67 (oFit_i (Nat.le_of_ble_eq_true rfl) (Nat.le_of_ble_eq_true rfl)) (oN_sh (oO_N ho)) rfl rfl rfl (Nat.le_of_ble_eq_true rfl) (Nat.le_of_ble_eq_true rfl) rfl (E_X3_copyFrom (oO_N ho) (oO_N hq) hr92) rfl ?_
    show oRun G _ 95 _ [] _ _ _
    rw [← Option.some.inj h]
    exact oRun.ret (r := none) dX1_copyFrom_95
  · exact True.intro
set_option maxRecDepth 100000 in
set_option maxHeartbeats 4000000 in
theorem E_X8_placeBy {G : oG} {m : oM} {x0 : Int32} {x1 : Int32} {w : Int32} (h : F_X8_placeBy m x0 x1 = some w) : oEv G M_X8_placeBy [.int x0, .int x1] m (some (.int w)) m := by
  unfold F_X8_placeBy at h
  refine ⟨?_, ?_⟩
  · show oRun G M_X8_placeBy 0 [(0, .int x0), (1, .int x1)] [] m (some (.int w)) m
    refine oRun.gets62 3 dX8_placeBy_0 wd_3_62 rfl ?_
    refine oRun.iload_n 4 dX8_placeBy_3 0 rfl rfl rfl ?_
    refine oRun.iconst 5 dX8_placeBy_4 oc_i3 rfl ?_
    refine oRun.imul 6 dX8_placeBy_5 rfl ?_
    refine oRun.iload_n 7 dX8_placeBy_6 1 rfl rfl rfl ?_
    refine oRun.iadd 8 dX8_placeBy_7 rfl ?_
    obtain ⟨r8, hr8, h⟩ := oB1 h
    refine oRun.callS (as := [.ref 62, .int ((x0 * 3) + x1)]) 11 dX8_placeBy_8 lk_RX8_76 (oFit_i (Nat.le_of_ble_eq_true rfl) (Nat.le_of_ble_eq_true rfl)) rfl (Nat.le_of_ble_eq_true rfl) (Nat.le_of_ble_eq_true rfl) rfl (E_X8_at (Or.inl rfl) hr8) rfl ?_
    show oRun G _ 11 _ [.int r8] _ _ _
    rw [← Option.some.inj h]
    exact oRun.ret (r := some (.int r8)) dX8_placeBy_11
  · exact True.intro
set_option maxRecDepth 100000 in
set_option maxHeartbeats 4000000 in
theorem E_J9_max_7cf53 {G : oG} {m : oM} {x0 : Int32} {x1 : Int32} {w : Int32} (h : F_J9_max_7cf53 x0 x1 = some w) : oEv G M_J9_max_7cf53 [.int x0, .int x1] m (some (.int w)) m := by
  unfold F_J9_max_7cf53 at h
  refine ⟨?_, ?_⟩
  · show oRun G M_J9_max_7cf53 0 [(0, .int x0), (1, .int x1)] [] m (some (.int w)) m
    refine oRun.iload_n 1 dJ9_max_7cf53_0 0 rfl rfl rfl ?_
    refine oRun.iload_n 2 dJ9_max_7cf53_1 1 rfl rfl rfl ?_
    by_cases c2 : x0 < x1
    · replace h := oIp c2 h
      refine oRun.icmp_lt_t 9 dJ9_max_7cf53_2 c2 rfl ?_
      refine oRun.iload_n 10 dJ9_max_7cf53_9 1 rfl rfl rfl ?_
      rw [← Option.some.inj h]
      exact oRun.ret (r := some (.int x1)) dJ9_max_7cf53_10
    · replace h := oIn c2 h
      refine oRun.icmp_lt_f 5 dJ9_max_7cf53_2 rfl c2 rfl ?_
      refine oRun.iload_n 6 dJ9_max_7cf53_5 0 rfl rfl rfl ?_
      refine oRun.goto 10 dJ9_max_7cf53_6 rfl ?_
      rw [← Option.some.inj h]
      exact oRun.ret (r := some (.int x0)) dJ9_max_7cf53_10
  · exact True.intro
set_option maxRecDepth 100000 in
set_option maxHeartbeats 4000000 in
theorem E_X7_wheels_L15 {G : oG} {o : Nat} (ho : oTb o = true) {m : oM} {x1 : Int32} {x2 : Int32} {r : Option Value} {m' : oM} : ∀ (n : Nat) (x3 : Int32) (x4 : Int32) (b : Int32), oLoop (fun s : Int32 × Int32 => F_X7_wheels_L15 o m x1 x2 s.1 s.2) n (x3, x4) = some b → oRun G M_X7_wheels 39 [(0, .ref o), (1, .int x1), (2, .int x2), (3, .int b)] [] m r m' → oRun G M_X7_wheels 15 [(0, .ref o), (1, .int x1), (2, .int x2), (3, .int x3), (4, .int x4)] [] m r m' := by
  intro n
  induction n with
  | zero => intro x3 x4 b h _; exact (oLoop_zero h).elim
  | succ n ih =>
    intro x3 x4 b h he
    obtain ⟨q', hq', h⟩ := oLoop_succ h
    have hc : ∀ s' : Int32 × Int32, q' = .inl s' → oRun G M_X7_wheels 15 [(0, .ref o), (1, .int x1), (2, .int x2), (3, .int s'.1), (4, .int s'.2)] [] m r m' := by
      rintro s' rfl
      exact ih (s'.1) (s'.2) b h he
    have hx : ∀ b' : Int32, q' = .inr b' → oRun G M_X7_wheels 39 [(0, .ref o), (1, .int x1), (2, .int x2), (3, .int b')] [] m r m' := by
      rintro b' rfl
      have h : b' = b := h
      rw [h]
      exact he
    clear h he ih
    have h := hq'
    clear hq'
    replace h : F_X7_wheels_L15 o m x1 x2 x3 x4 = some q' := h
    unfold F_X7_wheels_L15 at h
    refine oRun.iload 17 dX7_wheels_15 4 rfl rfl ?_
    refine oRun.iload_n 18 dX7_wheels_17 2 rfl rfl rfl ?_
    by_cases c18 : x2 ≤ x4
    · replace h := oIp c18 h
      refine oRun.icmp_ge_t 39 dX7_wheels_18 c18 rfl ?_
      cases h
      refine oRun.sub [0, 1, 2, 3] rfl ?_
      exact hx _ rfl
    · replace h := oIn c18 h
      refine oRun.icmp_ge_f 21 dX7_wheels_18 rfl c18 rfl ?_
      refine oRun.iload_n 22 dX7_wheels_21 3 rfl rfl rfl ?_
      refine oRun.aload_n 23 dX7_wheels_22 0 rfl rfl (oLt66 (oT_lt ho)) rfl ?_
      refine oRun.iload_n 24 dX7_wheels_23 2 rfl rfl rfl ?_
      refine oRun.iload 26 dX7_wheels_24 4 rfl rfl ?_
      obtain ⟨r26, hr26, h⟩ := oB1 h
      refine oRun.callV (as := [.int x2, .int x4]) 29 dX7_wheels_26 lk_RX7_47 (oFit_i (Nat.le_of_ble_eq_true rfl) (Nat.le_of_ble_eq_true rfl)) (oT_sh ho) rfl rfl rfl (Nat.le_of_ble_eq_true rfl) (Nat.le_of_ble_eq_true rfl) rfl (E_X7_shared ho hr26) rfl ?_
      show oRun G _ 29 _ [.int r26, .int x3] _ _ _
      obtain ⟨r29, hr29, h⟩ := oB1 h
      refine oRun.callS (as := [.int x3, .int r26]) 32 dX7_wheels_29 lk_RX7_50 (oFit_i (Nat.le_of_ble_eq_true rfl) (Nat.le_of_ble_eq_true rfl)) rfl (Nat.le_of_ble_eq_true rfl) (Nat.le_of_ble_eq_true rfl) rfl (E_J9_max_7cf53 hr29) rfl ?_
      show oRun G _ 32 _ [.int r29] _ _ _
      refine oRun.istore_n 33 dX7_wheels_32 rfl (Nat.le_of_ble_eq_true rfl) rfl rfl ?_
      refine oRun.iinc 36 dX7_wheels_33 4 rfl (oAddC oc_i1) (Nat.le_of_ble_eq_true rfl) rfl rfl ?_
      refine oRun.goto 15 dX7_wheels_36 rfl ?_
      cases h
      refine oRun.sub [2, 3, 4, 1, 0] rfl ?_
      exact hc _ rfl
set_option maxRecDepth 100000 in
set_option maxHeartbeats 4000000 in
theorem E_X7_wheels_L4 {G : oG} {o : Nat} (ho : oTb o = true) {m : oM} {r : Option Value} {m' : oM} : ∀ (n : Nat) (x1 : Int32) (x2 : Int32) (b : Int32), oLoop (fun s : Int32 × Int32 => F_X7_wheels_L4 o m s.1 s.2) n (x1, x2) = some b → oRun G M_X7_wheels 57 [(1, .int b)] [] m r m' → oRun G M_X7_wheels 4 [(0, .ref o), (1, .int x1), (2, .int x2)] [] m r m' := by
  intro n
  induction n with
  | zero => intro x1 x2 b h _; exact (oLoop_zero h).elim
  | succ n ih =>
    intro x1 x2 b h he
    obtain ⟨q', hq', h⟩ := oLoop_succ h
    have hc : ∀ s' : Int32 × Int32, q' = .inl s' → oRun G M_X7_wheels 4 [(0, .ref o), (1, .int s'.1), (2, .int s'.2)] [] m r m' := by
      rintro s' rfl
      exact ih (s'.1) (s'.2) b h he
    have hx : ∀ b' : Int32, q' = .inr b' → oRun G M_X7_wheels 57 [(1, .int b')] [] m r m' := by
      rintro b' rfl
      have h : b' = b := h
      rw [h]
      exact he
    clear h he ih
    have h := hq'
    clear hq'
    replace h : F_X7_wheels_L4 o m x1 x2 = some q' := h
    unfold F_X7_wheels_L4 at h
    refine oRun.iload_n 5 dX7_wheels_4 2 rfl rfl rfl ?_
    refine oRun.bipush 7 dX7_wheels_5 oc_b6 rfl ?_
    by_cases c7 : 6 ≤ x2
    · replace h := oIp c7 h
      refine oRun.icmp_ge_t 57 dX7_wheels_7 c7 rfl ?_
      cases h
      refine oRun.sub [1] rfl ?_
      exact hx _ rfl
    · replace h := oIn c7 h
      refine oRun.icmp_ge_f 10 dX7_wheels_7 rfl c7 rfl ?_
      refine oRun.iconst 11 dX7_wheels_10 oc_i0 rfl ?_
      refine oRun.istore_n 12 dX7_wheels_11 rfl (Nat.le_of_ble_eq_true rfl) rfl rfl ?_
      refine oRun.iconst 13 dX7_wheels_12 oc_i0 rfl ?_
      refine oRun.istore 15 dX7_wheels_13 (Nat.le_of_ble_eq_true rfl) rfl rfl ?_
      obtain ⟨b15, hb15, h⟩ := oB1 h
      refine oRun.sub [2, 3, 4, 1, 0] rfl ?_
      refine E_X7_wheels_L15 ho _ _ _ _ hb15 ?_
      refine oRun.iload_n 40 dX7_wheels_39 1 rfl rfl rfl ?_
      refine oRun.iconst 41 dX7_wheels_40 oc_i2 rfl ?_
      refine oRun.aload_n 42 dX7_wheels_41 0 rfl rfl (oLt66 (oT_lt ho)) rfl ?_
      refine oRun.iload_n 43 dX7_wheels_42 2 rfl rfl rfl ?_
      obtain ⟨r43, hr43, h⟩ := oB1 h
      refine oRun.callV (as := [.int x2]) 46 dX7_wheels_43 lk_RX7_30 (oFit_i (Nat.le_of_ble_eq_true rfl) (Nat.le_of_ble_eq_true rfl)) (oT_sh ho) rfl rfl rfl (Nat.le_of_ble_eq_true rfl) (Nat.le_of_ble_eq_true rfl) rfl (E_X7_length ho hr43) rfl ?_
      show oRun G _ 46 _ [.int r43, .int 2, .int x1] _ _ _
      refine oRun.iload_n 47 dX7_wheels_46 3 rfl rfl rfl ?_
      refine oRun.isub 48 dX7_wheels_47 rfl ?_
      refine oRun.imul 49 dX7_wheels_48 rfl ?_
      refine oRun.iadd 50 dX7_wheels_49 rfl ?_
      obtain ⟨x1_50, hx1_50, h⟩ := oB1 h
      refine oRun.nameI hx1_50 ?_
      refine oRun.istore_n 51 dX7_wheels_50 rfl (Nat.le_of_ble_eq_true rfl) rfl rfl ?_
      refine oRun.iinc 54 dX7_wheels_51 2 rfl (oAddC oc_i1) (Nat.le_of_ble_eq_true rfl) rfl rfl ?_
      refine oRun.goto 4 dX7_wheels_54 rfl ?_
      cases h
      refine oRun.sub [2, 1, 0] rfl ?_
      exact hc _ rfl
set_option maxRecDepth 100000 in
set_option maxHeartbeats 4000000 in
theorem E_X7_wheels {G : oG} {o : Nat} (ho : oTb o = true) {m : oM} {w : Int32} (h : F_X7_wheels o m = some w) : oEv G M_X7_wheels [.ref o] m (some (.int w)) m := by
  unfold F_X7_wheels at h
  refine ⟨?_, ?_⟩
  · show oRun G M_X7_wheels 0 [(0, .ref o)] [] m (some (.int w)) m
    refine oRun.iconst 1 dX7_wheels_0 oc_i0 rfl ?_
    refine oRun.istore_n 2 dX7_wheels_1 rfl (Nat.le_of_ble_eq_true rfl) rfl rfl ?_
    refine oRun.iconst 3 dX7_wheels_2 oc_i0 rfl ?_
    refine oRun.istore_n 4 dX7_wheels_3 rfl (Nat.le_of_ble_eq_true rfl) rfl rfl ?_
    obtain ⟨b4, hb4, h⟩ := oB1 h
    refine oRun.sub [2, 1, 0] rfl ?_
    refine E_X7_wheels_L4 ho _ _ _ _ hb4 ?_
    refine oRun.iload_n 58 dX7_wheels_57 0 rfl rfl rfl ?_
    rw [← Option.some.inj h]
    exact oRun.ret (r := some (.int b4)) dX7_wheels_58
  · exact True.intro
set_option maxRecDepth 100000 in
set_option maxHeartbeats 4000000 in
theorem E_X8_wheelsBy_L13 {G : oG} {x1 : Int32} {x2 : Int32} {r : Option Value} {m' : oM} : ∀ (n : Nat) (x3 : Int32) (m : oM) (b : oM), oLoop (fun s : Int32 × oM => F_X8_wheelsBy_L13 x1 x2 s.1 s.2) n (x3, m) = some b → oRun G M_X8_wheelsBy 62 [(0, .ref 0)] [] b r m' → oRun G M_X8_wheelsBy 13 [(0, .ref 0), (1, .int x1), (2, .int x2), (3, .int x3)] [] m r m' := by
  intro n
  induction n with
  | zero => intro x3 m b h _; exact (oLoop_zero h).elim
  | succ n ih =>
    intro x3 m b h he
    obtain ⟨q', hq', h⟩ := oLoop_succ h
    have hc : ∀ s' : Int32 × oM, q' = .inl s' → oRun G M_X8_wheelsBy 13 [(0, .ref 0), (1, .int x1), (2, .int x2), (3, .int s'.1)] [] s'.2 r m' := by
      rintro s' rfl
      exact ih (s'.1) (s'.2) b h he
    have hx : ∀ b' : oM, q' = .inr b' → oRun G M_X8_wheelsBy 62 [(0, .ref 0)] [] b' r m' := by
      rintro b' rfl
      have h : b' = b := h
      rw [h]
      exact he
    clear h he ih
    have h := hq'
    clear hq'
    replace h : F_X8_wheelsBy_L13 x1 x2 x3 m = some q' := h
    unfold F_X8_wheelsBy_L13 at h
    refine oRun.iload_n 14 dX8_wheelsBy_13 3 rfl rfl rfl ?_
    refine oRun.aload_n 15 dX8_wheelsBy_14 0 rfl rfl (Nat.le_of_ble_eq_true rfl) rfl ?_
    refine oRun.getR 18 dX8_wheelsBy_15 fd_RX8_12 rfl rfl (Nat.le_of_ble_eq_true rfl) rfl ?_
    refine oRun.getR 21 dX8_wheelsBy_18 fd_RX8_170 rfl rfl (Nat.le_of_ble_eq_true rfl) rfl ?_
    refine oRun.iload_n 22 dX8_wheelsBy_21 1 rfl rfl rfl ?_
    obtain ⟨r22, hr22, h⟩ := oB1 h
    refine oRun.callV (as := [.int x1]) 25 dX8_wheelsBy_22 lk_RX8_195 (oFit_i (Nat.le_of_ble_eq_true rfl) (Nat.le_of_ble_eq_true rfl)) rfl rfl rfl rfl (Nat.le_of_ble_eq_true rfl) (Nat.le_of_ble_eq_true rfl) rfl (E_X7_length rfl hr22) rfl ?_
    show oRun G _ 25 _ [.int r22, .int x3] _ _ _
    by_cases c25 : r22 ≤ x3
    · replace h := oIp c25 h
      refine oRun.icmp_ge_t 62 dX8_wheelsBy_25 c25 rfl ?_
      cases h
      refine oRun.sub [0] rfl ?_
      exact hx _ rfl
    · replace h := oIn c25 h
      refine oRun.icmp_ge_f 28 dX8_wheelsBy_25 rfl c25 rfl ?_
      refine oRun.aload_n 29 dX8_wheelsBy_28 0 rfl rfl (Nat.le_of_ble_eq_true rfl) rfl ?_
      refine oRun.getR 32 dX8_wheelsBy_29 fd_RX8_21 rfl rfl (Nat.le_of_ble_eq_true rfl) rfl ?_
      refine oRun.getR 35 dX8_wheelsBy_32 fd_RX8_170 rfl rfl (Nat.le_of_ble_eq_true rfl) rfl ?_
      refine oRun.iload_n 36 dX8_wheelsBy_35 1 rfl rfl rfl ?_
      refine oRun.iload_n 37 dX8_wheelsBy_36 3 rfl rfl rfl ?_
      refine oRun.aload_n 38 dX8_wheelsBy_37 0 rfl rfl (Nat.le_of_ble_eq_true rfl) rfl ?_
      refine oRun.getR 41 dX8_wheelsBy_38 fd_RX8_12 rfl rfl (Nat.le_of_ble_eq_true rfl) rfl ?_
      refine oRun.getR 44 dX8_wheelsBy_41 fd_RX8_170 rfl rfl (Nat.le_of_ble_eq_true rfl) rfl ?_
      refine oRun.iload_n 45 dX8_wheelsBy_44 1 rfl rfl rfl ?_
      refine oRun.iload_n 46 dX8_wheelsBy_45 2 rfl rfl rfl ?_
      refine oRun.iload_n 47 dX8_wheelsBy_46 3 rfl rfl rfl ?_
      obtain ⟨r47, hr47, h⟩ := oB1 h
      refine oRun.callS (as := [.int x2, .int x3]) 50 dX8_wheelsBy_47 lk_RX8_235 (oFit_i (Nat.le_of_ble_eq_true rfl) (Nat.le_of_ble_eq_true rfl)) rfl (Nat.le_of_ble_eq_true rfl) (Nat.le_of_ble_eq_true rfl) rfl (E_X8_placeBy hr47) rfl ?_
      show oRun G _ 50 _ [.int r47, .int x1, .ref 9, .int x3, .int x1, .ref 37] _ _ _
      obtain ⟨r50, hr50, h⟩ := oB1 h
      refine oRun.callV (as := [.int x1, .int r47]) 53 dX8_wheelsBy_50 lk_RX8_203 (oFit_i (Nat.le_of_ble_eq_true rfl) (Nat.le_of_ble_eq_true rfl)) rfl rfl rfl rfl (Nat.le_of_ble_eq_true rfl) (Nat.le_of_ble_eq_true rfl) rfl (E_X7_pairAt rfl hr50) rfl ?_
      show oRun G _ 53 _ [.int r50, .int x3, .int x1, .ref 37] _ _ _
      obtain ⟨r53, hr53, h⟩ := oB1 h
      refine oRun.callV (as := [.int x1, .int x3, .int r50]) 56 dX8_wheelsBy_53 lk_RX8_189 (oFit_i (Nat.le_of_ble_eq_true rfl) (Nat.le_of_ble_eq_true rfl)) rfl rfl rfl rfl (Nat.le_of_ble_eq_true rfl) (Nat.le_of_ble_eq_true rfl) rfl (E_X7_become rfl hr53) rfl ?_
      show oRun G _ 56 _ [] _ _ _
      refine oRun.iinc 59 dX8_wheelsBy_56 3 rfl (oAddC oc_i1) (Nat.le_of_ble_eq_true rfl) rfl rfl ?_
      refine oRun.goto 13 dX8_wheelsBy_59 rfl ?_
      cases h
      refine oRun.sub [1, 2, 3, 0] rfl ?_
      exact hc _ rfl
set_option maxRecDepth 100000 in
set_option maxHeartbeats 4000000 in
theorem E_X8_wheelsBy {G : oG} {m : oM} {x1 : Int32} {x2 : Int32} {w : Int32 × oM} (h : F_X8_wheelsBy m x1 x2 = some w) : oEv G M_X8_wheelsBy [.ref 0, .int x1, .int x2] m (some (.int w.1)) w.2 := by
  unfold F_X8_wheelsBy at h
  refine ⟨?_, ?_⟩
  · show oRun G M_X8_wheelsBy 0 [(0, .ref 0), (1, .int x1), (2, .int x2)] [] m (some (.int w.1)) w.2
    refine oRun.aload_n 1 dX8_wheelsBy_0 0 rfl rfl (Nat.le_of_ble_eq_true rfl) rfl ?_
    refine oRun.getR 4 dX8_wheelsBy_1 fd_RX8_21 rfl rfl (Nat.le_of_ble_eq_true rfl) rfl ?_
    refine oRun.aload_n 5 dX8_wheelsBy_4 0 rfl rfl (Nat.le_of_ble_eq_true rfl) rfl ?_
    refine oRun.getR 8 dX8_wheelsBy_5 fd_RX8_12 rfl rfl (Nat.le_of_ble_eq_true rfl) rfl ?_
    obtain ⟨r8, hr8, h⟩ := oB1 h
    refine oRun.callV (as := [.ref 1]) 11 dX8_wheelsBy_8 lk_RX8_282 (oFit_i (Nat.le_of_ble_eq_true rfl) (Nat.le_of_ble_eq_true rfl)) rfl rfl rfl rfl (Nat.le_of_ble_eq_true rfl) (Nat.le_of_ble_eq_true rfl) rfl (E_X1_copyFrom rfl rfl hr8) rfl ?_
    show oRun G _ 11 _ [] _ _ _
    refine oRun.iconst 12 dX8_wheelsBy_11 oc_i0 rfl ?_
    refine oRun.istore_n 13 dX8_wheelsBy_12 rfl (Nat.le_of_ble_eq_true rfl) rfl rfl ?_
    obtain ⟨b13, hb13, h⟩ := oB1 h
    refine oRun.sub [1, 2, 3, 0] rfl ?_
    refine E_X8_wheelsBy_L13 _ _ _ _ hb13 ?_
    refine oRun.aload_n 63 dX8_wheelsBy_62 0 rfl rfl (Nat.le_of_ble_eq_true rfl) rfl ?_
    refine oRun.getR 66 dX8_wheelsBy_63 fd_RX8_21 rfl rfl (Nat.le_of_ble_eq_true rfl) rfl ?_
    refine oRun.getR 69 dX8_wheelsBy_66 fd_RX8_170 rfl rfl (Nat.le_of_ble_eq_true rfl) rfl ?_
    obtain ⟨r69, hr69, h⟩ := oB1 h
    refine oRun.callV (as := []) 72 dX8_wheelsBy_69 lk_RX8_335 (oFit_i (Nat.le_of_ble_eq_true rfl) (Nat.le_of_ble_eq_true rfl)) rfl rfl rfl rfl (Nat.le_of_ble_eq_true rfl) (Nat.le_of_ble_eq_true rfl) rfl (E_X7_wheels rfl hr69) rfl ?_
    show oRun G _ 72 _ [.int r69] _ _ _
    rw [← Option.some.inj h]
    exact oRun.ret (r := some (.int r69)) dX8_wheelsBy_72
  · exact True.intro
set_option maxRecDepth 100000 in
set_option maxHeartbeats 4000000 in
theorem E_X8_isOrderOf_L2 {G : oG} {m : oM} {x0 : Int32} {x1 : Int32} {r : Option Value} {m' : oM} : ∀ (n : Nat) (x2 : Int32) (b : (Unit) ⊕ (Int32)), oLoop (fun s : Int32 => F_X8_isOrderOf_L2 m x0 x1 s) n x2 = some b → Sum.elim (fun yy => oRun G M_X8_isOrderOf 24 [] [] m r m') (fun zz => r = (some (.int zz)) ∧ m' = m) b → oRun G M_X8_isOrderOf 2 [(0, .int x0), (1, .int x1), (2, .int x2)] [] m r m' := by
  intro n
  induction n with
  | zero => intro x2 b h _; exact (oLoop_zero h).elim
  | succ n ih =>
    intro x2 b h he
    obtain ⟨q', hq', h⟩ := oLoop_succ h
    have hc : ∀ s' : Int32, q' = .inl s' → oRun G M_X8_isOrderOf 2 [(0, .int x0), (1, .int x1), (2, .int s')] [] m r m' := by
      rintro s' rfl
      exact ih (s') b h he
    have hx : ∀ b' : (Unit) ⊕ (Int32), q' = .inr b' → Sum.elim (fun yy => oRun G M_X8_isOrderOf 24 [] [] m r m') (fun zz => r = (some (.int zz)) ∧ m' = m) b' := by
      rintro b' rfl
      have h : b' = b := h
      rw [h]
      exact he
    clear h he ih
    have h := hq'
    clear hq'
    replace h : F_X8_isOrderOf_L2 m x0 x1 x2 = some q' := h
    unfold F_X8_isOrderOf_L2 at h
    refine oRun.iload_n 3 dX8_isOrderOf_2 2 rfl rfl rfl ?_
    refine oRun.iload_n 4 dX8_isOrderOf_3 1 rfl rfl rfl ?_
    by_cases c4 : x1 ≤ x2
    · replace h := oIp c4 h
      refine oRun.icmp_ge_t 24 dX8_isOrderOf_4 c4 rfl ?_
      cases h
      refine oRun.sub [] rfl ?_
      exact hx _ rfl
    · replace h := oIn c4 h
      refine oRun.icmp_ge_f 7 dX8_isOrderOf_4 rfl c4 rfl ?_
      refine oRun.iload_n 8 dX8_isOrderOf_7 0 rfl rfl rfl ?_
      refine oRun.iload_n 9 dX8_isOrderOf_8 2 rfl rfl rfl ?_
      obtain ⟨r9, hr9, h⟩ := oB1 h
      refine oRun.callS (as := [.int x0, .int x2]) 12 dX8_isOrderOf_9 lk_RX8_235 (oFit_i (Nat.le_of_ble_eq_true rfl) (Nat.le_of_ble_eq_true rfl)) rfl (Nat.le_of_ble_eq_true rfl) (Nat.le_of_ble_eq_true rfl) rfl (E_X8_placeBy hr9) rfl ?_
      show oRun G _ 12 _ [.int r9] _ _ _
      refine oRun.iload_n 13 dX8_isOrderOf_12 1 rfl rfl rfl ?_
      by_cases c13 : r9 < x1
      · replace h := oIp c13 h
        refine oRun.icmp_lt_t 18 dX8_isOrderOf_13 c13 rfl ?_
        refine oRun.iinc 21 dX8_isOrderOf_18 2 rfl (oAddC oc_i1) (Nat.le_of_ble_eq_true rfl) rfl rfl ?_
        refine oRun.goto 2 dX8_isOrderOf_21 rfl ?_
        cases h
        refine oRun.sub [1, 2, 0] rfl ?_
        exact hc _ rfl
      · replace h := oIn c13 h
        refine oRun.icmp_lt_f 16 dX8_isOrderOf_13 rfl c13 rfl ?_
        refine oRun.iconst 17 dX8_isOrderOf_16 oc_i0 rfl ?_
        cases h
        obtain ⟨hr1, hr2⟩ := hx _ rfl
        rw [hr1, hr2]
        exact oRun.ret (r := some (.int 0)) dX8_isOrderOf_17
set_option maxRecDepth 100000 in
set_option maxHeartbeats 4000000 in
theorem E_X8_isOrderOf {G : oG} {m : oM} {x0 : Int32} {x1 : Int32} {w : Int32} (h : F_X8_isOrderOf m x0 x1 = some w) : oEv G M_X8_isOrderOf [.int x0, .int x1] m (some (.int w)) m := by
  unfold F_X8_isOrderOf at h
  refine ⟨?_, ?_⟩
  · show oRun G M_X8_isOrderOf 0 [(0, .int x0), (1, .int x1)] [] m (some (.int w)) m
    refine oRun.iconst 1 dX8_isOrderOf_0 oc_i0 rfl ?_
    refine oRun.istore_n 2 dX8_isOrderOf_1 rfl (Nat.le_of_ble_eq_true rfl) rfl rfl ?_
    obtain ⟨b2, hb2, h⟩ := oB1 h
    refine oRun.sub [1, 2, 0] rfl ?_
    refine E_X8_isOrderOf_L2 _ _ _ hb2 ?_
    rcases b2 with y2 | z2
    · replace h := oSl h
      show oRun G _ _ _ _ _ _ _
      refine oRun.iconst 25 dX8_isOrderOf_24 oc_i1 rfl ?_
      rw [← Option.some.inj h]
      exact oRun.ret (r := some (.int 1)) dX8_isOrderOf_25
    · replace h := oSr h
      exact ⟨by rw [oZ_eq h], rfl⟩
  · show oROK (some .boolean) (some (.int w))
    obtain ⟨b2, hb2, h⟩ := oB1 h
    rcases b2 with y2 | z2
    · replace h := oSl h
      rw [← Option.some.inj h]
      exact Or.inr rfl
    · exact oZ_ok (oSr h)
set_option maxRecDepth 100000 in
set_option maxHeartbeats 4000000 in
theorem E_X8_bestOrder_L12 {G : oG} {x1 : Int32} {r : Option Value} {m' : oM} : ∀ (n : Nat) (x2 : Int32) (x3 : Int32) (x4 : Int32) (m : oM) (b : Int32 × oM), oLoop (fun s : Int32 × Int32 × Int32 × oM => F_X8_bestOrder_L12 x1 s.1 s.2.1 s.2.2.1 s.2.2.2) n (x2, x3, x4, m) = some b → oRun G M_X8_bestOrder 69 [(2, .int b.1)] [] b.2 r m' → oRun G M_X8_bestOrder 12 [(0, .ref 0), (1, .int x1), (2, .int x2), (3, .int x3), (4, .int x4)] [] m r m' := by
  intro n
  induction n with
  | zero => intro x2 x3 x4 m b h _; exact (oLoop_zero h).elim
  | succ n ih =>
    intro x2 x3 x4 m b h he
    obtain ⟨q', hq', h⟩ := oLoop_succ h
    have hc : ∀ s' : Int32 × Int32 × Int32 × oM, q' = .inl s' → oRun G M_X8_bestOrder 12 [(0, .ref 0), (1, .int x1), (2, .int s'.1), (3, .int s'.2.1), (4, .int s'.2.2.1)] [] s'.2.2.2 r m' := by
      rintro s' rfl
      exact ih (s'.1) (s'.2.1) (s'.2.2.1) (s'.2.2.2) b h he
    have hx : ∀ b' : Int32 × oM, q' = .inr b' → oRun G M_X8_bestOrder 69 [(2, .int b'.1)] [] b'.2 r m' := by
      rintro b' rfl
      have h : b' = b := h
      rw [h]
      exact he
    clear h he ih
    have h := hq'
    clear hq'
    replace h : F_X8_bestOrder_L12 x1 x2 x3 x4 m = some q' := h
    unfold F_X8_bestOrder_L12 at h
    refine oRun.iload 14 dX8_bestOrder_12 4 rfl rfl ?_
    refine oRun.gets62 17 dX8_bestOrder_14 wd_3_62 rfl ?_
    refine oRun.aleni 18 dX8_bestOrder_17 (Or.inl rfl) rfl ?_
    refine oRun.iconst 19 dX8_bestOrder_18 oc_i3 rfl ?_
    refine oRun.idiv 20 dX8_bestOrder_19 (by decide) rfl ?_
    by_cases c20 : (18 / 3) ≤ x4
    · replace h := oIp c20 h
      refine oRun.icmp_ge_t 69 dX8_bestOrder_20 c20 rfl ?_
      cases h
      refine oRun.sub [2] rfl ?_
      exact hx _ rfl
    · replace h := oIn c20 h
      refine oRun.icmp_ge_f 23 dX8_bestOrder_20 rfl c20 rfl ?_
      refine oRun.iload 25 dX8_bestOrder_23 4 rfl rfl ?_
      refine oRun.aload_n 26 dX8_bestOrder_25 0 rfl rfl (Nat.le_of_ble_eq_true rfl) rfl ?_
      refine oRun.getR 29 dX8_bestOrder_26 fd_RX8_12 rfl rfl (Nat.le_of_ble_eq_true rfl) rfl ?_
      refine oRun.getR 32 dX8_bestOrder_29 fd_RX8_170 rfl rfl (Nat.le_of_ble_eq_true rfl) rfl ?_
      refine oRun.iload_n 33 dX8_bestOrder_32 1 rfl rfl rfl ?_
      obtain ⟨r33, hr33, h⟩ := oB1 h
      refine oRun.callV (as := [.int x1]) 36 dX8_bestOrder_33 lk_RX8_195 (oFit_i (Nat.le_of_ble_eq_true rfl) (Nat.le_of_ble_eq_true rfl)) rfl rfl rfl rfl (Nat.le_of_ble_eq_true rfl) (Nat.le_of_ble_eq_true rfl) rfl (E_X7_length rfl hr33) rfl ?_
      show oRun G _ 36 _ [.int r33, .int x4] _ _ _
      obtain ⟨r36, hr36, h⟩ := oB1 h
      refine oRun.callS (as := [.int x4, .int r33]) 39 dX8_bestOrder_36 lk_RX8_341 (oFit_i (Nat.le_of_ble_eq_true rfl) (Nat.le_of_ble_eq_true rfl)) rfl (Nat.le_of_ble_eq_true rfl) (Nat.le_of_ble_eq_true rfl) rfl (E_X8_isOrderOf hr36) rfl ?_
      show oRun G _ 39 _ [.int r36] _ _ _
      by_cases c39 : r36 = 0
      · replace h := oIp c39 h
        refine oRun.if_eq_t 63 dX8_bestOrder_39 c39 rfl ?_
        refine oRun.iinc 66 dX8_bestOrder_63 4 rfl (oAddC oc_i1) (Nat.le_of_ble_eq_true rfl) rfl rfl ?_
        refine oRun.goto 12 dX8_bestOrder_66 rfl ?_
        cases h
        refine oRun.sub [1, 2, 3, 4, 0] rfl ?_
        exact hc _ rfl
      · replace h := oIn c39 h
        refine oRun.if_eq_f 42 dX8_bestOrder_39 rfl c39 rfl ?_
        refine oRun.aload_n 43 dX8_bestOrder_42 0 rfl rfl (Nat.le_of_ble_eq_true rfl) rfl ?_
        refine oRun.iload_n 44 dX8_bestOrder_43 1 rfl rfl rfl ?_
        refine oRun.iload 46 dX8_bestOrder_44 4 rfl rfl ?_
        obtain ⟨r46, hr46, h⟩ := oB1 h
        refine oRun.callV (as := [.int x1, .int x4]) 49 dX8_bestOrder_46 lk_RX8_232 (oFit_i (Nat.le_of_ble_eq_true rfl) (Nat.le_of_ble_eq_true rfl)) rfl rfl rfl rfl (Nat.le_of_ble_eq_true rfl) (Nat.le_of_ble_eq_true rfl) rfl (E_X8_wheelsBy hr46) rfl ?_
        show oRun G _ 49 _ [.int r46.1] _ _ _
        refine oRun.istore 51 dX8_bestOrder_49 (Nat.le_of_ble_eq_true rfl) rfl rfl ?_
        refine oRun.iload 53 dX8_bestOrder_51 0 rfl rfl ?_
        refine oRun.iload_n 54 dX8_bestOrder_53 4 rfl rfl rfl ?_
        by_cases c54 : x3 ≤ r46.1
        · replace h := oIp c54 h
          refine oRun.icmp_ge_t 63 dX8_bestOrder_54 c54 rfl ?_
          refine oRun.iinc 66 dX8_bestOrder_63 5 rfl (oAddC oc_i1) (Nat.le_of_ble_eq_true rfl) rfl rfl ?_
          refine oRun.goto 12 dX8_bestOrder_66 rfl ?_
          cases h
          refine oRun.sub [2, 3, 4, 5, 0] rfl ?_
          exact hc _ rfl
        · replace h := oIn c54 h
          refine oRun.icmp_ge_f 57 dX8_bestOrder_54 rfl c54 rfl ?_
          refine oRun.iload 59 dX8_bestOrder_57 5 rfl rfl ?_
          refine oRun.istore_n 60 dX8_bestOrder_59 rfl (Nat.le_of_ble_eq_true rfl) rfl rfl ?_
          refine oRun.iload 62 dX8_bestOrder_60 1 rfl rfl ?_
          refine oRun.istore_n 63 dX8_bestOrder_62 rfl (Nat.le_of_ble_eq_true rfl) rfl rfl ?_
          refine oRun.iinc 66 dX8_bestOrder_63 5 rfl (oAddC oc_i1) (Nat.le_of_ble_eq_true rfl) rfl rfl ?_
          refine oRun.goto 12 dX8_bestOrder_66 rfl ?_
          cases h
          refine oRun.sub [4, 5, 2, 1, 0] rfl ?_
          exact hc _ rfl
set_option maxRecDepth 100000 in
set_option maxHeartbeats 4000000 in
theorem E_X8_bestOrder {G : oG} {m : oM} {x1 : Int32} {w : Int32 × oM} (h : F_X8_bestOrder m x1 = some w) : oEv G M_X8_bestOrder [.ref 0, .int x1] m (some (.int w.1)) w.2 := by
  unfold F_X8_bestOrder at h
  refine ⟨?_, ?_⟩
  · show oRun G M_X8_bestOrder 0 [(0, .ref 0), (1, .int x1)] [] m (some (.int w.1)) w.2
    refine oRun.iconst 1 dX8_bestOrder_0 oc_i0 rfl ?_
    refine oRun.istore_n 2 dX8_bestOrder_1 rfl (Nat.le_of_ble_eq_true rfl) rfl rfl ?_
    refine oRun.aload_n 3 dX8_bestOrder_2 1 rfl rfl (Nat.le_of_ble_eq_true rfl) rfl ?_
    refine oRun.iload_n 4 dX8_bestOrder_3 2 rfl rfl rfl ?_
    refine oRun.iconst 5 dX8_bestOrder_4 oc_i0 rfl ?_
    obtain ⟨r5, hr5, h⟩ := oB1 h
    refine oRun.callV (as := [.int x1, .int 0]) 8 dX8_bestOrder_5 lk_RX8_232 (oFit_i (Nat.le_of_ble_eq_true rfl) (Nat.le_of_ble_eq_true rfl)) rfl rfl rfl rfl (Nat.le_of_ble_eq_true rfl) (Nat.le_of_ble_eq_true rfl) rfl (E_X8_wheelsBy hr5) rfl ?_
    show oRun G _ 8 _ [.int r5.1] _ _ _
    refine oRun.istore_n 9 dX8_bestOrder_8 rfl (Nat.le_of_ble_eq_true rfl) rfl rfl ?_
    refine oRun.iconst 10 dX8_bestOrder_9 oc_i1 rfl ?_
    refine oRun.istore 12 dX8_bestOrder_10 (Nat.le_of_ble_eq_true rfl) rfl rfl ?_
    obtain ⟨b12, hb12, h⟩ := oB1 h
    refine oRun.sub [3, 4, 2, 1, 0] rfl ?_
    refine E_X8_bestOrder_L12 _ _ _ _ _ _ hb12 ?_
    refine oRun.iload_n 70 dX8_bestOrder_69 0 rfl rfl rfl ?_
    rw [← Option.some.inj h]
    exact oRun.ret (r := some (.int b12.1)) dX8_bestOrder_70
  · exact True.intro
set_option maxRecDepth 100000 in
set_option maxHeartbeats 4000000 in
theorem E_X8_order_J24 {G : oG} {m : oM} {x1 : Int32} {x2 : Int32} {w : Int32 × oM} (h : F_X8_order_J24 m x1 x2 = some w) : oRun G M_X8_order 24 [(0, .ref 0), (1, .int x1), (2, .int x2)] [] m (some (.int w.1)) w.2 := by
  unfold F_X8_order_J24 at h
  refine oRun.aload_n 25 dX8_order_24 0 rfl rfl (Nat.le_of_ble_eq_true rfl) rfl ?_
  refine oRun.getR 28 dX8_order_25 fd_RX8_12 rfl rfl (Nat.le_of_ble_eq_true rfl) rfl ?_
  refine oRun.iload_n 29 dX8_order_28 1 rfl rfl rfl ?_
  obtain ⟨r29, hr29, h⟩ := oB1 h
  refine oRun.callV (as := [.int x1]) 32 dX8_order_29 lk_RX8_192 (oFit_i (Nat.le_of_ble_eq_true rfl) (Nat.le_of_ble_eq_true rfl)) rfl rfl rfl rfl (Nat.le_of_ble_eq_true rfl) (Nat.le_of_ble_eq_true rfl) rfl (E_X1_hasTrain rfl hr29) rfl ?_
  show oRun G _ 32 _ [.int r29] _ _ _
  by_cases c32 : r29 = 0
  · replace h := oIp c32 h
    refine oRun.if_ne_f 35 dX8_order_32 rfl c32 rfl ?_
    refine oRun.bipush 37 dX8_order_35 oc_bm3 rfl ?_
    rw [← Option.some.inj h]
    exact oRun.ret (r := some (.int (-3))) dX8_order_37
  · replace h := oIn c32 h
    refine oRun.if_ne_t 38 dX8_order_32 c32 rfl ?_
    refine oRun.aload_n 39 dX8_order_38 0 rfl rfl (Nat.le_of_ble_eq_true rfl) rfl ?_
    refine oRun.iload_n 40 dX8_order_39 1 rfl rfl rfl ?_
    obtain ⟨r40, hr40, h⟩ := oB1 h
    refine oRun.callV (as := [.int x1]) 43 dX8_order_40 lk_RX8_229 (oFit_i (Nat.le_of_ble_eq_true rfl) (Nat.le_of_ble_eq_true rfl)) rfl rfl rfl rfl (Nat.le_of_ble_eq_true rfl) (Nat.le_of_ble_eq_true rfl) rfl (E_X8_bestOrder hr40) rfl ?_
    show oRun G _ 43 _ [.int r40.1] _ _ _
    refine oRun.istore_n 44 dX8_order_43 rfl (Nat.le_of_ble_eq_true rfl) rfl rfl ?_
    refine oRun.iload_n 45 dX8_order_44 3 rfl rfl rfl ?_
    by_cases c45 : x2 = 0
    · replace h := oIp c45 h
      refine oRun.if_ne_f 48 dX8_order_45 rfl c45 rfl ?_
      refine oRun.aload_n 49 dX8_order_48 1 rfl rfl (Nat.le_of_ble_eq_true rfl) rfl ?_
      refine oRun.iload_n 50 dX8_order_49 2 rfl rfl rfl ?_
      refine oRun.iload_n 51 dX8_order_50 0 rfl rfl rfl ?_
      obtain ⟨r51, hr51, h⟩ := oB1 h
      refine oRun.callV (as := [.int x1, .int r40.1]) 54 dX8_order_51 lk_RX8_232 (oFit_i (Nat.le_of_ble_eq_true rfl) (Nat.le_of_ble_eq_true rfl)) rfl rfl rfl rfl (Nat.le_of_ble_eq_true rfl) (Nat.le_of_ble_eq_true rfl) rfl (E_X8_wheelsBy hr51) rfl ?_
      show oRun G _ 54 _ [.int r51.1] _ _ _
      rw [← Option.some.inj h]
      exact oRun.ret (r := some (.int r51.1)) dX8_order_54
    · replace h := oIn c45 h
      refine oRun.if_ne_t 55 dX8_order_45 c45 rfl ?_
      refine oRun.iload_n 56 dX8_order_55 3 rfl rfl rfl ?_
      refine oRun.bipush 58 dX8_order_56 oc_b10 rfl ?_
      refine oRun.isub 59 dX8_order_58 rfl ?_
      refine oRun.aload_n 60 dX8_order_59 1 rfl rfl (Nat.le_of_ble_eq_true rfl) rfl ?_
      refine oRun.getR 63 dX8_order_60 fd_RX8_12 rfl rfl (Nat.le_of_ble_eq_true rfl) rfl ?_
      refine oRun.getR 66 dX8_order_63 fd_RX8_170 rfl rfl (Nat.le_of_ble_eq_true rfl) rfl ?_
      refine oRun.iload_n 67 dX8_order_66 2 rfl rfl rfl ?_
      obtain ⟨r67, hr67, h⟩ := oB1 h
      refine oRun.callV (as := [.int x1]) 70 dX8_order_67 lk_RX8_195 (oFit_i (Nat.le_of_ble_eq_true rfl) (Nat.le_of_ble_eq_true rfl)) rfl rfl rfl rfl (Nat.le_of_ble_eq_true rfl) (Nat.le_of_ble_eq_true rfl) rfl (E_X7_length rfl hr67) rfl ?_
      show oRun G _ 70 _ [.int r67, .int (x2 - 10)] _ _ _
      by_cases c70 : (x2 - 10) < r67
      · replace h := oIp c70 h
        refine oRun.icmp_lt_t 76 dX8_order_70 c70 rfl ?_
        refine oRun.aload_n 77 dX8_order_76 1 rfl rfl (Nat.le_of_ble_eq_true rfl) rfl ?_
        refine oRun.getR 80 dX8_order_77 fd_RX8_12 rfl rfl (Nat.le_of_ble_eq_true rfl) rfl ?_
        refine oRun.getR 83 dX8_order_80 fd_RX8_170 rfl rfl (Nat.le_of_ble_eq_true rfl) rfl ?_
        refine oRun.iload_n 84 dX8_order_83 2 rfl rfl rfl ?_
        refine oRun.iload_n 85 dX8_order_84 0 rfl rfl rfl ?_
        refine oRun.iload_n 86 dX8_order_85 3 rfl rfl rfl ?_
        refine oRun.bipush 88 dX8_order_86 oc_b10 rfl ?_
        refine oRun.isub 89 dX8_order_88 rfl ?_
        obtain ⟨r89, hr89, h⟩ := oB1 h
        refine oRun.callS (as := [.int r40.1, .int (x2 - 10)]) 92 dX8_order_89 lk_RX8_235 (oFit_i (Nat.le_of_ble_eq_true rfl) (Nat.le_of_ble_eq_true rfl)) rfl (Nat.le_of_ble_eq_true rfl) (Nat.le_of_ble_eq_true rfl) rfl (E_X8_placeBy hr89) rfl ?_
        show oRun G _ 92 _ [.int r89, .int x1, .ref 9] _ _ _
        obtain ⟨r92, hr92, h⟩ := oB1 h
        refine oRun.callV (as := [.int x1, .int r89]) 95 dX8_order_92 lk_RX8_203 (oFit_i (Nat.le_of_ble_eq_true rfl) (Nat.le_of_ble_eq_true rfl)) rfl rfl rfl rfl (Nat.le_of_ble_eq_true rfl) (Nat.le_of_ble_eq_true rfl) rfl (E_X7_pairAt rfl hr92) rfl ?_
        show oRun G _ 95 _ [.int r92] _ _ _
        rw [← Option.some.inj h]
        exact oRun.ret (r := some (.int r92)) dX8_order_95
      · replace h := oIn c70 h
        refine oRun.icmp_lt_f 73 dX8_order_70 rfl c70 rfl ?_
        refine oRun.bipush 75 dX8_order_73 oc_bm5 rfl ?_
        rw [← Option.some.inj h]
        exact oRun.ret (r := some (.int (-5))) dX8_order_75
set_option maxRecDepth 100000 in
set_option maxHeartbeats 4000000 in
theorem E_X8_order {G : oG} {m : oM} {x1 : Int32} {x2 : Int32} {w : Int32 × oM} (h : F_X8_order m x1 x2 = some w) : oEv G M_X8_order [.ref 0, .int x1, .int x2] m (some (.int w.1)) w.2 := by
  unfold F_X8_order at h
  refine ⟨?_, ?_⟩
  · show oRun G M_X8_order 0 [(0, .ref 0), (1, .int x1), (2, .int x2)] [] m (some (.int w.1)) w.2
    refine oRun.aload_n 1 dX8_order_0 0 rfl rfl (Nat.le_of_ble_eq_true rfl) rfl ?_
    refine oRun.getR 4 dX8_order_1 fd_RX8_12 rfl rfl (Nat.le_of_ble_eq_true rfl) rfl ?_
    refine oRun.iload_n 5 dX8_order_4 1 rfl rfl rfl ?_
    obtain ⟨r5, hr5, h⟩ := oB1 h
    refine oRun.callV (as := [.int x1]) 8 dX8_order_5 lk_RX8_68 (oFit_i (Nat.le_of_ble_eq_true rfl) (Nat.le_of_ble_eq_true rfl)) rfl rfl rfl rfl (Nat.le_of_ble_eq_true rfl) (Nat.le_of_ble_eq_true rfl) rfl (E_X1_hasBody rfl hr5) rfl ?_
    show oRun G _ 8 _ [.int r5] _ _ _
    by_cases c8 : r5 = 0
    · replace h := oIp c8 h
      refine oRun.if_eq_t 22 dX8_order_8 c8 rfl ?_
      refine oRun.iconst 23 dX8_order_22 oc_im1 rfl ?_
      rw [← Option.some.inj h]
      exact oRun.ret (r := some (.int (-1))) dX8_order_23
    · replace h := oIn c8 h
      refine oRun.if_eq_f 11 dX8_order_8 rfl c8 rfl ?_
      refine oRun.iload_n 12 dX8_order_11 2 rfl rfl rfl ?_
      by_cases c12 : x2 = 0
      · replace h := oIp c12 h
        refine oRun.if_eq_t 24 dX8_order_12 c12 rfl ?_
        refine oRun.sub [0, 1, 2] rfl ?_
        exact E_X8_order_J24 h
      · replace h := oIn c12 h
        refine oRun.if_eq_f 15 dX8_order_12 rfl c12 rfl ?_
        refine oRun.iload_n 16 dX8_order_15 2 rfl rfl rfl ?_
        obtain ⟨r16, hr16, h⟩ := oB1 h
        refine oRun.callS (as := [.int x2]) 19 dX8_order_16 lk_RX8_197 (oFit_i (Nat.le_of_ble_eq_true rfl) (Nat.le_of_ble_eq_true rfl)) rfl (Nat.le_of_ble_eq_true rfl) (Nat.le_of_ble_eq_true rfl) rfl (E_X8_asksPlace hr16) rfl ?_
        show oRun G _ 19 _ [.int r16] _ _ _
        by_cases c19 : r16 = 0
        · replace h := oIp c19 h
          refine oRun.if_ne_f 22 dX8_order_19 rfl c19 rfl ?_
          refine oRun.iconst 23 dX8_order_22 oc_im1 rfl ?_
          rw [← Option.some.inj h]
          exact oRun.ret (r := some (.int (-1))) dX8_order_23
        · replace h := oIn c19 h
          refine oRun.if_ne_t 24 dX8_order_19 c19 rfl ?_
          refine oRun.sub [0, 1, 2] rfl ?_
          exact E_X8_order_J24 h
  · exact True.intro
set_option maxRecDepth 100000 in
set_option maxHeartbeats 4000000 in
theorem E_X9_wheels_L19 {G : oG} {m : oM} {x1 : Int32} {x2 : Int32} {r : Option Value} {m' : oM} : ∀ (n : Nat) (x3 : Int32) (x4 : Int32) (b : Int32), oLoop (fun s : Int32 × Int32 => F_X9_wheels_L19 m x1 x2 s.1 s.2) n (x3, x4) = some b → oRun G M_X9_wheels 54 [(0, .ref 51), (1, .int x1), (2, .int x2), (3, .int b)] [] m r m' → oRun G M_X9_wheels 19 [(0, .ref 51), (1, .int x1), (2, .int x2), (3, .int x3), (4, .int x4)] [] m r m' := by
  intro n
  induction n with
  | zero => intro x3 x4 b h _; exact (oLoop_zero h).elim
  | succ n ih =>
    intro x3 x4 b h he
    obtain ⟨q', hq', h⟩ := oLoop_succ h
    have hc : ∀ s' : Int32 × Int32, q' = .inl s' → oRun G M_X9_wheels 19 [(0, .ref 51), (1, .int x1), (2, .int x2), (3, .int s'.1), (4, .int s'.2)] [] m r m' := by
      rintro s' rfl
      exact ih (s'.1) (s'.2) b h he
    have hx : ∀ b' : Int32, q' = .inr b' → oRun G M_X9_wheels 54 [(0, .ref 51), (1, .int x1), (2, .int x2), (3, .int b')] [] m r m' := by
      rintro b' rfl
      have h : b' = b := h
      rw [h]
      exact he
    clear h he ih
    have h := hq'
    clear hq'
    replace h : F_X9_wheels_L19 m x1 x2 x3 x4 = some q' := h
    unfold F_X9_wheels_L19 at h
    refine oRun.iload 21 dX9_wheels_19 4 rfl rfl ?_
    refine oRun.iload_n 22 dX9_wheels_21 2 rfl rfl rfl ?_
    by_cases c22 : x2 ≤ x4
    · replace h := oIp c22 h
      refine oRun.icmp_ge_t 54 dX9_wheels_22 c22 rfl ?_
      cases h
      refine oRun.sub [0, 1, 2, 3] rfl ?_
      exact hx _ rfl
    · replace h := oIn c22 h
      refine oRun.icmp_ge_f 25 dX9_wheels_22 rfl c22 rfl ?_
      refine oRun.aload_n 26 dX9_wheels_25 0 rfl rfl (Nat.le_of_ble_eq_true rfl) rfl ?_
      refine oRun.iload_n 27 dX9_wheels_26 2 rfl rfl rfl ?_
      refine oRun.iload 29 dX9_wheels_27 4 rfl rfl ?_
      obtain ⟨r29, hr29, h⟩ := oB1 h
      refine oRun.callV (as := [.int x2, .int x4]) 32 dX9_wheels_29 lk_RX9_176 (oFit_i (Nat.le_of_ble_eq_true rfl) (Nat.le_of_ble_eq_true rfl)) rfl rfl rfl rfl (Nat.le_of_ble_eq_true rfl) (Nat.le_of_ble_eq_true rfl) rfl (E_X9_shared hr29) rfl ?_
      show oRun G _ 32 _ [.int r29] _ _ _
      refine oRun.iload_n 33 dX9_wheels_32 3 rfl rfl rfl ?_
      by_cases c33 : r29 ≤ x3
      · replace h := oIp c33 h
        refine oRun.icmp_le_t 46 dX9_wheels_33 c33 rfl ?_
        refine oRun.iload_n 47 dX9_wheels_46 3 rfl rfl rfl ?_
        refine oRun.istore_n 48 dX9_wheels_47 rfl (Nat.le_of_ble_eq_true rfl) rfl rfl ?_
        refine oRun.iinc 51 dX9_wheels_48 4 rfl (oAddC oc_i1) (Nat.le_of_ble_eq_true rfl) rfl rfl ?_
        refine oRun.goto 19 dX9_wheels_51 rfl ?_
        cases h
        refine oRun.sub [2, 3, 4, 1, 0] rfl ?_
        exact hc _ rfl
      · replace h := oIn c33 h
        refine oRun.icmp_le_f 36 dX9_wheels_33 rfl c33 rfl ?_
        refine oRun.aload_n 37 dX9_wheels_36 0 rfl rfl (Nat.le_of_ble_eq_true rfl) rfl ?_
        refine oRun.iload_n 38 dX9_wheels_37 2 rfl rfl rfl ?_
        refine oRun.iload 40 dX9_wheels_38 4 rfl rfl ?_
        obtain ⟨r40, hr40, h⟩ := oB1 h
        refine oRun.callV (as := [.int x2, .int x4]) 43 dX9_wheels_40 lk_RX9_176 (oFit_i (Nat.le_of_ble_eq_true rfl) (Nat.le_of_ble_eq_true rfl)) rfl rfl rfl rfl (Nat.le_of_ble_eq_true rfl) (Nat.le_of_ble_eq_true rfl) rfl (E_X9_shared hr40) rfl ?_
        show oRun G _ 43 _ [.int r40] _ _ _
        refine oRun.goto 47 dX9_wheels_43 rfl ?_
        refine oRun.istore_n 48 dX9_wheels_47 rfl (Nat.le_of_ble_eq_true rfl) rfl rfl ?_
        refine oRun.iinc 51 dX9_wheels_48 4 rfl (oAddC oc_i1) (Nat.le_of_ble_eq_true rfl) rfl rfl ?_
        refine oRun.goto 19 dX9_wheels_51 rfl ?_
        cases h
        refine oRun.sub [2, 3, 4, 1, 0] rfl ?_
        exact hc _ rfl
set_option maxRecDepth 100000 in
set_option maxHeartbeats 4000000 in
theorem E_X9_wheels_L4 {G : oG} {m : oM} {r : Option Value} {m' : oM} : ∀ (n : Nat) (x1 : Int32) (x2 : Int32) (b : Int32), oLoop (fun s : Int32 × Int32 => F_X9_wheels_L4 m s.1 s.2) n (x1, x2) = some b → oRun G M_X9_wheels 76 [(1, .int b)] [] m r m' → oRun G M_X9_wheels 4 [(0, .ref 51), (1, .int x1), (2, .int x2)] [] m r m' := by
  intro n
  induction n with
  | zero => intro x1 x2 b h _; exact (oLoop_zero h).elim
  | succ n ih =>
    intro x1 x2 b h he
    obtain ⟨q', hq', h⟩ := oLoop_succ h
    have hc : ∀ s' : Int32 × Int32, q' = .inl s' → oRun G M_X9_wheels 4 [(0, .ref 51), (1, .int s'.1), (2, .int s'.2)] [] m r m' := by
      rintro s' rfl
      exact ih (s'.1) (s'.2) b h he
    have hx : ∀ b' : Int32, q' = .inr b' → oRun G M_X9_wheels 76 [(1, .int b')] [] m r m' := by
      rintro b' rfl
      have h : b' = b := h
      rw [h]
      exact he
    clear h he ih
    have h := hq'
    clear hq'
    replace h : F_X9_wheels_L4 m x1 x2 = some q' := h
    unfold F_X9_wheels_L4 at h
    refine oRun.iload_n 5 dX9_wheels_4 2 rfl rfl rfl ?_
    refine oRun.aload_n 6 dX9_wheels_5 0 rfl rfl (Nat.le_of_ble_eq_true rfl) rfl ?_
    refine oRun.getR 9 dX9_wheels_6 fd_RX9_11 rfl rfl (Nat.le_of_ble_eq_true rfl) rfl ?_
    refine oRun.iconst 10 dX9_wheels_9 oc_i0 rfl ?_
    refine oRun.iaload (x := m.1 52 0) 11 dX9_wheels_10 (Or.inr ⟨_, rfl⟩) (oAL_lit (i := 0) rfl) rfl ?_
    by_cases c11 : (m.1 52 0) ≤ x2
    · replace h := oIp c11 h
      refine oRun.icmp_ge_t 76 dX9_wheels_11 c11 rfl ?_
      cases h
      refine oRun.sub [1] rfl ?_
      exact hx _ rfl
    · replace h := oIn c11 h
      refine oRun.icmp_ge_f 14 dX9_wheels_11 rfl c11 rfl ?_
      refine oRun.iconst 15 dX9_wheels_14 oc_i0 rfl ?_
      refine oRun.istore_n 16 dX9_wheels_15 rfl (Nat.le_of_ble_eq_true rfl) rfl rfl ?_
      refine oRun.iconst 17 dX9_wheels_16 oc_i0 rfl ?_
      refine oRun.istore 19 dX9_wheels_17 (Nat.le_of_ble_eq_true rfl) rfl rfl ?_
      obtain ⟨b19, hb19, h⟩ := oB1 h
      refine oRun.sub [2, 3, 4, 1, 0] rfl ?_
      refine E_X9_wheels_L19 _ _ _ _ hb19 ?_
      refine oRun.iload_n 55 dX9_wheels_54 1 rfl rfl rfl ?_
      refine oRun.iconst 56 dX9_wheels_55 oc_i2 rfl ?_
      refine oRun.aload_n 57 dX9_wheels_56 0 rfl rfl (Nat.le_of_ble_eq_true rfl) rfl ?_
      refine oRun.getR 60 dX9_wheels_57 fd_RX9_11 rfl rfl (Nat.le_of_ble_eq_true rfl) rfl ?_
      refine oRun.bipush 62 dX9_wheels_60 oc_b19 rfl ?_
      refine oRun.iload_n 63 dX9_wheels_62 2 rfl rfl rfl ?_
      refine oRun.iadd 64 dX9_wheels_63 rfl ?_
      obtain ⟨v64, hv64, h⟩ := oB1 h
      refine oRun.iaload 65 dX9_wheels_64 (Or.inr ⟨_, rfl⟩) hv64 rfl ?_
      refine oRun.iload_n 66 dX9_wheels_65 3 rfl rfl rfl ?_
      refine oRun.isub 67 dX9_wheels_66 rfl ?_
      refine oRun.imul 68 dX9_wheels_67 rfl ?_
      refine oRun.iadd 69 dX9_wheels_68 rfl ?_
      obtain ⟨x1_69, hx1_69, h⟩ := oB1 h
      refine oRun.nameI hx1_69 ?_
      refine oRun.istore_n 70 dX9_wheels_69 rfl (Nat.le_of_ble_eq_true rfl) rfl rfl ?_
      refine oRun.iinc 73 dX9_wheels_70 2 rfl (oAddC oc_i1) (Nat.le_of_ble_eq_true rfl) rfl rfl ?_
      refine oRun.goto 4 dX9_wheels_73 rfl ?_
      cases h
      refine oRun.sub [2, 1, 0] rfl ?_
      exact hc _ rfl
set_option maxRecDepth 100000 in
set_option maxHeartbeats 4000000 in
theorem E_X9_wheels {G : oG} {m : oM} {w : Int32} (h : F_X9_wheels m = some w) : oEv G M_X9_wheels [.ref 51] m (some (.int w)) m := by
  unfold F_X9_wheels at h
  refine ⟨?_, ?_⟩
  · show oRun G M_X9_wheels 0 [(0, .ref 51)] [] m (some (.int w)) m
    refine oRun.iconst 1 dX9_wheels_0 oc_i0 rfl ?_
    refine oRun.istore_n 2 dX9_wheels_1 rfl (Nat.le_of_ble_eq_true rfl) rfl rfl ?_
    refine oRun.iconst 3 dX9_wheels_2 oc_i0 rfl ?_
    refine oRun.istore_n 4 dX9_wheels_3 rfl (Nat.le_of_ble_eq_true rfl) rfl rfl ?_
    obtain ⟨b4, hb4, h⟩ := oB1 h
    refine oRun.sub [2, 1, 0] rfl ?_
    refine E_X9_wheels_L4 _ _ _ _ hb4 ?_
    refine oRun.iload_n 77 dX9_wheels_76 0 rfl rfl rfl ?_
    rw [← Option.some.inj h]
    exact oRun.ret (r := some (.int b4)) dX9_wheels_77
  · exact True.intro
set_option maxRecDepth 100000 in
set_option maxHeartbeats 4000000 in
theorem E_X9_order_J295 {G : oG} {m : oM} {x1 : Int32} {x2 : Int32} {x3 : Int32} {x4 : Int32} {x5 : Int32} {x6 : Int32} {x8 : Int32} {x9 : Int32} {x13 : Int32} {r : Option Value} {m' : oM} {q' : (Int32 × Int32 × Int32 × oM) ⊕ (Int32 × Int32 × oM)} (h : F_X9_order_J295 m x1 x2 x3 x4 x5 x6 x8 x9 x13 = some q') (hc : ∀ s' : Int32 × Int32 × Int32 × oM, q' = .inl s' → oRun G M_X9_order 93 [(0, .ref 51), (1, .int x1), (2, .int x2), (3, .int x3), (4, .int x4), (5, .int x5), (6, .int x6), (7, .int s'.1), (8, .int s'.2.1), (9, .int s'.2.2.1)] [] s'.2.2.2 r m') (hx : ∀ b' : Int32 × Int32 × oM, q' = .inr b' → oRun G M_X9_order 320 [(0, .ref 51), (1, .int x1), (2, .int x2), (4, .int x4), (5, .int x5), (6, .int x6), (7, .int b'.1), (8, .int b'.2.1)] [] b'.2.2 r m') : oRun G M_X9_order 295 [(0, .ref 51), (1, .int x1), (2, .int x2), (3, .int x3), (4, .int x4), (5, .int x5), (6, .int x6), (8, .int x8), (9, .int x9), (13, .int x13)] [] m r m' := by
  unfold F_X9_order_J295 at h
  refine oRun.iload 297 dX9_order_295 9 rfl rfl ?_
  refine oRun.istore 299 dX9_order_297 (Nat.le_of_ble_eq_true rfl) rfl rfl ?_
  refine oRun.iload_n 300 dX9_order_299 3 rfl rfl rfl ?_
  by_cases c300 : x2 ≤ 0
  · replace h := oIp c300 h
    refine oRun.if_le_t 314 dX9_order_300 c300 rfl ?_
    refine oRun.iinc 317 dX9_order_314 9 rfl (oAddC oc_i1) (Nat.le_of_ble_eq_true rfl) rfl rfl ?_
    refine oRun.goto 93 dX9_order_317 rfl ?_
    cases h
    refine oRun.sub [2, 3, 4, 5, 6, 7, 8, 1, 9, 0] rfl ?_
    exact hc _ rfl
  · replace h := oIn c300 h
    refine oRun.if_le_f 303 dX9_order_300 rfl c300 rfl ?_
    refine oRun.aload_n 304 dX9_order_303 1 rfl rfl (Nat.le_of_ble_eq_true rfl) rfl ?_
    refine oRun.iload_n 305 dX9_order_304 2 rfl rfl rfl ?_
    refine oRun.iload_n 306 dX9_order_305 3 rfl rfl rfl ?_
    refine oRun.bipush 308 dX9_order_306 oc_b10 rfl ?_
    refine oRun.isub 309 dX9_order_308 rfl ?_
    obtain ⟨r309, hr309, h⟩ := oB1 h
    refine oRun.callV (as := [.int x1, .int (x2 - 10)]) 312 dX9_order_309 lk_RX9_86 (oFit_i (Nat.le_of_ble_eq_true rfl) (Nat.le_of_ble_eq_true rfl)) rfl rfl rfl rfl (Nat.le_of_ble_eq_true rfl) (Nat.le_of_ble_eq_true rfl) rfl (E_X9_pairAt hr309) rfl ?_
    show oRun G _ 312 _ [.int r309] _ _ _
    refine oRun.istore 314 dX9_order_312 (Nat.le_of_ble_eq_true rfl) rfl rfl ?_
    refine oRun.iinc 317 dX9_order_314 9 rfl (oAddC oc_i1) (Nat.le_of_ble_eq_true rfl) rfl rfl ?_
    refine oRun.goto 93 dX9_order_317 rfl ?_
    cases h
    refine oRun.sub [3, 4, 5, 6, 7, 8, 9, 2, 1, 0] rfl ?_
    exact hc _ rfl
set_option maxRecDepth 100000 in
set_option maxHeartbeats 4000000 in
theorem E_X9_order_J167 {G : oG} {m : oM} {x1 : Int32} {x2 : Int32} {x3 : Int32} {x4 : Int32} {x5 : Int32} {x6 : Int32} {x7 : Int32} {x8 : Int32} {x9 : Int32} {x10 : Int32} {x11 : Int32} {x12 : Int32} {r : Option Value} {m' : oM} {q' : (Int32 × Int32 × Int32 × oM) ⊕ (Int32 × Int32 × oM)} (h : F_X9_order_J167 m x1 x2 x3 x4 x5 x6 x7 x8 x9 x10 x11 x12 = some q') (hc : ∀ s' : Int32 × Int32 × Int32 × oM, q' = .inl s' → oRun G M_X9_order 93 [(0, .ref 51), (1, .int x1), (2, .int x2), (3, .int x3), (4, .int x4), (5, .int x5), (6, .int x6), (7, .int s'.1), (8, .int s'.2.1), (9, .int s'.2.2.1)] [] s'.2.2.2 r m') (hx : ∀ b' : Int32 × Int32 × oM, q' = .inr b' → oRun G M_X9_order 320 [(0, .ref 51), (1, .int x1), (2, .int x2), (4, .int x4), (5, .int x5), (6, .int x6), (7, .int b'.1), (8, .int b'.2.1)] [] b'.2.2 r m') : oRun G M_X9_order 167 [(0, .ref 51), (1, .int x1), (2, .int x2), (3, .int x3), (4, .int x4), (5, .int x5), (6, .int x6), (7, .int x7), (8, .int x8), (9, .int x9), (10, .int x10), (11, .int x11), (12, .int x12)] [] m r m' := by
  unfold F_X9_order_J167 at h
  refine oRun.aload_n 168 dX9_order_167 0 rfl rfl (Nat.le_of_ble_eq_true rfl) rfl ?_
  refine oRun.getR 171 dX9_order_168 fd_RX9_11 rfl rfl (Nat.le_of_ble_eq_true rfl) rfl ?_
  refine oRun.bipush 173 dX9_order_171 oc_b25 rfl ?_
  refine oRun.iconst 174 dX9_order_173 oc_i3 rfl ?_
  refine oRun.iload_n 175 dX9_order_174 1 rfl rfl rfl ?_
  refine oRun.imul 176 dX9_order_175 rfl ?_
  refine oRun.iadd 177 dX9_order_176 rfl ?_
  refine oRun.iload 179 dX9_order_177 10 rfl rfl ?_
  by_cases c179 : x10 = 0
  · replace h := oIp c179 h
    refine oRun.if_ne_f 182 dX9_order_179 rfl c179 rfl ?_
    refine oRun.iload 184 dX9_order_182 4 rfl rfl ?_
    refine oRun.goto 200 dX9_order_184 rfl ?_
    obtain ⟨m200, hm200, h⟩ := oB1 h
    refine oRun.iastore 201 dX9_order_200 rfl hm200 rfl ?_
    refine oRun.aload_n 202 dX9_order_201 0 rfl rfl (Nat.le_of_ble_eq_true rfl) rfl ?_
    refine oRun.getR 205 dX9_order_202 fd_RX9_11 rfl rfl (Nat.le_of_ble_eq_true rfl) rfl ?_
    refine oRun.bipush 207 dX9_order_205 oc_b25 rfl ?_
    refine oRun.iconst 208 dX9_order_207 oc_i3 rfl ?_
    refine oRun.iload_n 209 dX9_order_208 1 rfl rfl rfl ?_
    refine oRun.imul 210 dX9_order_209 rfl ?_
    refine oRun.iadd 211 dX9_order_210 rfl ?_
    refine oRun.iconst 212 dX9_order_211 oc_i1 rfl ?_
    refine oRun.iadd 213 dX9_order_212 rfl ?_
    refine oRun.iload 215 dX9_order_213 11 rfl rfl ?_
    by_cases c215 : x11 = 0
    · replace h := oIp c215 h
      refine oRun.if_ne_f 218 dX9_order_215 rfl c215 rfl ?_
      refine oRun.iload 220 dX9_order_218 4 rfl rfl ?_
      refine oRun.goto 236 dX9_order_220 rfl ?_
      obtain ⟨m236, hm236, h⟩ := oB1 h
      refine oRun.iastore 237 dX9_order_236 rfl hm236 rfl ?_
      refine oRun.aload_n 238 dX9_order_237 0 rfl rfl (Nat.le_of_ble_eq_true rfl) rfl ?_
      refine oRun.getR 241 dX9_order_238 fd_RX9_11 rfl rfl (Nat.le_of_ble_eq_true rfl) rfl ?_
      refine oRun.bipush 243 dX9_order_241 oc_b25 rfl ?_
      refine oRun.iconst 244 dX9_order_243 oc_i3 rfl ?_
      refine oRun.iload_n 245 dX9_order_244 1 rfl rfl rfl ?_
      refine oRun.imul 246 dX9_order_245 rfl ?_
      refine oRun.iadd 247 dX9_order_246 rfl ?_
      refine oRun.iconst 248 dX9_order_247 oc_i2 rfl ?_
      refine oRun.iadd 249 dX9_order_248 rfl ?_
      refine oRun.iload 251 dX9_order_249 12 rfl rfl ?_
      by_cases c251 : x12 = 0
      · replace h := oIp c251 h
        refine oRun.if_ne_f 254 dX9_order_251 rfl c251 rfl ?_
        refine oRun.iload 256 dX9_order_254 4 rfl rfl ?_
        refine oRun.goto 272 dX9_order_256 rfl ?_
        obtain ⟨m272, hm272, h⟩ := oB1 h
        refine oRun.iastore 273 dX9_order_272 rfl hm272 rfl ?_
        refine oRun.aload_n 274 dX9_order_273 0 rfl rfl (Nat.le_of_ble_eq_true rfl) rfl ?_
        obtain ⟨r274, hr274, h⟩ := oB1 h
        refine oRun.callV (as := []) 277 dX9_order_274 lk_RX9_179 (oFit_i (Nat.le_of_ble_eq_true rfl) (Nat.le_of_ble_eq_true rfl)) rfl rfl rfl rfl (Nat.le_of_ble_eq_true rfl) (Nat.le_of_ble_eq_true rfl) rfl (E_X9_wheels hr274) rfl ?_
        show oRun G _ 277 _ [.int r274] _ _ _
        refine oRun.istore 279 dX9_order_277 (Nat.le_of_ble_eq_true rfl) rfl rfl ?_
        refine oRun.iload 281 dX9_order_279 8 rfl rfl ?_
        refine oRun.iconst 282 dX9_order_281 oc_im1 rfl ?_
        by_cases c282 : x7 = (-1)
        · replace h := oIp c282 h
          refine oRun.icmp_eq_t 295 dX9_order_282 c282 rfl ?_
          refine oRun.sub [1, 2, 3, 4, 5, 6, 7, 9, 10, 0] rfl ?_
          exact E_X9_order_J295 h hc hx
        · replace h := oIn c282 h
          refine oRun.icmp_eq_f 285 dX9_order_282 rfl c282 rfl ?_
          refine oRun.iload 287 dX9_order_285 0 rfl rfl ?_
          refine oRun.iload 289 dX9_order_287 8 rfl rfl ?_
          by_cases c289 : r274 < x7
          · replace h := oIp c289 h
            refine oRun.icmp_lt_t 295 dX9_order_289 c289 rfl ?_
            refine oRun.sub [1, 2, 3, 4, 5, 6, 7, 9, 10, 0] rfl ?_
            exact E_X9_order_J295 h hc hx
          · replace h := oIn c289 h
            refine oRun.icmp_lt_f 292 dX9_order_289 rfl c289 rfl ?_
            refine oRun.goto 314 dX9_order_292 rfl ?_
            refine oRun.iinc 317 dX9_order_314 10 rfl (oAddC oc_i1) (Nat.le_of_ble_eq_true rfl) rfl rfl ?_
            refine oRun.goto 93 dX9_order_317 rfl ?_
            cases h
            refine oRun.sub [2, 3, 4, 5, 6, 7, 8, 9, 10, 0] rfl ?_
            exact hc _ rfl
      · replace h := oIn c251 h
        refine oRun.if_ne_t 259 dX9_order_251 c251 rfl ?_
        refine oRun.iload 261 dX9_order_259 12 rfl rfl ?_
        refine oRun.iconst 262 dX9_order_261 oc_i1 rfl ?_
        by_cases c262 : x12 = 1
        · replace h := oIp c262 h
          refine oRun.icmp_ne_f 265 dX9_order_262 rfl c262 rfl ?_
          refine oRun.iload 267 dX9_order_265 5 rfl rfl ?_
          refine oRun.goto 272 dX9_order_267 rfl ?_
          obtain ⟨m272, hm272, h⟩ := oB1 h
          refine oRun.iastore 273 dX9_order_272 rfl hm272 rfl ?_
          refine oRun.aload_n 274 dX9_order_273 0 rfl rfl (Nat.le_of_ble_eq_true rfl) rfl ?_
          obtain ⟨r274, hr274, h⟩ := oB1 h
          refine oRun.callV (as := []) 277 dX9_order_274 lk_RX9_179 (oFit_i (Nat.le_of_ble_eq_true rfl) (Nat.le_of_ble_eq_true rfl)) rfl rfl rfl rfl (Nat.le_of_ble_eq_true rfl) (Nat.le_of_ble_eq_true rfl) rfl (E_X9_wheels hr274) rfl ?_
          show oRun G _ 277 _ [.int r274] _ _ _
          refine oRun.istore 279 dX9_order_277 (Nat.le_of_ble_eq_true rfl) rfl rfl ?_
          refine oRun.iload 281 dX9_order_279 8 rfl rfl ?_
          refine oRun.iconst 282 dX9_order_281 oc_im1 rfl ?_
          by_cases c282 : x7 = (-1)
          · replace h := oIp c282 h
            refine oRun.icmp_eq_t 295 dX9_order_282 c282 rfl ?_
            refine oRun.sub [1, 2, 3, 4, 5, 6, 7, 9, 10, 0] rfl ?_
            exact E_X9_order_J295 h hc hx
          · replace h := oIn c282 h
            refine oRun.icmp_eq_f 285 dX9_order_282 rfl c282 rfl ?_
            refine oRun.iload 287 dX9_order_285 0 rfl rfl ?_
            refine oRun.iload 289 dX9_order_287 8 rfl rfl ?_
            by_cases c289 : r274 < x7
            · replace h := oIp c289 h
              refine oRun.icmp_lt_t 295 dX9_order_289 c289 rfl ?_
              refine oRun.sub [1, 2, 3, 4, 5, 6, 7, 9, 10, 0] rfl ?_
              exact E_X9_order_J295 h hc hx
            · replace h := oIn c289 h
              refine oRun.icmp_lt_f 292 dX9_order_289 rfl c289 rfl ?_
              refine oRun.goto 314 dX9_order_292 rfl ?_
              refine oRun.iinc 317 dX9_order_314 10 rfl (oAddC oc_i1) (Nat.le_of_ble_eq_true rfl) rfl rfl ?_
              refine oRun.goto 93 dX9_order_317 rfl ?_
              cases h
              refine oRun.sub [2, 3, 4, 5, 6, 7, 8, 9, 10, 0] rfl ?_
              exact hc _ rfl
        · replace h := oIn c262 h
          refine oRun.icmp_ne_t 270 dX9_order_262 c262 rfl ?_
          refine oRun.iload 272 dX9_order_270 6 rfl rfl ?_
          obtain ⟨m272, hm272, h⟩ := oB1 h
          refine oRun.iastore 273 dX9_order_272 rfl hm272 rfl ?_
          refine oRun.aload_n 274 dX9_order_273 0 rfl rfl (Nat.le_of_ble_eq_true rfl) rfl ?_
          obtain ⟨r274, hr274, h⟩ := oB1 h
          refine oRun.callV (as := []) 277 dX9_order_274 lk_RX9_179 (oFit_i (Nat.le_of_ble_eq_true rfl) (Nat.le_of_ble_eq_true rfl)) rfl rfl rfl rfl (Nat.le_of_ble_eq_true rfl) (Nat.le_of_ble_eq_true rfl) rfl (E_X9_wheels hr274) rfl ?_
          show oRun G _ 277 _ [.int r274] _ _ _
          refine oRun.istore 279 dX9_order_277 (Nat.le_of_ble_eq_true rfl) rfl rfl ?_
          refine oRun.iload 281 dX9_order_279 8 rfl rfl ?_
          refine oRun.iconst 282 dX9_order_281 oc_im1 rfl ?_
          by_cases c282 : x7 = (-1)
          · replace h := oIp c282 h
            refine oRun.icmp_eq_t 295 dX9_order_282 c282 rfl ?_
            refine oRun.sub [1, 2, 3, 4, 5, 6, 7, 9, 10, 0] rfl ?_
            exact E_X9_order_J295 h hc hx
          · replace h := oIn c282 h
            refine oRun.icmp_eq_f 285 dX9_order_282 rfl c282 rfl ?_
            refine oRun.iload 287 dX9_order_285 0 rfl rfl ?_
            refine oRun.iload 289 dX9_order_287 8 rfl rfl ?_
            by_cases c289 : r274 < x7
            · replace h := oIp c289 h
              refine oRun.icmp_lt_t 295 dX9_order_289 c289 rfl ?_
              refine oRun.sub [1, 2, 3, 4, 5, 6, 7, 9, 10, 0] rfl ?_
              exact E_X9_order_J295 h hc hx
            · replace h := oIn c289 h
              refine oRun.icmp_lt_f 292 dX9_order_289 rfl c289 rfl ?_
              refine oRun.goto 314 dX9_order_292 rfl ?_
              refine oRun.iinc 317 dX9_order_314 10 rfl (oAddC oc_i1) (Nat.le_of_ble_eq_true rfl) rfl rfl ?_
              refine oRun.goto 93 dX9_order_317 rfl ?_
              cases h
              refine oRun.sub [2, 3, 4, 5, 6, 7, 8, 9, 10, 0] rfl ?_
              exact hc _ rfl
    · replace h := oIn c215 h
      refine oRun.if_ne_t 223 dX9_order_215 c215 rfl ?_
      refine oRun.iload 225 dX9_order_223 11 rfl rfl ?_
      refine oRun.iconst 226 dX9_order_225 oc_i1 rfl ?_
      by_cases c226 : x11 = 1
      · replace h := oIp c226 h
        refine oRun.icmp_ne_f 229 dX9_order_226 rfl c226 rfl ?_
        refine oRun.iload 231 dX9_order_229 5 rfl rfl ?_
        refine oRun.goto 236 dX9_order_231 rfl ?_
        obtain ⟨m236, hm236, h⟩ := oB1 h
        refine oRun.iastore 237 dX9_order_236 rfl hm236 rfl ?_
        refine oRun.aload_n 238 dX9_order_237 0 rfl rfl (Nat.le_of_ble_eq_true rfl) rfl ?_
        refine oRun.getR 241 dX9_order_238 fd_RX9_11 rfl rfl (Nat.le_of_ble_eq_true rfl) rfl ?_
        refine oRun.bipush 243 dX9_order_241 oc_b25 rfl ?_
        refine oRun.iconst 244 dX9_order_243 oc_i3 rfl ?_
        refine oRun.iload_n 245 dX9_order_244 1 rfl rfl rfl ?_
        refine oRun.imul 246 dX9_order_245 rfl ?_
        refine oRun.iadd 247 dX9_order_246 rfl ?_
        refine oRun.iconst 248 dX9_order_247 oc_i2 rfl ?_
        refine oRun.iadd 249 dX9_order_248 rfl ?_
        refine oRun.iload 251 dX9_order_249 12 rfl rfl ?_
        by_cases c251 : x12 = 0
        · replace h := oIp c251 h
          refine oRun.if_ne_f 254 dX9_order_251 rfl c251 rfl ?_
          refine oRun.iload 256 dX9_order_254 4 rfl rfl ?_
          refine oRun.goto 272 dX9_order_256 rfl ?_
          obtain ⟨m272, hm272, h⟩ := oB1 h
          refine oRun.iastore 273 dX9_order_272 rfl hm272 rfl ?_
          refine oRun.aload_n 274 dX9_order_273 0 rfl rfl (Nat.le_of_ble_eq_true rfl) rfl ?_
          obtain ⟨r274, hr274, h⟩ := oB1 h
          refine oRun.callV (as := []) 277 dX9_order_274 lk_RX9_179 (oFit_i (Nat.le_of_ble_eq_true rfl) (Nat.le_of_ble_eq_true rfl)) rfl rfl rfl rfl (Nat.le_of_ble_eq_true rfl) (Nat.le_of_ble_eq_true rfl) rfl (E_X9_wheels hr274) rfl ?_
          show oRun G _ 277 _ [.int r274] _ _ _
          refine oRun.istore 279 dX9_order_277 (Nat.le_of_ble_eq_true rfl) rfl rfl ?_
          refine oRun.iload 281 dX9_order_279 8 rfl rfl ?_
          refine oRun.iconst 282 dX9_order_281 oc_im1 rfl ?_
          by_cases c282 : x7 = (-1)
          · replace h := oIp c282 h
            refine oRun.icmp_eq_t 295 dX9_order_282 c282 rfl ?_
            refine oRun.sub [1, 2, 3, 4, 5, 6, 7, 9, 10, 0] rfl ?_
            exact E_X9_order_J295 h hc hx
          · replace h := oIn c282 h
            refine oRun.icmp_eq_f 285 dX9_order_282 rfl c282 rfl ?_
            refine oRun.iload 287 dX9_order_285 0 rfl rfl ?_
            refine oRun.iload 289 dX9_order_287 8 rfl rfl ?_
            by_cases c289 : r274 < x7
            · replace h := oIp c289 h
              refine oRun.icmp_lt_t 295 dX9_order_289 c289 rfl ?_
              refine oRun.sub [1, 2, 3, 4, 5, 6, 7, 9, 10, 0] rfl ?_
              exact E_X9_order_J295 h hc hx
            · replace h := oIn c289 h
              refine oRun.icmp_lt_f 292 dX9_order_289 rfl c289 rfl ?_
              refine oRun.goto 314 dX9_order_292 rfl ?_
              refine oRun.iinc 317 dX9_order_314 10 rfl (oAddC oc_i1) (Nat.le_of_ble_eq_true rfl) rfl rfl ?_
              refine oRun.goto 93 dX9_order_317 rfl ?_
              cases h
              refine oRun.sub [2, 3, 4, 5, 6, 7, 8, 9, 10, 0] rfl ?_
              exact hc _ rfl
        · replace h := oIn c251 h
          refine oRun.if_ne_t 259 dX9_order_251 c251 rfl ?_
          refine oRun.iload 261 dX9_order_259 12 rfl rfl ?_
          refine oRun.iconst 262 dX9_order_261 oc_i1 rfl ?_
          by_cases c262 : x12 = 1
          · replace h := oIp c262 h
            refine oRun.icmp_ne_f 265 dX9_order_262 rfl c262 rfl ?_
            refine oRun.iload 267 dX9_order_265 5 rfl rfl ?_
            refine oRun.goto 272 dX9_order_267 rfl ?_
            obtain ⟨m272, hm272, h⟩ := oB1 h
            refine oRun.iastore 273 dX9_order_272 rfl hm272 rfl ?_
            refine oRun.aload_n 274 dX9_order_273 0 rfl rfl (Nat.le_of_ble_eq_true rfl) rfl ?_
            obtain ⟨r274, hr274, h⟩ := oB1 h
            refine oRun.callV (as := []) 277 dX9_order_274 lk_RX9_179 (oFit_i (Nat.le_of_ble_eq_true rfl) (Nat.le_of_ble_eq_true rfl)) rfl rfl rfl rfl (Nat.le_of_ble_eq_true rfl) (Nat.le_of_ble_eq_true rfl) rfl (E_X9_wheels hr274) rfl ?_
            show oRun G _ 277 _ [.int r274] _ _ _
            refine oRun.istore 279 dX9_order_277 (Nat.le_of_ble_eq_true rfl) rfl rfl ?_
            refine oRun.iload 281 dX9_order_279 8 rfl rfl ?_
            refine oRun.iconst 282 dX9_order_281 oc_im1 rfl ?_
            by_cases c282 : x7 = (-1)
            · replace h := oIp c282 h
              refine oRun.icmp_eq_t 295 dX9_order_282 c282 rfl ?_
              refine oRun.sub [1, 2, 3, 4, 5, 6, 7, 9, 10, 0] rfl ?_
              exact E_X9_order_J295 h hc hx
            · replace h := oIn c282 h
              refine oRun.icmp_eq_f 285 dX9_order_282 rfl c282 rfl ?_
              refine oRun.iload 287 dX9_order_285 0 rfl rfl ?_
              refine oRun.iload 289 dX9_order_287 8 rfl rfl ?_
              by_cases c289 : r274 < x7
              · replace h := oIp c289 h
                refine oRun.icmp_lt_t 295 dX9_order_289 c289 rfl ?_
                refine oRun.sub [1, 2, 3, 4, 5, 6, 7, 9, 10, 0] rfl ?_
                exact E_X9_order_J295 h hc hx
              · replace h := oIn c289 h
                refine oRun.icmp_lt_f 292 dX9_order_289 rfl c289 rfl ?_
                refine oRun.goto 314 dX9_order_292 rfl ?_
                refine oRun.iinc 317 dX9_order_314 10 rfl (oAddC oc_i1) (Nat.le_of_ble_eq_true rfl) rfl rfl ?_
                refine oRun.goto 93 dX9_order_317 rfl ?_
                cases h
                refine oRun.sub [2, 3, 4, 5, 6, 7, 8, 9, 10, 0] rfl ?_
                exact hc _ rfl
          · replace h := oIn c262 h
            refine oRun.icmp_ne_t 270 dX9_order_262 c262 rfl ?_
            refine oRun.iload 272 dX9_order_270 6 rfl rfl ?_
            obtain ⟨m272, hm272, h⟩ := oB1 h
            refine oRun.iastore 273 dX9_order_272 rfl hm272 rfl ?_
            refine oRun.aload_n 274 dX9_order_273 0 rfl rfl (Nat.le_of_ble_eq_true rfl) rfl ?_
            obtain ⟨r274, hr274, h⟩ := oB1 h
            refine oRun.callV (as := []) 277 dX9_order_274 lk_RX9_179 (oFit_i (Nat.le_of_ble_eq_true rfl) (Nat.le_of_ble_eq_true rfl)) rfl rfl rfl rfl (Nat.le_of_ble_eq_true rfl) (Nat.le_of_ble_eq_true rfl) rfl (E_X9_wheels hr274) rfl ?_
            show oRun G _ 277 _ [.int r274] _ _ _
            refine oRun.istore 279 dX9_order_277 (Nat.le_of_ble_eq_true rfl) rfl rfl ?_
            refine oRun.iload 281 dX9_order_279 8 rfl rfl ?_
            refine oRun.iconst 282 dX9_order_281 oc_im1 rfl ?_
            by_cases c282 : x7 = (-1)
            · replace h := oIp c282 h
              refine oRun.icmp_eq_t 295 dX9_order_282 c282 rfl ?_
              refine oRun.sub [1, 2, 3, 4, 5, 6, 7, 9, 10, 0] rfl ?_
              exact E_X9_order_J295 h hc hx
            · replace h := oIn c282 h
              refine oRun.icmp_eq_f 285 dX9_order_282 rfl c282 rfl ?_
              refine oRun.iload 287 dX9_order_285 0 rfl rfl ?_
              refine oRun.iload 289 dX9_order_287 8 rfl rfl ?_
              by_cases c289 : r274 < x7
              · replace h := oIp c289 h
                refine oRun.icmp_lt_t 295 dX9_order_289 c289 rfl ?_
                refine oRun.sub [1, 2, 3, 4, 5, 6, 7, 9, 10, 0] rfl ?_
                exact E_X9_order_J295 h hc hx
              · replace h := oIn c289 h
                refine oRun.icmp_lt_f 292 dX9_order_289 rfl c289 rfl ?_
                refine oRun.goto 314 dX9_order_292 rfl ?_
                refine oRun.iinc 317 dX9_order_314 10 rfl (oAddC oc_i1) (Nat.le_of_ble_eq_true rfl) rfl rfl ?_
                refine oRun.goto 93 dX9_order_317 rfl ?_
                cases h
                refine oRun.sub [2, 3, 4, 5, 6, 7, 8, 9, 10, 0] rfl ?_
                exact hc _ rfl
      · replace h := oIn c226 h
        refine oRun.icmp_ne_t 234 dX9_order_226 c226 rfl ?_
        refine oRun.iload 236 dX9_order_234 6 rfl rfl ?_
        obtain ⟨m236, hm236, h⟩ := oB1 h
        refine oRun.iastore 237 dX9_order_236 rfl hm236 rfl ?_
        refine oRun.aload_n 238 dX9_order_237 0 rfl rfl (Nat.le_of_ble_eq_true rfl) rfl ?_
        refine oRun.getR 241 dX9_order_238 fd_RX9_11 rfl rfl (Nat.le_of_ble_eq_true rfl) rfl ?_
        refine oRun.bipush 243 dX9_order_241 oc_b25 rfl ?_
        refine oRun.iconst 244 dX9_order_243 oc_i3 rfl ?_
        refine oRun.iload_n 245 dX9_order_244 1 rfl rfl rfl ?_
        refine oRun.imul 246 dX9_order_245 rfl ?_
        refine oRun.iadd 247 dX9_order_246 rfl ?_
        refine oRun.iconst 248 dX9_order_247 oc_i2 rfl ?_
        refine oRun.iadd 249 dX9_order_248 rfl ?_
        refine oRun.iload 251 dX9_order_249 12 rfl rfl ?_
        by_cases c251 : x12 = 0
        · replace h := oIp c251 h
          refine oRun.if_ne_f 254 dX9_order_251 rfl c251 rfl ?_
          refine oRun.iload 256 dX9_order_254 4 rfl rfl ?_
          refine oRun.goto 272 dX9_order_256 rfl ?_
          obtain ⟨m272, hm272, h⟩ := oB1 h
          refine oRun.iastore 273 dX9_order_272 rfl hm272 rfl ?_
          refine oRun.aload_n 274 dX9_order_273 0 rfl rfl (Nat.le_of_ble_eq_true rfl) rfl ?_
          obtain ⟨r274, hr274, h⟩ := oB1 h
          refine oRun.callV (as := []) 277 dX9_order_274 lk_RX9_179 (oFit_i (Nat.le_of_ble_eq_true rfl) (Nat.le_of_ble_eq_true rfl)) rfl rfl rfl rfl (Nat.le_of_ble_eq_true rfl) (Nat.le_of_ble_eq_true rfl) rfl (E_X9_wheels hr274) rfl ?_
          show oRun G _ 277 _ [.int r274] _ _ _
          refine oRun.istore 279 dX9_order_277 (Nat.le_of_ble_eq_true rfl) rfl rfl ?_
          refine oRun.iload 281 dX9_order_279 8 rfl rfl ?_
          refine oRun.iconst 282 dX9_order_281 oc_im1 rfl ?_
          by_cases c282 : x7 = (-1)
          · replace h := oIp c282 h
            refine oRun.icmp_eq_t 295 dX9_order_282 c282 rfl ?_
            refine oRun.sub [1, 2, 3, 4, 5, 6, 7, 9, 10, 0] rfl ?_
            exact E_X9_order_J295 h hc hx
          · replace h := oIn c282 h
            refine oRun.icmp_eq_f 285 dX9_order_282 rfl c282 rfl ?_
            refine oRun.iload 287 dX9_order_285 0 rfl rfl ?_
            refine oRun.iload 289 dX9_order_287 8 rfl rfl ?_
            by_cases c289 : r274 < x7
            · replace h := oIp c289 h
              refine oRun.icmp_lt_t 295 dX9_order_289 c289 rfl ?_
              refine oRun.sub [1, 2, 3, 4, 5, 6, 7, 9, 10, 0] rfl ?_
              exact E_X9_order_J295 h hc hx
            · replace h := oIn c289 h
              refine oRun.icmp_lt_f 292 dX9_order_289 rfl c289 rfl ?_
              refine oRun.goto 314 dX9_order_292 rfl ?_
              refine oRun.iinc 317 dX9_order_314 10 rfl (oAddC oc_i1) (Nat.le_of_ble_eq_true rfl) rfl rfl ?_
              refine oRun.goto 93 dX9_order_317 rfl ?_
              cases h
              refine oRun.sub [2, 3, 4, 5, 6, 7, 8, 9, 10, 0] rfl ?_
              exact hc _ rfl
        · replace h := oIn c251 h
          refine oRun.if_ne_t 259 dX9_order_251 c251 rfl ?_
          refine oRun.iload 261 dX9_order_259 12 rfl rfl ?_
          refine oRun.iconst 262 dX9_order_261 oc_i1 rfl ?_
          by_cases c262 : x12 = 1
          · replace h := oIp c262 h
            refine oRun.icmp_ne_f 265 dX9_order_262 rfl c262 rfl ?_
            refine oRun.iload 267 dX9_order_265 5 rfl rfl ?_
            refine oRun.goto 272 dX9_order_267 rfl ?_
            obtain ⟨m272, hm272, h⟩ := oB1 h
            refine oRun.iastore 273 dX9_order_272 rfl hm272 rfl ?_
            refine oRun.aload_n 274 dX9_order_273 0 rfl rfl (Nat.le_of_ble_eq_true rfl) rfl ?_
            obtain ⟨r274, hr274, h⟩ := oB1 h
            refine oRun.callV (as := []) 277 dX9_order_274 lk_RX9_179 (oFit_i (Nat.le_of_ble_eq_true rfl) (Nat.le_of_ble_eq_true rfl)) rfl rfl rfl rfl (Nat.le_of_ble_eq_true rfl) (Nat.le_of_ble_eq_true rfl) rfl (E_X9_wheels hr274) rfl ?_
            show oRun G _ 277 _ [.int r274] _ _ _
            refine oRun.istore 279 dX9_order_277 (Nat.le_of_ble_eq_true rfl) rfl rfl ?_
            refine oRun.iload 281 dX9_order_279 8 rfl rfl ?_
            refine oRun.iconst 282 dX9_order_281 oc_im1 rfl ?_
            by_cases c282 : x7 = (-1)
            · replace h := oIp c282 h
              refine oRun.icmp_eq_t 295 dX9_order_282 c282 rfl ?_
              refine oRun.sub [1, 2, 3, 4, 5, 6, 7, 9, 10, 0] rfl ?_
              exact E_X9_order_J295 h hc hx
            · replace h := oIn c282 h
              refine oRun.icmp_eq_f 285 dX9_order_282 rfl c282 rfl ?_
              refine oRun.iload 287 dX9_order_285 0 rfl rfl ?_
              refine oRun.iload 289 dX9_order_287 8 rfl rfl ?_
              by_cases c289 : r274 < x7
              · replace h := oIp c289 h
                refine oRun.icmp_lt_t 295 dX9_order_289 c289 rfl ?_
                refine oRun.sub [1, 2, 3, 4, 5, 6, 7, 9, 10, 0] rfl ?_
                exact E_X9_order_J295 h hc hx
              · replace h := oIn c289 h
                refine oRun.icmp_lt_f 292 dX9_order_289 rfl c289 rfl ?_
                refine oRun.goto 314 dX9_order_292 rfl ?_
                refine oRun.iinc 317 dX9_order_314 10 rfl (oAddC oc_i1) (Nat.le_of_ble_eq_true rfl) rfl rfl ?_
                refine oRun.goto 93 dX9_order_317 rfl ?_
                cases h
                refine oRun.sub [2, 3, 4, 5, 6, 7, 8, 9, 10, 0] rfl ?_
                exact hc _ rfl
          · replace h := oIn c262 h
            refine oRun.icmp_ne_t 270 dX9_order_262 c262 rfl ?_
            refine oRun.iload 272 dX9_order_270 6 rfl rfl ?_
            obtain ⟨m272, hm272, h⟩ := oB1 h
            refine oRun.iastore 273 dX9_order_272 rfl hm272 rfl ?_
            refine oRun.aload_n 274 dX9_order_273 0 rfl rfl (Nat.le_of_ble_eq_true rfl) rfl ?_
            obtain ⟨r274, hr274, h⟩ := oB1 h
            refine oRun.callV (as := []) 277 dX9_order_274 lk_RX9_179 (oFit_i (Nat.le_of_ble_eq_true rfl) (Nat.le_of_ble_eq_true rfl)) rfl rfl rfl rfl (Nat.le_of_ble_eq_true rfl) (Nat.le_of_ble_eq_true rfl) rfl (E_X9_wheels hr274) rfl ?_
            show oRun G _ 277 _ [.int r274] _ _ _
            refine oRun.istore 279 dX9_order_277 (Nat.le_of_ble_eq_true rfl) rfl rfl ?_
            refine oRun.iload 281 dX9_order_279 8 rfl rfl ?_
            refine oRun.iconst 282 dX9_order_281 oc_im1 rfl ?_
            by_cases c282 : x7 = (-1)
            · replace h := oIp c282 h
              refine oRun.icmp_eq_t 295 dX9_order_282 c282 rfl ?_
              refine oRun.sub [1, 2, 3, 4, 5, 6, 7, 9, 10, 0] rfl ?_
              exact E_X9_order_J295 h hc hx
            · replace h := oIn c282 h
              refine oRun.icmp_eq_f 285 dX9_order_282 rfl c282 rfl ?_
              refine oRun.iload 287 dX9_order_285 0 rfl rfl ?_
              refine oRun.iload 289 dX9_order_287 8 rfl rfl ?_
              by_cases c289 : r274 < x7
              · replace h := oIp c289 h
                refine oRun.icmp_lt_t 295 dX9_order_289 c289 rfl ?_
                refine oRun.sub [1, 2, 3, 4, 5, 6, 7, 9, 10, 0] rfl ?_
                exact E_X9_order_J295 h hc hx
              · replace h := oIn c289 h
                refine oRun.icmp_lt_f 292 dX9_order_289 rfl c289 rfl ?_
                refine oRun.goto 314 dX9_order_292 rfl ?_
                refine oRun.iinc 317 dX9_order_314 10 rfl (oAddC oc_i1) (Nat.le_of_ble_eq_true rfl) rfl rfl ?_
                refine oRun.goto 93 dX9_order_317 rfl ?_
                cases h
                refine oRun.sub [2, 3, 4, 5, 6, 7, 8, 9, 10, 0] rfl ?_
                exact hc _ rfl
  · replace h := oIn c179 h
    refine oRun.if_ne_t 187 dX9_order_179 c179 rfl ?_
    refine oRun.iload 189 dX9_order_187 10 rfl rfl ?_
    refine oRun.iconst 190 dX9_order_189 oc_i1 rfl ?_
    by_cases c190 : x10 = 1
    · replace h := oIp c190 h
      refine oRun.icmp_ne_f 193 dX9_order_190 rfl c190 rfl ?_
      refine oRun.iload 195 dX9_order_193 5 rfl rfl ?_
      refine oRun.goto 200 dX9_order_195 rfl ?_
      obtain ⟨m200, hm200, h⟩ := oB1 h
      refine oRun.iastore 201 dX9_order_200 rfl hm200 rfl ?_
      refine oRun.aload_n 202 dX9_order_201 0 rfl rfl (Nat.le_of_ble_eq_true rfl) rfl ?_
      refine oRun.getR 205 dX9_order_202 fd_RX9_11 rfl rfl (Nat.le_of_ble_eq_true rfl) rfl ?_
      refine oRun.bipush 207 dX9_order_205 oc_b25 rfl ?_
      refine oRun.iconst 208 dX9_order_207 oc_i3 rfl ?_
      refine oRun.iload_n 209 dX9_order_208 1 rfl rfl rfl ?_
      refine oRun.imul 210 dX9_order_209 rfl ?_
      refine oRun.iadd 211 dX9_order_210 rfl ?_
      refine oRun.iconst 212 dX9_order_211 oc_i1 rfl ?_
      refine oRun.iadd 213 dX9_order_212 rfl ?_
      refine oRun.iload 215 dX9_order_213 11 rfl rfl ?_
      by_cases c215 : x11 = 0
      · replace h := oIp c215 h
        refine oRun.if_ne_f 218 dX9_order_215 rfl c215 rfl ?_
        refine oRun.iload 220 dX9_order_218 4 rfl rfl ?_
        refine oRun.goto 236 dX9_order_220 rfl ?_
        obtain ⟨m236, hm236, h⟩ := oB1 h
        refine oRun.iastore 237 dX9_order_236 rfl hm236 rfl ?_
        refine oRun.aload_n 238 dX9_order_237 0 rfl rfl (Nat.le_of_ble_eq_true rfl) rfl ?_
        refine oRun.getR 241 dX9_order_238 fd_RX9_11 rfl rfl (Nat.le_of_ble_eq_true rfl) rfl ?_
        refine oRun.bipush 243 dX9_order_241 oc_b25 rfl ?_
        refine oRun.iconst 244 dX9_order_243 oc_i3 rfl ?_
        refine oRun.iload_n 245 dX9_order_244 1 rfl rfl rfl ?_
        refine oRun.imul 246 dX9_order_245 rfl ?_
        refine oRun.iadd 247 dX9_order_246 rfl ?_
        refine oRun.iconst 248 dX9_order_247 oc_i2 rfl ?_
        refine oRun.iadd 249 dX9_order_248 rfl ?_
        refine oRun.iload 251 dX9_order_249 12 rfl rfl ?_
        by_cases c251 : x12 = 0
        · replace h := oIp c251 h
          refine oRun.if_ne_f 254 dX9_order_251 rfl c251 rfl ?_
          refine oRun.iload 256 dX9_order_254 4 rfl rfl ?_
          refine oRun.goto 272 dX9_order_256 rfl ?_
          obtain ⟨m272, hm272, h⟩ := oB1 h
          refine oRun.iastore 273 dX9_order_272 rfl hm272 rfl ?_
          refine oRun.aload_n 274 dX9_order_273 0 rfl rfl (Nat.le_of_ble_eq_true rfl) rfl ?_
          obtain ⟨r274, hr274, h⟩ := oB1 h
          refine oRun.callV (as := []) 277 dX9_order_274 lk_RX9_179 (oFit_i (Nat.le_of_ble_eq_true rfl) (Nat.le_of_ble_eq_true rfl)) rfl rfl rfl rfl (Nat.le_of_ble_eq_true rfl) (Nat.le_of_ble_eq_true rfl) rfl (E_X9_wheels hr274) rfl ?_
          show oRun G _ 277 _ [.int r274] _ _ _
          refine oRun.istore 279 dX9_order_277 (Nat.le_of_ble_eq_true rfl) rfl rfl ?_
          refine oRun.iload 281 dX9_order_279 8 rfl rfl ?_
          refine oRun.iconst 282 dX9_order_281 oc_im1 rfl ?_
          by_cases c282 : x7 = (-1)
          · replace h := oIp c282 h
            refine oRun.icmp_eq_t 295 dX9_order_282 c282 rfl ?_
            refine oRun.sub [1, 2, 3, 4, 5, 6, 7, 9, 10, 0] rfl ?_
            exact E_X9_order_J295 h hc hx
          · replace h := oIn c282 h
            refine oRun.icmp_eq_f 285 dX9_order_282 rfl c282 rfl ?_
            refine oRun.iload 287 dX9_order_285 0 rfl rfl ?_
            refine oRun.iload 289 dX9_order_287 8 rfl rfl ?_
            by_cases c289 : r274 < x7
            · replace h := oIp c289 h
              refine oRun.icmp_lt_t 295 dX9_order_289 c289 rfl ?_
              refine oRun.sub [1, 2, 3, 4, 5, 6, 7, 9, 10, 0] rfl ?_
              exact E_X9_order_J295 h hc hx
            · replace h := oIn c289 h
              refine oRun.icmp_lt_f 292 dX9_order_289 rfl c289 rfl ?_
              refine oRun.goto 314 dX9_order_292 rfl ?_
              refine oRun.iinc 317 dX9_order_314 10 rfl (oAddC oc_i1) (Nat.le_of_ble_eq_true rfl) rfl rfl ?_
              refine oRun.goto 93 dX9_order_317 rfl ?_
              cases h
              refine oRun.sub [2, 3, 4, 5, 6, 7, 8, 9, 10, 0] rfl ?_
              exact hc _ rfl
        · replace h := oIn c251 h
          refine oRun.if_ne_t 259 dX9_order_251 c251 rfl ?_
          refine oRun.iload 261 dX9_order_259 12 rfl rfl ?_
          refine oRun.iconst 262 dX9_order_261 oc_i1 rfl ?_
          by_cases c262 : x12 = 1
          · replace h := oIp c262 h
            refine oRun.icmp_ne_f 265 dX9_order_262 rfl c262 rfl ?_
            refine oRun.iload 267 dX9_order_265 5 rfl rfl ?_
            refine oRun.goto 272 dX9_order_267 rfl ?_
            obtain ⟨m272, hm272, h⟩ := oB1 h
            refine oRun.iastore 273 dX9_order_272 rfl hm272 rfl ?_
            refine oRun.aload_n 274 dX9_order_273 0 rfl rfl (Nat.le_of_ble_eq_true rfl) rfl ?_
            obtain ⟨r274, hr274, h⟩ := oB1 h
            refine oRun.callV (as := []) 277 dX9_order_274 lk_RX9_179 (oFit_i (Nat.le_of_ble_eq_true rfl) (Nat.le_of_ble_eq_true rfl)) rfl rfl rfl rfl (Nat.le_of_ble_eq_true rfl) (Nat.le_of_ble_eq_true rfl) rfl (E_X9_wheels hr274) rfl ?_
            show oRun G _ 277 _ [.int r274] _ _ _
            refine oRun.istore 279 dX9_order_277 (Nat.le_of_ble_eq_true rfl) rfl rfl ?_
            refine oRun.iload 281 dX9_order_279 8 rfl rfl ?_
            refine oRun.iconst 282 dX9_order_281 oc_im1 rfl ?_
            by_cases c282 : x7 = (-1)
            · replace h := oIp c282 h
              refine oRun.icmp_eq_t 295 dX9_order_282 c282 rfl ?_
              refine oRun.sub [1, 2, 3, 4, 5, 6, 7, 9, 10, 0] rfl ?_
              exact E_X9_order_J295 h hc hx
            · replace h := oIn c282 h
              refine oRun.icmp_eq_f 285 dX9_order_282 rfl c282 rfl ?_
              refine oRun.iload 287 dX9_order_285 0 rfl rfl ?_
              refine oRun.iload 289 dX9_order_287 8 rfl rfl ?_
              by_cases c289 : r274 < x7
              · replace h := oIp c289 h
                refine oRun.icmp_lt_t 295 dX9_order_289 c289 rfl ?_
                refine oRun.sub [1, 2, 3, 4, 5, 6, 7, 9, 10, 0] rfl ?_
                exact E_X9_order_J295 h hc hx
              · replace h := oIn c289 h
                refine oRun.icmp_lt_f 292 dX9_order_289 rfl c289 rfl ?_
                refine oRun.goto 314 dX9_order_292 rfl ?_
                refine oRun.iinc 317 dX9_order_314 10 rfl (oAddC oc_i1) (Nat.le_of_ble_eq_true rfl) rfl rfl ?_
                refine oRun.goto 93 dX9_order_317 rfl ?_
                cases h
                refine oRun.sub [2, 3, 4, 5, 6, 7, 8, 9, 10, 0] rfl ?_
                exact hc _ rfl
          · replace h := oIn c262 h
            refine oRun.icmp_ne_t 270 dX9_order_262 c262 rfl ?_
            refine oRun.iload 272 dX9_order_270 6 rfl rfl ?_
            obtain ⟨m272, hm272, h⟩ := oB1 h
            refine oRun.iastore 273 dX9_order_272 rfl hm272 rfl ?_
            refine oRun.aload_n 274 dX9_order_273 0 rfl rfl (Nat.le_of_ble_eq_true rfl) rfl ?_
            obtain ⟨r274, hr274, h⟩ := oB1 h
            refine oRun.callV (as := []) 277 dX9_order_274 lk_RX9_179 (oFit_i (Nat.le_of_ble_eq_true rfl) (Nat.le_of_ble_eq_true rfl)) rfl rfl rfl rfl (Nat.le_of_ble_eq_true rfl) (Nat.le_of_ble_eq_true rfl) rfl (E_X9_wheels hr274) rfl ?_
            show oRun G _ 277 _ [.int r274] _ _ _
            refine oRun.istore 279 dX9_order_277 (Nat.le_of_ble_eq_true rfl) rfl rfl ?_
            refine oRun.iload 281 dX9_order_279 8 rfl rfl ?_
            refine oRun.iconst 282 dX9_order_281 oc_im1 rfl ?_
            by_cases c282 : x7 = (-1)
            · replace h := oIp c282 h
              refine oRun.icmp_eq_t 295 dX9_order_282 c282 rfl ?_
              refine oRun.sub [1, 2, 3, 4, 5, 6, 7, 9, 10, 0] rfl ?_
              exact E_X9_order_J295 h hc hx
            · replace h := oIn c282 h
              refine oRun.icmp_eq_f 285 dX9_order_282 rfl c282 rfl ?_
              refine oRun.iload 287 dX9_order_285 0 rfl rfl ?_
              refine oRun.iload 289 dX9_order_287 8 rfl rfl ?_
              by_cases c289 : r274 < x7
              · replace h := oIp c289 h
                refine oRun.icmp_lt_t 295 dX9_order_289 c289 rfl ?_
                refine oRun.sub [1, 2, 3, 4, 5, 6, 7, 9, 10, 0] rfl ?_
                exact E_X9_order_J295 h hc hx
              · replace h := oIn c289 h
                refine oRun.icmp_lt_f 292 dX9_order_289 rfl c289 rfl ?_
                refine oRun.goto 314 dX9_order_292 rfl ?_
                refine oRun.iinc 317 dX9_order_314 10 rfl (oAddC oc_i1) (Nat.le_of_ble_eq_true rfl) rfl rfl ?_
                refine oRun.goto 93 dX9_order_317 rfl ?_
                cases h
                refine oRun.sub [2, 3, 4, 5, 6, 7, 8, 9, 10, 0] rfl ?_
                exact hc _ rfl
      · replace h := oIn c215 h
        refine oRun.if_ne_t 223 dX9_order_215 c215 rfl ?_
        refine oRun.iload 225 dX9_order_223 11 rfl rfl ?_
        refine oRun.iconst 226 dX9_order_225 oc_i1 rfl ?_
        by_cases c226 : x11 = 1
        · replace h := oIp c226 h
          refine oRun.icmp_ne_f 229 dX9_order_226 rfl c226 rfl ?_
          refine oRun.iload 231 dX9_order_229 5 rfl rfl ?_
          refine oRun.goto 236 dX9_order_231 rfl ?_
          obtain ⟨m236, hm236, h⟩ := oB1 h
          refine oRun.iastore 237 dX9_order_236 rfl hm236 rfl ?_
          refine oRun.aload_n 238 dX9_order_237 0 rfl rfl (Nat.le_of_ble_eq_true rfl) rfl ?_
          refine oRun.getR 241 dX9_order_238 fd_RX9_11 rfl rfl (Nat.le_of_ble_eq_true rfl) rfl ?_
          refine oRun.bipush 243 dX9_order_241 oc_b25 rfl ?_
          refine oRun.iconst 244 dX9_order_243 oc_i3 rfl ?_
          refine oRun.iload_n 245 dX9_order_244 1 rfl rfl rfl ?_
          refine oRun.imul 246 dX9_order_245 rfl ?_
          refine oRun.iadd 247 dX9_order_246 rfl ?_
          refine oRun.iconst 248 dX9_order_247 oc_i2 rfl ?_
          refine oRun.iadd 249 dX9_order_248 rfl ?_
          refine oRun.iload 251 dX9_order_249 12 rfl rfl ?_
          by_cases c251 : x12 = 0
          · replace h := oIp c251 h
            refine oRun.if_ne_f 254 dX9_order_251 rfl c251 rfl ?_
            refine oRun.iload 256 dX9_order_254 4 rfl rfl ?_
            refine oRun.goto 272 dX9_order_256 rfl ?_
            obtain ⟨m272, hm272, h⟩ := oB1 h
            refine oRun.iastore 273 dX9_order_272 rfl hm272 rfl ?_
            refine oRun.aload_n 274 dX9_order_273 0 rfl rfl (Nat.le_of_ble_eq_true rfl) rfl ?_
            obtain ⟨r274, hr274, h⟩ := oB1 h
            refine oRun.callV (as := []) 277 dX9_order_274 lk_RX9_179 (oFit_i (Nat.le_of_ble_eq_true rfl) (Nat.le_of_ble_eq_true rfl)) rfl rfl rfl rfl (Nat.le_of_ble_eq_true rfl) (Nat.le_of_ble_eq_true rfl) rfl (E_X9_wheels hr274) rfl ?_
            show oRun G _ 277 _ [.int r274] _ _ _
            refine oRun.istore 279 dX9_order_277 (Nat.le_of_ble_eq_true rfl) rfl rfl ?_
            refine oRun.iload 281 dX9_order_279 8 rfl rfl ?_
            refine oRun.iconst 282 dX9_order_281 oc_im1 rfl ?_
            by_cases c282 : x7 = (-1)
            · replace h := oIp c282 h
              refine oRun.icmp_eq_t 295 dX9_order_282 c282 rfl ?_
              refine oRun.sub [1, 2, 3, 4, 5, 6, 7, 9, 10, 0] rfl ?_
              exact E_X9_order_J295 h hc hx
            · replace h := oIn c282 h
              refine oRun.icmp_eq_f 285 dX9_order_282 rfl c282 rfl ?_
              refine oRun.iload 287 dX9_order_285 0 rfl rfl ?_
              refine oRun.iload 289 dX9_order_287 8 rfl rfl ?_
              by_cases c289 : r274 < x7
              · replace h := oIp c289 h
                refine oRun.icmp_lt_t 295 dX9_order_289 c289 rfl ?_
                refine oRun.sub [1, 2, 3, 4, 5, 6, 7, 9, 10, 0] rfl ?_
                exact E_X9_order_J295 h hc hx
              · replace h := oIn c289 h
                refine oRun.icmp_lt_f 292 dX9_order_289 rfl c289 rfl ?_
                refine oRun.goto 314 dX9_order_292 rfl ?_
                refine oRun.iinc 317 dX9_order_314 10 rfl (oAddC oc_i1) (Nat.le_of_ble_eq_true rfl) rfl rfl ?_
                refine oRun.goto 93 dX9_order_317 rfl ?_
                cases h
                refine oRun.sub [2, 3, 4, 5, 6, 7, 8, 9, 10, 0] rfl ?_
                exact hc _ rfl
          · replace h := oIn c251 h
            refine oRun.if_ne_t 259 dX9_order_251 c251 rfl ?_
            refine oRun.iload 261 dX9_order_259 12 rfl rfl ?_
            refine oRun.iconst 262 dX9_order_261 oc_i1 rfl ?_
            by_cases c262 : x12 = 1
            · replace h := oIp c262 h
              refine oRun.icmp_ne_f 265 dX9_order_262 rfl c262 rfl ?_
              refine oRun.iload 267 dX9_order_265 5 rfl rfl ?_
              refine oRun.goto 272 dX9_order_267 rfl ?_
              obtain ⟨m272, hm272, h⟩ := oB1 h
              refine oRun.iastore 273 dX9_order_272 rfl hm272 rfl ?_
              refine oRun.aload_n 274 dX9_order_273 0 rfl rfl (Nat.le_of_ble_eq_true rfl) rfl ?_
              obtain ⟨r274, hr274, h⟩ := oB1 h
              refine oRun.callV (as := []) 277 dX9_order_274 lk_RX9_179 (oFit_i (Nat.le_of_ble_eq_true rfl) (Nat.le_of_ble_eq_true rfl)) rfl rfl rfl rfl (Nat.le_of_ble_eq_true rfl) (Nat.le_of_ble_eq_true rfl) rfl (E_X9_wheels hr274) rfl ?_
              show oRun G _ 277 _ [.int r274] _ _ _
              refine oRun.istore 279 dX9_order_277 (Nat.le_of_ble_eq_true rfl) rfl rfl ?_
              refine oRun.iload 281 dX9_order_279 8 rfl rfl ?_
              refine oRun.iconst 282 dX9_order_281 oc_im1 rfl ?_
              by_cases c282 : x7 = (-1)
              · replace h := oIp c282 h
                refine oRun.icmp_eq_t 295 dX9_order_282 c282 rfl ?_
                refine oRun.sub [1, 2, 3, 4, 5, 6, 7, 9, 10, 0] rfl ?_
                exact E_X9_order_J295 h hc hx
              · replace h := oIn c282 h
                refine oRun.icmp_eq_f 285 dX9_order_282 rfl c282 rfl ?_
                refine oRun.iload 287 dX9_order_285 0 rfl rfl ?_
                refine oRun.iload 289 dX9_order_287 8 rfl rfl ?_
                by_cases c289 : r274 < x7
                · replace h := oIp c289 h
                  refine oRun.icmp_lt_t 295 dX9_order_289 c289 rfl ?_
                  refine oRun.sub [1, 2, 3, 4, 5, 6, 7, 9, 10, 0] rfl ?_
                  exact E_X9_order_J295 h hc hx
                · replace h := oIn c289 h
                  refine oRun.icmp_lt_f 292 dX9_order_289 rfl c289 rfl ?_
                  refine oRun.goto 314 dX9_order_292 rfl ?_
                  refine oRun.iinc 317 dX9_order_314 10 rfl (oAddC oc_i1) (Nat.le_of_ble_eq_true rfl) rfl rfl ?_
                  refine oRun.goto 93 dX9_order_317 rfl ?_
                  cases h
                  refine oRun.sub [2, 3, 4, 5, 6, 7, 8, 9, 10, 0] rfl ?_
                  exact hc _ rfl
            · replace h := oIn c262 h
              refine oRun.icmp_ne_t 270 dX9_order_262 c262 rfl ?_
              refine oRun.iload 272 dX9_order_270 6 rfl rfl ?_
              obtain ⟨m272, hm272, h⟩ := oB1 h
              refine oRun.iastore 273 dX9_order_272 rfl hm272 rfl ?_
              refine oRun.aload_n 274 dX9_order_273 0 rfl rfl (Nat.le_of_ble_eq_true rfl) rfl ?_
              obtain ⟨r274, hr274, h⟩ := oB1 h
              refine oRun.callV (as := []) 277 dX9_order_274 lk_RX9_179 (oFit_i (Nat.le_of_ble_eq_true rfl) (Nat.le_of_ble_eq_true rfl)) rfl rfl rfl rfl (Nat.le_of_ble_eq_true rfl) (Nat.le_of_ble_eq_true rfl) rfl (E_X9_wheels hr274) rfl ?_
              show oRun G _ 277 _ [.int r274] _ _ _
              refine oRun.istore 279 dX9_order_277 (Nat.le_of_ble_eq_true rfl) rfl rfl ?_
              refine oRun.iload 281 dX9_order_279 8 rfl rfl ?_
              refine oRun.iconst 282 dX9_order_281 oc_im1 rfl ?_
              by_cases c282 : x7 = (-1)
              · replace h := oIp c282 h
                refine oRun.icmp_eq_t 295 dX9_order_282 c282 rfl ?_
                refine oRun.sub [1, 2, 3, 4, 5, 6, 7, 9, 10, 0] rfl ?_
                exact E_X9_order_J295 h hc hx
              · replace h := oIn c282 h
                refine oRun.icmp_eq_f 285 dX9_order_282 rfl c282 rfl ?_
                refine oRun.iload 287 dX9_order_285 0 rfl rfl ?_
                refine oRun.iload 289 dX9_order_287 8 rfl rfl ?_
                by_cases c289 : r274 < x7
                · replace h := oIp c289 h
                  refine oRun.icmp_lt_t 295 dX9_order_289 c289 rfl ?_
                  refine oRun.sub [1, 2, 3, 4, 5, 6, 7, 9, 10, 0] rfl ?_
                  exact E_X9_order_J295 h hc hx
                · replace h := oIn c289 h
                  refine oRun.icmp_lt_f 292 dX9_order_289 rfl c289 rfl ?_
                  refine oRun.goto 314 dX9_order_292 rfl ?_
                  refine oRun.iinc 317 dX9_order_314 10 rfl (oAddC oc_i1) (Nat.le_of_ble_eq_true rfl) rfl rfl ?_
                  refine oRun.goto 93 dX9_order_317 rfl ?_
                  cases h
                  refine oRun.sub [2, 3, 4, 5, 6, 7, 8, 9, 10, 0] rfl ?_
                  exact hc _ rfl
        · replace h := oIn c226 h
          refine oRun.icmp_ne_t 234 dX9_order_226 c226 rfl ?_
          refine oRun.iload 236 dX9_order_234 6 rfl rfl ?_
          obtain ⟨m236, hm236, h⟩ := oB1 h
          refine oRun.iastore 237 dX9_order_236 rfl hm236 rfl ?_
          refine oRun.aload_n 238 dX9_order_237 0 rfl rfl (Nat.le_of_ble_eq_true rfl) rfl ?_
          refine oRun.getR 241 dX9_order_238 fd_RX9_11 rfl rfl (Nat.le_of_ble_eq_true rfl) rfl ?_
          refine oRun.bipush 243 dX9_order_241 oc_b25 rfl ?_
          refine oRun.iconst 244 dX9_order_243 oc_i3 rfl ?_
          refine oRun.iload_n 245 dX9_order_244 1 rfl rfl rfl ?_
          refine oRun.imul 246 dX9_order_245 rfl ?_
          refine oRun.iadd 247 dX9_order_246 rfl ?_
          refine oRun.iconst 248 dX9_order_247 oc_i2 rfl ?_
          refine oRun.iadd 249 dX9_order_248 rfl ?_
          refine oRun.iload 251 dX9_order_249 12 rfl rfl ?_
          by_cases c251 : x12 = 0
          · replace h := oIp c251 h
            refine oRun.if_ne_f 254 dX9_order_251 rfl c251 rfl ?_
            refine oRun.iload 256 dX9_order_254 4 rfl rfl ?_
            refine oRun.goto 272 dX9_order_256 rfl ?_
            obtain ⟨m272, hm272, h⟩ := oB1 h
            refine oRun.iastore 273 dX9_order_272 rfl hm272 rfl ?_
            refine oRun.aload_n 274 dX9_order_273 0 rfl rfl (Nat.le_of_ble_eq_true rfl) rfl ?_
            obtain ⟨r274, hr274, h⟩ := oB1 h
            refine oRun.callV (as := []) 277 dX9_order_274 lk_RX9_179 (oFit_i (Nat.le_of_ble_eq_true rfl) (Nat.le_of_ble_eq_true rfl)) rfl rfl rfl rfl (Nat.le_of_ble_eq_true rfl) (Nat.le_of_ble_eq_true rfl) rfl (E_X9_wheels hr274) rfl ?_
            show oRun G _ 277 _ [.int r274] _ _ _
            refine oRun.istore 279 dX9_order_277 (Nat.le_of_ble_eq_true rfl) rfl rfl ?_
            refine oRun.iload 281 dX9_order_279 8 rfl rfl ?_
            refine oRun.iconst 282 dX9_order_281 oc_im1 rfl ?_
            by_cases c282 : x7 = (-1)
            · replace h := oIp c282 h
              refine oRun.icmp_eq_t 295 dX9_order_282 c282 rfl ?_
              refine oRun.sub [1, 2, 3, 4, 5, 6, 7, 9, 10, 0] rfl ?_
              exact E_X9_order_J295 h hc hx
            · replace h := oIn c282 h
              refine oRun.icmp_eq_f 285 dX9_order_282 rfl c282 rfl ?_
              refine oRun.iload 287 dX9_order_285 0 rfl rfl ?_
              refine oRun.iload 289 dX9_order_287 8 rfl rfl ?_
              by_cases c289 : r274 < x7
              · replace h := oIp c289 h
                refine oRun.icmp_lt_t 295 dX9_order_289 c289 rfl ?_
                refine oRun.sub [1, 2, 3, 4, 5, 6, 7, 9, 10, 0] rfl ?_
                exact E_X9_order_J295 h hc hx
              · replace h := oIn c289 h
                refine oRun.icmp_lt_f 292 dX9_order_289 rfl c289 rfl ?_
                refine oRun.goto 314 dX9_order_292 rfl ?_
                refine oRun.iinc 317 dX9_order_314 10 rfl (oAddC oc_i1) (Nat.le_of_ble_eq_true rfl) rfl rfl ?_
                refine oRun.goto 93 dX9_order_317 rfl ?_
                cases h
                refine oRun.sub [2, 3, 4, 5, 6, 7, 8, 9, 10, 0] rfl ?_
                exact hc _ rfl
          · replace h := oIn c251 h
            refine oRun.if_ne_t 259 dX9_order_251 c251 rfl ?_
            refine oRun.iload 261 dX9_order_259 12 rfl rfl ?_
            refine oRun.iconst 262 dX9_order_261 oc_i1 rfl ?_
            by_cases c262 : x12 = 1
            · replace h := oIp c262 h
              refine oRun.icmp_ne_f 265 dX9_order_262 rfl c262 rfl ?_
              refine oRun.iload 267 dX9_order_265 5 rfl rfl ?_
              refine oRun.goto 272 dX9_order_267 rfl ?_
              obtain ⟨m272, hm272, h⟩ := oB1 h
              refine oRun.iastore 273 dX9_order_272 rfl hm272 rfl ?_
              refine oRun.aload_n 274 dX9_order_273 0 rfl rfl (Nat.le_of_ble_eq_true rfl) rfl ?_
              obtain ⟨r274, hr274, h⟩ := oB1 h
              refine oRun.callV (as := []) 277 dX9_order_274 lk_RX9_179 (oFit_i (Nat.le_of_ble_eq_true rfl) (Nat.le_of_ble_eq_true rfl)) rfl rfl rfl rfl (Nat.le_of_ble_eq_true rfl) (Nat.le_of_ble_eq_true rfl) rfl (E_X9_wheels hr274) rfl ?_
              show oRun G _ 277 _ [.int r274] _ _ _
              refine oRun.istore 279 dX9_order_277 (Nat.le_of_ble_eq_true rfl) rfl rfl ?_
              refine oRun.iload 281 dX9_order_279 8 rfl rfl ?_
              refine oRun.iconst 282 dX9_order_281 oc_im1 rfl ?_
              by_cases c282 : x7 = (-1)
              · replace h := oIp c282 h
                refine oRun.icmp_eq_t 295 dX9_order_282 c282 rfl ?_
                refine oRun.sub [1, 2, 3, 4, 5, 6, 7, 9, 10, 0] rfl ?_
                exact E_X9_order_J295 h hc hx
              · replace h := oIn c282 h
                refine oRun.icmp_eq_f 285 dX9_order_282 rfl c282 rfl ?_
                refine oRun.iload 287 dX9_order_285 0 rfl rfl ?_
                refine oRun.iload 289 dX9_order_287 8 rfl rfl ?_
                by_cases c289 : r274 < x7
                · replace h := oIp c289 h
                  refine oRun.icmp_lt_t 295 dX9_order_289 c289 rfl ?_
                  refine oRun.sub [1, 2, 3, 4, 5, 6, 7, 9, 10, 0] rfl ?_
                  exact E_X9_order_J295 h hc hx
                · replace h := oIn c289 h
                  refine oRun.icmp_lt_f 292 dX9_order_289 rfl c289 rfl ?_
                  refine oRun.goto 314 dX9_order_292 rfl ?_
                  refine oRun.iinc 317 dX9_order_314 10 rfl (oAddC oc_i1) (Nat.le_of_ble_eq_true rfl) rfl rfl ?_
                  refine oRun.goto 93 dX9_order_317 rfl ?_
                  cases h
                  refine oRun.sub [2, 3, 4, 5, 6, 7, 8, 9, 10, 0] rfl ?_
                  exact hc _ rfl
            · replace h := oIn c262 h
              refine oRun.icmp_ne_t 270 dX9_order_262 c262 rfl ?_
              refine oRun.iload 272 dX9_order_270 6 rfl rfl ?_
              obtain ⟨m272, hm272, h⟩ := oB1 h
              refine oRun.iastore 273 dX9_order_272 rfl hm272 rfl ?_
              refine oRun.aload_n 274 dX9_order_273 0 rfl rfl (Nat.le_of_ble_eq_true rfl) rfl ?_
              obtain ⟨r274, hr274, h⟩ := oB1 h
              refine oRun.callV (as := []) 277 dX9_order_274 lk_RX9_179 (oFit_i (Nat.le_of_ble_eq_true rfl) (Nat.le_of_ble_eq_true rfl)) rfl rfl rfl rfl (Nat.le_of_ble_eq_true rfl) (Nat.le_of_ble_eq_true rfl) rfl (E_X9_wheels hr274) rfl ?_
              show oRun G _ 277 _ [.int r274] _ _ _
              refine oRun.istore 279 dX9_order_277 (Nat.le_of_ble_eq_true rfl) rfl rfl ?_
              refine oRun.iload 281 dX9_order_279 8 rfl rfl ?_
              refine oRun.iconst 282 dX9_order_281 oc_im1 rfl ?_
              by_cases c282 : x7 = (-1)
              · replace h := oIp c282 h
                refine oRun.icmp_eq_t 295 dX9_order_282 c282 rfl ?_
                refine oRun.sub [1, 2, 3, 4, 5, 6, 7, 9, 10, 0] rfl ?_
                exact E_X9_order_J295 h hc hx
              · replace h := oIn c282 h
                refine oRun.icmp_eq_f 285 dX9_order_282 rfl c282 rfl ?_
                refine oRun.iload 287 dX9_order_285 0 rfl rfl ?_
                refine oRun.iload 289 dX9_order_287 8 rfl rfl ?_
                by_cases c289 : r274 < x7
                · replace h := oIp c289 h
                  refine oRun.icmp_lt_t 295 dX9_order_289 c289 rfl ?_
                  refine oRun.sub [1, 2, 3, 4, 5, 6, 7, 9, 10, 0] rfl ?_
                  exact E_X9_order_J295 h hc hx
                · replace h := oIn c289 h
                  refine oRun.icmp_lt_f 292 dX9_order_289 rfl c289 rfl ?_
                  refine oRun.goto 314 dX9_order_292 rfl ?_
                  refine oRun.iinc 317 dX9_order_314 10 rfl (oAddC oc_i1) (Nat.le_of_ble_eq_true rfl) rfl rfl ?_
                  refine oRun.goto 93 dX9_order_317 rfl ?_
                  cases h
                  refine oRun.sub [2, 3, 4, 5, 6, 7, 8, 9, 10, 0] rfl ?_
                  exact hc _ rfl
    · replace h := oIn c190 h
      refine oRun.icmp_ne_t 198 dX9_order_190 c190 rfl ?_
      refine oRun.iload 200 dX9_order_198 6 rfl rfl ?_
      obtain ⟨m200, hm200, h⟩ := oB1 h
      refine oRun.iastore 201 dX9_order_200 rfl hm200 rfl ?_
      refine oRun.aload_n 202 dX9_order_201 0 rfl rfl (Nat.le_of_ble_eq_true rfl) rfl ?_
      refine oRun.getR 205 dX9_order_202 fd_RX9_11 rfl rfl (Nat.le_of_ble_eq_true rfl) rfl ?_
      refine oRun.bipush 207 dX9_order_205 oc_b25 rfl ?_
      refine oRun.iconst 208 dX9_order_207 oc_i3 rfl ?_
      refine oRun.iload_n 209 dX9_order_208 1 rfl rfl rfl ?_
      refine oRun.imul 210 dX9_order_209 rfl ?_
      refine oRun.iadd 211 dX9_order_210 rfl ?_
      refine oRun.iconst 212 dX9_order_211 oc_i1 rfl ?_
      refine oRun.iadd 213 dX9_order_212 rfl ?_
      refine oRun.iload 215 dX9_order_213 11 rfl rfl ?_
      by_cases c215 : x11 = 0
      · replace h := oIp c215 h
        refine oRun.if_ne_f 218 dX9_order_215 rfl c215 rfl ?_
        refine oRun.iload 220 dX9_order_218 4 rfl rfl ?_
        refine oRun.goto 236 dX9_order_220 rfl ?_
        obtain ⟨m236, hm236, h⟩ := oB1 h
        refine oRun.iastore 237 dX9_order_236 rfl hm236 rfl ?_
        refine oRun.aload_n 238 dX9_order_237 0 rfl rfl (Nat.le_of_ble_eq_true rfl) rfl ?_
        refine oRun.getR 241 dX9_order_238 fd_RX9_11 rfl rfl (Nat.le_of_ble_eq_true rfl) rfl ?_
        refine oRun.bipush 243 dX9_order_241 oc_b25 rfl ?_
        refine oRun.iconst 244 dX9_order_243 oc_i3 rfl ?_
        refine oRun.iload_n 245 dX9_order_244 1 rfl rfl rfl ?_
        refine oRun.imul 246 dX9_order_245 rfl ?_
        refine oRun.iadd 247 dX9_order_246 rfl ?_
        refine oRun.iconst 248 dX9_order_247 oc_i2 rfl ?_
        refine oRun.iadd 249 dX9_order_248 rfl ?_
        refine oRun.iload 251 dX9_order_249 12 rfl rfl ?_
        by_cases c251 : x12 = 0
        · replace h := oIp c251 h
          refine oRun.if_ne_f 254 dX9_order_251 rfl c251 rfl ?_
          refine oRun.iload 256 dX9_order_254 4 rfl rfl ?_
          refine oRun.goto 272 dX9_order_256 rfl ?_
          obtain ⟨m272, hm272, h⟩ := oB1 h
          refine oRun.iastore 273 dX9_order_272 rfl hm272 rfl ?_
          refine oRun.aload_n 274 dX9_order_273 0 rfl rfl (Nat.le_of_ble_eq_true rfl) rfl ?_
          obtain ⟨r274, hr274, h⟩ := oB1 h
          refine oRun.callV (as := []) 277 dX9_order_274 lk_RX9_179 (oFit_i (Nat.le_of_ble_eq_true rfl) (Nat.le_of_ble_eq_true rfl)) rfl rfl rfl rfl (Nat.le_of_ble_eq_true rfl) (Nat.le_of_ble_eq_true rfl) rfl (E_X9_wheels hr274) rfl ?_
          show oRun G _ 277 _ [.int r274] _ _ _
          refine oRun.istore 279 dX9_order_277 (Nat.le_of_ble_eq_true rfl) rfl rfl ?_
          refine oRun.iload 281 dX9_order_279 8 rfl rfl ?_
          refine oRun.iconst 282 dX9_order_281 oc_im1 rfl ?_
          by_cases c282 : x7 = (-1)
          · replace h := oIp c282 h
            refine oRun.icmp_eq_t 295 dX9_order_282 c282 rfl ?_
            refine oRun.sub [1, 2, 3, 4, 5, 6, 7, 9, 10, 0] rfl ?_
            exact E_X9_order_J295 h hc hx
          · replace h := oIn c282 h
            refine oRun.icmp_eq_f 285 dX9_order_282 rfl c282 rfl ?_
            refine oRun.iload 287 dX9_order_285 0 rfl rfl ?_
            refine oRun.iload 289 dX9_order_287 8 rfl rfl ?_
            by_cases c289 : r274 < x7
            · replace h := oIp c289 h
              refine oRun.icmp_lt_t 295 dX9_order_289 c289 rfl ?_
              refine oRun.sub [1, 2, 3, 4, 5, 6, 7, 9, 10, 0] rfl ?_
              exact E_X9_order_J295 h hc hx
            · replace h := oIn c289 h
              refine oRun.icmp_lt_f 292 dX9_order_289 rfl c289 rfl ?_
              refine oRun.goto 314 dX9_order_292 rfl ?_
              refine oRun.iinc 317 dX9_order_314 10 rfl (oAddC oc_i1) (Nat.le_of_ble_eq_true rfl) rfl rfl ?_
              refine oRun.goto 93 dX9_order_317 rfl ?_
              cases h
              refine oRun.sub [2, 3, 4, 5, 6, 7, 8, 9, 10, 0] rfl ?_
              exact hc _ rfl
        · replace h := oIn c251 h
          refine oRun.if_ne_t 259 dX9_order_251 c251 rfl ?_
          refine oRun.iload 261 dX9_order_259 12 rfl rfl ?_
          refine oRun.iconst 262 dX9_order_261 oc_i1 rfl ?_
          by_cases c262 : x12 = 1
          · replace h := oIp c262 h
            refine oRun.icmp_ne_f 265 dX9_order_262 rfl c262 rfl ?_
            refine oRun.iload 267 dX9_order_265 5 rfl rfl ?_
            refine oRun.goto 272 dX9_order_267 rfl ?_
            obtain ⟨m272, hm272, h⟩ := oB1 h
            refine oRun.iastore 273 dX9_order_272 rfl hm272 rfl ?_
            refine oRun.aload_n 274 dX9_order_273 0 rfl rfl (Nat.le_of_ble_eq_true rfl) rfl ?_
            obtain ⟨r274, hr274, h⟩ := oB1 h
            refine oRun.callV (as := []) 277 dX9_order_274 lk_RX9_179 (oFit_i (Nat.le_of_ble_eq_true rfl) (Nat.le_of_ble_eq_true rfl)) rfl rfl rfl rfl (Nat.le_of_ble_eq_true rfl) (Nat.le_of_ble_eq_true rfl) rfl (E_X9_wheels hr274) rfl ?_
            show oRun G _ 277 _ [.int r274] _ _ _
            refine oRun.istore 279 dX9_order_277 (Nat.le_of_ble_eq_true rfl) rfl rfl ?_
            refine oRun.iload 281 dX9_order_279 8 rfl rfl ?_
            refine oRun.iconst 282 dX9_order_281 oc_im1 rfl ?_
            by_cases c282 : x7 = (-1)
            · replace h := oIp c282 h
              refine oRun.icmp_eq_t 295 dX9_order_282 c282 rfl ?_
              refine oRun.sub [1, 2, 3, 4, 5, 6, 7, 9, 10, 0] rfl ?_
              exact E_X9_order_J295 h hc hx
            · replace h := oIn c282 h
              refine oRun.icmp_eq_f 285 dX9_order_282 rfl c282 rfl ?_
              refine oRun.iload 287 dX9_order_285 0 rfl rfl ?_
              refine oRun.iload 289 dX9_order_287 8 rfl rfl ?_
              by_cases c289 : r274 < x7
              · replace h := oIp c289 h
                refine oRun.icmp_lt_t 295 dX9_order_289 c289 rfl ?_
                refine oRun.sub [1, 2, 3, 4, 5, 6, 7, 9, 10, 0] rfl ?_
                exact E_X9_order_J295 h hc hx
              · replace h := oIn c289 h
                refine oRun.icmp_lt_f 292 dX9_order_289 rfl c289 rfl ?_
                refine oRun.goto 314 dX9_order_292 rfl ?_
                refine oRun.iinc 317 dX9_order_314 10 rfl (oAddC oc_i1) (Nat.le_of_ble_eq_true rfl) rfl rfl ?_
                refine oRun.goto 93 dX9_order_317 rfl ?_
                cases h
                refine oRun.sub [2, 3, 4, 5, 6, 7, 8, 9, 10, 0] rfl ?_
                exact hc _ rfl
          · replace h := oIn c262 h
            refine oRun.icmp_ne_t 270 dX9_order_262 c262 rfl ?_
            refine oRun.iload 272 dX9_order_270 6 rfl rfl ?_
            obtain ⟨m272, hm272, h⟩ := oB1 h
            refine oRun.iastore 273 dX9_order_272 rfl hm272 rfl ?_
            refine oRun.aload_n 274 dX9_order_273 0 rfl rfl (Nat.le_of_ble_eq_true rfl) rfl ?_
            obtain ⟨r274, hr274, h⟩ := oB1 h
            refine oRun.callV (as := []) 277 dX9_order_274 lk_RX9_179 (oFit_i (Nat.le_of_ble_eq_true rfl) (Nat.le_of_ble_eq_true rfl)) rfl rfl rfl rfl (Nat.le_of_ble_eq_true rfl) (Nat.le_of_ble_eq_true rfl) rfl (E_X9_wheels hr274) rfl ?_
            show oRun G _ 277 _ [.int r274] _ _ _
            refine oRun.istore 279 dX9_order_277 (Nat.le_of_ble_eq_true rfl) rfl rfl ?_
            refine oRun.iload 281 dX9_order_279 8 rfl rfl ?_
            refine oRun.iconst 282 dX9_order_281 oc_im1 rfl ?_
            by_cases c282 : x7 = (-1)
            · replace h := oIp c282 h
              refine oRun.icmp_eq_t 295 dX9_order_282 c282 rfl ?_
              refine oRun.sub [1, 2, 3, 4, 5, 6, 7, 9, 10, 0] rfl ?_
              exact E_X9_order_J295 h hc hx
            · replace h := oIn c282 h
              refine oRun.icmp_eq_f 285 dX9_order_282 rfl c282 rfl ?_
              refine oRun.iload 287 dX9_order_285 0 rfl rfl ?_
              refine oRun.iload 289 dX9_order_287 8 rfl rfl ?_
              by_cases c289 : r274 < x7
              · replace h := oIp c289 h
                refine oRun.icmp_lt_t 295 dX9_order_289 c289 rfl ?_
                refine oRun.sub [1, 2, 3, 4, 5, 6, 7, 9, 10, 0] rfl ?_
                exact E_X9_order_J295 h hc hx
              · replace h := oIn c289 h
                refine oRun.icmp_lt_f 292 dX9_order_289 rfl c289 rfl ?_
                refine oRun.goto 314 dX9_order_292 rfl ?_
                refine oRun.iinc 317 dX9_order_314 10 rfl (oAddC oc_i1) (Nat.le_of_ble_eq_true rfl) rfl rfl ?_
                refine oRun.goto 93 dX9_order_317 rfl ?_
                cases h
                refine oRun.sub [2, 3, 4, 5, 6, 7, 8, 9, 10, 0] rfl ?_
                exact hc _ rfl
      · replace h := oIn c215 h
        refine oRun.if_ne_t 223 dX9_order_215 c215 rfl ?_
        refine oRun.iload 225 dX9_order_223 11 rfl rfl ?_
        refine oRun.iconst 226 dX9_order_225 oc_i1 rfl ?_
        by_cases c226 : x11 = 1
        · replace h := oIp c226 h
          refine oRun.icmp_ne_f 229 dX9_order_226 rfl c226 rfl ?_
          refine oRun.iload 231 dX9_order_229 5 rfl rfl ?_
          refine oRun.goto 236 dX9_order_231 rfl ?_
          obtain ⟨m236, hm236, h⟩ := oB1 h
          refine oRun.iastore 237 dX9_order_236 rfl hm236 rfl ?_
          refine oRun.aload_n 238 dX9_order_237 0 rfl rfl (Nat.le_of_ble_eq_true rfl) rfl ?_
          refine oRun.getR 241 dX9_order_238 fd_RX9_11 rfl rfl (Nat.le_of_ble_eq_true rfl) rfl ?_
          refine oRun.bipush 243 dX9_order_241 oc_b25 rfl ?_
          refine oRun.iconst 244 dX9_order_243 oc_i3 rfl ?_
          refine oRun.iload_n 245 dX9_order_244 1 rfl rfl rfl ?_
          refine oRun.imul 246 dX9_order_245 rfl ?_
          refine oRun.iadd 247 dX9_order_246 rfl ?_
          refine oRun.iconst 248 dX9_order_247 oc_i2 rfl ?_
          refine oRun.iadd 249 dX9_order_248 rfl ?_
          refine oRun.iload 251 dX9_order_249 12 rfl rfl ?_
          by_cases c251 : x12 = 0
          · replace h := oIp c251 h
            refine oRun.if_ne_f 254 dX9_order_251 rfl c251 rfl ?_
            refine oRun.iload 256 dX9_order_254 4 rfl rfl ?_
            refine oRun.goto 272 dX9_order_256 rfl ?_
            obtain ⟨m272, hm272, h⟩ := oB1 h
            refine oRun.iastore 273 dX9_order_272 rfl hm272 rfl ?_
            refine oRun.aload_n 274 dX9_order_273 0 rfl rfl (Nat.le_of_ble_eq_true rfl) rfl ?_
            obtain ⟨r274, hr274, h⟩ := oB1 h
            refine oRun.callV (as := []) 277 dX9_order_274 lk_RX9_179 (oFit_i (Nat.le_of_ble_eq_true rfl) (Nat.le_of_ble_eq_true rfl)) rfl rfl rfl rfl (Nat.le_of_ble_eq_true rfl) (Nat.le_of_ble_eq_true rfl) rfl (E_X9_wheels hr274) rfl ?_
            show oRun G _ 277 _ [.int r274] _ _ _
            refine oRun.istore 279 dX9_order_277 (Nat.le_of_ble_eq_true rfl) rfl rfl ?_
            refine oRun.iload 281 dX9_order_279 8 rfl rfl ?_
            refine oRun.iconst 282 dX9_order_281 oc_im1 rfl ?_
            by_cases c282 : x7 = (-1)
            · replace h := oIp c282 h
              refine oRun.icmp_eq_t 295 dX9_order_282 c282 rfl ?_
              refine oRun.sub [1, 2, 3, 4, 5, 6, 7, 9, 10, 0] rfl ?_
              exact E_X9_order_J295 h hc hx
            · replace h := oIn c282 h
              refine oRun.icmp_eq_f 285 dX9_order_282 rfl c282 rfl ?_
              refine oRun.iload 287 dX9_order_285 0 rfl rfl ?_
              refine oRun.iload 289 dX9_order_287 8 rfl rfl ?_
              by_cases c289 : r274 < x7
              · replace h := oIp c289 h
                refine oRun.icmp_lt_t 295 dX9_order_289 c289 rfl ?_
                refine oRun.sub [1, 2, 3, 4, 5, 6, 7, 9, 10, 0] rfl ?_
                exact E_X9_order_J295 h hc hx
              · replace h := oIn c289 h
                refine oRun.icmp_lt_f 292 dX9_order_289 rfl c289 rfl ?_
                refine oRun.goto 314 dX9_order_292 rfl ?_
                refine oRun.iinc 317 dX9_order_314 10 rfl (oAddC oc_i1) (Nat.le_of_ble_eq_true rfl) rfl rfl ?_
                refine oRun.goto 93 dX9_order_317 rfl ?_
                cases h
                refine oRun.sub [2, 3, 4, 5, 6, 7, 8, 9, 10, 0] rfl ?_
                exact hc _ rfl
          · replace h := oIn c251 h
            refine oRun.if_ne_t 259 dX9_order_251 c251 rfl ?_
            refine oRun.iload 261 dX9_order_259 12 rfl rfl ?_
            refine oRun.iconst 262 dX9_order_261 oc_i1 rfl ?_
            by_cases c262 : x12 = 1
            · replace h := oIp c262 h
              refine oRun.icmp_ne_f 265 dX9_order_262 rfl c262 rfl ?_
              refine oRun.iload 267 dX9_order_265 5 rfl rfl ?_
              refine oRun.goto 272 dX9_order_267 rfl ?_
              obtain ⟨m272, hm272, h⟩ := oB1 h
              refine oRun.iastore 273 dX9_order_272 rfl hm272 rfl ?_
              refine oRun.aload_n 274 dX9_order_273 0 rfl rfl (Nat.le_of_ble_eq_true rfl) rfl ?_
              obtain ⟨r274, hr274, h⟩ := oB1 h
              refine oRun.callV (as := []) 277 dX9_order_274 lk_RX9_179 (oFit_i (Nat.le_of_ble_eq_true rfl) (Nat.le_of_ble_eq_true rfl)) rfl rfl rfl rfl (Nat.le_of_ble_eq_true rfl) (Nat.le_of_ble_eq_true rfl) rfl (E_X9_wheels hr274) rfl ?_
              show oRun G _ 277 _ [.int r274] _ _ _
              refine oRun.istore 279 dX9_order_277 (Nat.le_of_ble_eq_true rfl) rfl rfl ?_
              refine oRun.iload 281 dX9_order_279 8 rfl rfl ?_
              refine oRun.iconst 282 dX9_order_281 oc_im1 rfl ?_
              by_cases c282 : x7 = (-1)
              · replace h := oIp c282 h
                refine oRun.icmp_eq_t 295 dX9_order_282 c282 rfl ?_
                refine oRun.sub [1, 2, 3, 4, 5, 6, 7, 9, 10, 0] rfl ?_
                exact E_X9_order_J295 h hc hx
              · replace h := oIn c282 h
                refine oRun.icmp_eq_f 285 dX9_order_282 rfl c282 rfl ?_
                refine oRun.iload 287 dX9_order_285 0 rfl rfl ?_
                refine oRun.iload 289 dX9_order_287 8 rfl rfl ?_
                by_cases c289 : r274 < x7
                · replace h := oIp c289 h
                  refine oRun.icmp_lt_t 295 dX9_order_289 c289 rfl ?_
                  refine oRun.sub [1, 2, 3, 4, 5, 6, 7, 9, 10, 0] rfl ?_
                  exact E_X9_order_J295 h hc hx
                · replace h := oIn c289 h
                  refine oRun.icmp_lt_f 292 dX9_order_289 rfl c289 rfl ?_
                  refine oRun.goto 314 dX9_order_292 rfl ?_
                  refine oRun.iinc 317 dX9_order_314 10 rfl (oAddC oc_i1) (Nat.le_of_ble_eq_true rfl) rfl rfl ?_
                  refine oRun.goto 93 dX9_order_317 rfl ?_
                  cases h
                  refine oRun.sub [2, 3, 4, 5, 6, 7, 8, 9, 10, 0] rfl ?_
                  exact hc _ rfl
            · replace h := oIn c262 h
              refine oRun.icmp_ne_t 270 dX9_order_262 c262 rfl ?_
              refine oRun.iload 272 dX9_order_270 6 rfl rfl ?_
              obtain ⟨m272, hm272, h⟩ := oB1 h
              refine oRun.iastore 273 dX9_order_272 rfl hm272 rfl ?_
              refine oRun.aload_n 274 dX9_order_273 0 rfl rfl (Nat.le_of_ble_eq_true rfl) rfl ?_
              obtain ⟨r274, hr274, h⟩ := oB1 h
              refine oRun.callV (as := []) 277 dX9_order_274 lk_RX9_179 (oFit_i (Nat.le_of_ble_eq_true rfl) (Nat.le_of_ble_eq_true rfl)) rfl rfl rfl rfl (Nat.le_of_ble_eq_true rfl) (Nat.le_of_ble_eq_true rfl) rfl (E_X9_wheels hr274) rfl ?_
              show oRun G _ 277 _ [.int r274] _ _ _
              refine oRun.istore 279 dX9_order_277 (Nat.le_of_ble_eq_true rfl) rfl rfl ?_
              refine oRun.iload 281 dX9_order_279 8 rfl rfl ?_
              refine oRun.iconst 282 dX9_order_281 oc_im1 rfl ?_
              by_cases c282 : x7 = (-1)
              · replace h := oIp c282 h
                refine oRun.icmp_eq_t 295 dX9_order_282 c282 rfl ?_
                refine oRun.sub [1, 2, 3, 4, 5, 6, 7, 9, 10, 0] rfl ?_
                exact E_X9_order_J295 h hc hx
              · replace h := oIn c282 h
                refine oRun.icmp_eq_f 285 dX9_order_282 rfl c282 rfl ?_
                refine oRun.iload 287 dX9_order_285 0 rfl rfl ?_
                refine oRun.iload 289 dX9_order_287 8 rfl rfl ?_
                by_cases c289 : r274 < x7
                · replace h := oIp c289 h
                  refine oRun.icmp_lt_t 295 dX9_order_289 c289 rfl ?_
                  refine oRun.sub [1, 2, 3, 4, 5, 6, 7, 9, 10, 0] rfl ?_
                  exact E_X9_order_J295 h hc hx
                · replace h := oIn c289 h
                  refine oRun.icmp_lt_f 292 dX9_order_289 rfl c289 rfl ?_
                  refine oRun.goto 314 dX9_order_292 rfl ?_
                  refine oRun.iinc 317 dX9_order_314 10 rfl (oAddC oc_i1) (Nat.le_of_ble_eq_true rfl) rfl rfl ?_
                  refine oRun.goto 93 dX9_order_317 rfl ?_
                  cases h
                  refine oRun.sub [2, 3, 4, 5, 6, 7, 8, 9, 10, 0] rfl ?_
                  exact hc _ rfl
        · replace h := oIn c226 h
          refine oRun.icmp_ne_t 234 dX9_order_226 c226 rfl ?_
          refine oRun.iload 236 dX9_order_234 6 rfl rfl ?_
          obtain ⟨m236, hm236, h⟩ := oB1 h
          refine oRun.iastore 237 dX9_order_236 rfl hm236 rfl ?_
          refine oRun.aload_n 238 dX9_order_237 0 rfl rfl (Nat.le_of_ble_eq_true rfl) rfl ?_
          refine oRun.getR 241 dX9_order_238 fd_RX9_11 rfl rfl (Nat.le_of_ble_eq_true rfl) rfl ?_
          refine oRun.bipush 243 dX9_order_241 oc_b25 rfl ?_
          refine oRun.iconst 244 dX9_order_243 oc_i3 rfl ?_
          refine oRun.iload_n 245 dX9_order_244 1 rfl rfl rfl ?_
          refine oRun.imul 246 dX9_order_245 rfl ?_
          refine oRun.iadd 247 dX9_order_246 rfl ?_
          refine oRun.iconst 248 dX9_order_247 oc_i2 rfl ?_
          refine oRun.iadd 249 dX9_order_248 rfl ?_
          refine oRun.iload 251 dX9_order_249 12 rfl rfl ?_
          by_cases c251 : x12 = 0
          · replace h := oIp c251 h
            refine oRun.if_ne_f 254 dX9_order_251 rfl c251 rfl ?_
            refine oRun.iload 256 dX9_order_254 4 rfl rfl ?_
            refine oRun.goto 272 dX9_order_256 rfl ?_
            obtain ⟨m272, hm272, h⟩ := oB1 h
            refine oRun.iastore 273 dX9_order_272 rfl hm272 rfl ?_
            refine oRun.aload_n 274 dX9_order_273 0 rfl rfl (Nat.le_of_ble_eq_true rfl) rfl ?_
            obtain ⟨r274, hr274, h⟩ := oB1 h
            refine oRun.callV (as := []) 277 dX9_order_274 lk_RX9_179 (oFit_i (Nat.le_of_ble_eq_true rfl) (Nat.le_of_ble_eq_true rfl)) rfl rfl rfl rfl (Nat.le_of_ble_eq_true rfl) (Nat.le_of_ble_eq_true rfl) rfl (E_X9_wheels hr274) rfl ?_
            show oRun G _ 277 _ [.int r274] _ _ _
            refine oRun.istore 279 dX9_order_277 (Nat.le_of_ble_eq_true rfl) rfl rfl ?_
            refine oRun.iload 281 dX9_order_279 8 rfl rfl ?_
            refine oRun.iconst 282 dX9_order_281 oc_im1 rfl ?_
            by_cases c282 : x7 = (-1)
            · replace h := oIp c282 h
              refine oRun.icmp_eq_t 295 dX9_order_282 c282 rfl ?_
              refine oRun.sub [1, 2, 3, 4, 5, 6, 7, 9, 10, 0] rfl ?_
              exact E_X9_order_J295 h hc hx
            · replace h := oIn c282 h
              refine oRun.icmp_eq_f 285 dX9_order_282 rfl c282 rfl ?_
              refine oRun.iload 287 dX9_order_285 0 rfl rfl ?_
              refine oRun.iload 289 dX9_order_287 8 rfl rfl ?_
              by_cases c289 : r274 < x7
              · replace h := oIp c289 h
                refine oRun.icmp_lt_t 295 dX9_order_289 c289 rfl ?_
                refine oRun.sub [1, 2, 3, 4, 5, 6, 7, 9, 10, 0] rfl ?_
                exact E_X9_order_J295 h hc hx
              · replace h := oIn c289 h
                refine oRun.icmp_lt_f 292 dX9_order_289 rfl c289 rfl ?_
                refine oRun.goto 314 dX9_order_292 rfl ?_
                refine oRun.iinc 317 dX9_order_314 10 rfl (oAddC oc_i1) (Nat.le_of_ble_eq_true rfl) rfl rfl ?_
                refine oRun.goto 93 dX9_order_317 rfl ?_
                cases h
                refine oRun.sub [2, 3, 4, 5, 6, 7, 8, 9, 10, 0] rfl ?_
                exact hc _ rfl
          · replace h := oIn c251 h
            refine oRun.if_ne_t 259 dX9_order_251 c251 rfl ?_
            refine oRun.iload 261 dX9_order_259 12 rfl rfl ?_
            refine oRun.iconst 262 dX9_order_261 oc_i1 rfl ?_
            by_cases c262 : x12 = 1
            · replace h := oIp c262 h
              refine oRun.icmp_ne_f 265 dX9_order_262 rfl c262 rfl ?_
              refine oRun.iload 267 dX9_order_265 5 rfl rfl ?_
              refine oRun.goto 272 dX9_order_267 rfl ?_
              obtain ⟨m272, hm272, h⟩ := oB1 h
              refine oRun.iastore 273 dX9_order_272 rfl hm272 rfl ?_
              refine oRun.aload_n 274 dX9_order_273 0 rfl rfl (Nat.le_of_ble_eq_true rfl) rfl ?_
              obtain ⟨r274, hr274, h⟩ := oB1 h
              refine oRun.callV (as := []) 277 dX9_order_274 lk_RX9_179 (oFit_i (Nat.le_of_ble_eq_true rfl) (Nat.le_of_ble_eq_true rfl)) rfl rfl rfl rfl (Nat.le_of_ble_eq_true rfl) (Nat.le_of_ble_eq_true rfl) rfl (E_X9_wheels hr274) rfl ?_
              show oRun G _ 277 _ [.int r274] _ _ _
              refine oRun.istore 279 dX9_order_277 (Nat.le_of_ble_eq_true rfl) rfl rfl ?_
              refine oRun.iload 281 dX9_order_279 8 rfl rfl ?_
              refine oRun.iconst 282 dX9_order_281 oc_im1 rfl ?_
              by_cases c282 : x7 = (-1)
              · replace h := oIp c282 h
                refine oRun.icmp_eq_t 295 dX9_order_282 c282 rfl ?_
                refine oRun.sub [1, 2, 3, 4, 5, 6, 7, 9, 10, 0] rfl ?_
                exact E_X9_order_J295 h hc hx
              · replace h := oIn c282 h
                refine oRun.icmp_eq_f 285 dX9_order_282 rfl c282 rfl ?_
                refine oRun.iload 287 dX9_order_285 0 rfl rfl ?_
                refine oRun.iload 289 dX9_order_287 8 rfl rfl ?_
                by_cases c289 : r274 < x7
                · replace h := oIp c289 h
                  refine oRun.icmp_lt_t 295 dX9_order_289 c289 rfl ?_
                  refine oRun.sub [1, 2, 3, 4, 5, 6, 7, 9, 10, 0] rfl ?_
                  exact E_X9_order_J295 h hc hx
                · replace h := oIn c289 h
                  refine oRun.icmp_lt_f 292 dX9_order_289 rfl c289 rfl ?_
                  refine oRun.goto 314 dX9_order_292 rfl ?_
                  refine oRun.iinc 317 dX9_order_314 10 rfl (oAddC oc_i1) (Nat.le_of_ble_eq_true rfl) rfl rfl ?_
                  refine oRun.goto 93 dX9_order_317 rfl ?_
                  cases h
                  refine oRun.sub [2, 3, 4, 5, 6, 7, 8, 9, 10, 0] rfl ?_
                  exact hc _ rfl
            · replace h := oIn c262 h
              refine oRun.icmp_ne_t 270 dX9_order_262 c262 rfl ?_
              refine oRun.iload 272 dX9_order_270 6 rfl rfl ?_
              obtain ⟨m272, hm272, h⟩ := oB1 h
              refine oRun.iastore 273 dX9_order_272 rfl hm272 rfl ?_
              refine oRun.aload_n 274 dX9_order_273 0 rfl rfl (Nat.le_of_ble_eq_true rfl) rfl ?_
              obtain ⟨r274, hr274, h⟩ := oB1 h
              refine oRun.callV (as := []) 277 dX9_order_274 lk_RX9_179 (oFit_i (Nat.le_of_ble_eq_true rfl) (Nat.le_of_ble_eq_true rfl)) rfl rfl rfl rfl (Nat.le_of_ble_eq_true rfl) (Nat.le_of_ble_eq_true rfl) rfl (E_X9_wheels hr274) rfl ?_
              show oRun G _ 277 _ [.int r274] _ _ _
              refine oRun.istore 279 dX9_order_277 (Nat.le_of_ble_eq_true rfl) rfl rfl ?_
              refine oRun.iload 281 dX9_order_279 8 rfl rfl ?_
              refine oRun.iconst 282 dX9_order_281 oc_im1 rfl ?_
              by_cases c282 : x7 = (-1)
              · replace h := oIp c282 h
                refine oRun.icmp_eq_t 295 dX9_order_282 c282 rfl ?_
                refine oRun.sub [1, 2, 3, 4, 5, 6, 7, 9, 10, 0] rfl ?_
                exact E_X9_order_J295 h hc hx
              · replace h := oIn c282 h
                refine oRun.icmp_eq_f 285 dX9_order_282 rfl c282 rfl ?_
                refine oRun.iload 287 dX9_order_285 0 rfl rfl ?_
                refine oRun.iload 289 dX9_order_287 8 rfl rfl ?_
                by_cases c289 : r274 < x7
                · replace h := oIp c289 h
                  refine oRun.icmp_lt_t 295 dX9_order_289 c289 rfl ?_
                  refine oRun.sub [1, 2, 3, 4, 5, 6, 7, 9, 10, 0] rfl ?_
                  exact E_X9_order_J295 h hc hx
                · replace h := oIn c289 h
                  refine oRun.icmp_lt_f 292 dX9_order_289 rfl c289 rfl ?_
                  refine oRun.goto 314 dX9_order_292 rfl ?_
                  refine oRun.iinc 317 dX9_order_314 10 rfl (oAddC oc_i1) (Nat.le_of_ble_eq_true rfl) rfl rfl ?_
                  refine oRun.goto 93 dX9_order_317 rfl ?_
                  cases h
                  refine oRun.sub [2, 3, 4, 5, 6, 7, 8, 9, 10, 0] rfl ?_
                  exact hc _ rfl
set_option maxRecDepth 100000 in
set_option maxHeartbeats 4000000 in
theorem E_X9_order_J153 {G : oG} {m : oM} {x1 : Int32} {x2 : Int32} {x3 : Int32} {x4 : Int32} {x5 : Int32} {x6 : Int32} {x7 : Int32} {x8 : Int32} {x9 : Int32} {x10 : Int32} {x11 : Int32} {x12 : Int32} {r : Option Value} {m' : oM} {q' : (Int32 × Int32 × Int32 × oM) ⊕ (Int32 × Int32 × oM)} (h : F_X9_order_J153 m x1 x2 x3 x4 x5 x6 x7 x8 x9 x10 x11 x12 = some q') (hc : ∀ s' : Int32 × Int32 × Int32 × oM, q' = .inl s' → oRun G M_X9_order 93 [(0, .ref 51), (1, .int x1), (2, .int x2), (3, .int x3), (4, .int x4), (5, .int x5), (6, .int x6), (7, .int s'.1), (8, .int s'.2.1), (9, .int s'.2.2.1)] [] s'.2.2.2 r m') (hx : ∀ b' : Int32 × Int32 × oM, q' = .inr b' → oRun G M_X9_order 320 [(0, .ref 51), (1, .int x1), (2, .int x2), (4, .int x4), (5, .int x5), (6, .int x6), (7, .int b'.1), (8, .int b'.2.1)] [] b'.2.2 r m') : oRun G M_X9_order 153 [(0, .ref 51), (1, .int x1), (2, .int x2), (3, .int x3), (4, .int x4), (5, .int x5), (6, .int x6), (7, .int x7), (8, .int x8), (9, .int x9), (10, .int x10), (11, .int x11), (12, .int x12)] [] m r m' := by
  unfold F_X9_order_J153 at h
  refine oRun.iload_n 154 dX9_order_153 3 rfl rfl rfl ?_
  refine oRun.iconst 155 dX9_order_154 oc_i2 rfl ?_
  by_cases c155 : 2 ≤ x3
  · replace h := oIp c155 h
    refine oRun.icmp_ge_t 167 dX9_order_155 c155 rfl ?_
    refine oRun.sub [0, 1, 2, 3, 4, 5, 6, 7, 8, 9, 10, 11, 12] rfl ?_
    exact E_X9_order_J167 h hc hx
  · replace h := oIn c155 h
    refine oRun.icmp_ge_f 158 dX9_order_155 rfl c155 rfl ?_
    refine oRun.iload 160 dX9_order_158 11 rfl rfl ?_
    refine oRun.iconst 161 dX9_order_160 oc_i1 rfl ?_
    by_cases c161 : x11 = 1
    · replace h := oIp c161 h
      refine oRun.icmp_eq_t 167 dX9_order_161 c161 rfl ?_
      refine oRun.sub [0, 1, 2, 3, 4, 5, 6, 7, 8, 9, 10, 11, 12] rfl ?_
      exact E_X9_order_J167 h hc hx
    · replace h := oIn c161 h
      refine oRun.icmp_eq_f 164 dX9_order_161 rfl c161 rfl ?_
      refine oRun.goto 314 dX9_order_164 rfl ?_
      refine oRun.iinc 317 dX9_order_314 9 rfl (oAddC oc_i1) (Nat.le_of_ble_eq_true rfl) rfl rfl ?_
      refine oRun.goto 93 dX9_order_317 rfl ?_
      cases h
      refine oRun.sub [1, 2, 3, 4, 5, 6, 7, 8, 9, 0] rfl ?_
      exact hc _ rfl
set_option maxRecDepth 100000 in
set_option maxHeartbeats 4000000 in
theorem E_X9_order_L93 {G : oG} {x1 : Int32} {x2 : Int32} {x3 : Int32} {x4 : Int32} {x5 : Int32} {x6 : Int32} {r : Option Value} {m' : oM} : ∀ (n : Nat) (x7 : Int32) (x8 : Int32) (x9 : Int32) (m : oM) (b : Int32 × Int32 × oM), oLoop (fun s : Int32 × Int32 × Int32 × oM => F_X9_order_L93 x1 x2 x3 x4 x5 x6 s.1 s.2.1 s.2.2.1 s.2.2.2) n (x7, x8, x9, m) = some b → oRun G M_X9_order 320 [(0, .ref 51), (1, .int x1), (2, .int x2), (4, .int x4), (5, .int x5), (6, .int x6), (7, .int b.1), (8, .int b.2.1)] [] b.2.2 r m' → oRun G M_X9_order 93 [(0, .ref 51), (1, .int x1), (2, .int x2), (3, .int x3), (4, .int x4), (5, .int x5), (6, .int x6), (7, .int x7), (8, .int x8), (9, .int x9)] [] m r m' := by
  intro n
  induction n with
  | zero => intro x7 x8 x9 m b h _; exact (oLoop_zero h).elim
  | succ n ih =>
    intro x7 x8 x9 m b h he
    obtain ⟨q', hq', h⟩ := oLoop_succ h
    have hc : ∀ s' : Int32 × Int32 × Int32 × oM, q' = .inl s' → oRun G M_X9_order 93 [(0, .ref 51), (1, .int x1), (2, .int x2), (3, .int x3), (4, .int x4), (5, .int x5), (6, .int x6), (7, .int s'.1), (8, .int s'.2.1), (9, .int s'.2.2.1)] [] s'.2.2.2 r m' := by
      rintro s' rfl
      exact ih (s'.1) (s'.2.1) (s'.2.2.1) (s'.2.2.2) b h he
    have hx : ∀ b' : Int32 × Int32 × oM, q' = .inr b' → oRun G M_X9_order 320 [(0, .ref 51), (1, .int x1), (2, .int x2), (4, .int x4), (5, .int x5), (6, .int x6), (7, .int b'.1), (8, .int b'.2.1)] [] b'.2.2 r m' := by
      rintro b' rfl
      have h : b' = b := h
      rw [h]
      exact he
    clear h he ih
    have h := hq'
    clear hq'
    replace h : F_X9_order_L93 x1 x2 x3 x4 x5 x6 x7 x8 x9 m = some q' := h
    unfold F_X9_order_L93 at h
    refine oRun.iload 95 dX9_order_93 9 rfl rfl ?_
    refine oRun.bipush 97 dX9_order_95 oc_b27 rfl ?_
    by_cases c97 : 27 ≤ x9
    · replace h := oIp c97 h
      refine oRun.icmp_ge_t 320 dX9_order_97 c97 rfl ?_
      cases h
      refine oRun.sub [0, 1, 2, 4, 5, 6, 7, 8] rfl ?_
      exact hx _ rfl
    · replace h := oIn c97 h
      refine oRun.icmp_ge_f 100 dX9_order_97 rfl c97 rfl ?_
      refine oRun.iload 102 dX9_order_100 9 rfl rfl ?_
      refine oRun.bipush 104 dX9_order_102 oc_b9 rfl ?_
      refine oRun.idiv 105 dX9_order_104 (by decide) rfl ?_
      obtain ⟨x10_105, hx10_105, h⟩ := oB1 h
      refine oRun.nameI hx10_105 ?_
      refine oRun.istore 107 dX9_order_105 (Nat.le_of_ble_eq_true rfl) rfl rfl ?_
      refine oRun.iload 109 dX9_order_107 10 rfl rfl ?_
      refine oRun.iconst 110 dX9_order_109 oc_i3 rfl ?_
      refine oRun.idiv 111 dX9_order_110 (by decide) rfl ?_
      refine oRun.iconst 112 dX9_order_111 oc_i3 rfl ?_
      refine oRun.irem 113 dX9_order_112 (by decide) rfl ?_
      obtain ⟨x11_113, hx11_113, h⟩ := oB1 h
      refine oRun.nameI hx11_113 ?_
      refine oRun.istore 115 dX9_order_113 (Nat.le_of_ble_eq_true rfl) rfl rfl ?_
      refine oRun.iload 117 dX9_order_115 11 rfl rfl ?_
      refine oRun.iconst 118 dX9_order_117 oc_i3 rfl ?_
      refine oRun.irem 119 dX9_order_118 (by decide) rfl ?_
      obtain ⟨x12_119, hx12_119, h⟩ := oB1 h
      refine oRun.nameI hx12_119 ?_
      refine oRun.istore 121 dX9_order_119 (Nat.le_of_ble_eq_true rfl) rfl rfl ?_
      refine oRun.iload 123 dX9_order_121 2 rfl rfl ?_
      refine oRun.iload 125 dX9_order_123 1 rfl rfl ?_
      by_cases c125 : x10_105 = x11_113
      · replace h := oIp c125 h
        refine oRun.icmp_eq_t 314 dX9_order_125 c125 rfl ?_
        refine oRun.iinc 317 dX9_order_314 12 rfl (oAddC oc_i1) (Nat.le_of_ble_eq_true rfl) rfl rfl ?_
        refine oRun.goto 93 dX9_order_317 rfl ?_
        cases h
        refine oRun.sub [4, 5, 6, 7, 8, 9, 10, 11, 12, 0] rfl ?_
        exact hc _ rfl
      · replace h := oIn c125 h
        refine oRun.icmp_eq_f 128 dX9_order_125 rfl c125 rfl ?_
        refine oRun.iload 130 dX9_order_128 1 rfl rfl ?_
        refine oRun.iload 132 dX9_order_130 0 rfl rfl ?_
        by_cases c132 : x11_113 = x12_119
        · replace h := oIp c132 h
          refine oRun.icmp_eq_t 314 dX9_order_132 c132 rfl ?_
          refine oRun.iinc 317 dX9_order_314 12 rfl (oAddC oc_i1) (Nat.le_of_ble_eq_true rfl) rfl rfl ?_
          refine oRun.goto 93 dX9_order_317 rfl ?_
          cases h
          refine oRun.sub [4, 5, 6, 7, 8, 9, 10, 11, 12, 0] rfl ?_
          exact hc _ rfl
        · replace h := oIn c132 h
          refine oRun.icmp_eq_f 135 dX9_order_132 rfl c132 rfl ?_
          refine oRun.iload 137 dX9_order_135 2 rfl rfl ?_
          refine oRun.iload 139 dX9_order_137 0 rfl rfl ?_
          by_cases c139 : x10_105 = x12_119
          · replace h := oIp c139 h
            refine oRun.icmp_eq_t 314 dX9_order_139 c139 rfl ?_
            refine oRun.iinc 317 dX9_order_314 12 rfl (oAddC oc_i1) (Nat.le_of_ble_eq_true rfl) rfl rfl ?_
            refine oRun.goto 93 dX9_order_317 rfl ?_
            cases h
            refine oRun.sub [4, 5, 6, 7, 8, 9, 10, 11, 12, 0] rfl ?_
            exact hc _ rfl
          · replace h := oIn c139 h
            refine oRun.icmp_eq_f 142 dX9_order_139 rfl c139 rfl ?_
            refine oRun.iload_n 143 dX9_order_142 6 rfl rfl rfl ?_
            refine oRun.iconst 144 dX9_order_143 oc_i3 rfl ?_
            by_cases c144 : 3 ≤ x3
            · replace h := oIp c144 h
              refine oRun.icmp_ge_t 153 dX9_order_144 c144 rfl ?_
              refine oRun.sub [3, 4, 5, 6, 7, 8, 9, 10, 11, 12, 2, 1, 0] rfl ?_
              exact E_X9_order_J153 h hc hx
            · replace h := oIn c144 h
              refine oRun.icmp_ge_f 147 dX9_order_144 rfl c144 rfl ?_
              refine oRun.iload 149 dX9_order_147 0 rfl rfl ?_
              refine oRun.iconst 150 dX9_order_149 oc_i2 rfl ?_
              by_cases c150 : x12_119 = 2
              · replace h := oIp c150 h
                refine oRun.icmp_ne_f 153 dX9_order_150 rfl c150 rfl ?_
                refine oRun.sub [3, 4, 5, 6, 7, 8, 9, 10, 11, 12, 2, 1, 0] rfl ?_
                exact E_X9_order_J153 h hc hx
              · replace h := oIn c150 h
                refine oRun.icmp_ne_t 314 dX9_order_150 c150 rfl ?_
                refine oRun.iinc 317 dX9_order_314 12 rfl (oAddC oc_i1) (Nat.le_of_ble_eq_true rfl) rfl rfl ?_
                refine oRun.goto 93 dX9_order_317 rfl ?_
                cases h
                refine oRun.sub [4, 5, 6, 7, 8, 9, 10, 11, 12, 0] rfl ?_
                exact hc _ rfl
set_option maxRecDepth 100000 in
set_option maxHeartbeats 4000000 in
theorem E_X9_order_J60 {G : oG} {m : oM} {x1 : Int32} {x2 : Int32} {x3 : Int32} {w : Int32 × oM} (h : F_X9_order_J60 m x1 x2 x3 = some w) : oRun G M_X9_order 60 [(0, .ref 51), (1, .int x1), (2, .int x2), (3, .int x3)] [] m (some (.int w.1)) w.2 := by
  unfold F_X9_order_J60 at h
  refine oRun.aload_n 61 dX9_order_60 0 rfl rfl (Nat.le_of_ble_eq_true rfl) rfl ?_
  refine oRun.iload_n 62 dX9_order_61 1 rfl rfl rfl ?_
  refine oRun.iconst 63 dX9_order_62 oc_i0 rfl ?_
  obtain ⟨r63, hr63, h⟩ := oB1 h
  refine oRun.callV (as := [.int x1, .int 0]) 66 dX9_order_63 lk_RX9_86 (oFit_i (Nat.le_of_ble_eq_true rfl) (Nat.le_of_ble_eq_true rfl)) rfl rfl rfl rfl (Nat.le_of_ble_eq_true rfl) (Nat.le_of_ble_eq_true rfl) rfl (E_X9_pairAt hr63) rfl ?_
  show oRun G _ 66 _ [.int r63] _ _ _
  refine oRun.istore 68 dX9_order_66 (Nat.le_of_ble_eq_true rfl) rfl rfl ?_
  refine oRun.aload_n 69 dX9_order_68 1 rfl rfl (Nat.le_of_ble_eq_true rfl) rfl ?_
  refine oRun.iload_n 70 dX9_order_69 2 rfl rfl rfl ?_
  refine oRun.iconst 71 dX9_order_70 oc_i1 rfl ?_
  obtain ⟨r71, hr71, h⟩ := oB1 h
  refine oRun.callV (as := [.int x1, .int 1]) 74 dX9_order_71 lk_RX9_86 (oFit_i (Nat.le_of_ble_eq_true rfl) (Nat.le_of_ble_eq_true rfl)) rfl rfl rfl rfl (Nat.le_of_ble_eq_true rfl) (Nat.le_of_ble_eq_true rfl) rfl (E_X9_pairAt hr71) rfl ?_
  show oRun G _ 74 _ [.int r71] _ _ _
  refine oRun.istore 76 dX9_order_74 (Nat.le_of_ble_eq_true rfl) rfl rfl ?_
  refine oRun.aload_n 77 dX9_order_76 2 rfl rfl (Nat.le_of_ble_eq_true rfl) rfl ?_
  refine oRun.iload_n 78 dX9_order_77 3 rfl rfl rfl ?_
  refine oRun.iconst 79 dX9_order_78 oc_i2 rfl ?_
  obtain ⟨r79, hr79, h⟩ := oB1 h
  refine oRun.callV (as := [.int x1, .int 2]) 82 dX9_order_79 lk_RX9_86 (oFit_i (Nat.le_of_ble_eq_true rfl) (Nat.le_of_ble_eq_true rfl)) rfl rfl rfl rfl (Nat.le_of_ble_eq_true rfl) (Nat.le_of_ble_eq_true rfl) rfl (E_X9_pairAt hr79) rfl ?_
  show oRun G _ 82 _ [.int r79] _ _ _
  refine oRun.istore 84 dX9_order_82 (Nat.le_of_ble_eq_true rfl) rfl rfl ?_
  refine oRun.iconst 85 dX9_order_84 oc_im1 rfl ?_
  refine oRun.istore 87 dX9_order_85 (Nat.le_of_ble_eq_true rfl) rfl rfl ?_
  refine oRun.iconst 88 dX9_order_87 oc_i0 rfl ?_
  refine oRun.istore 90 dX9_order_88 (Nat.le_of_ble_eq_true rfl) rfl rfl ?_
  refine oRun.iconst 91 dX9_order_90 oc_i0 rfl ?_
  refine oRun.istore 93 dX9_order_91 (Nat.le_of_ble_eq_true rfl) rfl rfl ?_
  obtain ⟨b93, hb93, h⟩ := oB1 h
  refine oRun.sub [6, 7, 8, 9, 5, 4, 3, 2, 1, 0] rfl ?_
  refine E_X9_order_L93 _ _ _ _ _ _ hb93 ?_
  refine oRun.aload_n 321 dX9_order_320 0 rfl rfl (Nat.le_of_ble_eq_true rfl) rfl ?_
  refine oRun.getR 324 dX9_order_321 fd_RX9_11 rfl rfl (Nat.le_of_ble_eq_true rfl) rfl ?_
  refine oRun.bipush 326 dX9_order_324 oc_b25 rfl ?_
  refine oRun.iconst 327 dX9_order_326 oc_i3 rfl ?_
  refine oRun.iload_n 328 dX9_order_327 1 rfl rfl rfl ?_
  refine oRun.imul 329 dX9_order_328 rfl ?_
  refine oRun.iadd 330 dX9_order_329 rfl ?_
  refine oRun.iload 332 dX9_order_330 3 rfl rfl ?_
  obtain ⟨m332, hm332, h⟩ := oB1 h
  refine oRun.iastore 333 dX9_order_332 rfl hm332 rfl ?_
  refine oRun.aload_n 334 dX9_order_333 0 rfl rfl (Nat.le_of_ble_eq_true rfl) rfl ?_
  refine oRun.getR 337 dX9_order_334 fd_RX9_11 rfl rfl (Nat.le_of_ble_eq_true rfl) rfl ?_
  refine oRun.bipush 339 dX9_order_337 oc_b25 rfl ?_
  refine oRun.iconst 340 dX9_order_339 oc_i3 rfl ?_
  refine oRun.iload_n 341 dX9_order_340 1 rfl rfl rfl ?_
  refine oRun.imul 342 dX9_order_341 rfl ?_
  refine oRun.iadd 343 dX9_order_342 rfl ?_
  refine oRun.iconst 344 dX9_order_343 oc_i1 rfl ?_
  refine oRun.iadd 345 dX9_order_344 rfl ?_
  refine oRun.iload 347 dX9_order_345 4 rfl rfl ?_
  obtain ⟨m347, hm347, h⟩ := oB1 h
  refine oRun.iastore 348 dX9_order_347 rfl hm347 rfl ?_
  refine oRun.aload_n 349 dX9_order_348 0 rfl rfl (Nat.le_of_ble_eq_true rfl) rfl ?_
  refine oRun.getR 352 dX9_order_349 fd_RX9_11 rfl rfl (Nat.le_of_ble_eq_true rfl) rfl ?_
  refine oRun.bipush 354 dX9_order_352 oc_b25 rfl ?_
  refine oRun.iconst 355 dX9_order_354 oc_i3 rfl ?_
  refine oRun.iload_n 356 dX9_order_355 1 rfl rfl rfl ?_
  refine oRun.imul 357 dX9_order_356 rfl ?_
  refine oRun.iadd 358 dX9_order_357 rfl ?_
  refine oRun.iconst 359 dX9_order_358 oc_i2 rfl ?_
  refine oRun.iadd 360 dX9_order_359 rfl ?_
  refine oRun.iload 362 dX9_order_360 5 rfl rfl ?_
  obtain ⟨m362, hm362, h⟩ := oB1 h
  refine oRun.iastore 363 dX9_order_362 rfl hm362 rfl ?_
  refine oRun.iload_n 364 dX9_order_363 2 rfl rfl rfl ?_
  by_cases c364 : x2 = 0
  · replace h := oIp c364 h
    refine oRun.if_ne_f 367 dX9_order_364 rfl c364 rfl ?_
    refine oRun.iload 369 dX9_order_367 6 rfl rfl ?_
    refine oRun.goto 374 dX9_order_369 rfl ?_
    rw [← Option.some.inj h]
    exact oRun.ret (r := some (.int b93.1)) dX9_order_374
  · replace h := oIn c364 h
    refine oRun.if_ne_t 372 dX9_order_364 c364 rfl ?_
    refine oRun.iload 374 dX9_order_372 7 rfl rfl ?_
    rw [← Option.some.inj h]
    exact oRun.ret (r := some (.int b93.2.1)) dX9_order_374
set_option maxRecDepth 100000 in
set_option maxHeartbeats 4000000 in
theorem E_X9_order_J28 {G : oG} {m : oM} {x1 : Int32} {x2 : Int32} {w : Int32 × oM} (h : F_X9_order_J28 m x1 x2 = some w) : oRun G M_X9_order 28 [(0, .ref 51), (1, .int x1), (2, .int x2)] [] m (some (.int w.1)) w.2 := by
  unfold F_X9_order_J28 at h
  refine oRun.aload_n 29 dX9_order_28 0 rfl rfl (Nat.le_of_ble_eq_true rfl) rfl ?_
  refine oRun.getR 32 dX9_order_29 fd_RX9_11 rfl rfl (Nat.le_of_ble_eq_true rfl) rfl ?_
  refine oRun.bipush 34 dX9_order_32 oc_b19 rfl ?_
  refine oRun.iload_n 35 dX9_order_34 1 rfl rfl rfl ?_
  refine oRun.iadd 36 dX9_order_35 rfl ?_
  obtain ⟨v36, hv36, h⟩ := oB1 h
  refine oRun.iaload 37 dX9_order_36 (Or.inr ⟨_, rfl⟩) hv36 rfl ?_
  refine oRun.istore_n 38 dX9_order_37 rfl (Nat.le_of_ble_eq_true rfl) rfl rfl ?_
  refine oRun.iload_n 39 dX9_order_38 0 rfl rfl rfl ?_
  by_cases c39 : v36 = 0
  · replace h := oIp c39 h
    refine oRun.if_ne_f 42 dX9_order_39 rfl c39 rfl ?_
    refine oRun.bipush 44 dX9_order_42 oc_bm3 rfl ?_
    rw [← Option.some.inj h]
    exact oRun.ret (r := some (.int (-3))) dX9_order_44
  · replace h := oIn c39 h
    refine oRun.if_ne_t 45 dX9_order_39 c39 rfl ?_
    refine oRun.iload_n 46 dX9_order_45 3 rfl rfl rfl ?_
    by_cases c46 : x2 ≤ 0
    · replace h := oIp c46 h
      refine oRun.if_le_t 60 dX9_order_46 c46 rfl ?_
      refine oRun.sub [1, 2, 3, 0] rfl ?_
      exact E_X9_order_J60 h
    · replace h := oIn c46 h
      refine oRun.if_le_f 49 dX9_order_46 rfl c46 rfl ?_
      refine oRun.iload_n 50 dX9_order_49 3 rfl rfl rfl ?_
      refine oRun.bipush 52 dX9_order_50 oc_b10 rfl ?_
      refine oRun.isub 53 dX9_order_52 rfl ?_
      refine oRun.iload_n 54 dX9_order_53 0 rfl rfl rfl ?_
      by_cases c54 : (x2 - 10) < v36
      · replace h := oIp c54 h
        refine oRun.icmp_lt_t 60 dX9_order_54 c54 rfl ?_
        refine oRun.sub [1, 2, 3, 0] rfl ?_
        exact E_X9_order_J60 h
      · replace h := oIn c54 h
        refine oRun.icmp_lt_f 57 dX9_order_54 rfl c54 rfl ?_
        refine oRun.bipush 59 dX9_order_57 oc_bm5 rfl ?_
        rw [← Option.some.inj h]
        exact oRun.ret (r := some (.int (-5))) dX9_order_59
set_option maxRecDepth 100000 in
set_option maxHeartbeats 4000000 in
theorem E_X9_order {G : oG} {m : oM} {x1 : Int32} {x2 : Int32} {w : Int32 × oM} (h : F_X9_order m x1 x2 = some w) : oEv G M_X9_order [.ref 51, .int x1, .int x2] m (some (.int w.1)) w.2 := by
  unfold F_X9_order at h
  refine ⟨?_, ?_⟩
  · show oRun G M_X9_order 0 [(0, .ref 51), (1, .int x1), (2, .int x2)] [] m (some (.int w.1)) w.2
    refine oRun.aload_n 1 dX9_order_0 0 rfl rfl (Nat.le_of_ble_eq_true rfl) rfl ?_
    refine oRun.iload_n 2 dX9_order_1 1 rfl rfl rfl ?_
    obtain ⟨r2, hr2, h⟩ := oB1 h
    refine oRun.callV (as := [.int x1]) 5 dX9_order_2 lk_RX9_62 (oFit_i (Nat.le_of_ble_eq_true rfl) (Nat.le_of_ble_eq_true rfl)) rfl rfl rfl rfl (Nat.le_of_ble_eq_true rfl) (Nat.le_of_ble_eq_true rfl) rfl (E_X9_isBody hr2) rfl ?_
    show oRun G _ 5 _ [.int r2] _ _ _
    by_cases c5 : r2 = 0
    · replace h := oIp c5 h
      refine oRun.if_eq_t 26 dX9_order_5 c5 rfl ?_
      refine oRun.iconst 27 dX9_order_26 oc_im1 rfl ?_
      rw [← Option.some.inj h]
      exact oRun.ret (r := some (.int (-1))) dX9_order_27
    · replace h := oIn c5 h
      refine oRun.if_eq_f 8 dX9_order_5 rfl c5 rfl ?_
      refine oRun.iload_n 9 dX9_order_8 2 rfl rfl rfl ?_
      by_cases c9 : x2 = 0
      · replace h := oIp c9 h
        refine oRun.if_eq_t 28 dX9_order_9 c9 rfl ?_
        refine oRun.sub [0, 1, 2] rfl ?_
        exact E_X9_order_J28 h
      · replace h := oIn c9 h
        refine oRun.if_eq_f 12 dX9_order_9 rfl c9 rfl ?_
        refine oRun.iload_n 13 dX9_order_12 2 rfl rfl rfl ?_
        refine oRun.i2l 14 dX9_order_13 rfl ?_
        refine oRun.ldc2 17 dX9_order_14 wd_4_211 rfl ?_
        refine oRun.ldc2 20 dX9_order_17 wd_5_104 rfl ?_
        obtain ⟨r20, hr20, h⟩ := oB1 h
        refine oRun.callS (as := [.long x2.toInt64, .long 10, .long 12]) 23 dX9_order_20 lk_RX9_44 (oFit_i (Nat.le_of_ble_eq_true rfl) (Nat.le_of_ble_eq_true rfl)) rfl (Nat.le_of_ble_eq_true rfl) (Nat.le_of_ble_eq_true rfl) rfl (E_X9_isIn hr20) rfl ?_
        show oRun G _ 23 _ [.int r20] _ _ _
        by_cases c23 : r20 = 0
        · replace h := oIp c23 h
          refine oRun.if_ne_f 26 dX9_order_23 rfl c23 rfl ?_
          refine oRun.iconst 27 dX9_order_26 oc_im1 rfl ?_
          rw [← Option.some.inj h]
          exact oRun.ret (r := some (.int (-1))) dX9_order_27
        · replace h := oIn c23 h
          refine oRun.if_ne_t 28 dX9_order_23 c23 rfl ?_
          refine oRun.sub [0, 1, 2] rfl ?_
          exact E_X9_order_J28 h
  · exact True.intro
