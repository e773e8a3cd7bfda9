set_option maxRecDepth 100000 in
set_option maxHeartbeats 4000000 in
theorem E_X8_were_L87 {G : oG} {x1 : Int32} {x3 : Int64} {x5 : Int32} {x6 : Int32} {r : Option Value} {m' : oM} : ∀ (n : Nat) (x7 : Int32) (x8 : Int32) (x9 : Int32) (m : oM) (b : Int32 × Int32 × oM), oLoop (fun s : Int32 × Int32 × Int32 × oM => F_X8_were_L87 x1 x3 x5 x6 s.1 s.2.1 s.2.2.1 s.2.2.2) n (x7, x8, x9, m) = some b → oRun G M_X8_were 137 [(5, .int x5), (7, .int b.1), (8, .int b.2.1)] [] b.2.2 r m' → oRun G M_X8_were 87 [(0, .ref 0), (1, .int x1), (3, .long x3), (5, .int x5), (6, .int x6), (7, .int x7), (8, .int x8), (9, .int x9)] [] m r m' := by
  intro n
  induction n with
  | zero => intro x7 x8 x9 m b h _; exact (oLoop_zero h).elim
  | succ n ih =>
    intro x7 x8 x9 m b h he
    obtain ⟨q', hq', h⟩ := oLoop_succ h
    have hc : ∀ s' : Int32 × Int32 × Int32 × oM, q' = .inl s' → oRun G M_X8_were 87 [(0, .ref 0), (1, .int x1), (3, .long x3), (5, .int x5), (6, .int x6), (7, .int s'.1), (8, .int s'.2.1), (9, .int s'.2.2.1)] [] s'.2.2.2 r m' := by
      rintro s' rfl
      exact ih (s'.1) (s'.2.1) (s'.2.2.1) (s'.2.2.2) b h he
    have hx : ∀ b' : Int32 × Int32 × oM, q' = .inr b' → oRun G M_X8_were 137 [(5, .int x5), (7, .int b'.1), (8, .int b'.2.1)] [] b'.2.2 r m' := by
      rintro b' rfl
      have h : b' = b := h
      rw [h]
      exact he
    clear h he ih
    have h := hq'
    clear hq'
    replace h : F_X8_were_L87 x1 x3 x5 x6 x7 x8 x9 m = some q' := h
    unfold F_X8_were_L87 at h
    refine oRun.iload 89 dX8_were_87 7 rfl rfl ?_
    refine oRun.bipush 91 dX8_were_89 oc_b10 rfl ?_
    by_cases c91 : x9 < 10
    · replace h := oIp c91 h
      refine oRun.icmp_lt_t 137 dX8_were_91 c91 rfl ?_
      cases h
      refine oRun.sub [3, 5, 6] rfl ?_
      exact hx _ rfl
    · replace h := oIn c91 h
      refine oRun.icmp_lt_f 94 dX8_were_91 rfl c91 rfl ?_
      refine oRun.aload_n 95 dX8_were_94 0 rfl rfl (Nat.le_of_ble_eq_true rfl) rfl ?_
      refine oRun.getR 98 dX8_were_95 fd_RX8_21 rfl rfl (Nat.le_of_ble_eq_true rfl) rfl ?_
      refine oRun.getR 101 dX8_were_98 fd_RX8_135 rfl rfl (Nat.le_of_ble_eq_true rfl) rfl ?_
      refine oRun.getR 104 dX8_were_101 fd_RX8_157 rfl rfl (Nat.le_of_ble_eq_true rfl) rfl ?_
      refine oRun.iload 106 dX8_were_104 4 rfl rfl ?_
      refine oRun.iload 108 dX8_were_106 7 rfl rfl ?_
      obtain ⟨r108, hr108, h⟩ := oB1 h
      refine oRun.callS (as := [.ref 35, .int x6, .int x9]) 111 dX8_were_108 lk_RX8_124 (oFit_i (Nat.le_of_ble_eq_true rfl) (Nat.le_of_ble_eq_true rfl)) rfl (Nat.le_of_ble_eq_true rfl) (Nat.le_of_ble_eq_true rfl) rfl (E_X8_set (oWA_i rfl) hr108) rfl ?_
      show oRun G _ 111 _ [] _ _ _
      refine oRun.aload_n 112 dX8_were_111 0 rfl rfl (Nat.le_of_ble_eq_true rfl) rfl ?_
      refine oRun.getR 115 dX8_were_112 fd_RX8_21 rfl rfl (Nat.le_of_ble_eq_true rfl) rfl ?_
      refine oRun.iload_n 116 dX8_were_115 1 rfl rfl rfl ?_
      obtain ⟨r116, hr116, h⟩ := oB1 h
      refine oRun.callV (as := [.int x1]) 119 dX8_were_116 lk_RX8_270 (oFit_i (Nat.le_of_ble_eq_true rfl) (Nat.le_of_ble_eq_true rfl)) rfl rfl rfl rfl (Nat.le_of_ble_eq_true rfl) (Nat.le_of_ble_eq_true rfl) rfl (E_X1_standing rfl hr116) rfl ?_
      show oRun G _ 119 _ [.long r116] _ _ _
      refine oRun.lload_n 120 dX8_were_119 2 rfl rfl rfl ?_
      refine oRun.lcmp 121 dX8_were_120 rfl ?_
      by_cases c121 : r116 = x3
      · replace h := oIp c121 h
        refine oRun.if_ne_f 124 dX8_were_121 rfl ((oLc_eq _ _).mpr c121) rfl ?_
        refine oRun.iinc 127 dX8_were_124 5 rfl (oAddC oc_i1) (Nat.le_of_ble_eq_true rfl) rfl rfl ?_
        refine oRun.iload 129 dX8_were_127 7 rfl rfl ?_
        refine oRun.istore 131 dX8_were_129 (Nat.le_of_ble_eq_true rfl) rfl rfl ?_
        refine oRun.iinc 134 dX8_were_131 7 rfl (oAddC oc_im1) (Nat.le_of_ble_eq_true rfl) rfl rfl ?_
        refine oRun.goto 87 dX8_were_134 rfl ?_
        cases h
        refine oRun.sub [3, 4, 5, 6, 7, 2, 1, 0] rfl ?_
        exact hc _ rfl
      · replace h := oIn c121 h
        refine oRun.if_ne_t 131 dX8_were_121 (mt (oLc_eq _ _).mp c121) rfl ?_
        refine oRun.iinc 134 dX8_were_131 7 rfl (oAddC oc_im1) (Nat.le_of_ble_eq_true rfl) rfl rfl ?_
        refine oRun.goto 87 dX8_were_134 rfl ?_
        cases h
        refine oRun.sub [1, 2, 3, 4, 5, 6, 7, 0] rfl ?_
        exact hc _ rfl
set_option maxRecDepth 100000 in
set_option maxHeartbeats 4000000 in
theorem E_X8_were {G : oG} {m : oM} {x1 : Int32} {x2 : Int32} {x3 : Int64} {x5 : Int32} {w : Int32 × oM} (h : F_X8_were m x1 x2 x3 x5 = some w) : oEv G M_X8_were [.ref 0, .int x1, .int x2, .long x3, .int x5] m (some (.int w.1)) w.2 := by
  unfold F_X8_were at h
  refine ⟨?_, ?_⟩
  · show oRun G M_X8_were 0 [(0, .ref 0), (1, .int x1), (2, .int x2), (3, .long x3), (5, .int x5)] [] m (some (.int w.1)) w.2
    refine oRun.aload_n 1 dX8_were_0 0 rfl rfl (Nat.le_of_ble_eq_true rfl) rfl ?_
    refine oRun.getR 4 dX8_were_1 fd_RX8_12 rfl rfl (Nat.le_of_ble_eq_true rfl) rfl ?_
    refine oRun.iload_n 5 dX8_were_4 1 rfl rfl rfl ?_
    obtain ⟨r5, hr5, h⟩ := oB1 h
    refine oRun.callV (as := [.int x1]) 8 dX8_were_5 lk_RX8_68 (oFit_i (Nat.le_of_ble_eq_true rfl) (Nat.le_of_ble_eq_true rfl)) rfl rfl rfl rfl (Nat.le_of_ble_eq_true rfl) (Nat.le_of_ble_eq_true rfl) rfl (E_X1_hasBody rfl hr5) rfl ?_
    show oRun G _ 8 _ [.int r5] _ _ _
    by_cases c8 : r5 = 0
    · replace h := oIp c8 h
      refine oRun.if_eq_t 31 dX8_were_8 c8 rfl ?_
      refine oRun.iconst 32 dX8_were_31 oc_im1 rfl ?_
      rw [← Option.some.inj h]
      exact oRun.ret (r := some (.int (-1))) dX8_were_32
    · replace h := oIn c8 h
      refine oRun.if_eq_f 11 dX8_were_8 rfl c8 rfl ?_
      refine oRun.iload_n 12 dX8_were_11 2 rfl rfl rfl ?_
      by_cases c12 : x2 < 0
      · replace h := oIp c12 h
        refine oRun.if_lt_t 31 dX8_were_12 c12 rfl ?_
        refine oRun.iconst 32 dX8_were_31 oc_im1 rfl ?_
        rw [← Option.some.inj h]
        exact oRun.ret (r := some (.int (-1))) dX8_were_32
      · replace h := oIn c12 h
        refine oRun.if_lt_f 15 dX8_were_12 rfl c12 rfl ?_
        refine oRun.iload_n 16 dX8_were_15 2 rfl rfl rfl ?_
        refine oRun.iconst 17 dX8_were_16 oc_i3 rfl ?_
        by_cases c17 : 3 ≤ x2
        · replace h := oIp c17 h
          refine oRun.icmp_ge_t 31 dX8_were_17 c17 rfl ?_
          refine oRun.iconst 32 dX8_were_31 oc_im1 rfl ?_
          rw [← Option.some.inj h]
          exact oRun.ret (r := some (.int (-1))) dX8_were_32
        · replace h := oIn c17 h
          refine oRun.icmp_ge_f 20 dX8_were_17 rfl c17 rfl ?_
          refine oRun.iload 22 dX8_were_20 4 rfl rfl ?_
          by_cases c22 : x5 < 0
          · replace h := oIp c22 h
            refine oRun.if_lt_t 31 dX8_were_22 c22 rfl ?_
            refine oRun.iconst 32 dX8_were_31 oc_im1 rfl ?_
            rw [← Option.some.inj h]
            exact oRun.ret (r := some (.int (-1))) dX8_were_32
          · replace h := oIn c22 h
            refine oRun.if_lt_f 25 dX8_were_22 rfl c22 rfl ?_
            refine oRun.iload 27 dX8_were_25 4 rfl rfl ?_
            refine oRun.iconst 28 dX8_were_27 oc_i1 rfl ?_
            by_cases c28 : x5 ≤ 1
            · replace h := oIp c28 h
              refine oRun.icmp_le_t 33 dX8_were_28 c28 rfl ?_
              refine oRun.iload_n 34 dX8_were_33 2 rfl rfl rfl ?_
              refine oRun.aload_n 35 dX8_were_34 0 rfl rfl (Nat.le_of_ble_eq_true rfl) rfl ?_
              refine oRun.getR 38 dX8_were_35 fd_RX8_12 rfl rfl (Nat.le_of_ble_eq_true rfl) rfl ?_
              refine oRun.getR 41 dX8_were_38 fd_RX8_170 rfl rfl (Nat.le_of_ble_eq_true rfl) rfl ?_
              refine oRun.iload_n 42 dX8_were_41 1 rfl rfl rfl ?_
              obtain ⟨r42, hr42, h⟩ := oB1 h
              refine oRun.callV (as := [.int x1]) 45 dX8_were_42 lk_RX8_195 (oFit_i (Nat.le_of_ble_eq_true rfl) (Nat.le_of_ble_eq_true rfl)) rfl rfl rfl rfl (Nat.le_of_ble_eq_true rfl) (Nat.le_of_ble_eq_true rfl) rfl (E_X7_length rfl hr42) rfl ?_
              show oRun G _ 45 _ [.int r42, .int x2] _ _ _
              by_cases c45 : x2 < r42
              · replace h := oIp c45 h
                refine oRun.icmp_lt_t 51 dX8_were_45 c45 rfl ?_
                refine oRun.aload_n 52 dX8_were_51 0 rfl rfl (Nat.le_of_ble_eq_true rfl) rfl ?_
                refine oRun.getR 55 dX8_were_52 fd_RX8_21 rfl rfl (Nat.le_of_ble_eq_true rfl) rfl ?_
                refine oRun.aload_n 56 dX8_were_55 0 rfl rfl (Nat.le_of_ble_eq_true rfl) rfl ?_
                refine oRun.getR 59 dX8_were_56 fd_RX8_12 rfl rfl (Nat.le_of_ble_eq_true rfl) rfl ?_
                obtain ⟨r59, hr59, h⟩ := oB1 h
                refine oRun.callV (as := [.ref 1]) 62 dX8_were_59 lk_RX8_282 (oFit_i (Nat.le_of_ble_eq_true rfl) (Nat.le_of_ble_eq_true rfl)) rfl rfl rfl rfl (Nat.le_of_ble_eq_true rfl) (Nat.le_of_ble_eq_true rfl) rfl (E_X1_copyFrom rfl rfl hr59) rfl ?_
                show oRun G _ 62 _ [] _ _ _
                refine oRun.aload_n 63 dX8_were_62 0 rfl rfl (Nat.le_of_ble_eq_true rfl) rfl ?_
                refine oRun.getR 66 dX8_were_63 fd_RX8_12 rfl rfl (Nat.le_of_ble_eq_true rfl) rfl ?_
                refine oRun.getR 69 dX8_were_66 fd_RX8_170 rfl rfl (Nat.le_of_ble_eq_true rfl) rfl ?_
                refine oRun.iload_n 70 dX8_were_69 1 rfl rfl rfl ?_
                refine oRun.iload_n 71 dX8_were_70 2 rfl rfl rfl ?_
                obtain ⟨r71, hr71, h⟩ := oB1 h
                refine oRun.callV (as := [.int x1, .int x2]) 74 dX8_were_71 lk_RX8_203 (oFit_i (Nat.le_of_ble_eq_true rfl) (Nat.le_of_ble_eq_true rfl)) rfl rfl rfl rfl (Nat.le_of_ble_eq_true rfl) (Nat.le_of_ble_eq_true rfl) rfl (E_X7_pairAt rfl hr71) rfl ?_
                show oRun G _ 74 _ [.int r71] _ _ _
                refine oRun.istore 76 dX8_were_74 (Nat.le_of_ble_eq_true rfl) rfl rfl ?_
                refine oRun.iconst 77 dX8_were_76 oc_i0 rfl ?_
                refine oRun.istore 79 dX8_were_77 (Nat.le_of_ble_eq_true rfl) rfl rfl ?_
                refine oRun.bipush 81 dX8_were_79 oc_bm5 rfl ?_
                refine oRun.istore 83 dX8_were_81 (Nat.le_of_ble_eq_true rfl) rfl rfl ?_
                refine oRun.bipush 85 dX8_were_83 oc_b99 rfl ?_
                refine oRun.istore 87 dX8_were_85 (Nat.le_of_ble_eq_true rfl) rfl rfl ?_
                obtain ⟨b87, hb87, h⟩ := oB1 h
                refine oRun.sub [4, 5, 7, 8, 3, 2, 1, 0] rfl ?_
                refine E_X8_were_L87 _ _ _ _ _ _ hb87 ?_
                refine oRun.iload 139 dX8_were_137 0 rfl rfl ?_
                by_cases c139 : x5 = 0
                · replace h := oIp c139 h
                  refine oRun.if_ne_f 142 dX8_were_139 rfl c139 rfl ?_
                  refine oRun.iload 144 dX8_were_142 1 rfl rfl ?_
                  refine oRun.goto 149 dX8_were_144 rfl ?_
                  rw [← Option.some.inj h]
                  exact oRun.ret (r := some (.int b87.1)) dX8_were_149
                · replace h := oIn c139 h
                  refine oRun.if_ne_t 147 dX8_were_139 c139 rfl ?_
                  refine oRun.iload 149 dX8_were_147 2 rfl rfl ?_
                  rw [← Option.some.inj h]
                  exact oRun.ret (r := some (.int b87.2.1)) dX8_were_149
              · replace h := oIn c45 h
                refine oRun.icmp_lt_f 48 dX8_were_45 rfl c45 rfl ?_
                refine oRun.bipush 50 dX8_were_48 oc_bm3 rfl ?_
                rw [← Option.some.inj h]
                exact oRun.ret (r := some (.int (-3))) dX8_were_50
            · replace h := oIn c28 h
              refine oRun.icmp_le_f 31 dX8_were_28 rfl c28 rfl ?_
              refine oRun.iconst 32 dX8_were_31 oc_im1 rfl ?_
              rw [← Option.some.inj h]
              exact oRun.ret (r := some (.int (-1))) dX8_were_32
  · exact True.intro
set_option maxRecDepth 100000 in
set_option maxHeartbeats 4000000 in
theorem E_X9_were_L80 {G : oG} {x1 : Int32} {x3 : Int64} {x5 : Int32} {x6 : Int32} {x7 : Int32} {r : Option Value} {m' : oM} : ∀ (n : Nat) (x8 : Int32) (x9 : Int32) (x10 : Int32) (m : oM) (b : Int32 × Int32 × oM), oLoop (fun s : Int32 × Int32 × Int32 × oM => F_X9_were_L80 x1 x3 x5 x6 x7 s.1 s.2.1 s.2.2.1 s.2.2.2) n (x8, x9, x10, m) = some b → oRun G M_X9_were 122 [(0, .ref 51), (5, .int x5), (6, .int x6), (7, .int x7), (8, .int b.1), (9, .int b.2.1)] [] b.2.2 r m' → oRun G M_X9_were 80 [(0, .ref 51), (1, .int x1), (3, .long x3), (5, .int x5), (6, .int x6), (7, .int x7), (8, .int x8), (9, .int x9), (10, .int x10)] [] m r m' := by
  intro n
  induction n with
  | zero => intro x8 x9 x10 m b h _; exact (oLoop_zero h).elim
  | succ n ih =>
    intro x8 x9 x10 m b h he
    obtain ⟨q', hq', h⟩ := oLoop_succ h
    have hc : ∀ s' : Int32 × Int32 × Int32 × oM, q' = .inl s' → oRun G M_X9_were 80 [(0, .ref 51), (1, .int x1), (3, .long x3), (5, .int x5), (6, .int x6), (7, .int x7), (8, .int s'.1), (9, .int s'.2.1), (10, .int s'.2.2.1)] [] s'.2.2.2 r m' := by
      rintro s' rfl
      exact ih (s'.1) (s'.2.1) (s'.2.2.1) (s'.2.2.2) b h he
    have hx : ∀ b' : Int32 × Int32 × oM, q' = .inr b' → oRun G M_X9_were 122 [(0, .ref 51), (5, .int x5), (6, .int x6), (7, .int x7), (8, .int b'.1), (9, .int b'.2.1)] [] b'.2.2 r m' := by
      rintro b' rfl
      have h : b' = b := h
      rw [h]
      exact he
    clear h he ih
    have h := hq'
    clear hq'
    replace h : F_X9_were_L80 x1 x3 x5 x6 x7 x8 x9 x10 m = some q' := h
    unfold F_X9_were_L80 at h
    refine oRun.iload 82 dX9_were_80 8 rfl rfl ?_
    refine oRun.bipush 84 dX9_were_82 oc_b10 rfl ?_
    by_cases c84 : x10 < 10
    · replace h := oIp c84 h
      refine oRun.icmp_lt_t 122 dX9_were_84 c84 rfl ?_
      cases h
      refine oRun.sub [0, 3, 4, 5, 6, 7] rfl ?_
      exact hx _ rfl
    · replace h := oIn c84 h
      refine oRun.icmp_lt_f 87 dX9_were_84 rfl c84 rfl ?_
      refine oRun.aload_n 88 dX9_were_87 0 rfl rfl (Nat.le_of_ble_eq_true rfl) rfl ?_
      refine oRun.getR 91 dX9_were_88 fd_RX9_11 rfl rfl (Nat.le_of_ble_eq_true rfl) rfl ?_
      refine oRun.iload 93 dX9_were_91 4 rfl rfl ?_
      refine oRun.iload 95 dX9_were_93 8 rfl rfl ?_
      obtain ⟨m95, hm95, h⟩ := oB1 h
      refine oRun.iastore 96 dX9_were_95 rfl hm95 rfl ?_
      refine oRun.aload_n 97 dX9_were_96 0 rfl rfl (Nat.le_of_ble_eq_true rfl) rfl ?_
      refine oRun.iload_n 98 dX9_were_97 1 rfl rfl rfl ?_
      obtain ⟨r98, hr98, h⟩ := oB1 h
      refine oRun.callV (as := [.int x1]) 101 dX9_were_98 lk_RX9_225 (oFit_i (Nat.le_of_ble_eq_true rfl) (Nat.le_of_ble_eq_true rfl)) rfl rfl rfl rfl (Nat.le_of_ble_eq_true rfl) (Nat.le_of_ble_eq_true rfl) rfl (E_X9_standsAt hr98) rfl ?_
      show oRun G _ 101 _ [.long r98] _ _ _
      refine oRun.lload_n 102 dX9_were_101 2 rfl rfl rfl ?_
      refine oRun.lcmp 103 dX9_were_102 rfl ?_
      by_cases c103 : r98 = x3
      · replace h := oIp c103 h
        refine oRun.if_eq_t 109 dX9_were_103 ((oLc_eq _ _).mpr c103) rfl ?_
        refine oRun.iinc 112 dX9_were_109 6 rfl (oAddC oc_i1) (Nat.le_of_ble_eq_true rfl) rfl rfl ?_
        refine oRun.iload 114 dX9_were_112 8 rfl rfl ?_
        refine oRun.istore 116 dX9_were_114 (Nat.le_of_ble_eq_true rfl) rfl rfl ?_
        refine oRun.iinc 119 dX9_were_116 8 rfl (oAddC oc_im1) (Nat.le_of_ble_eq_true rfl) rfl rfl ?_
        refine oRun.goto 80 dX9_were_119 rfl ?_
        cases h
        refine oRun.sub [3, 4, 5, 6, 7, 8, 2, 1, 0] rfl ?_
        exact hc _ rfl
      · replace h := oIn c103 h
        refine oRun.if_eq_f 106 dX9_were_103 rfl (mt (oLc_eq _ _).mp c103) rfl ?_
        refine oRun.goto 116 dX9_were_106 rfl ?_
        refine oRun.iinc 119 dX9_were_116 8 rfl (oAddC oc_im1) (Nat.le_of_ble_eq_true rfl) rfl rfl ?_
        refine oRun.goto 80 dX9_were_119 rfl ?_
        cases h
        refine oRun.sub [1, 2, 3, 4, 5, 6, 7, 8, 0] rfl ?_
        exact hc _ rfl
set_option maxRecDepth 100000 in
set_option maxHeartbeats 4000000 in
theorem E_X9_were {G : oG} {m : oM} {x1 : Int32} {x2 : Int32} {x3 : Int64} {x5 : Int32} {w : Int32 × oM} (h : F_X9_were m x1 x2 x3 x5 = some w) : oEv G M_X9_were [.ref 51, .int x1, .int x2, .long x3, .int x5] m (some (.int w.1)) w.2 := by
  unfold F_X9_were at h
  refine ⟨?_, ?_⟩
  · show oRun G M_X9_were 0 [(0, .ref 51), (1, .int x1), (2, .int x2), (3, .long x3), (5, .int x5)] [] m (some (.int w.1)) w.2
    refine oRun.aload_n 1 dX9_were_0 0 rfl rfl (Nat.le_of_ble_eq_true rfl) rfl ?_
    refine oRun.iload_n 2 dX9_were_1 1 rfl rfl rfl ?_
    obtain ⟨r2, hr2, h⟩ := oB1 h
    refine oRun.callV (as := [.int x1]) 5 dX9_were_2 lk_RX9_62 (oFit_i (Nat.le_of_ble_eq_true rfl) (Nat.le_of_ble_eq_true rfl)) rfl rfl rfl rfl (Nat.le_of_ble_eq_true rfl) (Nat.le_of_ble_eq_true rfl) rfl (E_X9_isBody hr2) rfl ?_
    show oRun G _ 5 _ [.int r2] _ _ _
    by_cases c5 : r2 = 0
    · replace h := oIp c5 h
      refine oRun.if_eq_t 31 dX9_were_5 c5 rfl ?_
      refine oRun.iconst 32 dX9_were_31 oc_im1 rfl ?_
      rw [← Option.some.inj h]
      exact oRun.ret (r := some (.int (-1))) dX9_were_32
    · replace h := oIn c5 h
      refine oRun.if_eq_f 8 dX9_were_5 rfl c5 rfl ?_
      refine oRun.iload_n 9 dX9_were_8 2 rfl rfl rfl ?_
      refine oRun.i2l 10 dX9_were_9 rfl ?_
      refine oRun.lconst 11 dX9_were_10 oc_l0 rfl ?_
      refine oRun.ldc2 14 dX9_were_11 wd_4_216 rfl ?_
      obtain ⟨r14, hr14, h⟩ := oB1 h
      refine oRun.callS (as := [.long x2.toInt64, .long 0, .long 2]) 17 dX9_were_14 lk_RX9_44 (oFit_i (Nat.le_of_ble_eq_true rfl) (Nat.le_of_ble_eq_true rfl)) rfl (Nat.le_of_ble_eq_true rfl) (Nat.le_of_ble_eq_true rfl) rfl (E_X9_isIn hr14) rfl ?_
      show oRun G _ 17 _ [.int r14] _ _ _
      by_cases c17 : r14 = 0
      · replace h := oIp c17 h
        refine oRun.if_eq_t 31 dX9_were_17 c17 rfl ?_
        refine oRun.iconst 32 dX9_were_31 oc_im1 rfl ?_
        rw [← Option.some.inj h]
        exact oRun.ret (r := some (.int (-1))) dX9_were_32
      · replace h := oIn c17 h
        refine oRun.if_eq_f 20 dX9_were_17 rfl c17 rfl ?_
        refine oRun.iload 22 dX9_were_20 4 rfl rfl ?_
        refine oRun.i2l 23 dX9_were_22 rfl ?_
        refine oRun.lconst 24 dX9_were_23 oc_l0 rfl ?_
        refine oRun.lconst 25 dX9_were_24 oc_l1 rfl ?_
        obtain ⟨r25, hr25, h⟩ := oB1 h
        refine oRun.callS (as := [.long x5.toInt64, .long 0, .long 1]) 28 dX9_were_25 lk_RX9_44 (oFit_i (Nat.le_of_ble_eq_true rfl) (Nat.le_of_ble_eq_true rfl)) rfl (Nat.le_of_ble_eq_true rfl) (Nat.le_of_ble_eq_true rfl) rfl (E_X9_isIn hr25) rfl ?_
        show oRun G _ 28 _ [.int r25] _ _ _
        by_cases c28 : r25 = 0
        · replace h := oIp c28 h
          refine oRun.if_ne_f 31 dX9_were_28 rfl c28 rfl ?_
          refine oRun.iconst 32 dX9_were_31 oc_im1 rfl ?_
          rw [← Option.some.inj h]
          exact oRun.ret (r := some (.int (-1))) dX9_were_32
        · replace h := oIn c28 h
          refine oRun.if_ne_t 33 dX9_were_28 c28 rfl ?_
          refine oRun.iload_n 34 dX9_were_33 2 rfl rfl rfl ?_
          refine oRun.aload_n 35 dX9_were_34 0 rfl rfl (Nat.le_of_ble_eq_true rfl) rfl ?_
          refine oRun.getR 38 dX9_were_35 fd_RX9_11 rfl rfl (Nat.le_of_ble_eq_true rfl) rfl ?_
          refine oRun.bipush 40 dX9_were_38 oc_b19 rfl ?_
          refine oRun.iload_n 41 dX9_were_40 1 rfl rfl rfl ?_
          refine oRun.iadd 42 dX9_were_41 rfl ?_
          obtain ⟨v42, hv42, h⟩ := oB1 h
          refine oRun.iaload 43 dX9_were_42 (Or.inr ⟨_, rfl⟩) hv42 rfl ?_
          by_cases c43 : x2 < v42
          · replace h := oIp c43 h
            refine oRun.icmp_lt_t 49 dX9_were_43 c43 rfl ?_
            refine oRun.bipush 51 dX9_were_49 oc_b63 rfl ?_
            refine oRun.aload_n 52 dX9_were_51 0 rfl rfl (Nat.le_of_ble_eq_true rfl) rfl ?_
            refine oRun.iload_n 53 dX9_were_52 1 rfl rfl rfl ?_
            refine oRun.iload_n 54 dX9_were_53 2 rfl rfl rfl ?_
            obtain ⟨r54, hr54, h⟩ := oB1 h
            refine oRun.callV (as := [.int x1, .int x2]) 57 dX9_were_54 lk_RX9_86 (oFit_i (Nat.le_of_ble_eq_true rfl) (Nat.le_of_ble_eq_true rfl)) rfl rfl rfl rfl (Nat.le_of_ble_eq_true rfl) (Nat.le_of_ble_eq_true rfl) rfl (E_X9_pairAt hr54) rfl ?_
            show oRun G _ 57 _ [.int r54, .int 63] _ _ _
            refine oRun.iadd 58 dX9_were_57 rfl ?_
            obtain ⟨x6_58, hx6_58, h⟩ := oB1 h
            refine oRun.nameI hx6_58 ?_
            refine oRun.istore 60 dX9_were_58 (Nat.le_of_ble_eq_true rfl) rfl rfl ?_
            refine oRun.aload_n 61 dX9_were_60 1 rfl rfl (Nat.le_of_ble_eq_true rfl) rfl ?_
            refine oRun.getR 64 dX9_were_61 fd_RX9_11 rfl rfl (Nat.le_of_ble_eq_true rfl) rfl ?_
            refine oRun.iload 66 dX9_were_64 0 rfl rfl ?_
            obtain ⟨v66, hv66, h⟩ := oB1 h
            refine oRun.iaload 67 dX9_were_66 (Or.inr ⟨_, rfl⟩) hv66 rfl ?_
            refine oRun.istore 69 dX9_were_67 (Nat.le_of_ble_eq_true rfl) rfl rfl ?_
            refine oRun.iconst 70 dX9_were_69 oc_i0 rfl ?_
            refine oRun.istore 72 dX9_were_70 (Nat.le_of_ble_eq_true rfl) rfl rfl ?_
            refine oRun.bipush 74 dX9_were_72 oc_bm5 rfl ?_
            refine oRun.istore 76 dX9_were_74 (Nat.le_of_ble_eq_true rfl) rfl rfl ?_
            refine oRun.bipush 78 dX9_were_76 oc_b99 rfl ?_
            refine oRun.istore 80 dX9_were_78 (Nat.le_of_ble_eq_true rfl) rfl rfl ?_
            obtain ⟨b80, hb80, h⟩ := oB1 h
            refine oRun.sub [5, 6, 8, 9, 4, 3, 2, 1, 0] rfl ?_
            refine E_X9_were_L80 _ _ _ _ _ _ hb80 ?_
            refine oRun.aload_n 123 dX9_were_122 0 rfl rfl (Nat.le_of_ble_eq_true rfl) rfl ?_
            refine oRun.getR 126 dX9_were_123 fd_RX9_11 rfl rfl (Nat.le_of_ble_eq_true rfl) rfl ?_
            refine oRun.iload 128 dX9_were_126 2 rfl rfl ?_
            refine oRun.iload 130 dX9_were_128 3 rfl rfl ?_
            obtain ⟨m130, hm130, h⟩ := oB1 h
            refine oRun.iastore 131 dX9_were_130 rfl hm130 rfl ?_
            refine oRun.iload 133 dX9_were_131 1 rfl rfl ?_
            by_cases c133 : x5 = 0
            · replace h := oIp c133 h
              refine oRun.if_ne_f 136 dX9_were_133 rfl c133 rfl ?_
              refine oRun.iload 138 dX9_were_136 4 rfl rfl ?_
              refine oRun.goto 143 dX9_were_138 rfl ?_
              rw [← Option.some.inj h]
              exact oRun.ret (r := some (.int b80.1)) dX9_were_143
            · replace h := oIn c133 h
              refine oRun.if_ne_t 141 dX9_were_133 c133 rfl ?_
              refine oRun.iload 143 dX9_were_141 5 rfl rfl ?_
              rw [← Option.some.inj h]
              exact oRun.ret (r := some (.int b80.2.1)) dX9_were_143
          · replace h := oIn c43 h
            refine oRun.icmp_lt_f 46 dX9_were_43 rfl c43 rfl ?_
            refine oRun.bipush 48 dX9_were_46 oc_bm3 rfl ?_
            rw [← Option.some.inj h]
            exact oRun.ret (r := some (.int (-3))) dX9_were_48
  · exact True.intro
set_option maxRecDepth 100000 in
set_option maxHeartbeats 4000000 in
theorem E_X1_slips_L5 {G : oG} {o : Nat} (ho : oOb o = true) {m : oM} {x1 : Int32} {r : Option Value} {m' : oM} : ∀ (n : Nat) (x3 : Int32) (x4 : Int32) (b : (Unit) ⊕ (Int32)), oLoop (fun s : Int32 × Int32 => F_X1_slips_L5 o m x1 s.1 s.2) n (x3, x4) = some b → Sum.elim (fun yy => oRun G M_X1_slips 62 [] [] m r m') (fun zz => r = (some (.int zz)) ∧ m' = m) b → oRun G M_X1_slips 5 [(0, .ref o), (1, .int x1), (3, .int x3), (4, .int x4)] [] m r m' := by
  intro n
  induction n with
  | zero => intro x3 x4 b h _; exact (oLoop_zero h).elim
  | succ n ih =>
    intro x3 x4 b h he
    obtain ⟨q', hq', h⟩ := oLoop_succ h
    have hc : ∀ s' : Int32 × Int32, q' = .inl s' → oRun G M_X1_slips 5 [(0, .ref o), (1, .int x1), (3, .int s'.1), (4, .int s'.2)] [] m r m' := by
      rintro s' rfl
      exact ih (s'.1) (s'.2) b h he
    have hx : ∀ b' : (Unit) ⊕ (Int32), q' = .inr b' → Sum.elim (fun yy => oRun G M_X1_slips 62 [] [] m r m') (fun zz => r = (some (.int zz)) ∧ m' = m) b' := by
      rintro b' rfl
      have h : b' = b := h
      rw [h]
      exact he
    clear h he ih
    have h := hq'
    clear hq'
    replace h : F_X1_slips_L5 o m x1 x3 x4 = some q' := h
    unfold F_X1_slips_L5 at h
    refine oRun.iload 7 dX1_slips_5 3 rfl rfl ?_
    refine oRun.aload_n 8 dX1_slips_7 0 rfl rfl (oLt66 (oO_lt ho)) rfl ?_
    refine oRun.getR 11 dX1_slips_8 fd_RX1_38 (oO_sh ho) rfl (oO_l8 ho) rfl ?_
    refine oRun.iload_n 12 dX1_slips_11 1 rfl rfl rfl ?_
    obtain ⟨r12, hr12, h⟩ := oB1 h
    refine oRun.callV (as := [.int x1]) 15 dX1_slips_12 lk_RX1_74 (oFit_i (Nat.le_of_ble_eq_true rfl) (Nat.le_of_ble_eq_true rfl)) (oT_sh (oO_T ho)) rfl rfl rfl (Nat.le_of_ble_eq_true rfl) (Nat.le_of_ble_eq_true rfl) rfl (E_X7_length (oO_T ho) hr12) rfl ?_
    show oRun G _ 15 _ [.int r12, .int x4] _ _ _
    by_cases c15 : r12 ≤ x4
    · replace h := oIp c15 h
      refine oRun.icmp_ge_t 62 dX1_slips_15 c15 rfl ?_
      cases h
      refine oRun.sub [] rfl ?_
      exact hx _ rfl
    · replace h := oIn c15 h
      refine oRun.icmp_ge_f 18 dX1_slips_15 rfl c15 rfl ?_
      refine oRun.iload_n 19 dX1_slips_18 2 rfl rfl rfl ?_
      refine oRun.ldc 21 dX1_slips_19 wd_3_206 rfl ?_
      refine oRun.imul 22 dX1_slips_21 rfl ?_
      refine oRun.sipush 25 dX1_slips_22 oc_s12345 rfl ?_
      refine oRun.iadd 26 dX1_slips_25 rfl ?_
      obtain ⟨x3_26, hx3_26, h⟩ := oB1 h
      refine oRun.nameI hx3_26 ?_
      refine oRun.istore_n 27 dX1_slips_26 rfl (Nat.le_of_ble_eq_true rfl) rfl rfl ?_
      refine oRun.iload_n 28 dX1_slips_27 0 rfl rfl rfl ?_
      refine oRun.bipush 30 dX1_slips_28 oc_b16 rfl ?_
      refine oRun.iushr 31 dX1_slips_30 rfl ?_
      refine oRun.bipush 33 dX1_slips_31 oc_b100 rfl ?_
      refine oRun.irem 34 dX1_slips_33 (by decide) rfl ?_
      refine oRun.aload_n 35 dX1_slips_34 1 rfl rfl (oLt66 (oO_lt ho)) rfl ?_
      refine oRun.getR 38 dX1_slips_35 fd_RX1_31 (oO_sh ho) rfl (oO_l3 ho) rfl ?_
      refine oRun.aload_n 39 dX1_slips_38 1 rfl rfl (oLt66 (oO_lt ho)) rfl ?_
      refine oRun.getR 42 dX1_slips_39 fd_RX1_38 (oO_sh ho) rfl (oO_l8 ho) rfl ?_
      refine oRun.iload_n 43 dX1_slips_42 2 rfl rfl rfl ?_
      refine oRun.iload 45 dX1_slips_43 3 rfl rfl ?_
      obtain ⟨r45, hr45, h⟩ := oB1 h
      refine oRun.callV (as := [.int x1, .int x4]) 48 dX1_slips_45 lk_RX1_89 (oFit_i (Nat.le_of_ble_eq_true rfl) (Nat.le_of_ble_eq_true rfl)) (oT_sh (oO_T ho)) rfl rfl rfl (Nat.le_of_ble_eq_true rfl) (Nat.le_of_ble_eq_true rfl) rfl (E_X7_pairAt (oO_T ho) hr45) rfl ?_
      show oRun G _ 48 _ [.int r45, .ref (o + 3), .int (oRI ((oUS x3_26 16)) 100)] _ _ _
      obtain ⟨r48, hr48, h⟩ := oB1 h
      refine oRun.callV (as := [.int r45]) 51 dX1_slips_48 lk_RX1_108 (oFit_i (Nat.le_of_ble_eq_true rfl) (Nat.le_of_ble_eq_true rfl)) (oP_sh (oO_P ho)) rfl rfl rfl (Nat.le_of_ble_eq_true rfl) (Nat.le_of_ble_eq_true rfl) rfl (E_X2_play (oO_P ho) hr48) rfl ?_
      show oRun G _ 51 _ [.int r48, .int (oRI ((oUS x3_26 16)) 100)] _ _ _
      by_cases c51 : r48 ≤ (oRI ((oUS x3_26 16)) 100)
      · replace h := oIp c51 h
        refine oRun.icmp_ge_t 56 dX1_slips_51 c51 rfl ?_
        refine oRun.iinc 59 dX1_slips_56 3 rfl (oAddC oc_i1) (Nat.le_of_ble_eq_true rfl) rfl rfl ?_
        refine oRun.goto 5 dX1_slips_59 rfl ?_
        cases h
        refine oRun.sub [2, 3, 1, 0] rfl ?_
        exact hc _ rfl
      · replace h := oIn c51 h
        refine oRun.icmp_ge_f 54 dX1_slips_51 rfl c51 rfl ?_
        refine oRun.iconst 55 dX1_slips_54 oc_i1 rfl ?_
        cases h
        obtain ⟨hr1, hr2⟩ := hx _ rfl
        rw [hr1, hr2]
        exact oRun.ret (r := some (.int 1)) dX1_slips_55
set_option maxRecDepth 100000 in
set_option maxHeartbeats 4000000 in
theorem E_X1_slips {G : oG} {o : Nat} (ho : oOb o = true) {m : oM} {x1 : Int32} {x2 : Int32} {w : Int32} (h : F_X1_slips o m x1 x2 = some w) : oEv G M_X1_slips [.ref o, .int x1, .int x2] m (some (.int w)) m := by
  unfold F_X1_slips at h
  refine ⟨?_, ?_⟩
  · show oRun G M_X1_slips 0 [(0, .ref o), (1, .int x1), (2, .int x2)] [] m (some (.int w)) m
    refine oRun.iload_n 1 dX1_slips_0 2 rfl rfl rfl ?_
    refine oRun.istore_n 2 dX1_slips_1 rfl (Nat.le_of_ble_eq_true rfl) rfl rfl ?_
    refine oRun.iconst 3 dX1_slips_2 oc_i0 rfl ?_
    refine oRun.istore 5 dX1_slips_3 (Nat.le_of_ble_eq_true rfl) rfl rfl ?_
    obtain ⟨b5, hb5, h⟩ := oB1 h
    refine oRun.sub [2, 3, 1, 0] rfl ?_
    refine E_X1_slips_L5 ho _ _ _ _ hb5 ?_
    rcases b5 with y5 | z5
    · replace h := oSl h
      show oRun G _ _ _ _ _ _ _
      refine oRun.iconst 63 dX1_slips_62 oc_i0 rfl ?_
      rw [← Option.some.inj h]
      exact oRun.ret (r := some (.int 0)) dX1_slips_63
    · replace h := oSr h
      exact ⟨by rw [oZ_eq h], rfl⟩
  · show oROK (some .boolean) (some (.int w))
    obtain ⟨b5, hb5, h⟩ := oB1 h
    rcases b5 with y5 | z5
    · replace h := oSl h
      rw [← Option.some.inj h]
      exact Or.inl rfl
    · exact oZ_ok (oSr h)
set_option maxRecDepth 100000 in
set_option maxHeartbeats 4000000 in
theorem E_X8_odds_L40 {G : oG} {m : oM} {x1 : Int32} {x2 : Int32} {x3 : Int32} {x4 : Int32} {r : Option Value} {m' : oM} : ∀ (n : Nat) (x5 : Int32) (x6 : Int32) (b : Int32), oLoop (fun s : Int32 × Int32 => F_X8_odds_L40 m x1 x2 x3 x4 s.1 s.2) n (x5, x6) = some b → oRun G M_X8_odds 70 [(3, .int x3), (4, .int x4), (5, .int b)] [] m r m' → oRun G M_X8_odds 40 [(0, .ref 0), (1, .int x1), (2, .int x2), (3, .int x3), (4, .int x4), (5, .int x5), (6, .int x6)] [] m r m' := by
  intro n
  induction n with
  | zero => intro x5 x6 b h _; exact (oLoop_zero h).elim
  | succ n ih =>
    intro x5 x6 b h he
    obtain ⟨q', hq', h⟩ := oLoop_succ h
    have hc : ∀ s' : Int32 × Int32, q' = .inl s' → oRun G M_X8_odds 40 [(0, .ref 0), (1, .int x1), (2, .int x2), (3, .int x3), (4, .int x4), (5, .int s'.1), (6, .int s'.2)] [] m r m' := by
      rintro s' rfl
      exact ih (s'.1) (s'.2) b h he
    have hx : ∀ b' : Int32, q' = .inr b' → oRun G M_X8_odds 70 [(3, .int x3), (4, .int x4), (5, .int b')] [] m r m' := by
      rintro b' rfl
      have h : b' = b := h
      rw [h]
      exact he
    clear h he ih
    have h := hq'
    clear hq'
    replace h : F_X8_odds_L40 m x1 x2 x3 x4 x5 x6 = some q' := h
    unfold F_X8_odds_L40 at h
    refine oRun.iload 42 dX8_odds_40 6 rfl rfl ?_
    refine oRun.iload_n 43 dX8_odds_42 3 rfl rfl rfl ?_
    by_cases c43 : x3 ≤ x6
    · replace h := oIp c43 h
      refine oRun.icmp_ge_t 70 dX8_odds_43 c43 rfl ?_
      cases h
      refine oRun.sub [3, 4, 5] rfl ?_
      exact hx _ rfl
    · replace h := oIn c43 h
      refine oRun.icmp_ge_f 46 dX8_odds_43 rfl c43 rfl ?_
      refine oRun.aload_n 47 dX8_odds_46 0 rfl rfl (Nat.le_of_ble_eq_true rfl) rfl ?_
      refine oRun.getR 50 dX8_odds_47 fd_RX8_12 rfl rfl (Nat.le_of_ble_eq_true rfl) rfl ?_
      refine oRun.iload_n 51 dX8_odds_50 1 rfl rfl rfl ?_
      refine oRun.iload_n 52 dX8_odds_51 2 rfl rfl rfl ?_
      refine oRun.iload 54 dX8_odds_52 6 rfl rfl ?_
      refine oRun.iadd 55 dX8_odds_54 rfl ?_
      obtain ⟨r55, hr55, h⟩ := oB1 h
      refine oRun.callV (as := [.int x1, .int (x2 + x6)]) 58 dX8_odds_55 lk_RX8_286 (oFit_i (Nat.le_of_ble_eq_true rfl) (Nat.le_of_ble_eq_true rfl)) rfl rfl rfl rfl (Nat.le_of_ble_eq_true rfl) (Nat.le_of_ble_eq_true rfl) rfl (E_X1_slips rfl hr55) rfl ?_
      show oRun G _ 58 _ [.int r55] _ _ _
      by_cases c58 : r55 = 0
      · replace h := oIp c58 h
        refine oRun.if_ne_f 61 dX8_odds_58 rfl c58 rfl ?_
        refine oRun.iinc 64 dX8_odds_61 5 rfl (oAddC oc_i1) (Nat.le_of_ble_eq_true rfl) rfl rfl ?_
        refine oRun.iinc 67 dX8_odds_64 6 rfl (oAddC oc_i1) (Nat.le_of_ble_eq_true rfl) rfl rfl ?_
        refine oRun.goto 40 dX8_odds_67 rfl ?_
        cases h
        refine oRun.sub [2, 3, 4, 5, 6, 1, 0] rfl ?_
        exact hc _ rfl
      · replace h := oIn c58 h
        refine oRun.if_ne_t 64 dX8_odds_58 c58 rfl ?_
        refine oRun.iinc 67 dX8_odds_64 6 rfl (oAddC oc_i1) (Nat.le_of_ble_eq_true rfl) rfl rfl ?_
        refine oRun.goto 40 dX8_odds_67 rfl ?_
        cases h
        refine oRun.sub [1, 2, 3, 4, 5, 6, 0] rfl ?_
        exact hc _ rfl
set_option maxRecDepth 100000 in
set_option maxHeartbeats 4000000 in
theorem E_X8_odds {G : oG} {m : oM} {x1 : Int32} {x2 : Int32} {x3 : Int32} {x4 : Int32} {w : Int64} (h : F_X8_odds m x1 x2 x3 x4 = some w) : oEv G M_X8_odds [.ref 0, .int x1, .int x2, .int x3, .int x4] m (some (.long w)) m := by
  unfold F_X8_odds at h
  refine ⟨?_, ?_⟩
  · show oRun G M_X8_odds 0 [(0, .ref 0), (1, .int x1), (2, .int x2), (3, .int x3), (4, .int x4)] [] m (some (.long w)) m
    refine oRun.aload_n 1 dX8_odds_0 0 rfl rfl (Nat.le_of_ble_eq_true rfl) rfl ?_
    refine oRun.getR 4 dX8_odds_1 fd_RX8_12 rfl rfl (Nat.le_of_ble_eq_true rfl) rfl ?_
    refine oRun.iload_n 5 dX8_odds_4 1 rfl rfl rfl ?_
    obtain ⟨r5, hr5, h⟩ := oB1 h
    refine oRun.callV (as := [.int x1]) 8 dX8_odds_5 lk_RX8_192 (oFit_i (Nat.le_of_ble_eq_true rfl) (Nat.le_of_ble_eq_true rfl)) rfl rfl rfl rfl (Nat.le_of_ble_eq_true rfl) (Nat.le_of_ble_eq_true rfl) rfl (E_X1_hasTrain rfl hr5) rfl ?_
    show oRun G _ 8 _ [.int r5] _ _ _
    by_cases c8 : r5 = 0
    · replace h := oIp c8 h
      refine oRun.if_eq_t 30 dX8_odds_8 c8 rfl ?_
      refine oRun.ldc2 33 dX8_odds_30 wd_2_48 rfl ?_
      rw [← Option.some.inj h]
      exact oRun.ret (r := some (.long (-9223372036854775808))) dX8_odds_33
    · replace h := oIn c8 h
      refine oRun.if_eq_f 11 dX8_odds_8 rfl c8 rfl ?_
      refine oRun.iload_n 12 dX8_odds_11 3 rfl rfl rfl ?_
      refine oRun.iconst 13 dX8_odds_12 oc_i1 rfl ?_
      by_cases c13 : x3 < 1
      · replace h := oIp c13 h
        refine oRun.icmp_lt_t 30 dX8_odds_13 c13 rfl ?_
        refine oRun.ldc2 33 dX8_odds_30 wd_2_48 rfl ?_
        rw [← Option.some.inj h]
        exact oRun.ret (r := some (.long (-9223372036854775808))) dX8_odds_33
      · replace h := oIn c13 h
        refine oRun.icmp_lt_f 16 dX8_odds_13 rfl c13 rfl ?_
        refine oRun.iload_n 17 dX8_odds_16 3 rfl rfl rfl ?_
        refine oRun.bipush 19 dX8_odds_17 oc_b30 rfl ?_
        by_cases c19 : 30 < x3
        · replace h := oIp c19 h
          refine oRun.icmp_gt_t 30 dX8_odds_19 c19 rfl ?_
          refine oRun.ldc2 33 dX8_odds_30 wd_2_48 rfl ?_
          rw [← Option.some.inj h]
          exact oRun.ret (r := some (.long (-9223372036854775808))) dX8_odds_33
        · replace h := oIn c19 h
          refine oRun.icmp_gt_f 22 dX8_odds_19 rfl c19 rfl ?_
          refine oRun.iload 24 dX8_odds_22 4 rfl rfl ?_
          obtain ⟨r24, hr24, h⟩ := oB1 h
          refine oRun.callS (as := [.int x4]) 27 dX8_odds_24 lk_RX8_83 (oFit_i (Nat.le_of_ble_eq_true rfl) (Nat.le_of_ble_eq_true rfl)) rfl (Nat.le_of_ble_eq_true rfl) (Nat.le_of_ble_eq_true rfl) rfl (E_X8_isPart hr24) rfl ?_
          show oRun G _ 27 _ [.int r24] _ _ _
          by_cases c27 : r24 = 0
          · replace h := oIp c27 h
            refine oRun.if_ne_f 30 dX8_odds_27 rfl c27 rfl ?_
            refine oRun.ldc2 33 dX8_odds_30 wd_2_48 rfl ?_
            rw [← Option.some.inj h]
            exact oRun.ret (r := some (.long (-9223372036854775808))) dX8_odds_33
          · replace h := oIn c27 h
            refine oRun.if_ne_t 34 dX8_odds_27 c27 rfl ?_
            refine oRun.iconst 35 dX8_odds_34 oc_i0 rfl ?_
            refine oRun.istore 37 dX8_odds_35 (Nat.le_of_ble_eq_true rfl) rfl rfl ?_
            refine oRun.iconst 38 dX8_odds_37 oc_i0 rfl ?_
            refine oRun.istore 40 dX8_odds_38 (Nat.le_of_ble_eq_true rfl) rfl rfl ?_
            obtain ⟨b40, hb40, h⟩ := oB1 h
            refine oRun.sub [2, 3, 4, 5, 6, 1, 0] rfl ?_
            refine E_X8_odds_L40 _ _ _ _ hb40 ?_
            refine oRun.iload 72 dX8_odds_70 2 rfl rfl ?_
            refine oRun.i2l 73 dX8_odds_72 rfl ?_
            refine oRun.iload_n 74 dX8_odds_73 0 rfl rfl rfl ?_
            refine oRun.i2l 75 dX8_odds_74 rfl ?_
            refine oRun.iload 77 dX8_odds_75 1 rfl rfl ?_
            obtain ⟨r77, hr77, h⟩ := oB1 h
            refine oRun.callS (as := [.long b40.toInt64, .long x3.toInt64, .int x4]) 80 dX8_odds_77 lk_RX8_88 (oFit_i (Nat.le_of_ble_eq_true rfl) (Nat.le_of_ble_eq_true rfl)) rfl (Nat.le_of_ble_eq_true rfl) (Nat.le_of_ble_eq_true rfl) rfl (E_X8_lowest hr77) rfl ?_
            show oRun G _ 80 _ [.long r77] _ _ _
            rw [← Option.some.inj h]
            exact oRun.ret (r := some (.long r77)) dX8_odds_80
  · exact True.intro
set_option maxRecDepth 100000 in
set_option maxHeartbeats 4000000 in
theorem E_X9_slips_L8 {G : oG} {m : oM} {x1 : Int32} {r : Option Value} {m' : oM} : ∀ (n : Nat) (x3 : Int32) (x4 : Int32) (x5 : Int32) (b : Int32), oLoop (fun s : Int32 × Int32 × Int32 => F_X9_slips_L8 m x1 s.1 s.2.1 s.2.2) n (x3, x4, x5) = some b → oRun G M_X9_slips 68 [(4, .int b)] [] m r m' → oRun G M_X9_slips 8 [(0, .ref 51), (1, .int x1), (3, .int x3), (4, .int x4), (5, .int x5)] [] m r m' := by
  intro n
  induction n with
  | zero => intro x3 x4 x5 b h _; exact (oLoop_zero h).elim
  | succ n ih =>
    intro x3 x4 x5 b h he
    obtain ⟨q', hq', h⟩ := oLoop_succ h
    have hc : ∀ s' : Int32 × Int32 × Int32, q' = .inl s' → oRun G M_X9_slips 8 [(0, .ref 51), (1, .int x1), (3, .int s'.1), (4, .int s'.2.1), (5, .int s'.2.2)] [] m r m' := by
      rintro s' rfl
      exact ih (s'.1) (s'.2.1) (s'.2.2) b h he
    have hx : ∀ b' : Int32, q' = .inr b' → oRun G M_X9_slips 68 [(4, .int b')] [] m r m' := by
      rintro b' rfl
      have h : b' = b := h
      rw [h]
      exact he
    clear h he ih
    have h := hq'
    clear hq'
    replace h : F_X9_slips_L8 m x1 x3 x4 x5 = some q' := h
    unfold F_X9_slips_L8 at h
    refine oRun.iload 10 dX9_slips_8 4 rfl rfl ?_
    refine oRun.aload_n 11 dX9_slips_10 0 rfl rfl (Nat.le_of_ble_eq_true rfl) rfl ?_
    refine oRun.getR 14 dX9_slips_11 fd_RX9_11 rfl rfl (Nat.le_of_ble_eq_true rfl) rfl ?_
    refine oRun.bipush 16 dX9_slips_14 oc_b19 rfl ?_
    refine oRun.iload_n 17 dX9_slips_16 1 rfl rfl rfl ?_
    refine oRun.iadd 18 dX9_slips_17 rfl ?_
    obtain ⟨v18, hv18, h⟩ := oB1 h
    refine oRun.iaload 19 dX9_slips_18 (Or.inr ⟨_, rfl⟩) hv18 rfl ?_
    by_cases c19 : v18 ≤ x5
    · replace h := oIp c19 h
      refine oRun.icmp_ge_t 68 dX9_slips_19 c19 rfl ?_
      cases h
      refine oRun.sub [3] rfl ?_
      exact hx _ rfl
    · replace h := oIn c19 h
      refine oRun.icmp_ge_f 22 dX9_slips_19 rfl c19 rfl ?_
      refine oRun.iload_n 23 dX9_slips_22 2 rfl rfl rfl ?_
      refine oRun.ldc 25 dX9_slips_23 wd_5_239 rfl ?_
      refine oRun.imul 26 dX9_slips_25 rfl ?_
      refine oRun.sipush 29 dX9_slips_26 oc_s12345 rfl ?_
      refine oRun.iadd 30 dX9_slips_29 rfl ?_
      obtain ⟨x3_30, hx3_30, h⟩ := oB1 h
      refine oRun.nameI hx3_30 ?_
      refine oRun.istore_n 31 dX9_slips_30 rfl (Nat.le_of_ble_eq_true rfl) rfl rfl ?_
      refine oRun.iload 33 dX9_slips_31 3 rfl rfl ?_
      refine oRun.iload_n 34 dX9_slips_33 0 rfl rfl rfl ?_
      refine oRun.bipush 36 dX9_slips_34 oc_b16 rfl ?_
      refine oRun.iushr 37 dX9_slips_36 rfl ?_
      refine oRun.bipush 39 dX9_slips_37 oc_b100 rfl ?_
      refine oRun.irem 40 dX9_slips_39 (by decide) rfl ?_
      refine oRun.aload_n 41 dX9_slips_40 1 rfl rfl (Nat.le_of_ble_eq_true rfl) rfl ?_
      refine oRun.aload_n 42 dX9_slips_41 1 rfl rfl (Nat.le_of_ble_eq_true rfl) rfl ?_
      refine oRun.iload_n 43 dX9_slips_42 2 rfl rfl rfl ?_
      refine oRun.iload 45 dX9_slips_43 4 rfl rfl ?_
      obtain ⟨r45, hr45, h⟩ := oB1 h
      refine oRun.callV (as := [.int x1, .int x5]) 48 dX9_slips_45 lk_RX9_86 (oFit_i (Nat.le_of_ble_eq_true rfl) (Nat.le_of_ble_eq_true rfl)) rfl rfl rfl rfl (Nat.le_of_ble_eq_true rfl) (Nat.le_of_ble_eq_true rfl) rfl (E_X9_pairAt hr45) rfl ?_
      show oRun G _ 48 _ [.int r45, .ref 51, .int (oRI ((oUS x3_30 16)) 100), .int x4] _ _ _
      obtain ⟨r48, hr48, h⟩ := oB1 h
      refine oRun.callV (as := [.int r45]) 51 dX9_slips_48 lk_RX9_139 (oFit_i (Nat.le_of_ble_eq_true rfl) (Nat.le_of_ble_eq_true rfl)) rfl rfl rfl rfl (Nat.le_of_ble_eq_true rfl) (Nat.le_of_ble_eq_true rfl) rfl (E_X9_play hr48) rfl ?_
      show oRun G _ 51 _ [.int r48, .int (oRI ((oUS x3_30 16)) 100), .int x4] _ _ _
      by_cases c51 : r48 ≤ (oRI ((oUS x3_30 16)) 100)
      · replace h := oIp c51 h
        refine oRun.icmp_ge_t 58 dX9_slips_51 c51 rfl ?_
        refine oRun.iconst 59 dX9_slips_58 oc_i0 rfl ?_
        refine oRun.ior 60 dX9_slips_59 rfl ?_
        obtain ⟨x4_60, hx4_60, h⟩ := oB1 h
        refine oRun.nameI hx4_60 ?_
        refine oRun.istore 62 dX9_slips_60 (Nat.le_of_ble_eq_true rfl) rfl rfl ?_
        refine oRun.iinc 65 dX9_slips_62 4 rfl (oAddC oc_i1) (Nat.le_of_ble_eq_true rfl) rfl rfl ?_
        refine oRun.goto 8 dX9_slips_65 rfl ?_
        cases h
        refine oRun.sub [3, 4, 2, 1, 0] rfl ?_
        exact hc _ rfl
      · replace h := oIn c51 h
        refine oRun.icmp_ge_f 54 dX9_slips_51 rfl c51 rfl ?_
        refine oRun.iconst 55 dX9_slips_54 oc_i1 rfl ?_
        refine oRun.goto 59 dX9_slips_55 rfl ?_
        refine oRun.ior 60 dX9_slips_59 rfl ?_
        obtain ⟨x4_60, hx4_60, h⟩ := oB1 h
        refine oRun.nameI hx4_60 ?_
        refine oRun.istore 62 dX9_slips_60 (Nat.le_of_ble_eq_true rfl) rfl rfl ?_
        refine oRun.iinc 65 dX9_slips_62 4 rfl (oAddC oc_i1) (Nat.le_of_ble_eq_true rfl) rfl rfl ?_
        refine oRun.goto 8 dX9_slips_65 rfl ?_
        cases h
        refine oRun.sub [3, 4, 2, 1, 0] rfl ?_
        exact hc _ rfl
set_option maxRecDepth 100000 in
set_option maxHeartbeats 4000000 in
theorem E_X9_slips {G : oG} {m : oM} {x1 : Int32} {x2 : Int32} {w : Int32} (h : F_X9_slips m x1 x2 = some w) : oEv G M_X9_slips [.ref 51, .int x1, .int x2] m (some (.int w)) m := by
  unfold F_X9_slips at h
  refine ⟨?_, ?_⟩
  · show oRun G M_X9_slips 0 [(0, .ref 51), (1, .int x1), (2, .int x2)] [] m (some (.int w)) m
    refine oRun.iload_n 1 dX9_slips_0 2 rfl rfl rfl ?_
    refine oRun.istore_n 2 dX9_slips_1 rfl (Nat.le_of_ble_eq_true rfl) rfl rfl ?_
    refine oRun.iconst 3 dX9_slips_2 oc_i0 rfl ?_
    refine oRun.istore 5 dX9_slips_3 (Nat.le_of_ble_eq_true rfl) rfl rfl ?_
    refine oRun.iconst 6 dX9_slips_5 oc_i0 rfl ?_
    refine oRun.istore 8 dX9_slips_6 (Nat.le_of_ble_eq_true rfl) rfl rfl ?_
    obtain ⟨b8, hb8, h⟩ := oB1 h
    refine oRun.sub [3, 4, 2, 1, 0] rfl ?_
    refine E_X9_slips_L8 _ _ _ _ _ hb8 ?_
    refine oRun.iload 70 dX9_slips_68 0 rfl rfl ?_
    rw [oZ_eq h]
    exact oRun.ret (r := some (.int b8)) dX9_slips_70
  · show oROK (some .boolean) (some (.int w))
    obtain ⟨b8, hb8, h⟩ := oB1 h
    exact oZ_ok h
set_option maxRecDepth 100000 in
set_option maxHeartbeats 4000000 in
theorem E_X9_odds_L38 {G : oG} {m : oM} {x1 : Int32} {x2 : Int32} {x3 : Int32} {x4 : Int32} {r : Option Value} {m' : oM} : ∀ (n : Nat) (x5 : Int32) (x6 : Int32) (b : Int32), oLoop (fun s : Int32 × Int32 => F_X9_odds_L38 m x1 x2 x3 x4 s.1 s.2) n (x5, x6) = some b → oRun G M_X9_odds 72 [(3, .int x3), (4, .int x4), (5, .int b)] [] m r m' → oRun G M_X9_odds 38 [(0, .ref 51), (1, .int x1), (2, .int x2), (3, .int x3), (4, .int x4), (5, .int x5), (6, .int x6)] [] m r m' := by
  intro n
  induction n with
  | zero => intro x5 x6 b h _; exact (oLoop_zero h).elim
  | succ n ih =>
    intro x5 x6 b h he
    obtain ⟨q', hq', h⟩ := oLoop_succ h
    have hc : ∀ s' : Int32 × Int32, q' = .inl s' → oRun G M_X9_odds 38 [(0, .ref 51), (1, .int x1), (2, .int x2), (3, .int x3), (4, .int x4), (5, .int s'.1), (6, .int s'.2)] [] m r m' := by
      rintro s' rfl
      exact ih (s'.1) (s'.2) b h he
    have hx : ∀ b' : Int32, q' = .inr b' → oRun G M_X9_odds 72 [(3, .int x3), (4, .int x4), (5, .int b')] [] m r m' := by
      rintro b' rfl
      have h : b' = b := h
      rw [h]
      exact he
    clear h he ih
    have h := hq'
    clear hq'
    replace h : F_X9_odds_L38 m x1 x2 x3 x4 x5 x6 = some q' := h
    unfold F_X9_odds_L38 at h
    refine oRun.iload 40 dX9_odds_38 6 rfl rfl ?_
    refine oRun.iload_n 41 dX9_odds_40 3 rfl rfl rfl ?_
    by_cases c41 : x3 ≤ x6
    · replace h := oIp c41 h
      refine oRun.icmp_ge_t 72 dX9_odds_41 c41 rfl ?_
      cases h
      refine oRun.sub [3, 4, 5] rfl ?_
      exact hx _ rfl
    · replace h := oIn c41 h
      refine oRun.icmp_ge_f 44 dX9_odds_41 rfl c41 rfl ?_
      refine oRun.iload 46 dX9_odds_44 5 rfl rfl ?_
      refine oRun.aload_n 47 dX9_odds_46 0 rfl rfl (Nat.le_of_ble_eq_true rfl) rfl ?_
      refine oRun.iload_n 48 dX9_odds_47 1 rfl rfl rfl ?_
      refine oRun.iload_n 49 dX9_odds_48 2 rfl rfl rfl ?_
      refine oRun.iload 51 dX9_odds_49 6 rfl rfl ?_
      refine oRun.iadd 52 dX9_odds_51 rfl ?_
      obtain ⟨r52, hr52, h⟩ := oB1 h
      refine oRun.callV (as := [.int x1, .int (x2 + x6)]) 55 dX9_odds_52 lk_RX9_245 (oFit_i (Nat.le_of_ble_eq_true rfl) (Nat.le_of_ble_eq_true rfl)) rfl rfl rfl rfl (Nat.le_of_ble_eq_true rfl) (Nat.le_of_ble_eq_true rfl) rfl (E_X9_slips hr52) rfl ?_
      show oRun G _ 55 _ [.int r52, .int x5] _ _ _
      by_cases c55 : r52 = 0
      · replace h := oIp c55 h
        refine oRun.if_eq_t 62 dX9_odds_55 c55 rfl ?_
        refine oRun.iconst 63 dX9_odds_62 oc_i1 rfl ?_
        refine oRun.iadd 64 dX9_odds_63 rfl ?_
        obtain ⟨x5_64, hx5_64, h⟩ := oB1 h
        refine oRun.nameI hx5_64 ?_
        refine oRun.istore 66 dX9_odds_64 (Nat.le_of_ble_eq_true rfl) rfl rfl ?_
        refine oRun.iinc 69 dX9_odds_66 6 rfl (oAddC oc_i1) (Nat.le_of_ble_eq_true rfl) rfl rfl ?_
        refine oRun.goto 38 dX9_odds_69 rfl ?_
        cases h
        refine oRun.sub [2, 3, 4, 5, 6, 1, 0] rfl ?_
        exact hc _ rfl
      · replace h := oIn c55 h
        refine oRun.if_eq_f 58 dX9_odds_55 rfl c55 rfl ?_
        refine oRun.iconst 59 dX9_odds_58 oc_i0 rfl ?_
        refine oRun.goto 63 dX9_odds_59 rfl ?_
        refine oRun.iadd 64 dX9_odds_63 rfl ?_
        obtain ⟨x5_64, hx5_64, h⟩ := oB1 h
        refine oRun.nameI hx5_64 ?_
        refine oRun.istore 66 dX9_odds_64 (Nat.le_of_ble_eq_true rfl) rfl rfl ?_
        refine oRun.iinc 69 dX9_odds_66 6 rfl (oAddC oc_i1) (Nat.le_of_ble_eq_true rfl) rfl rfl ?_
        refine oRun.goto 38 dX9_odds_69 rfl ?_
        cases h
        refine oRun.sub [2, 3, 4, 5, 6, 1, 0] rfl ?_
        exact hc _ rfl
set_option maxRecDepth 100000 in
set_option maxHeartbeats 4000000 in
theorem E_X9_odds {G : oG} {m : oM} {x1 : Int32} {x2 : Int32} {x3 : Int32} {x4 : Int32} {w : Int64} (h : F_X9_odds m x1 x2 x3 x4 = some w) : oEv G M_X9_odds [.ref 51, .int x1, .int x2, .int x3, .int x4] m (some (.long w)) m := by
  unfold F_X9_odds at h
  refine ⟨?_, ?_⟩
  · show oRun G M_X9_odds 0 [(0, .ref 51), (1, .int x1), (2, .int x2), (3, .int x3), (4, .int x4)] [] m (some (.long w)) m
    refine oRun.aload_n 1 dX9_odds_0 0 rfl rfl (Nat.le_of_ble_eq_true rfl) rfl ?_
    refine oRun.iload_n 2 dX9_odds_1 1 rfl rfl rfl ?_
    obtain ⟨r2, hr2, h⟩ := oB1 h
    refine oRun.callV (as := [.int x1]) 5 dX9_odds_2 lk_RX9_154 (oFit_i (Nat.le_of_ble_eq_true rfl) (Nat.le_of_ble_eq_true rfl)) rfl rfl rfl rfl (Nat.le_of_ble_eq_true rfl) (Nat.le_of_ble_eq_true rfl) rfl (E_X9_hasTrain hr2) rfl ?_
    show oRun G _ 5 _ [.int r2] _ _ _
    by_cases c5 : r2 = 0
    · replace h := oIp c5 h
      refine oRun.if_eq_t 28 dX9_odds_5 c5 rfl ?_
      refine oRun.ldc2 31 dX9_odds_28 wd_4_201 rfl ?_
      rw [← Option.some.inj h]
      exact oRun.ret (r := some (.long (-9223372036854775808))) dX9_odds_31
    · replace h := oIn c5 h
      refine oRun.if_eq_f 8 dX9_odds_5 rfl c5 rfl ?_
      refine oRun.iload_n 9 dX9_odds_8 3 rfl rfl rfl ?_
      refine oRun.i2l 10 dX9_odds_9 rfl ?_
      refine oRun.lconst 11 dX9_odds_10 oc_l1 rfl ?_
      refine oRun.ldc2 14 dX9_odds_11 wd_5_234 rfl ?_
      obtain ⟨r14, hr14, h⟩ := oB1 h
      refine oRun.callS (as := [.long x3.toInt64, .long 1, .long 30]) 17 dX9_odds_14 lk_RX9_44 (oFit_i (Nat.le_of_ble_eq_true rfl) (Nat.le_of_ble_eq_true rfl)) rfl (Nat.le_of_ble_eq_true rfl) (Nat.le_of_ble_eq_true rfl) rfl (E_X9_isIn hr14) rfl ?_
      show oRun G _ 17 _ [.int r14] _ _ _
      by_cases c17 : r14 = 0
      · replace h := oIp c17 h
        refine oRun.if_eq_t 28 dX9_odds_17 c17 rfl ?_
        refine oRun.ldc2 31 dX9_odds_28 wd_4_201 rfl ?_
        rw [← Option.some.inj h]
        exact oRun.ret (r := some (.long (-9223372036854775808))) dX9_odds_31
      · replace h := oIn c17 h
        refine oRun.if_eq_f 20 dX9_odds_17 rfl c17 rfl ?_
        refine oRun.iload 22 dX9_odds_20 4 rfl rfl ?_
        obtain ⟨r22, hr22, h⟩ := oB1 h
        refine oRun.callS (as := [.int x4]) 25 dX9_odds_22 lk_RX9_70 (oFit_i (Nat.le_of_ble_eq_true rfl) (Nat.le_of_ble_eq_true rfl)) rfl (Nat.le_of_ble_eq_true rfl) (Nat.le_of_ble_eq_true rfl) rfl (E_X9_isPart hr22) rfl ?_
        show oRun G _ 25 _ [.int r22] _ _ _
        by_cases c25 : r22 = 0
        · replace h := oIp c25 h
          refine oRun.if_ne_f 28 dX9_odds_25 rfl c25 rfl ?_
          refine oRun.ldc2 31 dX9_odds_28 wd_4_201 rfl ?_
          rw [← Option.some.inj h]
          exact oRun.ret (r := some (.long (-9223372036854775808))) dX9_odds_31
        · replace h := oIn c25 h
          refine oRun.if_ne_t 32 dX9_odds_25 c25 rfl ?_
          refine oRun.iconst 33 dX9_odds_32 oc_i0 rfl ?_
          refine oRun.istore 35 dX9_odds_33 (Nat.le_of_ble_eq_true rfl) rfl rfl ?_
          refine oRun.iconst 36 dX9_odds_35 oc_i0 rfl ?_
          refine oRun.istore 38 dX9_odds_36 (Nat.le_of_ble_eq_true rfl) rfl rfl ?_
          obtain ⟨b38, hb38, h⟩ := oB1 h
          refine oRun.sub [2, 3, 4, 5, 6, 1, 0] rfl ?_
          refine E_X9_odds_L38 _ _ _ _ hb38 ?_
          refine oRun.iload 74 dX9_odds_72 2 rfl rfl ?_
          refine oRun.i2l 75 dX9_odds_74 rfl ?_
          refine oRun.iload_n 76 dX9_odds_75 0 rfl rfl rfl ?_
          refine oRun.i2l 77 dX9_odds_76 rfl ?_
          refine oRun.iload 79 dX9_odds_77 1 rfl rfl ?_
          obtain ⟨r79, hr79, h⟩ := oB1 h
          refine oRun.callS (as := [.long b38.toInt64, .long x3.toInt64, .int x4]) 82 dX9_odds_79 lk_RX9_50 (oFit_i (Nat.le_of_ble_eq_true rfl) (Nat.le_of_ble_eq_true rfl)) rfl (Nat.le_of_ble_eq_true rfl) (Nat.le_of_ble_eq_true rfl) rfl (E_X9_told hr79) rfl ?_
          show oRun G _ 82 _ [.long r79] _ _ _
          rw [← Option.some.inj h]
          exact oRun.ret (r := some (.long r79)) dX9_odds_82
  · exact True.intro
set_option maxRecDepth 100000 in
set_option maxHeartbeats 4000000 in
theorem E_X8_isPlanned {G : oG} {m : oM} {x0 : Int32} {x1 : Int32} {w : Int32} (h : F_X8_isPlanned x0 x1 = some w) : oEv G M_X8_isPlanned [.int x0, .int x1] m (some (.int w)) m := by
  unfold F_X8_isPlanned at h
  refine ⟨?_, ?_⟩
  · show oRun G M_X8_isPlanned 0 [(0, .int x0), (1, .int x1)] [] m (some (.int w)) m
    refine oRun.iload_n 1 dX8_isPlanned_0 0 rfl rfl rfl ?_
    by_cases c1 : x0 = 0
    · replace h := oIp c1 h
      refine oRun.if_ne_f 4 dX8_isPlanned_1 rfl c1 rfl ?_
      refine oRun.iload_n 5 dX8_isPlanned_4 1 rfl rfl rfl ?_
      obtain ⟨r5, hr5, h⟩ := oB1 h
      refine oRun.callS (as := [.int x1]) 8 dX8_isPlanned_5 lk_RX8_257 (oFit_i (Nat.le_of_ble_eq_true rfl) (Nat.le_of_ble_eq_true rfl)) rfl (Nat.le_of_ble_eq_true rfl) (Nat.le_of_ble_eq_true rfl) rfl (E_X8_isCranked hr5) rfl ?_
      show oRun G _ 8 _ [.int r5] _ _ _
      rw [← Option.some.inj h]
      exact oRun.ret (r := some (.int r5)) dX8_isPlanned_8
    · replace h := oIn c1 h
      refine oRun.if_ne_t 9 dX8_isPlanned_1 c1 rfl ?_
      refine oRun.iload_n 10 dX8_isPlanned_9 1 rfl rfl rfl ?_
      by_cases c10 : x1 < 0
      · replace h := oIp c10 h
        refine oRun.if_lt_t 33 dX8_isPlanned_10 c10 rfl ?_
        refine oRun.iconst 34 dX8_isPlanned_33 oc_i0 rfl ?_
        rw [← Option.some.inj h]
        exact oRun.ret (r := some (.int 0)) dX8_isPlanned_34
      · replace h := oIn c10 h
        refine oRun.if_lt_f 13 dX8_isPlanned_10 rfl c10 rfl ?_
        refine oRun.iload_n 14 dX8_isPlanned_13 1 rfl rfl rfl ?_
        refine oRun.iload_n 15 dX8_isPlanned_14 0 rfl rfl rfl ?_
        refine oRun.iconst 16 dX8_isPlanned_15 oc_i1 rfl ?_
        by_cases c16 : x0 = 1
        · replace h := oIp c16 h
          refine oRun.icmp_ne_f 19 dX8_isPlanned_16 rfl c16 rfl ?_
          refine oRun.bipush 21 dX8_isPlanned_19 oc_b6 rfl ?_
          refine oRun.goto 26 dX8_isPlanned_21 rfl ?_
          by_cases c26 : 6 ≤ x1
          · replace h := oIp c26 h
            refine oRun.icmp_ge_t 33 dX8_isPlanned_26 c26 rfl ?_
            refine oRun.iconst 34 dX8_isPlanned_33 oc_i0 rfl ?_
            rw [← Option.some.inj h]
            exact oRun.ret (r := some (.int 0)) dX8_isPlanned_34
          · replace h := oIn c26 h
            refine oRun.icmp_ge_f 29 dX8_isPlanned_26 rfl c26 rfl ?_
            refine oRun.iconst 30 dX8_isPlanned_29 oc_i1 rfl ?_
            refine oRun.goto 34 dX8_isPlanned_30 rfl ?_
            rw [← Option.some.inj h]
            exact oRun.ret (r := some (.int 1)) dX8_isPlanned_34
        · replace h := oIn c16 h
          refine oRun.icmp_ne_t 24 dX8_isPlanned_16 c16 rfl ?_
          refine oRun.bipush 26 dX8_isPlanned_24 oc_b10 rfl ?_
          by_cases c26 : 10 ≤ x1
          · replace h := oIp c26 h
            refine oRun.icmp_ge_t 33 dX8_isPlanned_26 c26 rfl ?_
            refine oRun.iconst 34 dX8_isPlanned_33 oc_i0 rfl ?_
            rw [← Option.some.inj h]
            exact oRun.ret (r := some (.int 0)) dX8_isPlanned_34
          · replace h := oIn c26 h
            refine oRun.icmp_ge_f 29 dX8_isPlanned_26 rfl c26 rfl ?_
            refine oRun.iconst 30 dX8_isPlanned_29 oc_i1 rfl ?_
            refine oRun.goto 34 dX8_isPlanned_30 rfl ?_
            rw [← Option.some.inj h]
            exact oRun.ret (r := some (.int 1)) dX8_isPlanned_34
  · show oROK (some .boolean) (some (.int w))
    by_cases c1 : x0 = 0
    · replace h := oIp c1 h
      obtain ⟨r5, hr5, h⟩ := oB1 h
      rw [← Option.some.inj h]
      exact (E_X8_isCranked (G := G) (m := m) hr5).2
    · replace h := oIn c1 h
      by_cases c10 : x1 < 0
      · replace h := oIp c10 h
        rw [← Option.some.inj h]
        exact Or.inl rfl
      · replace h := oIn c10 h
        by_cases c16 : x0 = 1
        · replace h := oIp c16 h
          by_cases c26 : 6 ≤ x1
          · replace h := oIp c26 h
            rw [← Option.some.inj h]
            exact Or.inl rfl
          · replace h := oIn c26 h
            rw [← Option.some.inj h]
            exact Or.inr rfl
        · replace h := oIn c16 h
          by_cases c26 : 10 ≤ x1
          · replace h := oIp c26 h
            rw [← Option.some.inj h]
            exact Or.inl rfl
          · replace h := oIn c26 h
            rw [← Option.some.inj h]
            exact Or.inr rfl
set_option maxRecDepth 100000 in
set_option maxHeartbeats 4000000 in
theorem E_X3_add {G : oG} {o : Nat} (ho : oNb o = true) {m : oM} {x1 : Int32} {x2 : Int32} {w : oM} (h : F_X3_add o m x1 x2 = some w) : oEv G M_X3_add [.ref o, .int x1, .int x2] m none w := by
  unfold F_X3_add at h
  refine ⟨?_, ?_⟩
  · show oRun G M_X3_add 0 [(0, .ref o), (1, .int x1), (2, .int x2)] [] m none w
    refine oRun.aload_n 1 dX3_add_0 0 rfl rfl (oLt66 (oN_lt ho)) rfl ?_
    refine oRun.getR 4 dX3_add_1 fd_RX3_15 (oN_sh ho) rfl (oN_l1 ho) rfl ?_
    refine oRun.aload_n 5 dX3_add_4 0 rfl rfl (oLt66 (oN_lt ho)) rfl ?_
    refine oRun.getI 8 dX3_add_5 fd_RX3_9 (oN_sh ho) rfl rfl ?_
    refine oRun.iload_n 9 dX3_add_8 1 rfl rfl rfl ?_
    obtain ⟨r9, hr9, h⟩ := oB1 h
    refine oRun.callN (as := [.ref (o + 1), .int (m.1 o 0), .int x1]) 12 dX3_add_9 lk_RX3_26 (oFit_i (Nat.le_of_ble_eq_true rfl) (Nat.le_of_ble_eq_true rfl)) rfl (Nat.le_of_ble_eq_true rfl) (Nat.le_of_ble_eq_true rfl) rfl (E_X8_set (oWA_i (oN_a1 ho)) hr9) rfl ?_
    show oRun G _ 12 _ [] _ _ _
    refine oRun.aload_n 13 dX3_add_12 0 rfl rfl (oLt66 (oN_lt ho)) rfl ?_
    refine oRun.getR 16 dX3_add_13 fd_RX3_19 (oN_sh ho) rfl (oN_l2 ho) rfl ?_
    refine oRun.aload_n 17 dX3_add_16 0 rfl rfl (oLt66 (oN_lt ho)) rfl ?_
    refine oRun.getI 20 dX3_add_17 fd_RX3_9 (oN_sh ho) rfl rfl ?_
    refine oRun.iload_n 21 dX3_add_20 2 rfl rfl rfl ?_
    obtain ⟨r21, hr21, h⟩ := oB1 h
    refine oRun.callN (as := [.ref (o + 2), .int (r9.1 o 0), .int x2]) 24 dX3_add_21 lk_RX3_26 (oFit_i (Nat.le_of_ble_eq_true rfl) (Nat.le_of_ble_eq_true rfl)) rfl (Nat.le_of_ble_eq_true rfl) (Nat.le_of_ble_eq_true rfl) rfl (E_X8_set (oWA_i (oN_a2 ho)) hr21) rfl ?_
    show oRun G _ 24 _ [] _ _ _
    refine oRun.aload_n 25 dX3_add_24 0 rfl rfl (oLt66 (oN_lt ho)) rfl ?_
    refine oRun.dup 26 dX3_add_25 rfl rfl ?_
    refine oRun.getI 29 dX3_add_26 fd_RX3_9 (oN_sh ho) rfl rfl ?_
    refine oRun.iconst 30 dX3_add_29 oc_i1 rfl ?_
    refine oRun.iadd 31 dX3_add_30 rfl ?_
    obtain ⟨m31, hm31, h⟩ := oB1 h
    refine oRun.putI 34 dX3_add_31 fp_RX3_9 (oN_sh ho) rfl rfl ?_
    refine oRun.nameM hm31 ?_
    rw [← Option.some.inj h]
    exact oRun.ret (r := none) dX3_add_34
  · exact True.intro
set_option maxRecDepth 100000 in
set_option maxHeartbeats 4000000 in
theorem E_X8_plan {G : oG} {m : oM} {x1 : Int32} {x2 : Int32} {w : Int32 × oM} (h : F_X8_plan m x1 x2 = some w) : oEv G M_X8_plan [.ref 0, .int x1, .int x2] m (some (.int w.1)) w.2 := by
  unfold F_X8_plan at h
  refine ⟨?_, ?_⟩
  · show oRun G M_X8_plan 0 [(0, .ref 0), (1, .int x1), (2, .int x2)] [] m (some (.int w.1)) w.2
    refine oRun.iload_n 1 dX8_plan_0 1 rfl rfl rfl ?_
    refine oRun.iconst 2 dX8_plan_1 oc_im1 rfl ?_
    by_cases c2 : x1 = (-1)
    · replace h := oIp c2 h
      refine oRun.icmp_ne_f 5 dX8_plan_2 rfl c2 rfl ?_
      refine oRun.aload_n 6 dX8_plan_5 0 rfl rfl (Nat.le_of_ble_eq_true rfl) rfl ?_
      refine oRun.getR 9 dX8_plan_6 fd_RX8_12 rfl rfl (Nat.le_of_ble_eq_true rfl) rfl ?_
      refine oRun.getR 12 dX8_plan_9 fd_RX8_289 rfl rfl (Nat.le_of_ble_eq_true rfl) rfl ?_
      refine oRun.iconst 13 dX8_plan_12 oc_i0 rfl ?_
      obtain ⟨m13, hm13, h⟩ := oB1 h
      refine oRun.putI 16 dX8_plan_13 fp_RX8_293 rfl rfl rfl ?_
      refine oRun.nameM hm13 ?_
      refine oRun.iconst 17 dX8_plan_16 oc_i0 rfl ?_
      rw [← Option.some.inj h]
      exact oRun.ret (r := some (.int 0)) dX8_plan_17
    · replace h := oIn c2 h
      refine oRun.icmp_ne_t 18 dX8_plan_2 c2 rfl ?_
      refine oRun.iload_n 19 dX8_plan_18 1 rfl rfl rfl ?_
      by_cases c19 : x1 < 0
      · replace h := oIp c19 h
        refine oRun.if_lt_t 27 dX8_plan_19 c19 rfl ?_
        refine oRun.iconst 28 dX8_plan_27 oc_im1 rfl ?_
        rw [← Option.some.inj h]
        exact oRun.ret (r := some (.int (-1))) dX8_plan_28
      · replace h := oIn c19 h
        refine oRun.if_lt_f 22 dX8_plan_19 rfl c19 rfl ?_
        refine oRun.iload_n 23 dX8_plan_22 1 rfl rfl rfl ?_
        refine oRun.iconst 24 dX8_plan_23 oc_i2 rfl ?_
        by_cases c24 : x1 ≤ 2
        · replace h := oIp c24 h
          refine oRun.icmp_le_t 29 dX8_plan_24 c24 rfl ?_
          refine oRun.iload_n 30 dX8_plan_29 1 rfl rfl rfl ?_
          refine oRun.iload_n 31 dX8_plan_30 2 rfl rfl rfl ?_
          obtain ⟨r31, hr31, h⟩ := oB1 h
          refine oRun.callS (as := [.int x1, .int x2]) 34 dX8_plan_31 lk_RX8_296 (oFit_i (Nat.le_of_ble_eq_true rfl) (Nat.le_of_ble_eq_true rfl)) rfl (Nat.le_of_ble_eq_true rfl) (Nat.le_of_ble_eq_true rfl) rfl (E_X8_isPlanned hr31) rfl ?_
          show oRun G _ 34 _ [.int r31] _ _ _
          by_cases c34 : r31 = 0
          · replace h := oIp c34 h
            refine oRun.if_ne_f 37 dX8_plan_34 rfl c34 rfl ?_
            refine oRun.bipush 39 dX8_plan_37 oc_bm2 rfl ?_
            rw [← Option.some.inj h]
            exact oRun.ret (r := some (.int (-2))) dX8_plan_39
          · replace h := oIn c34 h
            refine oRun.if_ne_t 40 dX8_plan_34 c34 rfl ?_
            refine oRun.aload_n 41 dX8_plan_40 0 rfl rfl (Nat.le_of_ble_eq_true rfl) rfl ?_
            refine oRun.getR 44 dX8_plan_41 fd_RX8_12 rfl rfl (Nat.le_of_ble_eq_true rfl) rfl ?_
            refine oRun.getR 47 dX8_plan_44 fd_RX8_289 rfl rfl (Nat.le_of_ble_eq_true rfl) rfl ?_
            refine oRun.getI 50 dX8_plan_47 fd_RX8_293 rfl rfl rfl ?_
            refine oRun.bipush 52 dX8_plan_50 oc_b8 rfl ?_
            by_cases c52 : (m.1 12 0) < 8
            · replace h := oIp c52 h
              refine oRun.icmp_lt_t 58 dX8_plan_52 c52 rfl ?_
              refine oRun.aload_n 59 dX8_plan_58 0 rfl rfl (Nat.le_of_ble_eq_true rfl) rfl ?_
              refine oRun.getR 62 dX8_plan_59 fd_RX8_12 rfl rfl (Nat.le_of_ble_eq_true rfl) rfl ?_
              refine oRun.getR 65 dX8_plan_62 fd_RX8_289 rfl rfl (Nat.le_of_ble_eq_true rfl) rfl ?_
              refine oRun.iload_n 66 dX8_plan_65 1 rfl rfl rfl ?_
              refine oRun.iload_n 67 dX8_plan_66 2 rfl rfl rfl ?_
              obtain ⟨r67, hr67, h⟩ := oB1 h
              refine oRun.callV (as := [.int x1, .int x2]) 70 dX8_plan_67 lk_RX8_299 (oFit_i (Nat.le_of_ble_eq_true rfl) (Nat.le_of_ble_eq_true rfl)) rfl rfl rfl rfl (Nat.le_of_ble_eq_true rfl) (Nat.le_of_ble_eq_true rfl) rfl (E_X3_add rfl hr67) rfl ?_
              show oRun G _ 70 _ [] _ _ _
              refine oRun.aload_n 71 dX8_plan_70 0 rfl rfl (Nat.le_of_ble_eq_true rfl) rfl ?_
              refine oRun.getR 74 dX8_plan_71 fd_RX8_12 rfl rfl (Nat.le_of_ble_eq_true rfl) rfl ?_
              refine oRun.getR 77 dX8_plan_74 fd_RX8_289 rfl rfl (Nat.le_of_ble_eq_true rfl) rfl ?_
              refine oRun.getI 80 dX8_plan_77 fd_RX8_293 rfl rfl rfl ?_
              rw [← Option.some.inj h]
              exact oRun.ret (r := some (.int (r67.1 12 0))) dX8_plan_80
            · replace h := oIn c52 h
              refine oRun.icmp_lt_f 55 dX8_plan_52 rfl c52 rfl ?_
              refine oRun.bipush 57 dX8_plan_55 oc_bm4 rfl ?_
              rw [← Option.some.inj h]
              exact oRun.ret (r := some (.int (-4))) dX8_plan_57
        · replace h := oIn c24 h
          refine oRun.icmp_le_f 27 dX8_plan_24 rfl c24 rfl ?_
          refine oRun.iconst 28 dX8_plan_27 oc_im1 rfl ?_
          rw [← Option.some.inj h]
          exact oRun.ret (r := some (.int (-1))) dX8_plan_28
  · exact True.intro
set_option maxRecDepth 100000 in
set_option maxHeartbeats 4000000 in
theorem E_X9_plan_J80 {G : oG} {m : oM} {x1 : Int32} {x2 : Int32} {w : Int32 × oM} (h : F_X9_plan_J80 m x1 x2 = some w) : oRun G M_X9_plan 80 [(0, .ref 51), (1, .int x1), (2, .int x2)] [] m (some (.int w.1)) w.2 := by
  unfold F_X9_plan_J80 at h
  refine oRun.aload_n 81 dX9_plan_80 0 rfl rfl (Nat.le_of_ble_eq_true rfl) rfl ?_
  refine oRun.getR 84 dX9_plan_81 fd_RX9_11 rfl rfl (Nat.le_of_ble_eq_true rfl) rfl ?_
  refine oRun.bipush 86 dX9_plan_84 oc_b6 rfl ?_
  refine oRun.iaload (x := m.1 52 6) 87 dX9_plan_86 (Or.inr ⟨_, rfl⟩) (oAL_lit (i := 6) rfl) rfl ?_
  refine oRun.bipush 89 dX9_plan_87 oc_b8 rfl ?_
  by_cases c89 : (m.1 52 6) = 8
  · replace h := oIp c89 h
    refine oRun.icmp_ne_f 92 dX9_plan_89 rfl c89 rfl ?_
    refine oRun.bipush 94 dX9_plan_92 oc_bm4 rfl ?_
    rw [← Option.some.inj h]
    exact oRun.ret (r := some (.int (-4))) dX9_plan_94
  · replace h := oIn c89 h
    refine oRun.icmp_ne_t 95 dX9_plan_89 c89 rfl ?_
    refine oRun.aload_n 96 dX9_plan_95 0 rfl rfl (Nat.le_of_ble_eq_true rfl) rfl ?_
    refine oRun.getR 99 dX9_plan_96 fd_RX9_11 rfl rfl (Nat.le_of_ble_eq_true rfl) rfl ?_
    refine oRun.bipush 101 dX9_plan_99 oc_b83 rfl ?_
    refine oRun.aload_n 102 dX9_plan_101 0 rfl rfl (Nat.le_of_ble_eq_true rfl) rfl ?_
    refine oRun.getR 105 dX9_plan_102 fd_RX9_11 rfl rfl (Nat.le_of_ble_eq_true rfl) rfl ?_
    refine oRun.bipush 107 dX9_plan_105 oc_b6 rfl ?_
    refine oRun.iaload (x := m.1 52 6) 108 dX9_plan_107 (Or.inr ⟨_, rfl⟩) (oAL_lit (i := 6) rfl) rfl ?_
    refine oRun.iadd 109 dX9_plan_108 rfl ?_
    refine oRun.iload_n 110 dX9_plan_109 1 rfl rfl rfl ?_
    obtain ⟨m110, hm110, h⟩ := oB1 h
    refine oRun.iastore 111 dX9_plan_110 rfl hm110 rfl ?_
    refine oRun.aload_n 112 dX9_plan_111 0 rfl rfl (Nat.le_of_ble_eq_true rfl) rfl ?_
    refine oRun.getR 115 dX9_plan_112 fd_RX9_11 rfl rfl (Nat.le_of_ble_eq_true rfl) rfl ?_
    refine oRun.bipush 117 dX9_plan_115 oc_b91 rfl ?_
    refine oRun.aload_n 118 dX9_plan_117 0 rfl rfl (Nat.le_of_ble_eq_true rfl) rfl ?_
    refine oRun.getR 121 dX9_plan_118 fd_RX9_11 rfl rfl (Nat.le_of_ble_eq_true rfl) rfl ?_
    refine oRun.bipush 123 dX9_plan_121 oc_b6 rfl ?_
    refine oRun.iaload (x := m110.1 52 6) 124 dX9_plan_123 (Or.inr ⟨_, rfl⟩) (oAL_lit (i := 6) rfl) rfl ?_
    refine oRun.iadd 125 dX9_plan_124 rfl ?_
    refine oRun.iload_n 126 dX9_plan_125 2 rfl rfl rfl ?_
    obtain ⟨m126, hm126, h⟩ := oB1 h
    refine oRun.iastore 127 dX9_plan_126 rfl hm126 rfl ?_
    refine oRun.aload_n 128 dX9_plan_127 0 rfl rfl (Nat.le_of_ble_eq_true rfl) rfl ?_
    refine oRun.getR 131 dX9_plan_128 fd_RX9_11 rfl rfl (Nat.le_of_ble_eq_true rfl) rfl ?_
    refine oRun.bipush 133 dX9_plan_131 oc_b6 rfl ?_
    refine oRun.dup2 134 dX9_plan_133 rfl rfl rfl ?_
    refine oRun.iaload (x := m126.1 52 6) 135 dX9_plan_134 (Or.inr ⟨_, rfl⟩) (oAL_lit (i := 6) rfl) rfl ?_
    refine oRun.iconst 136 dX9_plan_135 oc_i1 rfl ?_
    refine oRun.iadd 137 dX9_plan_136 rfl ?_
    obtain ⟨m137, hm137, h⟩ := oB1 h
    refine oRun.iastore 138 dX9_plan_137 rfl (oAS_lit (i := 6) rfl hm137) rfl ?_
    refine oRun.aload_n 139 dX9_plan_138 0 rfl rfl (Nat.le_of_ble_eq_true rfl) rfl ?_
    refine oRun.getR 142 dX9_plan_139 fd_RX9_11 rfl rfl (Nat.le_of_ble_eq_true rfl) rfl ?_
    refine oRun.bipush 144 dX9_plan_142 oc_b6 rfl ?_
    refine oRun.iaload (x := m137.1 52 6) 145 dX9_plan_144 (Or.inr ⟨_, rfl⟩) (oAL_lit (i := 6) rfl) rfl ?_
    rw [← Option.some.inj h]
    exact oRun.ret (r := some (.int (m137.1 52 6))) dX9_plan_145
set_option maxRecDepth 100000 in
set_option maxHeartbeats 4000000 in
theorem E_X9_plan_J71 {G : oG} {m : oM} {x1 : Int32} {x2 : Int32} {t0 : Int64} {t1 : Int64} {t2 : Int64} {w : Int32 × oM} (h : F_X9_plan_J71 m x1 x2 t0 t1 t2 = some w) : oRun G M_X9_plan 71 [(0, .ref 51), (1, .int x1), (2, .int x2)] [.long t2, .long t1, .long t0] m (some (.int w.1)) w.2 := by
  unfold F_X9_plan_J71 at h
  obtain ⟨r71, hr71, h⟩ := oB1 h
  refine oRun.callS (as := [.long t0, .long t1, .long t2]) 74 dX9_plan_71 lk_RX9_44 (oFit_i (Nat.le_of_ble_eq_true rfl) (Nat.le_of_ble_eq_true rfl)) rfl (Nat.le_of_ble_eq_true rfl) (Nat.le_of_ble_eq_true rfl) rfl (E_X9_isIn hr71) rfl ?_
  show oRun G _ 74 _ [.int r71] _ _ _
  by_cases c74 : r71 = 0
  · replace h := oIp c74 h
    refine oRun.if_ne_f 77 dX9_plan_74 rfl c74 rfl ?_
    refine oRun.bipush 79 dX9_plan_77 oc_bm2 rfl ?_
    rw [← Option.some.inj h]
    exact oRun.ret (r := some (.int (-2))) dX9_plan_79
  · replace h := oIn c74 h
    refine oRun.if_ne_t 80 dX9_plan_74 c74 rfl ?_
    refine oRun.sub [0, 1, 2] rfl ?_
    exact E_X9_plan_J80 h
set_option maxRecDepth 100000 in
set_option maxHeartbeats 4000000 in
theorem E_X9_plan {G : oG} {m : oM} {x1 : Int32} {x2 : Int32} {w : Int32 × oM} (h : F_X9_plan m x1 x2 = some w) : oEv G M_X9_plan [.ref 51, .int x1, .int x2] m (some (.int w.1)) w.2 := by
  unfold F_X9_plan at h
  refine ⟨?_, ?_⟩
  · show oRun G M_X9_plan 0 [(0, .ref 51), (1, .int x1), (2, .int x2)] [] m (some (.int w.1)) w.2
    refine oRun.iload_n 1 dX9_plan_0 1 rfl rfl rfl ?_
    refine oRun.iconst 2 dX9_plan_1 oc_im1 rfl ?_
    by_cases c2 : x1 = (-1)
    · replace h := oIp c2 h
      refine oRun.icmp_ne_f 5 dX9_plan_2 rfl c2 rfl ?_
      refine oRun.aload_n 6 dX9_plan_5 0 rfl rfl (Nat.le_of_ble_eq_true rfl) rfl ?_
      refine oRun.getR 9 dX9_plan_6 fd_RX9_11 rfl rfl (Nat.le_of_ble_eq_true rfl) rfl ?_
      refine oRun.bipush 11 dX9_plan_9 oc_b6 rfl ?_
      refine oRun.iconst 12 dX9_plan_11 oc_i0 rfl ?_
      obtain ⟨m12, hm12, h⟩ := oB1 h
      refine oRun.iastore 13 dX9_plan_12 rfl (oAS_lit (i := 6) rfl hm12) rfl ?_
      refine oRun.iconst 14 dX9_plan_13 oc_i0 rfl ?_
      rw [← Option.some.inj h]
      exact oRun.ret (r := some (.int 0)) dX9_plan_14
    · replace h := oIn c2 h
      refine oRun.icmp_ne_t 15 dX9_plan_2 c2 rfl ?_
      refine oRun.iload_n 16 dX9_plan_15 1 rfl rfl rfl ?_
      refine oRun.i2l 17 dX9_plan_16 rfl ?_
      refine oRun.lconst 18 dX9_plan_17 oc_l0 rfl ?_
      refine oRun.ldc2 21 dX9_plan_18 wd_4_216 rfl ?_
      obtain ⟨r21, hr21, h⟩ := oB1 h
      refine oRun.callS (as := [.long x1.toInt64, .long 0, .long 2]) 24 dX9_plan_21 lk_RX9_44 (oFit_i (Nat.le_of_ble_eq_true rfl) (Nat.le_of_ble_eq_true rfl)) rfl (Nat.le_of_ble_eq_true rfl) (Nat.le_of_ble_eq_true rfl) rfl (E_X9_isIn hr21) rfl ?_
      show oRun G _ 24 _ [.int r21] _ _ _
      by_cases c24 : r21 = 0
      · replace h := oIp c24 h
        refine oRun.if_ne_f 27 dX9_plan_24 rfl c24 rfl ?_
        refine oRun.iconst 28 dX9_plan_27 oc_im1 rfl ?_
        rw [← Option.some.inj h]
        exact oRun.ret (r := some (.int (-1))) dX9_plan_28
      · replace h := oIn c24 h
        refine oRun.if_ne_t 29 dX9_plan_24 c24 rfl ?_
        refine oRun.iload_n 30 dX9_plan_29 1 rfl rfl rfl ?_
        by_cases c30 : x1 = 0
        · replace h := oIp c30 h
          refine oRun.if_ne_f 33 dX9_plan_30 rfl c30 rfl ?_
          refine oRun.iload_n 34 dX9_plan_33 2 rfl rfl rfl ?_
          refine oRun.i2l 35 dX9_plan_34 rfl ?_
          refine oRun.ldc2 38 dX9_plan_35 wd_5_187 rfl ?_
          refine oRun.ldc2 41 dX9_plan_38 wd_4_206 rfl ?_
          obtain ⟨r41, hr41, h⟩ := oB1 h
          refine oRun.callS (as := [.long x2.toInt64, .long (-99), .long 99]) 44 dX9_plan_41 lk_RX9_44 (oFit_i (Nat.le_of_ble_eq_true rfl) (Nat.le_of_ble_eq_true rfl)) rfl (Nat.le_of_ble_eq_true rfl) (Nat.le_of_ble_eq_true rfl) rfl (E_X9_isIn hr41) rfl ?_
          show oRun G _ 44 _ [.int r41] _ _ _
          by_cases c44 : r41 = 0
          · replace h := oIp c44 h
            refine oRun.if_eq_t 77 dX9_plan_44 c44 rfl ?_
            refine oRun.bipush 79 dX9_plan_77 oc_bm2 rfl ?_
            rw [← Option.some.inj h]
            exact oRun.ret (r := some (.int (-2))) dX9_plan_79
          · replace h := oIn c44 h
            refine oRun.if_eq_f 47 dX9_plan_44 rfl c44 rfl ?_
            refine oRun.iload_n 48 dX9_plan_47 2 rfl rfl rfl ?_
            by_cases c48 : x2 = 0
            · replace h := oIp c48 h
              refine oRun.if_ne_f 51 dX9_plan_48 rfl c48 rfl ?_
              refine oRun.goto 77 dX9_plan_51 rfl ?_
              refine oRun.bipush 79 dX9_plan_77 oc_bm2 rfl ?_
              rw [← Option.some.inj h]
              exact oRun.ret (r := some (.int (-2))) dX9_plan_79
            · replace h := oIn c48 h
              refine oRun.if_ne_t 80 dX9_plan_48 c48 rfl ?_
              refine oRun.sub [0, 1, 2] rfl ?_
              exact E_X9_plan_J80 h
        · replace h := oIn c30 h
          refine oRun.if_ne_t 54 dX9_plan_30 c30 rfl ?_
          refine oRun.iload_n 55 dX9_plan_54 2 rfl rfl rfl ?_
          refine oRun.i2l 56 dX9_plan_55 rfl ?_
          refine oRun.lconst 57 dX9_plan_56 oc_l0 rfl ?_
          refine oRun.iload_n 58 dX9_plan_57 1 rfl rfl rfl ?_
          refine oRun.iconst 59 dX9_plan_58 oc_i1 rfl ?_
          by_cases c59 : x1 = 1
          · replace h := oIp c59 h
            refine oRun.icmp_ne_f 62 dX9_plan_59 rfl c59 rfl ?_
            refine oRun.ldc2 65 dX9_plan_62 wd_5_70 rfl ?_
            refine oRun.goto 71 dX9_plan_65 rfl ?_
            refine oRun.sub [0, 1, 2] rfl ?_
            exact E_X9_plan_J71 h
          · replace h := oIn c59 h
            refine oRun.icmp_ne_t 68 dX9_plan_59 c59 rfl ?_
            refine oRun.ldc2 71 dX9_plan_68 wd_5_71 rfl ?_
            refine oRun.sub [0, 1, 2] rfl ?_
            exact E_X9_plan_J71 h
  · exact True.intro
set_option maxRecDepth 100000 in
set_option maxHeartbeats 4000000 in
theorem E_X7_turnAbout {G : oG} {o : Nat} (ho : oTb o = true) {m : oM} {x1 : Int32} {w : oM} (h : F_X7_turnAbout o m x1 = some w) : oEv G M_X7_turnAbout [.ref o, .int x1] m none w := by
  unfold F_X7_turnAbout at h
  refine ⟨?_, ?_⟩
  · show oRun G M_X7_turnAbout 0 [(0, .ref o), (1, .int x1)] [] m none w
    refine oRun.aload_n 1 dX7_turnAbout_0 0 rfl rfl (oLt66 (oT_lt ho)) rfl ?_
    refine oRun.iload_n 2 dX7_turnAbout_1 1 rfl rfl rfl ?_
    obtain ⟨r2, hr2, h⟩ := oB1 h
    refine oRun.callV (as := [.int x1]) 5 dX7_turnAbout_2 lk_RX7_30 (oFit_i (Nat.le_of_ble_eq_true rfl) (Nat.le_of_ble_eq_true rfl)) (oT_sh ho) rfl rfl rfl (Nat.le_of_ble_eq_true rfl) (Nat.le_of_ble_eq_true rfl) rfl (E_X7_length ho hr2) rfl ?_
    show oRun G _ 5 _ [.int r2] _ _ _
    refine oRun.iconst 6 dX7_turnAbout_5 oc_i1 rfl ?_
    refine oRun.isub 7 dX7_turnAbout_6 rfl ?_
    obtain ⟨x2_7, hx2_7, h⟩ := oB1 h
    refine oRun.nameI hx2_7 ?_
    refine oRun.istore_n 8 dX7_turnAbout_7 rfl (Nat.le_of_ble_eq_true rfl) rfl rfl ?_
    refine oRun.aload_n 9 dX7_turnAbout_8 1 rfl rfl (oLt66 (oT_lt ho)) rfl ?_
    refine oRun.iload_n 10 dX7_turnAbout_9 2 rfl rfl rfl ?_
    refine oRun.iconst 11 dX7_turnAbout_10 oc_i0 rfl ?_
    obtain ⟨r11, hr11, h⟩ := oB1 h
    refine oRun.callV (as := [.int x1, .int 0]) 14 dX7_turnAbout_11 lk_RX7_34 (oFit_i (Nat.le_of_ble_eq_true rfl) (Nat.le_of_ble_eq_true rfl)) (oT_sh ho) rfl rfl rfl (Nat.le_of_ble_eq_true rfl) (Nat.le_of_ble_eq_true rfl) rfl (E_X7_pairAt ho hr11) rfl ?_
    show oRun G _ 14 _ [.int r11] _ _ _
    refine oRun.istore_n 15 dX7_turnAbout_14 rfl (Nat.le_of_ble_eq_true rfl) rfl rfl ?_
    refine oRun.aload_n 16 dX7_turnAbout_15 2 rfl rfl (oLt66 (oT_lt ho)) rfl ?_
    refine oRun.iload_n 17 dX7_turnAbout_16 3 rfl rfl rfl ?_
    refine oRun.iconst 18 dX7_turnAbout_17 oc_i0 rfl ?_
    refine oRun.aload_n 19 dX7_turnAbout_18 2 rfl rfl (oLt66 (oT_lt ho)) rfl ?_
    refine oRun.iload_n 20 dX7_turnAbout_19 3 rfl rfl rfl ?_
    refine oRun.iload_n 21 dX7_turnAbout_20 1 rfl rfl rfl ?_
    obtain ⟨r21, hr21, h⟩ := oB1 h
    refine oRun.callV (as := [.int x1, .int x2_7]) 24 dX7_turnAbout_21 lk_RX7_34 (oFit_i (Nat.le_of_ble_eq_true rfl) (Nat.le_of_ble_eq_true rfl)) (oT_sh ho) rfl rfl rfl (Nat.le_of_ble_eq_true rfl) (Nat.le_of_ble_eq_true rfl) rfl (E_X7_pairAt ho hr21) rfl ?_
    show oRun G _ 24 _ [.int r21, .int 0, .int x1, .ref o] _ _ _
    obtain ⟨r24, hr24, h⟩ := oB1 h
    refine oRun.callV (as := [.int x1, .int 0, .int r21]) 27 dX7_turnAbout_24 lk_RX7_38 (oFit_i (Nat.le_of_ble_eq_true rfl) (Nat.le_of_ble_eq_true rfl)) (oT_sh ho) rfl rfl rfl (Nat.le_of_ble_eq_true rfl) (Nat.le_of_ble_eq_true rfl) rfl (E_X7_become ho hr24) rfl ?_
    show oRun G _ 27 _ [] _ _ _
    refine oRun.aload_n 28 dX7_turnAbout_27 2 rfl rfl (oLt66 (oT_lt ho)) rfl ?_
    refine oRun.iload_n 29 dX7_turnAbout_28 3 rfl rfl rfl ?_
    refine oRun.iload_n 30 dX7_turnAbout_29 1 rfl rfl rfl ?_
    refine oRun.iload_n 31 dX7_turnAbout_30 0 rfl rfl rfl ?_
    obtain ⟨r31, hr31, h⟩ := oB1 h
    refine oRun.callV (as := [.int x1, .int x2_7, .int r11]) 34 dX7_turnAbout_31 lk_RX7_38 (oFit_i (Nat.le_of_ble_eq_true rfl) (Nat.le_of_ble_eq_true rfl)) (oT_sh ho) rfl rfl rfl (Nat.le_of_ble_eq_true rfl) (Nat.le_of_ble_eq_true rfl) rfl (E_X7_become ho hr31) rfl ?_
    show oRun G _ 34 _ [] _ _ _
    rw [← Option.some.inj h]
    exact oRun.ret (r := none) dX7_turnAbout_34
  · exact True.intro
set_option maxRecDepth 100000 in
set_option maxHeartbeats 4000000 in
theorem E_X2_changeWheels {G : oG} {o : Nat} (ho : oPb o = true) {m : oM} {x1 : Int32} {w : oM} (h : F_X2_changeWheels o m x1 = some w) : oEv G M_X2_changeWheels [.ref o, .int x1] m none w := by
  unfold F_X2_changeWheels at h
  refine ⟨?_, ?_⟩
  · show oRun G M_X2_changeWheels 0 [(0, .ref o), (1, .int x1)] [] m none w
    refine oRun.aload_n 1 dX2_changeWheels_0 0 rfl rfl (oLt66 (oP_lt ho)) rfl ?_
    refine oRun.getR 4 dX2_changeWheels_1 fd_RX2_22 (oP_sh ho) rfl (oP_l3 ho) rfl ?_
    refine oRun.iload_n 5 dX2_changeWheels_4 1 rfl rfl rfl ?_
    obtain ⟨r5, hr5, h⟩ := oB1 h
    refine oRun.callN (as := [.ref (o + 3), .int x1]) 8 dX2_changeWheels_5 lk_RX2_36 (oFit_i (Nat.le_of_ble_eq_true rfl) (Nat.le_of_ble_eq_true rfl)) rfl (Nat.le_of_ble_eq_true rfl) (Nat.le_of_ble_eq_true rfl) rfl (E_X8_at (Or.inr ⟨_, (oP_a3 ho)⟩) hr5) rfl ?_
    show oRun G _ 8 _ [.int r5] _ _ _
    refine oRun.istore_n 9 dX2_changeWheels_8 rfl (Nat.le_of_ble_eq_true rfl) rfl rfl ?_
    refine oRun.aload_n 10 dX2_changeWheels_9 1 rfl rfl (oLt66 (oP_lt ho)) rfl ?_
    refine oRun.getR 13 dX2_changeWheels_10 fd_RX2_22 (oP_sh ho) rfl (oP_l3 ho) rfl ?_
    refine oRun.iload_n 14 dX2_changeWheels_13 2 rfl rfl rfl ?_
    refine oRun.aload_n 15 dX2_changeWheels_14 1 rfl rfl (oLt66 (oP_lt ho)) rfl ?_
    refine oRun.getR 18 dX2_changeWheels_15 fd_RX2_25 (oP_sh ho) rfl (oP_l4 ho) rfl ?_
    refine oRun.iload_n 19 dX2_changeWheels_18 2 rfl rfl rfl ?_
    obtain ⟨r19, hr19, h⟩ := oB1 h
    refine oRun.callN (as := [.ref (o + 4), .int x1]) 22 dX2_changeWheels_19 lk_RX2_36 (oFit_i (Nat.le_of_ble_eq_true rfl) (Nat.le_of_ble_eq_true rfl)) rfl (Nat.le_of_ble_eq_true rfl) (Nat.le_of_ble_eq_true rfl) rfl (E_X8_at (Or.inr ⟨_, (oP_a4 ho)⟩) hr19) rfl ?_
    show oRun G _ 22 _ [.int r19, .int x1, .ref (o + 3)] _ _ _
    obtain ⟨r22, hr22, h⟩ := oB1 h
    refine oRun.callN (as := [.ref (o + 3), .int x1, .int r19]) 25 dX2_changeWheels_22 lk_RX2_32 (oFit_i (Nat.le_of_ble_eq_true rfl) (Nat.le_of_ble_eq_true rfl)) rfl (Nat.le_of_ble_eq_true rfl) (Nat.le_of_ble_eq_true rfl) rfl (E_X8_set (oWA_i (oP_a3 ho)) hr22) rfl ?_
    show oRun G _ 25 _ [] _ _ _
    refine oRun.aload_n 26 dX2_changeWheels_25 1 rfl rfl (oLt66 (oP_lt ho)) rfl ?_
    refine oRun.getR 29 dX2_changeWheels_26 fd_RX2_25 (oP_sh ho) rfl (oP_l4 ho) rfl ?_
    refine oRun.iload_n 30 dX2_changeWheels_29 2 rfl rfl rfl ?_
    refine oRun.iload_n 31 dX2_changeWheels_30 0 rfl rfl rfl ?_
    obtain ⟨r31, hr31, h⟩ := oB1 h
    refine oRun.callN (as := [.ref (o + 4), .int x1, .int r5]) 34 dX2_changeWheels_31 lk_RX2_32 (oFit_i (Nat.le_of_ble_eq_true rfl) (Nat.le_of_ble_eq_true rfl)) rfl (Nat.le_of_ble_eq_true rfl) (Nat.le_of_ble_eq_true rfl) rfl (E_X8_set (oWA_i (oP_a4 ho)) hr31) rfl ?_
    show oRun G _ 34 _ [] _ _ _
    rw [← Option.some.inj h]
    exact oRun.ret (r := none) dX2_changeWheels_34
  · exact True.intro
set_option maxRecDepth 100000 in
set_option maxHeartbeats 4000000 in
theorem E_X1_followPlan_J73 {G : oG} {o : Nat} (ho : oOb o = true) {m : oM} {x1 : Int32} {x2 : Int32} {x3 : Int32} {r : Option Value} {m' : oM} {q' : (Int32 × oM) ⊕ (oM)} (h : F_X1_followPlan_J73 o m x1 x2 x3 = some q') (hc : ∀ s' : Int32 × oM, q' = .inl s' → oRun G M_X1_followPlan 2 [(0, .ref o), (1, .int s'.1)] [] s'.2 r m') (hx : ∀ b' : oM, q' = .inr b' → oRun G M_X1_followPlan 103 [] [] b' r m') : oRun G M_X1_followPlan 73 [(0, .ref o), (1, .int x1), (2, .int x2), (3, .int x3)] [] m r m' := by
  unfold F_X1_followPlan_J73 at h
  refine oRun.iload_n 74 dX1_followPlan_73 2 rfl rfl rfl ?_
  refine oRun.iconst 75 dX1_followPlan_74 oc_i2 rfl ?_
  by_cases c75 : x2 = 2
  · replace h := oIp c75 h
    refine oRun.icmp_ne_f 78 dX1_followPlan_75 rfl c75 rfl ?_
    refine oRun.aload_n 79 dX1_followPlan_78 0 rfl rfl (oLt66 (oO_lt ho)) rfl ?_
    refine oRun.getR 82 dX1_followPlan_79 fd_RX1_31 (oO_sh ho) rfl (oO_l3 ho) rfl ?_
    refine oRun.iload_n 83 dX1_followPlan_82 3 rfl rfl rfl ?_
    obtain ⟨r83, hr83, h⟩ := oB1 h
    refine oRun.callV (as := [.int x3]) 86 dX1_followPlan_83 lk_RX1_156 (oFit_i (Nat.le_of_ble_eq_true rfl) (Nat.le_of_ble_eq_true rfl)) (oP_sh (oO_P ho)) rfl rfl rfl (Nat.le_of_ble_eq_true rfl) (Nat.le_of_ble_eq_true rfl) rfl (E_X2_has (oO_P ho) hr83) rfl ?_
    show oRun G _ 86 _ [.int r83] _ _ _
    by_cases c86 : r83 = 0
    · replace h := oIp c86 h
      refine oRun.if_eq_t 97 dX1_followPlan_86 c86 rfl ?_
      refine oRun.iinc 100 dX1_followPlan_97 1 rfl (oAddC oc_i1) (Nat.le_of_ble_eq_true rfl) rfl rfl ?_
      refine oRun.goto 2 dX1_followPlan_100 rfl ?_
      cases h
      refine oRun.sub [1, 0] rfl ?_
      exact hc _ rfl
    · replace h := oIn c86 h
      refine oRun.if_eq_f 89 dX1_followPlan_86 rfl c86 rfl ?_
      refine oRun.aload_n 90 dX1_followPlan_89 0 rfl rfl (oLt66 (oO_lt ho)) rfl ?_
      refine oRun.getR 93 dX1_followPlan_90 fd_RX1_31 (oO_sh ho) rfl (oO_l3 ho) rfl ?_
      refine oRun.iload_n 94 dX1_followPlan_93 3 rfl rfl rfl ?_
      obtain ⟨r94, hr94, h⟩ := oB1 h
      refine oRun.callV (as := [.int x3]) 97 dX1_followPlan_94 lk_RX1_159 (oFit_i (Nat.le_of_ble_eq_true rfl) (Nat.le_of_ble_eq_true rfl)) (oP_sh (oO_P ho)) rfl rfl rfl (Nat.le_of_ble_eq_true rfl) (Nat.le_of_ble_eq_true rfl) rfl (E_X2_changeWheels (oO_P ho) hr94) rfl ?_
      show oRun G _ 97 _ [] _ _ _
      refine oRun.iinc 100 dX1_followPlan_97 1 rfl (oAddC oc_i1) (Nat.le_of_ble_eq_true rfl) rfl rfl ?_
      refine oRun.goto 2 dX1_followPlan_100 rfl ?_
      cases h
      refine oRun.sub [1, 0] rfl ?_
      exact hc _ rfl
  · replace h := oIn c75 h
    refine oRun.icmp_ne_t 97 dX1_followPlan_75 c75 rfl ?_
    refine oRun.iinc 100 dX1_followPlan_97 1 rfl (oAddC oc_i1) (Nat.le_of_ble_eq_true rfl) rfl rfl ?_
    refine oRun.goto 2 dX1_followPlan_100 rfl ?_
    cases h
    refine oRun.sub [1, 0] rfl ?_
    exact hc _ rfl
set_option maxRecDepth 100000 in
set_option maxHeartbeats 4000000 in
theorem E_X1_followPlan_L2 {G : oG} {o : Nat} (ho : oOb o = true) {r : Option Value} {m' : oM} : ∀ (n : Nat) (x1 : Int32) (m : oM) (b : oM), oLoop (fun s : Int32 × oM => F_X1_followPlan_L2 o s.1 s.2) n (x1, m) = some b → oRun G M_X1_followPlan 103 [] [] b r m' → oRun G M_X1_followPlan 2 [(0, .ref o), (1, .int x1)] [] m r m' := by
  intro n
  induction n with
  | zero => intro x1 m b h _; exact (oLoop_zero h).elim
  | succ n ih =>
    intro x1 m b h he
    obtain ⟨q', hq', h⟩ := oLoop_succ h
    have hc : ∀ s' : Int32 × oM, q' = .inl s' → oRun G M_X1_followPlan 2 [(0, .ref o), (1, .int s'.1)] [] s'.2 r m' := by
      rintro s' rfl
      exact ih (s'.1) (s'.2) b h he
    have hx : ∀ b' : oM, q' = .inr b' → oRun G M_X1_followPlan 103 [] [] b' r m' := by
      rintro b' rfl
      have h : b' = b := h
      rw [h]
      exact he
    clear h he ih
    have h := hq'
    clear hq'
    replace h : F_X1_followPlan_L2 o x1 m = some q' := h
    unfold F_X1_followPlan_L2 at h
    refine oRun.iload_n 3 dX1_followPlan_2 1 rfl rfl rfl ?_
    refine oRun.aload_n 4 dX1_followPlan_3 0 rfl rfl (oLt66 (oO_lt ho)) rfl ?_
    refine oRun.getR 7 dX1_followPlan_4 fd_RX1_52 (oO_sh ho) rfl (oO_l11 ho) rfl ?_
    refine oRun.getI 10 dX1_followPlan_7 fd_RX1_137 (oN_sh (oO_N ho)) rfl rfl ?_
    by_cases c10 : (m.1 (o + 11) 0) ≤ x1
    · replace h := oIp c10 h
      refine oRun.icmp_ge_t 103 dX1_followPlan_10 c10 rfl ?_
      cases h
      refine oRun.sub [] rfl ?_
      exact hx _ rfl
    · replace h := oIn c10 h
      refine oRun.icmp_ge_f 13 dX1_followPlan_10 rfl c10 rfl ?_
      refine oRun.aload_n 14 dX1_followPlan_13 0 rfl rfl (oLt66 (oO_lt ho)) rfl ?_
      refine oRun.getR 17 dX1_followPlan_14 fd_RX1_52 (oO_sh ho) rfl (oO_l11 ho) rfl ?_
      refine oRun.getR 20 dX1_followPlan_17 fd_RX1_140 (oN_sh (oO_N ho)) rfl (oN_l1 (oO_N ho)) rfl ?_
      refine oRun.iload_n 21 dX1_followPlan_20 1 rfl rfl rfl ?_
      obtain ⟨r21, hr21, h⟩ := oB1 h
      refine oRun.callN (as := [.ref (o + 12), .int x1]) 24 dX1_followPlan_21 lk_RX1_93 (oFit_i (Nat.le_of_ble_eq_true rfl) (Nat.le_of_ble_eq_true rfl)) rfl (Nat.le_of_ble_eq_true rfl) (Nat.le_of_ble_eq_true rfl) rfl (E_X8_at (Or.inr ⟨_, (oN_a1 (oO_N ho))⟩) hr21) rfl ?_
      show oRun G _ 24 _ [.int r21] _ _ _
      refine oRun.istore_n 25 dX1_followPlan_24 rfl (Nat.le_of_ble_eq_true rfl) rfl rfl ?_
      refine oRun.aload_n 26 dX1_followPlan_25 1 rfl rfl (oLt66 (oO_lt ho)) rfl ?_
      refine oRun.getR 29 dX1_followPlan_26 fd_RX1_52 (oO_sh ho) rfl (oO_l11 ho) rfl ?_
      refine oRun.getR 32 dX1_followPlan_29 fd_RX1_143 (oN_sh (oO_N ho)) rfl (oN_l2 (oO_N ho)) rfl ?_
      refine oRun.iload_n 33 dX1_followPlan_32 2 rfl rfl rfl ?_
      obtain ⟨r33, hr33, h⟩ := oB1 h
      refine oRun.callN (as := [.ref (o + 13), .int x1]) 36 dX1_followPlan_33 lk_RX1_93 (oFit_i (Nat.le_of_ble_eq_true rfl) (Nat.le_of_ble_eq_true rfl)) rfl (Nat.le_of_ble_eq_true rfl) (Nat.le_of_ble_eq_true rfl) rfl (E_X8_at (Or.inr ⟨_, (oN_a2 (oO_N ho))⟩) hr33) rfl ?_
      show oRun G _ 36 _ [.int r33] _ _ _
      refine oRun.istore_n 37 dX1_followPlan_36 rfl (Nat.le_of_ble_eq_true rfl) rfl rfl ?_
      refine oRun.iload_n 38 dX1_followPlan_37 1 rfl rfl rfl ?_
      by_cases c38 : r21 = 0
      · replace h := oIp c38 h
        refine oRun.if_ne_f 41 dX1_followPlan_38 rfl c38 rfl ?_
        refine oRun.aload_n 42 dX1_followPlan_41 2 rfl rfl (oLt66 (oO_lt ho)) rfl ?_
        refine oRun.iload_n 43 dX1_followPlan_42 0 rfl rfl rfl ?_
        obtain ⟨r43, hr43, h⟩ := oB1 h
        refine oRun.callV (as := [.int r33]) 46 dX1_followPlan_43 lk_RX1_146 (oFit_i (Nat.le_of_ble_eq_true rfl) (Nat.le_of_ble_eq_true rfl)) (oO_sh ho) rfl rfl rfl (Nat.le_of_ble_eq_true rfl) (Nat.le_of_ble_eq_true rfl) rfl (E_X1_crankBy ho hr43) rfl ?_
        show oRun G _ 46 _ [] _ _ _
        refine oRun.goto 97 dX1_followPlan_46 rfl ?_
        refine oRun.iinc 100 dX1_followPlan_97 3 rfl (oAddC oc_i1) (Nat.le_of_ble_eq_true rfl) rfl rfl ?_
        refine oRun.goto 2 dX1_followPlan_100 rfl ?_
        cases h
        refine oRun.sub [3, 0] rfl ?_
        exact hc _ rfl
      · replace h := oIn c38 h
        refine oRun.if_ne_t 49 dX1_followPlan_38 c38 rfl ?_
        refine oRun.iload_n 50 dX1_followPlan_49 1 rfl rfl rfl ?_
        refine oRun.iconst 51 dX1_followPlan_50 oc_i1 rfl ?_
        by_cases c51 : r21 = 1
        · replace h := oIp c51 h
          refine oRun.icmp_ne_f 54 dX1_followPlan_51 rfl c51 rfl ?_
          refine oRun.aload_n 55 dX1_followPlan_54 2 rfl rfl (oLt66 (oO_lt ho)) rfl ?_
          refine oRun.iload_n 56 dX1_followPlan_55 0 rfl rfl rfl ?_
          obtain ⟨r56, hr56, h⟩ := oB1 h
          refine oRun.callV (as := [.int r33]) 59 dX1_followPlan_56 lk_RX1_150 (oFit_i (Nat.le_of_ble_eq_true rfl) (Nat.le_of_ble_eq_true rfl)) (oO_sh ho) rfl rfl rfl (Nat.le_of_ble_eq_true rfl) (Nat.le_of_ble_eq_true rfl) rfl (E_X1_hasTrain ho hr56) rfl ?_
          show oRun G _ 59 _ [.int r56] _ _ _
          by_cases c59 : r56 = 0
          · replace h := oIp c59 h
            refine oRun.if_eq_t 73 dX1_followPlan_59 c59 rfl ?_
            refine oRun.sub [2, 3, 1, 0] rfl ?_
            exact E_X1_followPlan_J73 ho h hc hx
          · replace h := oIn c59 h
            refine oRun.if_eq_f 62 dX1_followPlan_59 rfl c59 rfl ?_
            refine oRun.aload_n 63 dX1_followPlan_62 2 rfl rfl (oLt66 (oO_lt ho)) rfl ?_
            refine oRun.getR 66 dX1_followPlan_63 fd_RX1_38 (oO_sh ho) rfl (oO_l8 ho) rfl ?_
            refine oRun.iload_n 67 dX1_followPlan_66 0 rfl rfl rfl ?_
            obtain ⟨r67, hr67, h⟩ := oB1 h
            refine oRun.callV (as := [.int r33]) 70 dX1_followPlan_67 lk_RX1_153 (oFit_i (Nat.le_of_ble_eq_true rfl) (Nat.le_of_ble_eq_true rfl)) (oT_sh (oO_T ho)) rfl rfl rfl (Nat.le_of_ble_eq_true rfl) (Nat.le_of_ble_eq_true rfl) rfl (E_X7_turnAbout (oO_T ho) hr67) rfl ?_
            show oRun G _ 70 _ [] _ _ _
            refine oRun.goto 97 dX1_followPlan_70 rfl ?_
            refine oRun.iinc 100 dX1_followPlan_97 3 rfl (oAddC oc_i1) (Nat.le_of_ble_eq_true rfl) rfl rfl ?_
            refine oRun.goto 2 dX1_followPlan_100 rfl ?_
            cases h
            refine oRun.sub [3, 0] rfl ?_
            exact hc _ rfl
        · replace h := oIn c51 h
          refine oRun.icmp_ne_t 73 dX1_followPlan_51 c51 rfl ?_
          refine oRun.sub [2, 3, 1, 0] rfl ?_
          exact E_X1_followPlan_J73 ho h hc hx
set_option maxRecDepth 100000 in
set_option maxHeartbeats 4000000 in
theorem E_X1_followPlan {G : oG} {o : Nat} (ho : oOb o = true) {m : oM} {w : oM} (h : F_X1_followPlan o m = some w) : oEv G M_X1_followPlan [.ref o] m none w := by
  unfold F_X1_followPlan at h
  refine ⟨?_, ?_⟩
  · show oRun G M_X1_followPlan 0 [(0, .ref o)] [] m none w
    refine oRun.iconst 1 dX1_followPlan_0 oc_i0 rfl ?_
    refine oRun.istore_n 2 dX1_followPlan_1 rfl (Nat.le_of_ble_eq_true rfl) rfl rfl ?_
    obtain ⟨b2, hb2, h⟩ := oB1 h
    refine oRun.sub [1, 0] rfl ?_
    refine E_X1_followPlan_L2 ho _ _ _ _ hb2 ?_
    rw [← Option.some.inj h]
    exact oRun.ret (r := none) dX1_followPlan_103
  · exact True.intro
set_option maxRecDepth 100000 in
set_option maxHeartbeats 4000000 in
theorem E_X8_ends_J44 {G : oG} {m : oM} {x1 : Int32} {w : Int64 × oM} (h : F_X8_ends_J44 m x1 = some w) : oRun G M_X8_ends 44 [(0, .ref 0), (1, .int x1)] [] m (some (.long w.1)) w.2 := by
  unfold F_X8_ends_J44 at h
  refine oRun.aload_n 45 dX8_ends_44 0 rfl rfl (Nat.le_of_ble_eq_true rfl) rfl ?_
  refine oRun.getR 48 dX8_ends_45 fd_RX8_21 rfl rfl (Nat.le_of_ble_eq_true rfl) rfl ?_
  refine oRun.aload_n 49 dX8_ends_48 0 rfl rfl (Nat.le_of_ble_eq_true rfl) rfl ?_
  refine oRun.getR 52 dX8_ends_49 fd_RX8_12 rfl rfl (Nat.le_of_ble_eq_true rfl) rfl ?_
  obtain ⟨r52, hr52, h⟩ := oB1 h
  refine oRun.callV (as := [.ref 1]) 55 dX8_ends_52 lk_RX8_282 (oFit_i (Nat.le_of_ble_eq_true rfl) (Nat.le_of_ble_eq_true rfl)) rfl rfl rfl rfl (Nat.le_of_ble_eq_true rfl) (Nat.le_of_ble_eq_true rfl) rfl (E_X1_copyFrom rfl rfl hr52) rfl ?_
  show oRun G _ 55 _ [] _ _ _
  refine oRun.aload_n 56 dX8_ends_55 0 rfl rfl (Nat.le_of_ble_eq_true rfl) rfl ?_
  refine oRun.getR 59 dX8_ends_56 fd_RX8_21 rfl rfl (Nat.le_of_ble_eq_true rfl) rfl ?_
  obtain ⟨r59, hr59, h⟩ := oB1 h
  refine oRun.callV (as := []) 62 dX8_ends_59 lk_RX8_302 (oFit_i (Nat.le_of_ble_eq_true rfl) (Nat.le_of_ble_eq_true rfl)) rfl rfl rfl rfl (Nat.le_of_ble_eq_true rfl) (Nat.le_of_ble_eq_true rfl) rfl (E_X1_followPlan rfl hr59) rfl ?_
  show oRun G _ 62 _ [] _ _ _
  refine oRun.iload_n 63 dX8_ends_62 1 rfl rfl rfl ?_
  by_cases c63 : x1 = 0
  · replace h := oIp c63 h
    refine oRun.if_ne_f 66 dX8_ends_63 rfl c63 rfl ?_
    refine oRun.aload_n 67 dX8_ends_66 0 rfl rfl (Nat.le_of_ble_eq_true rfl) rfl ?_
    refine oRun.getR 70 dX8_ends_67 fd_RX8_21 rfl rfl (Nat.le_of_ble_eq_true rfl) rfl ?_
    refine oRun.getI 73 dX8_ends_70 fd_RX8_260 rfl rfl rfl ?_
    refine oRun.i2l 74 dX8_ends_73 rfl ?_
    refine oRun.goto 88 dX8_ends_74 rfl ?_
    rw [← Option.some.inj h]
    exact oRun.ret (r := some (.long ((r59.1 29 7)).toInt64)) dX8_ends_88
  · replace h := oIn c63 h
    refine oRun.if_ne_t 77 dX8_ends_63 c63 rfl ?_
    refine oRun.aload_n 78 dX8_ends_77 0 rfl rfl (Nat.le_of_ble_eq_true rfl) rfl ?_
    refine oRun.getR 81 dX8_ends_78 fd_RX8_21 rfl rfl (Nat.le_of_ble_eq_true rfl) rfl ?_
    refine oRun.iload_n 82 dX8_ends_81 1 rfl rfl rfl ?_
    refine oRun.bipush 84 dX8_ends_82 oc_b10 rfl ?_
    refine oRun.isub 85 dX8_ends_84 rfl ?_
    obtain ⟨r85, hr85, h⟩ := oB1 h
    refine oRun.callV (as := [.int (x1 - 10)]) 88 dX8_ends_85 lk_RX8_270 (oFit_i (Nat.le_of_ble_eq_true rfl) (Nat.le_of_ble_eq_true rfl)) rfl rfl rfl rfl (Nat.le_of_ble_eq_true rfl) (Nat.le_of_ble_eq_true rfl) rfl (E_X1_standing rfl hr85) rfl ?_
    show oRun G _ 88 _ [.long r85] _ _ _
    rw [← Option.some.inj h]
    exact oRun.ret (r := some (.long r85)) dX8_ends_88
set_option maxRecDepth 100000 in
set_option maxHeartbeats 4000000 in
theorem E_X8_ends_J17 {G : oG} {m : oM} {x1 : Int32} {t0 : Int32} {w : Int64 × oM} (h : F_X8_ends_J17 m x1 t0 = some w) : oRun G M_X8_ends 17 [(0, .ref 0), (1, .int x1)] [.int t0] m (some (.long w.1)) w.2 := by
  unfold F_X8_ends_J17 at h
  refine oRun.istore_n 18 dX8_ends_17 rfl (Nat.le_of_ble_eq_true rfl) rfl rfl ?_
  refine oRun.iload_n 19 dX8_ends_18 2 rfl rfl rfl ?_
  by_cases c19 : x1 = 0
  · replace h := oIp c19 h
    refine oRun.if_eq_t 44 dX8_ends_19 c19 rfl ?_
    refine oRun.sub [1, 2] rfl ?_
    exact E_X8_ends_J44 h
  · replace h := oIn c19 h
    refine oRun.if_eq_f 22 dX8_ends_19 rfl c19 rfl ?_
    refine oRun.iload_n 23 dX8_ends_22 0 rfl rfl rfl ?_
    by_cases c23 : t0 = 0
    · replace h := oIp c23 h
      refine oRun.if_eq_t 40 dX8_ends_23 c23 rfl ?_
      refine oRun.ldc2 43 dX8_ends_40 wd_2_48 rfl ?_
      rw [← Option.some.inj h]
      exact oRun.ret (r := some (.long (-9223372036854775808))) dX8_ends_43
    · replace h := oIn c23 h
      refine oRun.if_eq_f 26 dX8_ends_23 rfl c23 rfl ?_
      refine oRun.aload_n 27 dX8_ends_26 1 rfl rfl (Nat.le_of_ble_eq_true rfl) rfl ?_
      refine oRun.getR 30 dX8_ends_27 fd_RX8_12 rfl rfl (Nat.le_of_ble_eq_true rfl) rfl ?_
      refine oRun.iload_n 31 dX8_ends_30 2 rfl rfl rfl ?_
      refine oRun.bipush 33 dX8_ends_31 oc_b10 rfl ?_
      refine oRun.isub 34 dX8_ends_33 rfl ?_
      obtain ⟨r34, hr34, h⟩ := oB1 h
      refine oRun.callV (as := [.int (x1 - 10)]) 37 dX8_ends_34 lk_RX8_192 (oFit_i (Nat.le_of_ble_eq_true rfl) (Nat.le_of_ble_eq_true rfl)) rfl rfl rfl rfl (Nat.le_of_ble_eq_true rfl) (Nat.le_of_ble_eq_true rfl) rfl (E_X1_hasTrain rfl hr34) rfl ?_
      show oRun G _ 37 _ [.int r34] _ _ _
      by_cases c37 : r34 = 0
      · replace h := oIp c37 h
        refine oRun.if_ne_f 40 dX8_ends_37 rfl c37 rfl ?_
        refine oRun.ldc2 43 dX8_ends_40 wd_2_48 rfl ?_
        rw [← Option.some.inj h]
        exact oRun.ret (r := some (.long (-9223372036854775808))) dX8_ends_43
      · replace h := oIn c37 h
        refine oRun.if_ne_t 44 dX8_ends_37 c37 rfl ?_
        refine oRun.sub [1, 2] rfl ?_
        exact E_X8_ends_J44 h
set_option maxRecDepth 100000 in
set_option maxHeartbeats 4000000 in
theorem E_X8_ends_J16 {G : oG} {m : oM} {x1 : Int32} {w : Int64 × oM} (h : F_X8_ends_J16 m x1 = some w) : oRun G M_X8_ends 16 [(0, .ref 0), (1, .int x1)] [] m (some (.long w.1)) w.2 := by
  unfold F_X8_ends_J16 at h
  refine oRun.iconst 17 dX8_ends_16 oc_i0 rfl ?_
  refine oRun.sub [0, 1] rfl ?_
  exact E_X8_ends_J17 h
set_option maxRecDepth 100000 in
set_option maxHeartbeats 4000000 in
theorem E_X8_ends {G : oG} {m : oM} {x1 : Int32} {w : Int64 × oM} (h : F_X8_ends m x1 = some w) : oEv G M_X8_ends [.ref 0, .int x1] m (some (.long w.1)) w.2 := by
  unfold F_X8_ends at h
  refine ⟨?_, ?_⟩
  · show oRun G M_X8_ends 0 [(0, .ref 0), (1, .int x1)] [] m (some (.long w.1)) w.2
    refine oRun.iload_n 1 dX8_ends_0 1 rfl rfl rfl ?_
    refine oRun.bipush 3 dX8_ends_1 oc_b10 rfl ?_
    by_cases c3 : x1 < 10
    · replace h := oIp c3 h
      refine oRun.icmp_lt_t 16 dX8_ends_3 c3 rfl ?_
      refine oRun.sub [0, 1] rfl ?_
      exact E_X8_ends_J16 h
    · replace h := oIn c3 h
      refine oRun.icmp_lt_f 6 dX8_ends_3 rfl c3 rfl ?_
      refine oRun.iload_n 7 dX8_ends_6 1 rfl rfl rfl ?_
      refine oRun.bipush 9 dX8_ends_7 oc_b16 rfl ?_
      by_cases c9 : 16 ≤ x1
      · replace h := oIp c9 h
        refine oRun.icmp_ge_t 16 dX8_ends_9 c9 rfl ?_
        refine oRun.sub [0, 1] rfl ?_
        exact E_X8_ends_J16 h
      · replace h := oIn c9 h
        refine oRun.icmp_ge_f 12 dX8_ends_9 rfl c9 rfl ?_
        refine oRun.iconst 13 dX8_ends_12 oc_i1 rfl ?_
        refine oRun.goto 17 dX8_ends_13 rfl ?_
        refine oRun.sub [0, 1] rfl ?_
        exact E_X8_ends_J17 h
  · exact True.intro
set_option maxRecDepth 100000 in
set_option maxHeartbeats 4000000 in
theorem E_X9_copies_L2 {G : oG} {p0 : Nat} {p1 : Nat} (hp0 : oIA p0) (hp1 : oWA p1) {r : Option Value} {m' : oM} : ∀ (n : Nat) (x2 : Int32) (m : oM) (b : oM), oLoop (fun s : Int32 × oM => F_X9_copies_L2 p0 p1 s.1 s.2) n (x2, m) = some b → oRun G M_X9_copies 20 [] [] b r m' → oRun G M_X9_copies 2 [(0, .ref p0), (1, .ref p1), (2, .int x2)] [] m r m' := by
  intro n
  induction n with
  | zero => intro x2 m b h _; exact (oLoop_zero h).elim
  | succ n ih =>
    intro x2 m b h he
    obtain ⟨q', hq', h⟩ := oLoop_succ h
    have hc : ∀ s' : Int32 × oM, q' = .inl s' → oRun G M_X9_copies 2 [(0, .ref p0), (1, .ref p1), (2, .int s'.1)] [] s'.2 r m' := by
      rintro s' rfl
      exact ih (s'.1) (s'.2) b h he
    have hx : ∀ b' : oM, q' = .inr b' → oRun G M_X9_copies 20 [] [] b' r m' := by
      rintro b' rfl
      have h : b' = b := h
      rw [h]
      exact he
    clear h he ih
    have h := hq'
    clear hq'
    replace h : F_X9_copies_L2 p0 p1 x2 m = some q' := h
    unfold F_X9_copies_L2 at h
    refine oRun.iload_n 3 dX9_copies_2 2 rfl rfl rfl ?_
    refine oRun.bipush 5 dX9_copies_3 oc_b99 rfl ?_
    by_cases c5 : 99 ≤ x2
    · replace h := oIp c5 h
      refine oRun.icmp_ge_t 20 dX9_copies_5 c5 rfl ?_
      cases h
      refine oRun.sub [] rfl ?_
      exact hx _ rfl
    · replace h := oIn c5 h
      refine oRun.icmp_ge_f 8 dX9_copies_5 rfl c5 rfl ?_
      refine oRun.aload_n 9 dX9_copies_8 1 rfl rfl (oWA_lt hp1) rfl ?_
      refine oRun.iload_n 10 dX9_copies_9 2 rfl rfl rfl ?_
      refine oRun.aload_n 11 dX9_copies_10 0 rfl rfl (oIA_lt hp0) rfl ?_
      refine oRun.iload_n 12 dX9_copies_11 2 rfl rfl rfl ?_
      obtain ⟨v12, hv12, h⟩ := oB1 h
      refine oRun.iaload 13 dX9_copies_12 hp0 hv12 rfl ?_
      obtain ⟨m13, hm13, h⟩ := oB1 h
      refine oRun.iastore 14 dX9_copies_13 (hp1).choose_spec hm13 rfl ?_
      refine oRun.iinc 17 dX9_copies_14 2 rfl (oAddC oc_i1) (Nat.le_of_ble_eq_true rfl) rfl rfl ?_
      refine oRun.goto 2 dX9_copies_17 rfl ?_
      cases h
      refine oRun.sub [1, 2, 0] rfl ?_
      exact hc _ rfl
set_option maxRecDepth 100000 in
set_option maxHeartbeats 4000000 in
theorem E_X9_copies {G : oG} {p0 : Nat} {p1 : Nat} (hp0 : oIA p0) (hp1 : oWA p1) {m : oM} {w : oM} (h : F_X9_copies p0 p1 m = some w) : oEv G M_X9_copies [.ref p0, .ref p1] m none w := by
  unfold F_X9_copies at h
  refine ⟨?_, ?_⟩
  · show oRun G M_X9_copies 0 [(0, .ref p0), (1, .ref p1)] [] m none w
    refine oRun.iconst 1 dX9_copies_0 oc_i0 rfl ?_
    refine oRun.istore_n 2 dX9_copies_1 rfl (Nat.le_of_ble_eq_true rfl) rfl rfl ?_
    obtain ⟨b2, hb2, h⟩ := oB1 h
    refine oRun.sub [1, 2, 0] rfl ?_
    refine E_X9_copies_L2 hp0 hp1 _ _ _ _ hb2 ?_
    rw [← Option.some.inj h]
    exact oRun.ret (r := none) dX9_copies_20
  · exact True.intro
set_option maxRecDepth 100000 in
set_option maxHeartbeats 4000000 in
theorem E_X9_changes {G : oG} {m : oM} {x1 : Int32} {x2 : Int32} {w : oM} (h : F_X9_changes m x1 x2 = some w) : oEv G M_X9_changes [.ref 51, .int x1, .int x2] m none w := by
  unfold F_X9_changes at h
  refine ⟨?_, ?_⟩
  · show oRun G M_X9_changes 0 [(0, .ref 51), (1, .int x1), (2, .int x2)] [] m none w
    refine oRun.aload_n 1 dX9_changes_0 0 rfl rfl (Nat.le_of_ble_eq_true rfl) rfl ?_
    refine oRun.getR 4 dX9_changes_1 fd_RX9_11 rfl rfl (Nat.le_of_ble_eq_true rfl) rfl ?_
    refine oRun.iload_n 5 dX9_changes_4 1 rfl rfl rfl ?_
    obtain ⟨v5, hv5, h⟩ := oB1 h
    refine oRun.iaload 6 dX9_changes_5 (Or.inr ⟨_, rfl⟩) hv5 rfl ?_
    refine oRun.istore_n 7 dX9_changes_6 rfl (Nat.le_of_ble_eq_true rfl) rfl rfl ?_
    refine oRun.aload_n 8 dX9_changes_7 1 rfl rfl (Nat.le_of_ble_eq_true rfl) rfl ?_
    refine oRun.getR 11 dX9_changes_8 fd_RX9_11 rfl rfl (Nat.le_of_ble_eq_true rfl) rfl ?_
    refine oRun.iload_n 12 dX9_changes_11 2 rfl rfl rfl ?_
    refine oRun.aload_n 13 dX9_changes_12 1 rfl rfl (Nat.le_of_ble_eq_true rfl) rfl ?_
    refine oRun.getR 16 dX9_changes_13 fd_RX9_11 rfl rfl (Nat.le_of_ble_eq_true rfl) rfl ?_
    refine oRun.iload_n 17 dX9_changes_16 3 rfl rfl rfl ?_
    obtain ⟨v17, hv17, h⟩ := oB1 h
    refine oRun.iaload 18 dX9_changes_17 (Or.inr ⟨_, rfl⟩) hv17 rfl ?_
    obtain ⟨m18, hm18, h⟩ := oB1 h
    refine oRun.iastore 19 dX9_changes_18 rfl hm18 rfl ?_
    refine oRun.aload_n 20 dX9_changes_19 1 rfl rfl (Nat.le_of_ble_eq_true rfl) rfl ?_
    refine oRun.getR 23 dX9_changes_20 fd_RX9_11 rfl rfl (Nat.le_of_ble_eq_true rfl) rfl ?_
    refine oRun.iload_n 24 dX9_changes_23 3 rfl rfl rfl ?_
    refine oRun.iload_n 25 dX9_changes_24 0 rfl rfl rfl ?_
    obtain ⟨m25, hm25, h⟩ := oB1 h
    refine oRun.iastore 26 dX9_changes_25 rfl hm25 rfl ?_
    rw [← Option.some.inj h]
    exact oRun.ret (r := none) dX9_changes_26
  · exact True.intro
set_option maxRecDepth 100000 in
set_option maxHeartbeats 4000000 in
theorem E_X9_done_J56 {G : oG} {m : oM} {x1 : Int32} {x2 : Int32} {w : oM} (h : F_X9_done_J56 m x1 x2 = some w) : oRun G M_X9_done 56 [(0, .ref 51), (1, .int x1), (2, .int x2)] [] m none w := by
  unfold F_X9_done_J56 at h
  refine oRun.iload_n 57 dX9_done_56 1 rfl rfl rfl ?_
  refine oRun.iconst 58 dX9_done_57 oc_i2 rfl ?_
  by_cases c58 : x1 = 2
  · replace h := oIp c58 h
    refine oRun.icmp_ne_f 61 dX9_done_58 rfl c58 rfl ?_
    refine oRun.aload_n 62 dX9_done_61 0 rfl rfl (Nat.le_of_ble_eq_true rfl) rfl ?_
    refine oRun.iload_n 63 dX9_done_62 2 rfl rfl rfl ?_
    obtain ⟨r63, hr63, h⟩ := oB1 h
    refine oRun.callV (as := [.int x2]) 66 dX9_done_63 lk_RX9_132 (oFit_i (Nat.le_of_ble_eq_true rfl) (Nat.le_of_ble_eq_true rfl)) rfl rfl rfl rfl (Nat.le_of_ble_eq_true rfl) (Nat.le_of_ble_eq_true rfl) rfl (E_X9_isPair hr63) rfl ?_
    show oRun G _ 66 _ [.int r63] _ _ _
    by_cases c66 : r63 = 0
    · replace h := oIp c66 h
      refine oRun.if_eq_t 81 dX9_done_66 c66 rfl ?_
      rw [← Option.some.inj h]
      exact oRun.ret (r := none) dX9_done_81
    · replace h := oIn c66 h
      refine oRun.if_eq_f 69 dX9_done_66 rfl c66 rfl ?_
      refine oRun.aload_n 70 dX9_done_69 0 rfl rfl (Nat.le_of_ble_eq_true rfl) rfl ?_
      refine oRun.bipush 72 dX9_done_70 oc_b63 rfl ?_
      refine oRun.iload_n 73 dX9_done_72 2 rfl rfl rfl ?_
      refine oRun.iadd 74 dX9_done_73 rfl ?_
      refine oRun.bipush 76 dX9_done_74 oc_b73 rfl ?_
      refine oRun.iload_n 77 dX9_done_76 2 rfl rfl rfl ?_
      refine oRun.iadd 78 dX9_done_77 rfl ?_
      obtain ⟨r78, hr78, h⟩ := oB1 h
      refine oRun.callV (as := [.int (63 + x2), .int (73 + x2)]) 81 dX9_done_78 lk_RX9_248 (oFit_i (Nat.le_of_ble_eq_true rfl) (Nat.le_of_ble_eq_true rfl)) rfl rfl rfl rfl (Nat.le_of_ble_eq_true rfl) (Nat.le_of_ble_eq_true rfl) rfl (E_X9_changes hr78) rfl ?_
      show oRun G _ 81 _ [] _ _ _
      rw [← Option.some.inj h]
      exact oRun.ret (r := none) dX9_done_81
  · replace h := oIn c58 h
    refine oRun.icmp_ne_t 81 dX9_done_58 c58 rfl ?_
    rw [← Option.some.inj h]
    exact oRun.ret (r := none) dX9_done_81
set_option maxRecDepth 100000 in
set_option maxHeartbeats 4000000 in
theorem E_X9_done {G : oG} {m : oM} {x1 : Int32} {x2 : Int32} {w : oM} (h : F_X9_done m x1 x2 = some w) : oEv G M_X9_done [.ref 51, .int x1, .int x2] m none w := by
  unfold F_X9_done at h
  refine ⟨?_, ?_⟩
  · show oRun G M_X9_done 0 [(0, .ref 51), (1, .int x1), (2, .int x2)] [] m none w
    refine oRun.iload_n 1 dX9_done_0 1 rfl rfl rfl ?_
    by_cases c1 : x1 = 0
    · replace h := oIp c1 h
      refine oRun.if_ne_f 4 dX9_done_1 rfl c1 rfl ?_
      refine oRun.aload_n 5 dX9_done_4 0 rfl rfl (Nat.le_of_ble_eq_true rfl) rfl ?_
      refine oRun.iload_n 6 dX9_done_5 2 rfl rfl rfl ?_
      obtain ⟨r6, hr6, h⟩ := oB1 h
      refine oRun.callV (as := [.int x2]) 9 dX9_done_6 lk_RX9_220 (oFit_i (Nat.le_of_ble_eq_true rfl) (Nat.le_of_ble_eq_true rfl)) rfl rfl rfl rfl (Nat.le_of_ble_eq_true rfl) (Nat.le_of_ble_eq_true rfl) rfl (E_X9_goes hr6) rfl ?_
      show oRun G _ 9 _ [] _ _ _
      refine oRun.goto 81 dX9_done_9 rfl ?_
      rw [← Option.some.inj h]
      exact oRun.ret (r := none) dX9_done_81
    · replace h := oIn c1 h
      refine oRun.if_ne_t 12 dX9_done_1 c1 rfl ?_
      refine oRun.iload_n 13 dX9_done_12 1 rfl rfl rfl ?_
      refine oRun.iconst 14 dX9_done_13 oc_i1 rfl ?_
      by_cases c14 : x1 = 1
      · replace h := oIp c14 h
        refine oRun.icmp_ne_f 17 dX9_done_14 rfl c14 rfl ?_
        refine oRun.aload_n 18 dX9_done_17 0 rfl rfl (Nat.le_of_ble_eq_true rfl) rfl ?_
        refine oRun.iload_n 19 dX9_done_18 2 rfl rfl rfl ?_
        obtain ⟨r19, hr19, h⟩ := oB1 h
        refine oRun.callV (as := [.int x2]) 22 dX9_done_19 lk_RX9_154 (oFit_i (Nat.le_of_ble_eq_true rfl) (Nat.le_of_ble_eq_true rfl)) rfl rfl rfl rfl (Nat.le_of_ble_eq_true rfl) (Nat.le_of_ble_eq_true rfl) rfl (E_X9_hasTrain hr19) rfl ?_
        show oRun G _ 22 _ [.int r19] _ _ _
        by_cases c22 : r19 = 0
        · replace h := oIp c22 h
          refine oRun.if_eq_t 56 dX9_done_22 c22 rfl ?_
          refine oRun.sub [0, 1, 2] rfl ?_
          exact E_X9_done_J56 h
        · replace h := oIn c22 h
          refine oRun.if_eq_f 25 dX9_done_22 rfl c22 rfl ?_
          refine oRun.aload_n 26 dX9_done_25 0 rfl rfl (Nat.le_of_ble_eq_true rfl) rfl ?_
          refine oRun.bipush 28 dX9_done_26 oc_b25 rfl ?_
          refine oRun.iconst 29 dX9_done_28 oc_i3 rfl ?_
          refine oRun.iload_n 30 dX9_done_29 2 rfl rfl rfl ?_
          refine oRun.imul 31 dX9_done_30 rfl ?_
          refine oRun.iadd 32 dX9_done_31 rfl ?_
          refine oRun.bipush 34 dX9_done_32 oc_b25 rfl ?_
          refine oRun.iconst 35 dX9_done_34 oc_i3 rfl ?_
          refine oRun.iload_n 36 dX9_done_35 2 rfl rfl rfl ?_
          refine oRun.imul 37 dX9_done_36 rfl ?_
          refine oRun.iadd 38 dX9_done_37 rfl ?_
          refine oRun.aload_n 39 dX9_done_38 0 rfl rfl (Nat.le_of_ble_eq_true rfl) rfl ?_
          refine oRun.getR 42 dX9_done_39 fd_RX9_11 rfl rfl (Nat.le_of_ble_eq_true rfl) rfl ?_
          refine oRun.bipush 44 dX9_done_42 oc_b19 rfl ?_
          refine oRun.iload_n 45 dX9_done_44 2 rfl rfl rfl ?_
          refine oRun.iadd 46 dX9_done_45 rfl ?_
          obtain ⟨v46, hv46, h⟩ := oB1 h
          refine oRun.iaload 47 dX9_done_46 (Or.inr ⟨_, rfl⟩) hv46 rfl ?_
          refine oRun.iadd 48 dX9_done_47 rfl ?_
          refine oRun.iconst 49 dX9_done_48 oc_i1 rfl ?_
          refine oRun.isub 50 dX9_done_49 rfl ?_
          obtain ⟨r50, hr50, h⟩ := oB1 h
          refine oRun.callV (as := [.int (25 + (3 * x2)), .int (((25 + (3 * x2)) + v46) - 1)]) 53 dX9_done_50 lk_RX9_248 (oFit_i (Nat.le_of_ble_eq_true rfl) (Nat.le_of_ble_eq_true rfl)) rfl rfl rfl rfl (Nat.le_of_ble_eq_true rfl) (Nat.le_of_ble_eq_true rfl) rfl (E_X9_changes hr50) rfl ?_
          show oRun G _ 53 _ [] _ _ _
          refine oRun.goto 81 dX9_done_53 rfl ?_
          rw [← Option.some.inj h]
          exact oRun.ret (r := none) dX9_done_81
      · replace h := oIn c14 h
        refine oRun.icmp_ne_t 56 dX9_done_14 c14 rfl ?_
        refine oRun.sub [0, 1, 2] rfl ?_
        exact E_X9_done_J56 h
  · exact True.intro
set_option maxRecDepth 100000 in
set_option maxHeartbeats 4000000 in
theorem E_X9_ends_L32 {G : oG} {x1 : Int32} {r : Option Value} {m' : oM} : ∀ (n : Nat) (x2 : Int32) (m : oM) (b : oM), oLoop (fun s : Int32 × oM => F_X9_ends_L32 x1 s.1 s.2) n (x2, m) = some b → oRun G M_X9_ends 71 [(0, .ref 51), (1, .int x1)] [] b r m' → oRun G M_X9_ends 32 [(0, .ref 51), (1, .int x1), (2, .int x2)] [] m r m' := by
  intro n
  induction n with
  | zero => intro x2 m b h _; exact (oLoop_zero h).elim
  | succ n ih =>
    intro x2 m b h he
    obtain ⟨q', hq', h⟩ := oLoop_succ h
    have hc : ∀ s' : Int32 × oM, q' = .inl s' → oRun G M_X9_ends 32 [(0, .ref 51), (1, .int x1), (2, .int s'.1)] [] s'.2 r m' := by
      rintro s' rfl
      exact ih (s'.1) (s'.2) b h he
    have hx : ∀ b' : oM, q' = .inr b' → oRun G M_X9_ends 71 [(0, .ref 51), (1, .int x1)] [] b' r m' := by
      rintro b' rfl
      have h : b' = b := h
      rw [h]
      exact he
    clear h he ih
    have h := hq'
    clear hq'
    replace h : F_X9_ends_L32 x1 x2 m = some q' := h
    unfold F_X9_ends_L32 at h
    refine oRun.iload_n 33 dX9_ends_32 2 rfl rfl rfl ?_
    refine oRun.aload_n 34 dX9_ends_33 0 rfl rfl (Nat.le_of_ble_eq_true rfl) rfl ?_
    refine oRun.getR 37 dX9_ends_34 fd_RX9_11 rfl rfl (Nat.le_of_ble_eq_true rfl) rfl ?_
    refine oRun.bipush 39 dX9_ends_37 oc_b6 rfl ?_
    refine oRun.iaload (x := m.1 52 6) 40 dX9_ends_39 (Or.inr ⟨_, rfl⟩) (oAL_lit (i := 6) rfl) rfl ?_
    by_cases c40 : (m.1 52 6) ≤ x2
    · replace h := oIp c40 h
      refine oRun.icmp_ge_t 71 dX9_ends_40 c40 rfl ?_
      cases h
      refine oRun.sub [0, 1] rfl ?_
      exact hx _ rfl
    · replace h := oIn c40 h
      refine oRun.icmp_ge_f 43 dX9_ends_40 rfl c40 rfl ?_
      refine oRun.aload_n 44 dX9_ends_43 0 rfl rfl (Nat.le_of_ble_eq_true rfl) rfl ?_
      refine oRun.aload_n 45 dX9_ends_44 0 rfl rfl (Nat.le_of_ble_eq_true rfl) rfl ?_
      refine oRun.getR 48 dX9_ends_45 fd_RX9_11 rfl rfl (Nat.le_of_ble_eq_true rfl) rfl ?_
      refine oRun.bipush 50 dX9_ends_48 oc_b83 rfl ?_
      refine oRun.iload_n 51 dX9_ends_50 2 rfl rfl rfl ?_
      refine oRun.iadd 52 dX9_ends_51 rfl ?_
      obtain ⟨v52, hv52, h⟩ := oB1 h
      refine oRun.iaload 53 dX9_ends_52 (Or.inr ⟨_, rfl⟩) hv52 rfl ?_
      refine oRun.aload_n 54 dX9_ends_53 0 rfl rfl (Nat.le_of_ble_eq_true rfl) rfl ?_
      refine oRun.getR 57 dX9_ends_54 fd_RX9_11 rfl rfl (Nat.le_of_ble_eq_true rfl) rfl ?_
      refine oRun.bipush 59 dX9_ends_57 oc_b91 rfl ?_
      refine oRun.iload_n 60 dX9_ends_59 2 rfl rfl rfl ?_
      refine oRun.iadd 61 dX9_ends_60 rfl ?_
      obtain ⟨v61, hv61, h⟩ := oB1 h
      refine oRun.iaload 62 dX9_ends_61 (Or.inr ⟨_, rfl⟩) hv61 rfl ?_
      obtain ⟨r62, hr62, h⟩ := oB1 h
      refine oRun.callV (as := [.int v52, .int v61]) 65 dX9_ends_62 lk_RX9_256 (oFit_i (Nat.le_of_ble_eq_true rfl) (Nat.le_of_ble_eq_true rfl)) rfl rfl rfl rfl (Nat.le_of_ble_eq_true rfl) (Nat.le_of_ble_eq_true rfl) rfl (E_X9_done hr62) rfl ?_
      show oRun G _ 65 _ [] _ _ _
      refine oRun.iinc 68 dX9_ends_65 2 rfl (oAddC oc_i1) (Nat.le_of_ble_eq_true rfl) rfl rfl ?_
      refine oRun.goto 32 dX9_ends_68 rfl ?_
      cases h
      refine oRun.sub [1, 2, 0] rfl ?_
      exact hc _ rfl
set_option maxRecDepth 100000 in
set_option maxHeartbeats 4000000 in
theorem E_X9_ends_J19 {G : oG} {m : oM} {x1 : Int32} {w : Int64 × oM} (h : F_X9_ends_J19 m x1 = some w) : oRun G M_X9_ends 19 [(0, .ref 51), (1, .int x1)] [] m (some (.long w.1)) w.2 := by
  unfold F_X9_ends_J19 at h
  refine oRun.aload_n 20 dX9_ends_19 0 rfl rfl (Nat.le_of_ble_eq_true rfl) rfl ?_
  refine oRun.getR 23 dX9_ends_20 fd_RX9_11 rfl rfl (Nat.le_of_ble_eq_true rfl) rfl ?_
  refine oRun.aload_n 24 dX9_ends_23 0 rfl rfl (Nat.le_of_ble_eq_true rfl) rfl ?_
  refine oRun.getR 27 dX9_ends_24 fd_RX9_18 rfl rfl (Nat.le_of_ble_eq_true rfl) rfl ?_
  obtain ⟨r27, hr27, h⟩ := oB1 h
  refine oRun.callS (as := [.ref 52, .ref 54]) 30 dX9_ends_27 lk_RX9_252 (oFit_i (Nat.le_of_ble_eq_true rfl) (Nat.le_of_ble_eq_true rfl)) rfl (Nat.le_of_ble_eq_true rfl) (Nat.le_of_ble_eq_true rfl) rfl (E_X9_copies (Or.inr ⟨_, rfl⟩) (oWA_i rfl) hr27) rfl ?_
  show oRun G _ 30 _ [] _ _ _
  refine oRun.iconst 31 dX9_ends_30 oc_i0 rfl ?_
  refine oRun.istore_n 32 dX9_ends_31 rfl (Nat.le_of_ble_eq_true rfl) rfl rfl ?_
  obtain ⟨b32, hb32, h⟩ := oB1 h
  refine oRun.sub [1, 2, 0] rfl ?_
  refine E_X9_ends_L32 _ _ _ _ hb32 ?_
  refine oRun.iload_n 72 dX9_ends_71 1 rfl rfl rfl ?_
  by_cases c72 : x1 = 0
  · replace h := oIp c72 h
    refine oRun.if_ne_f 75 dX9_ends_72 rfl c72 rfl ?_
    refine oRun.aload_n 76 dX9_ends_75 0 rfl rfl (Nat.le_of_ble_eq_true rfl) rfl ?_
    refine oRun.getR 79 dX9_ends_76 fd_RX9_11 rfl rfl (Nat.le_of_ble_eq_true rfl) rfl ?_
    refine oRun.iconst 80 dX9_ends_79 oc_i4 rfl ?_
    refine oRun.iaload (x := b32.1 52 4) 81 dX9_ends_80 (Or.inr ⟨_, rfl⟩) (oAL_lit (i := 4) rfl) rfl ?_
    refine oRun.i2l 82 dX9_ends_81 rfl ?_
    refine oRun.goto 93 dX9_ends_82 rfl ?_
    obtain ⟨x2_93, hx2_93, h⟩ := oB1 h
    refine oRun.nameJ hx2_93 ?_
    refine oRun.lstore_n 94 dX9_ends_93 rfl (Nat.le_of_ble_eq_true rfl) rfl rfl ?_
    refine oRun.aload_n 95 dX9_ends_94 1 rfl rfl (Nat.le_of_ble_eq_true rfl) rfl ?_
    refine oRun.getR 98 dX9_ends_95 fd_RX9_18 rfl rfl (Nat.le_of_ble_eq_true rfl) rfl ?_
    refine oRun.aload_n 99 dX9_ends_98 1 rfl rfl (Nat.le_of_ble_eq_true rfl) rfl ?_
    refine oRun.getR 102 dX9_ends_99 fd_RX9_11 rfl rfl (Nat.le_of_ble_eq_true rfl) rfl ?_
    obtain ⟨r102, hr102, h⟩ := oB1 h
    refine oRun.callS (as := [.ref 54, .ref 52]) 105 dX9_ends_102 lk_RX9_252 (oFit_i (Nat.le_of_ble_eq_true rfl) (Nat.le_of_ble_eq_true rfl)) rfl (Nat.le_of_ble_eq_true rfl) (Nat.le_of_ble_eq_true rfl) rfl (E_X9_copies (Or.inr ⟨_, rfl⟩) (oWA_i rfl) hr102) rfl ?_
    show oRun G _ 105 _ [] _ _ _
    refine oRun.lload_n 106 dX9_ends_105 0 rfl rfl rfl ?_
    rw [← Option.some.inj h]
    exact oRun.ret (r := some (.long x2_93)) dX9_ends_106
  · replace h := oIn c72 h
    refine oRun.if_ne_t 85 dX9_ends_72 c72 rfl ?_
    refine oRun.aload_n 86 dX9_ends_85 0 rfl rfl (Nat.le_of_ble_eq_true rfl) rfl ?_
    refine oRun.iload_n 87 dX9_ends_86 1 rfl rfl rfl ?_
    refine oRun.bipush 89 dX9_ends_87 oc_b10 rfl ?_
    refine oRun.isub 90 dX9_ends_89 rfl ?_
    obtain ⟨r90, hr90, h⟩ := oB1 h
    refine oRun.callV (as := [.int (x1 - 10)]) 93 dX9_ends_90 lk_RX9_225 (oFit_i (Nat.le_of_ble_eq_true rfl) (Nat.le_of_ble_eq_true rfl)) rfl rfl rfl rfl (Nat.le_of_ble_eq_true rfl) (Nat.le_of_ble_eq_true rfl) rfl (E_X9_standsAt hr90) rfl ?_
    show oRun G _ 93 _ [.long r90] _ _ _
    refine oRun.lstore_n 94 dX9_ends_93 rfl (Nat.le_of_ble_eq_true rfl) rfl rfl ?_
    refine oRun.aload_n 95 dX9_ends_94 1 rfl rfl (Nat.le_of_ble_eq_true rfl) rfl ?_
    refine oRun.getR 98 dX9_ends_95 fd_RX9_18 rfl rfl (Nat.le_of_ble_eq_true rfl) rfl ?_
    refine oRun.aload_n 99 dX9_ends_98 1 rfl rfl (Nat.le_of_ble_eq_true rfl) rfl ?_
    refine oRun.getR 102 dX9_ends_99 fd_RX9_11 rfl rfl (Nat.le_of_ble_eq_true rfl) rfl ?_
    obtain ⟨r102, hr102, h⟩ := oB1 h
    refine oRun.callS (as := [.ref 54, .ref 52]) 105 dX9_ends_102 lk_RX9_252 (oFit_i (Nat.le_of_ble_eq_true rfl) (Nat.le_of_ble_eq_true rfl)) rfl (Nat.le_of_ble_eq_true rfl) (Nat.le_of_ble_eq_true rfl) rfl (E_X9_copies (Or.inr ⟨_, rfl⟩) (oWA_i rfl) hr102) rfl ?_
    show oRun G _ 105 _ [] _ _ _
    refine oRun.lload_n 106 dX9_ends_105 0 rfl rfl rfl ?_
    rw [← Option.some.inj h]
    exact oRun.ret (r := some (.long r90)) dX9_ends_106
set_option maxRecDepth 100000 in
set_option maxHeartbeats 4000000 in
theorem E_X9_ends {G : oG} {m : oM} {x1 : Int32} {w : Int64 × oM} (h : F_X9_ends m x1 = some w) : oEv G M_X9_ends [.ref 51, .int x1] m (some (.long w.1)) w.2 := by
  unfold F_X9_ends at h
  refine ⟨?_, ?_⟩
  · show oRun G M_X9_ends 0 [(0, .ref 51), (1, .int x1)] [] m (some (.long w.1)) w.2
    refine oRun.iload_n 1 dX9_ends_0 1 rfl rfl rfl ?_
    by_cases c1 : x1 = 0
    · replace h := oIp c1 h
      refine oRun.if_eq_t 19 dX9_ends_1 c1 rfl ?_
      refine oRun.sub [0, 1] rfl ?_
      exact E_X9_ends_J19 h
    · replace h := oIn c1 h
      refine oRun.if_eq_f 4 dX9_ends_1 rfl c1 rfl ?_
      refine oRun.aload_n 5 dX9_ends_4 0 rfl rfl (Nat.le_of_ble_eq_true rfl) rfl ?_
      refine oRun.iload_n 6 dX9_ends_5 1 rfl rfl rfl ?_
      refine oRun.bipush 8 dX9_ends_6 oc_b10 rfl ?_
      refine oRun.isub 9 dX9_ends_8 rfl ?_
      obtain ⟨r9, hr9, h⟩ := oB1 h
      refine oRun.callV (as := [.int (x1 - 10)]) 12 dX9_ends_9 lk_RX9_154 (oFit_i (Nat.le_of_ble_eq_true rfl) (Nat.le_of_ble_eq_true rfl)) rfl rfl rfl rfl (Nat.le_of_ble_eq_true rfl) (Nat.le_of_ble_eq_true rfl) rfl (E_X9_hasTrain hr9) rfl ?_
      show oRun G _ 12 _ [.int r9] _ _ _
      by_cases c12 : r9 = 0
      · replace h := oIp c12 h
        refine oRun.if_ne_f 15 dX9_ends_12 rfl c12 rfl ?_
        refine oRun.ldc2 18 dX9_ends_15 wd_4_201 rfl ?_
        rw [← Option.some.inj h]
        exact oRun.ret (r := some (.long (-9223372036854775808))) dX9_ends_18
      · replace h := oIn c12 h
        refine oRun.if_ne_t 19 dX9_ends_12 c12 rfl ?_
        refine oRun.sub [0, 1] rfl ?_
        exact E_X9_ends_J19 h
  · exact True.intro
set_option maxRecDepth 100000 in
set_option maxHeartbeats 4000000 in
theorem E_X8_kindLetter {G : oG} {m : oM} {x0 : Int32} {w : Int32} (h : F_X8_kindLetter x0 = some w) : oEv G M_X8_kindLetter [.int x0] m (some (.int w)) m := by
  unfold F_X8_kindLetter at h
  refine ⟨?_, ?_⟩
  · show oRun G M_X8_kindLetter 0 [(0, .int x0)] [] m (some (.int w)) m
    refine oRun.iload_n 1 dX8_kindLetter_0 0 rfl rfl rfl ?_
    by_cases c1 : x0 < 0
    · replace h := oIp c1 h
      refine oRun.if_lt_t 20 dX8_kindLetter_1 c1 rfl ?_
      refine oRun.iconst 21 dX8_kindLetter_20 oc_i0 rfl ?_
      rw [← Option.some.inj h]
      exact oRun.ret (r := some (.int 0)) dX8_kindLetter_21
    · replace h := oIn c1 h
      refine oRun.if_lt_f 4 dX8_kindLetter_1 rfl c1 rfl ?_
      refine oRun.iload_n 5 dX8_kindLetter_4 0 rfl rfl rfl ?_
      refine oRun.gets61 8 dX8_kindLetter_5 wd_2_97 rfl ?_
      refine oRun.clen 9 dX8_kindLetter_8 rfl ?_
      by_cases c9 : 6 ≤ x0
      · replace h := oIp c9 h
        refine oRun.icmp_ge_t 20 dX8_kindLetter_9 c9 rfl ?_
        refine oRun.iconst 21 dX8_kindLetter_20 oc_i0 rfl ?_
        rw [← Option.some.inj h]
        exact oRun.ret (r := some (.int 0)) dX8_kindLetter_21
      · replace h := oIn c9 h
        refine oRun.icmp_ge_f 12 dX8_kindLetter_9 rfl c9 rfl ?_
        refine oRun.gets61 15 dX8_kindLetter_12 wd_2_97 rfl ?_
        refine oRun.iload_n 16 dX8_kindLetter_15 0 rfl rfl rfl ?_
        obtain ⟨v16, hv16, h⟩ := oB1 h
        obtain ⟨hz16, hv16⟩ := oXA_ok hv16
        refine oRun.caload 17 dX8_kindLetter_16 hz16 rfl ?_
        refine oRun.nameI hv16 ?_
        refine oRun.goto 21 dX8_kindLetter_17 rfl ?_
        rw [← Option.some.inj h]
        exact oRun.ret (r := some (.int v16)) dX8_kindLetter_21
  · exact True.intro
set_option maxRecDepth 100000 in
set_option maxHeartbeats 4000000 in
theorem E_X5_add {G : oG} {m : oM} {x1 : Int32} {w : oM} (h : F_X5_add m x1 = some w) : oEv G M_X5_add [.ref 45, .int x1] m none w := by
  unfold F_X5_add at h
  refine ⟨?_, ?_⟩
  · show oRun G M_X5_add 0 [(0, .ref 45), (1, .int x1)] [] m none w
    refine oRun.aload_n 1 dX5_add_0 0 rfl rfl (Nat.le_of_ble_eq_true rfl) rfl ?_
    refine oRun.getR 4 dX5_add_1 fd_RX5_15 rfl rfl (Nat.le_of_ble_eq_true rfl) rfl ?_
    refine oRun.aload_n 5 dX5_add_4 0 rfl rfl (Nat.le_of_ble_eq_true rfl) rfl ?_
    refine oRun.getI 8 dX5_add_5 fd_RX5_9 rfl rfl rfl ?_
    refine oRun.iload_n 9 dX5_add_8 1 rfl rfl rfl ?_
    obtain ⟨r9, hr9, h⟩ := oB1 h
    refine oRun.callN (as := [.ref 46, .int (m.1 45 0), .int x1]) 12 dX5_add_9 lk_RX5_19 (oFit_i (Nat.le_of_ble_eq_true rfl) (Nat.le_of_ble_eq_true rfl)) rfl (Nat.le_of_ble_eq_true rfl) (Nat.le_of_ble_eq_true rfl) rfl (E_X8_set (oWA_i rfl) hr9) rfl ?_
    show oRun G _ 12 _ [] _ _ _
    refine oRun.aload_n 13 dX5_add_12 0 rfl rfl (Nat.le_of_ble_eq_true rfl) rfl ?_
    refine oRun.dup 14 dX5_add_13 rfl rfl ?_
    refine oRun.getI 17 dX5_add_14 fd_RX5_9 rfl rfl rfl ?_
    refine oRun.iconst 18 dX5_add_17 oc_i1 rfl ?_
    refine oRun.iadd 19 dX5_add_18 rfl ?_
    obtain ⟨m19, hm19, h⟩ := oB1 h
    refine oRun.putI 22 dX5_add_19 fp_RX5_9 rfl rfl rfl ?_
    refine oRun.nameM hm19 ?_
    rw [← Option.some.inj h]
    exact oRun.ret (r := none) dX5_add_22
  · exact True.intro
set_option maxRecDepth 100000 in
set_option maxHeartbeats 4000000 in
theorem E_X5_addTwoFigures {G : oG} {m : oM} {x1 : Int32} {w : oM} (h : F_X5_addTwoFigures m x1 = some w) : oEv G M_X5_addTwoFigures [.ref 45, .int x1] m none w := by
  unfold F_X5_addTwoFigures at h
  refine ⟨?_, ?_⟩
  · show oRun G M_X5_addTwoFigures 0 [(0, .ref 45), (1, .int x1)] [] m none w
    refine oRun.aload_n 1 dX5_addTwoFigures_0 0 rfl rfl (Nat.le_of_ble_eq_true rfl) rfl ?_
    refine oRun.bipush 3 dX5_addTwoFigures_1 oc_b48 rfl ?_
    refine oRun.iload_n 4 dX5_addTwoFigures_3 1 rfl rfl rfl ?_
    refine oRun.bipush 6 dX5_addTwoFigures_4 oc_b10 rfl ?_
    refine oRun.idiv 7 dX5_addTwoFigures_6 (by decide) rfl ?_
    refine oRun.iadd 8 dX5_addTwoFigures_7 rfl ?_
    obtain ⟨r8, hr8, h⟩ := oB1 h
    refine oRun.callV (as := [.int (48 + (x1 / 10))]) 11 dX5_addTwoFigures_8 lk_RX5_23 (oFit_i (Nat.le_of_ble_eq_true rfl) (Nat.le_of_ble_eq_true rfl)) rfl rfl rfl rfl (Nat.le_of_ble_eq_true rfl) (Nat.le_of_ble_eq_true rfl) rfl (E_X5_add hr8) rfl ?_
    show oRun G _ 11 _ [] _ _ _
    refine oRun.aload_n 12 dX5_addTwoFigures_11 0 rfl rfl (Nat.le_of_ble_eq_true rfl) rfl ?_
    refine oRun.bipush 14 dX5_addTwoFigures_12 oc_b48 rfl ?_
    refine oRun.iload_n 15 dX5_addTwoFigures_14 1 rfl rfl rfl ?_
    refine oRun.bipush 17 dX5_addTwoFigures_15 oc_b10 rfl ?_
    refine oRun.irem 18 dX5_addTwoFigures_17 (by decide) rfl ?_
    refine oRun.iadd 19 dX5_addTwoFigures_18 rfl ?_
    obtain ⟨r19, hr19, h⟩ := oB1 h
    refine oRun.callV (as := [.int (48 + (oRI x1 10))]) 22 dX5_addTwoFigures_19 lk_RX5_23 (oFit_i (Nat.le_of_ble_eq_true rfl) (Nat.le_of_ble_eq_true rfl)) rfl rfl rfl rfl (Nat.le_of_ble_eq_true rfl) (Nat.le_of_ble_eq_true rfl) rfl (E_X5_add hr19) rfl ?_
    show oRun G _ 22 _ [] _ _ _
    rw [← Option.some.inj h]
    exact oRun.ret (r := none) dX5_addTwoFigures_22
  · exact True.intro
set_option maxRecDepth 100000 in
set_option maxHeartbeats 4000000 in
theorem E_X8_writePair {G : oG} {m : oM} {x1 : Int32} {w : Int32 × oM} (h : F_X8_writePair m x1 = some w) : oEv G M_X8_writePair [.ref 0, .int x1] m (some (.int w.1)) w.2 := by
  unfold F_X8_writePair at h
  refine ⟨?_, ?_⟩
  · show oRun G M_X8_writePair 0 [(0, .ref 0), (1, .int x1)] [] m (some (.int w.1)) w.2
    refine oRun.aload_n 1 dX8_writePair_0 0 rfl rfl (Nat.le_of_ble_eq_true rfl) rfl ?_
    refine oRun.getR 4 dX8_writePair_1 fd_RX8_12 rfl rfl (Nat.le_of_ble_eq_true rfl) rfl ?_
    refine oRun.getR 7 dX8_writePair_4 fd_RX8_135 rfl rfl (Nat.le_of_ble_eq_true rfl) rfl ?_
    refine oRun.iload_n 8 dX8_writePair_7 1 rfl rfl rfl ?_
    obtain ⟨r8, hr8, h⟩ := oB1 h
    refine oRun.callV (as := [.int x1]) 11 dX8_writePair_8 lk_RX8_148 (oFit_i (Nat.le_of_ble_eq_true rfl) (Nat.le_of_ble_eq_true rfl)) rfl rfl rfl rfl (Nat.le_of_ble_eq_true rfl) (Nat.le_of_ble_eq_true rfl) rfl (E_X2_has rfl hr8) rfl ?_
    show oRun G _ 11 _ [.int r8] _ _ _
    by_cases c11 : r8 = 0
    · replace h := oIp c11 h
      refine oRun.if_ne_f 14 dX8_writePair_11 rfl c11 rfl ?_
      refine oRun.iconst 15 dX8_writePair_14 oc_im1 rfl ?_
      rw [← Option.some.inj h]
      exact oRun.ret (r := some (.int (-1))) dX8_writePair_15
    · replace h := oIn c11 h
      refine oRun.if_ne_t 16 dX8_writePair_11 c11 rfl ?_
      refine oRun.aload_n 17 dX8_writePair_16 0 rfl rfl (Nat.le_of_ble_eq_true rfl) rfl ?_
      refine oRun.getR 20 dX8_writePair_17 fd_RX8_38 rfl rfl (Nat.le_of_ble_eq_true rfl) rfl ?_
      refine oRun.iconst 21 dX8_writePair_20 oc_i0 rfl ?_
      obtain ⟨m21, hm21, h⟩ := oB1 h
      refine oRun.putI 24 dX8_writePair_21 fp_RX8_305 rfl rfl rfl ?_
      refine oRun.nameM hm21 ?_
      refine oRun.aload_n 25 dX8_writePair_24 0 rfl rfl (Nat.le_of_ble_eq_true rfl) rfl ?_
      refine oRun.getR 28 dX8_writePair_25 fd_RX8_38 rfl rfl (Nat.le_of_ble_eq_true rfl) rfl ?_
      refine oRun.aload_n 29 dX8_writePair_28 0 rfl rfl (Nat.le_of_ble_eq_true rfl) rfl ?_
      refine oRun.getR 32 dX8_writePair_29 fd_RX8_12 rfl rfl (Nat.le_of_ble_eq_true rfl) rfl ?_
      refine oRun.getR 35 dX8_writePair_32 fd_RX8_135 rfl rfl (Nat.le_of_ble_eq_true rfl) rfl ?_
      refine oRun.getR 38 dX8_writePair_35 fd_RX8_151 rfl rfl (Nat.le_of_ble_eq_true rfl) rfl ?_
      refine oRun.iload_n 39 dX8_writePair_38 1 rfl rfl rfl ?_
      obtain ⟨r39, hr39, h⟩ := oB1 h
      refine oRun.callS (as := [.ref 5, .int x1]) 42 dX8_writePair_39 lk_RX8_76 (oFit_i (Nat.le_of_ble_eq_true rfl) (Nat.le_of_ble_eq_true rfl)) rfl (Nat.le_of_ble_eq_true rfl) (Nat.le_of_ble_eq_true rfl) rfl (E_X8_at (Or.inr ⟨_, rfl⟩) hr39) rfl ?_
      show oRun G _ 42 _ [.int r39, .ref 45] _ _ _
      obtain ⟨r42, hr42, h⟩ := oB1 h
      refine oRun.callS (as := [.int r39]) 45 dX8_writePair_42 lk_RX8_306 (oFit_i (Nat.le_of_ble_eq_true rfl) (Nat.le_of_ble_eq_true rfl)) rfl (Nat.le_of_ble_eq_true rfl) (Nat.le_of_ble_eq_true rfl) rfl (E_X8_kindLetter hr42) rfl ?_
      show oRun G _ 45 _ [.int r42, .ref 45] _ _ _
      obtain ⟨r45, hr45, h⟩ := oB1 h
      refine oRun.callV (as := [.int r42]) 48 dX8_writePair_45 lk_RX8_309 (oFit_i (Nat.le_of_ble_eq_true rfl) (Nat.le_of_ble_eq_true rfl)) rfl rfl rfl rfl (Nat.le_of_ble_eq_true rfl) (Nat.le_of_ble_eq_true rfl) rfl (E_X5_add hr45) rfl ?_
      show oRun G _ 48 _ [] _ _ _
      refine oRun.aload_n 49 dX8_writePair_48 0 rfl rfl (Nat.le_of_ble_eq_true rfl) rfl ?_
      refine oRun.getR 52 dX8_writePair_49 fd_RX8_38 rfl rfl (Nat.le_of_ble_eq_true rfl) rfl ?_
      refine oRun.bipush 54 dX8_writePair_52 oc_b48 rfl ?_
      refine oRun.aload_n 55 dX8_writePair_54 0 rfl rfl (Nat.le_of_ble_eq_true rfl) rfl ?_
      refine oRun.getR 58 dX8_writePair_55 fd_RX8_12 rfl rfl (Nat.le_of_ble_eq_true rfl) rfl ?_
      refine oRun.getR 61 dX8_writePair_58 fd_RX8_135 rfl rfl (Nat.le_of_ble_eq_true rfl) rfl ?_
      refine oRun.getR 64 dX8_writePair_61 fd_RX8_154 rfl rfl (Nat.le_of_ble_eq_true rfl) rfl ?_
      refine oRun.iload_n 65 dX8_writePair_64 1 rfl rfl rfl ?_
      obtain ⟨r65, hr65, h⟩ := oB1 h
      refine oRun.callS (as := [.ref 6, .int x1]) 68 dX8_writePair_65 lk_RX8_76 (oFit_i (Nat.le_of_ble_eq_true rfl) (Nat.le_of_ble_eq_true rfl)) rfl (Nat.le_of_ble_eq_true rfl) (Nat.le_of_ble_eq_true rfl) rfl (E_X8_at (Or.inr ⟨_, rfl⟩) hr65) rfl ?_
      show oRun G _ 68 _ [.int r65, .int 48, .ref 45] _ _ _
      refine oRun.iadd 69 dX8_writePair_68 rfl ?_
      obtain ⟨r69, hr69, h⟩ := oB1 h
      refine oRun.callV (as := [.int (48 + r65)]) 72 dX8_writePair_69 lk_RX8_309 (oFit_i (Nat.le_of_ble_eq_true rfl) (Nat.le_of_ble_eq_true rfl)) rfl rfl rfl rfl (Nat.le_of_ble_eq_true rfl) (Nat.le_of_ble_eq_true rfl) rfl (E_X5_add hr69) rfl ?_
      show oRun G _ 72 _ [] _ _ _
      refine oRun.aload_n 73 dX8_writePair_72 0 rfl rfl (Nat.le_of_ble_eq_true rfl) rfl ?_
      refine oRun.getR 76 dX8_writePair_73 fd_RX8_38 rfl rfl (Nat.le_of_ble_eq_true rfl) rfl ?_
      refine oRun.bipush 78 dX8_writePair_76 oc_b32 rfl ?_
      obtain ⟨r78, hr78, h⟩ := oB1 h
      refine oRun.callV (as := [.int 32]) 81 dX8_writePair_78 lk_RX8_309 (oFit_i (Nat.le_of_ble_eq_true rfl) (Nat.le_of_ble_eq_true rfl)) rfl rfl rfl rfl (Nat.le_of_ble_eq_true rfl) (Nat.le_of_ble_eq_true rfl) rfl (E_X5_add hr78) rfl ?_
      show oRun G _ 81 _ [] _ _ _
      refine oRun.aload_n 82 dX8_writePair_81 0 rfl rfl (Nat.le_of_ble_eq_true rfl) rfl ?_
      refine oRun.getR 85 dX8_writePair_82 fd_RX8_38 rfl rfl (Nat.le_of_ble_eq_true rfl) rfl ?_
      refine oRun.aload_n 86 dX8_writePair_85 0 rfl rfl (Nat.le_of_ble_eq_true rfl) rfl ?_
      refine oRun.getR 89 dX8_writePair_86 fd_RX8_12 rfl rfl (Nat.le_of_ble_eq_true rfl) rfl ?_
      refine oRun.getR 92 dX8_writePair_89 fd_RX8_135 rfl rfl (Nat.le_of_ble_eq_true rfl) rfl ?_
      refine oRun.getR 95 dX8_writePair_92 fd_RX8_157 rfl rfl (Nat.le_of_ble_eq_true rfl) rfl ?_
      refine oRun.iload_n 96 dX8_writePair_95 1 rfl rfl rfl ?_
      obtain ⟨r96, hr96, h⟩ := oB1 h
      refine oRun.callS (as := [.ref 7, .int x1]) 99 dX8_writePair_96 lk_RX8_76 (oFit_i (Nat.le_of_ble_eq_true rfl) (Nat.le_of_ble_eq_true rfl)) rfl (Nat.le_of_ble_eq_true rfl) (Nat.le_of_ble_eq_true rfl) rfl (E_X8_at (Or.inr ⟨_, rfl⟩) hr96) rfl ?_
      show oRun G _ 99 _ [.int r96, .ref 45] _ _ _
      obtain ⟨r99, hr99, h⟩ := oB1 h
      refine oRun.callV (as := [.int r96]) 102 dX8_writePair_99 lk_RX8_311 (oFit_i (Nat.le_of_ble_eq_true rfl) (Nat.le_of_ble_eq_true rfl)) rfl rfl rfl rfl (Nat.le_of_ble_eq_true rfl) (Nat.le_of_ble_eq_true rfl) rfl (E_X5_addTwoFigures hr99) rfl ?_
      show oRun G _ 102 _ [] _ _ _
      refine oRun.aload_n 103 dX8_writePair_102 0 rfl rfl (Nat.le_of_ble_eq_true rfl) rfl ?_
      refine oRun.getR 106 dX8_writePair_103 fd_RX8_38 rfl rfl (Nat.le_of_ble_eq_true rfl) rfl ?_
      refine oRun.bipush 108 dX8_writePair_106 oc_b47 rfl ?_
      obtain ⟨r108, hr108, h⟩ := oB1 h
      refine oRun.callV (as := [.int 47]) 111 dX8_writePair_108 lk_RX8_309 (oFit_i (Nat.le_of_ble_eq_true rfl) (Nat.le_of_ble_eq_true rfl)) rfl rfl rfl rfl (Nat.le_of_ble_eq_true rfl) (Nat.le_of_ble_eq_true rfl) rfl (E_X5_add hr108) rfl ?_
      show oRun G _ 111 _ [] _ _ _
      refine oRun.aload_n 112 dX8_writePair_111 0 rfl rfl (Nat.le_of_ble_eq_true rfl) rfl ?_
      refine oRun.getR 115 dX8_writePair_112 fd_RX8_38 rfl rfl (Nat.le_of_ble_eq_true rfl) rfl ?_
      refine oRun.aload_n 116 dX8_writePair_115 0 rfl rfl (Nat.le_of_ble_eq_true rfl) rfl ?_
      refine oRun.getR 119 dX8_writePair_116 fd_RX8_12 rfl rfl (Nat.le_of_ble_eq_true rfl) rfl ?_
      refine oRun.getR 122 dX8_writePair_119 fd_RX8_135 rfl rfl (Nat.le_of_ble_eq_true rfl) rfl ?_
      refine oRun.getR 125 dX8_writePair_122 fd_RX8_160 rfl rfl (Nat.le_of_ble_eq_true rfl) rfl ?_
      refine oRun.iload_n 126 dX8_writePair_125 1 rfl rfl rfl ?_
      obtain ⟨r126, hr126, h⟩ := oB1 h
      refine oRun.callS (as := [.ref 8, .int x1]) 129 dX8_writePair_126 lk_RX8_76 (oFit_i (Nat.le_of_ble_eq_true rfl) (Nat.le_of_ble_eq_true rfl)) rfl (Nat.le_of_ble_eq_true rfl) (Nat.le_of_ble_eq_true rfl) rfl (E_X8_at (Or.inr ⟨_, rfl⟩) hr126) rfl ?_
      show oRun G _ 129 _ [.int r126, .ref 45] _ _ _
      obtain ⟨r129, hr129, h⟩ := oB1 h
      refine oRun.callV (as := [.int r126]) 132 dX8_writePair_129 lk_RX8_311 (oFit_i (Nat.le_of_ble_eq_true rfl) (Nat.le_of_ble_eq_true rfl)) rfl rfl rfl rfl (Nat.le_of_ble_eq_true rfl) (Nat.le_of_ble_eq_true rfl) rfl (E_X5_addTwoFigures hr129) rfl ?_
      show oRun G _ 132 _ [] _ _ _
      refine oRun.aload_n 133 dX8_writePair_132 0 rfl rfl (Nat.le_of_ble_eq_true rfl) rfl ?_
      refine oRun.getR 136 dX8_writePair_133 fd_RX8_38 rfl rfl (Nat.le_of_ble_eq_true rfl) rfl ?_
      refine oRun.getI 139 dX8_writePair_136 fd_RX8_305 rfl rfl rfl ?_
      rw [← Option.some.inj h]
      exact oRun.ret (r := some (.int (r129.1 45 0))) dX8_writePair_139
  · exact True.intro
set_option maxRecDepth 100000 in
set_option maxHeartbeats 4000000 in
theorem E_X9_two {G : oG} {m : oM} {x1 : Int32} {x2 : Int32} {w : oM} (h : F_X9_two m x1 x2 = some w) : oEv G M_X9_two [.ref 51, .int x1, .int x2] m none w := by
  unfold F_X9_two at h
  refine ⟨?_, ?_⟩
  · show oRun G M_X9_two 0 [(0, .ref 51), (1, .int x1), (2, .int x2)] [] m none w
    refine oRun.aload_n 1 dX9_two_0 0 rfl rfl (Nat.le_of_ble_eq_true rfl) rfl ?_
    refine oRun.getR 4 dX9_two_1 fd_RX9_24 rfl rfl (Nat.le_of_ble_eq_true rfl) rfl ?_
    refine oRun.iload_n 5 dX9_two_4 1 rfl rfl rfl ?_
    refine oRun.bipush 7 dX9_two_5 oc_b48 rfl ?_
    refine oRun.iload_n 8 dX9_two_7 2 rfl rfl rfl ?_
    refine oRun.bipush 10 dX9_two_8 oc_b10 rfl ?_
    refine oRun.idiv 11 dX9_two_10 (by decide) rfl ?_
    refine oRun.iadd 12 dX9_two_11 rfl ?_
    obtain ⟨m12, hm12, h⟩ := oB1 h
    refine oRun.iastore 13 dX9_two_12 rfl hm12 rfl ?_
    refine oRun.aload_n 14 dX9_two_13 0 rfl rfl (Nat.le_of_ble_eq_true rfl) rfl ?_
    refine oRun.getR 17 dX9_two_14 fd_RX9_24 rfl rfl (Nat.le_of_ble_eq_true rfl) rfl ?_
    refine oRun.iload_n 18 dX9_two_17 1 rfl rfl rfl ?_
    refine oRun.iconst 19 dX9_two_18 oc_i1 rfl ?_
    refine oRun.iadd 20 dX9_two_19 rfl ?_
    refine oRun.bipush 22 dX9_two_20 oc_b48 rfl ?_
    refine oRun.iload_n 23 dX9_two_22 2 rfl rfl rfl ?_
    refine oRun.bipush 25 dX9_two_23 oc_b10 rfl ?_
    refine oRun.irem 26 dX9_two_25 (by decide) rfl ?_
    refine oRun.iadd 27 dX9_two_26 rfl ?_
    obtain ⟨m27, hm27, h⟩ := oB1 h
    refine oRun.iastore 28 dX9_two_27 rfl hm27 rfl ?_
    rw [← Option.some.inj h]
    exact oRun.ret (r := none) dX9_two_28
  · exact True.intro
set_option maxRecDepth 100000 in
set_option maxHeartbeats 4000000 in
theorem E_X9_writePair {G : oG} {m : oM} {x1 : Int32} {w : Int32 × oM} (h : F_X9_writePair m x1 = some w) : oEv G M_X9_writePair [.ref 51, .int x1] m (some (.int w.1)) w.2 := by
  unfold F_X9_writePair at h
  refine ⟨?_, ?_⟩
  · show oRun G M_X9_writePair 0 [(0, .ref 51), (1, .int x1)] [] m (some (.int w.1)) w.2
    refine oRun.aload_n 1 dX9_writePair_0 0 rfl rfl (Nat.le_of_ble_eq_true rfl) rfl ?_
    refine oRun.iload_n 2 dX9_writePair_1 1 rfl rfl rfl ?_
    obtain ⟨r2, hr2, h⟩ := oB1 h
    refine oRun.callV (as := [.int x1]) 5 dX9_writePair_2 lk_RX9_132 (oFit_i (Nat.le_of_ble_eq_true rfl) (Nat.le_of_ble_eq_true rfl)) rfl rfl rfl rfl (Nat.le_of_ble_eq_true rfl) (Nat.le_of_ble_eq_true rfl) rfl (E_X9_isPair hr2) rfl ?_
    show oRun G _ 5 _ [.int r2] _ _ _
    by_cases c5 : r2 = 0
    · replace h := oIp c5 h
      refine oRun.if_ne_f 8 dX9_writePair_5 rfl c5 rfl ?_
      refine oRun.iconst 9 dX9_writePair_8 oc_im1 rfl ?_
      rw [← Option.some.inj h]
      exact oRun.ret (r := some (.int (-1))) dX9_writePair_9
    · replace h := oIn c5 h
      refine oRun.if_ne_t 10 dX9_writePair_5 c5 rfl ?_
      refine oRun.aload_n 11 dX9_writePair_10 0 rfl rfl (Nat.le_of_ble_eq_true rfl) rfl ?_
      refine oRun.getR 14 dX9_writePair_11 fd_RX9_24 rfl rfl (Nat.le_of_ble_eq_true rfl) rfl ?_
      refine oRun.iconst 15 dX9_writePair_14 oc_i0 rfl ?_
      refine oRun.ldcS 17 (own := "") rfl dX9_writePair_15 rfl ?_
      refine oRun.aload_n 18 dX9_writePair_17 0 rfl rfl (Nat.le_of_ble_eq_true rfl) rfl ?_
      refine oRun.getR 21 dX9_writePair_18 fd_RX9_11 rfl rfl (Nat.le_of_ble_eq_true rfl) rfl ?_
      refine oRun.bipush 23 dX9_writePair_21 oc_b43 rfl ?_
      refine oRun.iload_n 24 dX9_writePair_23 1 rfl rfl rfl ?_
      refine oRun.iadd 25 dX9_writePair_24 rfl ?_
      obtain ⟨v25, hv25, h⟩ := oB1 h
      refine oRun.iaload 26 dX9_writePair_25 (Or.inr ⟨_, rfl⟩) hv25 rfl ?_
      obtain ⟨r26, hr26, h⟩ := oB1 h
      refine oRun.callStr (as := [.int v25]) 29 dX9_writePair_26 lk_RX9_113 (oFit_i (Nat.le_of_ble_eq_true rfl) (Nat.le_of_ble_eq_true rfl)) rfl rfl (Nat.le_of_ble_eq_true rfl) (Nat.le_of_ble_eq_true rfl) rfl (E_J0_charAt_5068e hr26) rfl ?_
      show oRun G _ 29 _ [.int r26, .int 0, .ref 56] _ _ _
      obtain ⟨m29, hm29, h⟩ := oB1 h
      refine oRun.iastore 30 dX9_writePair_29 rfl (oAS_lit (i := 0) rfl hm29) rfl ?_
      refine oRun.aload_n 31 dX9_writePair_30 0 rfl rfl (Nat.le_of_ble_eq_true rfl) rfl ?_
      refine oRun.getR 34 dX9_writePair_31 fd_RX9_24 rfl rfl (Nat.le_of_ble_eq_true rfl) rfl ?_
      refine oRun.iconst 35 dX9_writePair_34 oc_i1 rfl ?_
      refine oRun.bipush 37 dX9_writePair_35 oc_b48 rfl ?_
      refine oRun.aload_n 38 dX9_writePair_37 0 rfl rfl (Nat.le_of_ble_eq_true rfl) rfl ?_
      refine oRun.getR 41 dX9_writePair_38 fd_RX9_11 rfl rfl (Nat.le_of_ble_eq_true rfl) rfl ?_
      refine oRun.bipush 43 dX9_writePair_41 oc_b53 rfl ?_
      refine oRun.iload_n 44 dX9_writePair_43 1 rfl rfl rfl ?_
      refine oRun.iadd 45 dX9_writePair_44 rfl ?_
      obtain ⟨v45, hv45, h⟩ := oB1 h
      refine oRun.iaload 46 dX9_writePair_45 (Or.inr ⟨_, rfl⟩) hv45 rfl ?_
      refine oRun.iadd 47 dX9_writePair_46 rfl ?_
      obtain ⟨m47, hm47, h⟩ := oB1 h
      refine oRun.iastore 48 dX9_writePair_47 rfl (oAS_lit (i := 1) rfl hm47) rfl ?_
      refine oRun.aload_n 49 dX9_writePair_48 0 rfl rfl (Nat.le_of_ble_eq_true rfl) rfl ?_
      refine oRun.getR 52 dX9_writePair_49 fd_RX9_24 rfl rfl (Nat.le_of_ble_eq_true rfl) rfl ?_
      refine oRun.iconst 53 dX9_writePair_52 oc_i2 rfl ?_
      refine oRun.bipush 55 dX9_writePair_53 oc_b32 rfl ?_
      obtain ⟨m55, hm55, h⟩ := oB1 h
      refine oRun.iastore 56 dX9_writePair_55 rfl (oAS_lit (i := 2) rfl hm55) rfl ?_
      refine oRun.aload_n 57 dX9_writePair_56 0 rfl rfl (Nat.le_of_ble_eq_true rfl) rfl ?_
      refine oRun.iconst 58 dX9_writePair_57 oc_i3 rfl ?_
      refine oRun.aload_n 59 dX9_writePair_58 0 rfl rfl (Nat.le_of_ble_eq_true rfl) rfl ?_
      refine oRun.getR 62 dX9_writePair_59 fd_RX9_11 rfl rfl (Nat.le_of_ble_eq_true rfl) rfl ?_
      refine oRun.bipush 64 dX9_writePair_62 oc_b63 rfl ?_
      refine oRun.iload_n 65 dX9_writePair_64 1 rfl rfl rfl ?_
      refine oRun.iadd 66 dX9_writePair_65 rfl ?_
      obtain ⟨v66, hv66, h⟩ := oB1 h
      refine oRun.iaload 67 dX9_writePair_66 (Or.inr ⟨_, rfl⟩) hv66 rfl ?_
      obtain ⟨r67, hr67, h⟩ := oB1 h
      refine oRun.callV (as := [.int 3, .int v66]) 70 dX9_writePair_67 lk_RX9_259 (oFit_i (Nat.le_of_ble_eq_true rfl) (Nat.le_of_ble_eq_true rfl)) rfl rfl rfl rfl (Nat.le_of_ble_eq_true rfl) (Nat.le_of_ble_eq_true rfl) rfl (E_X9_two hr67) rfl ?_
      show oRun G _ 70 _ [] _ _ _
      refine oRun.aload_n 71 dX9_writePair_70 0 rfl rfl (Nat.le_of_ble_eq_true rfl) rfl ?_
      refine oRun.getR 74 dX9_writePair_71 fd_RX9_24 rfl rfl (Nat.le_of_ble_eq_true rfl) rfl ?_
      refine oRun.iconst 75 dX9_writePair_74 oc_i5 rfl ?_
      refine oRun.bipush 77 dX9_writePair_75 oc_b47 rfl ?_
      obtain ⟨m77, hm77, h⟩ := oB1 h
      refine oRun.iastore 78 dX9_writePair_77 rfl (oAS_lit (i := 5) rfl hm77) rfl ?_
      refine oRun.aload_n 79 dX9_writePair_78 0 rfl rfl (Nat.le_of_ble_eq_true rfl) rfl ?_
      refine oRun.bipush 81 dX9_writePair_79 oc_b6 rfl ?_
      refine oRun.aload_n 82 dX9_writePair_81 0 rfl rfl (Nat.le_of_ble_eq_true rfl) rfl ?_
      refine oRun.getR 85 dX9_writePair_82 fd_RX9_11 rfl rfl (Nat.le_of_ble_eq_true rfl) rfl ?_
      refine oRun.bipush 87 dX9_writePair_85 oc_b73 rfl ?_
      refine oRun.iload_n 88 dX9_writePair_87 1 rfl rfl rfl ?_
      refine oRun.iadd 89 dX9_writePair_88 rfl ?_
      obtain ⟨v89, hv89, h⟩ := oB1 h
      refine oRun.iaload 90 dX9_writePair_89 (Or.inr ⟨_, rfl⟩) hv89 rfl ?_
      obtain ⟨r90, hr90, h⟩ := oB1 h
      refine oRun.callV (as := [.int 6, .int v89]) 93 dX9_writePair_90 lk_RX9_259 (oFit_i (Nat.le_of_ble_eq_true rfl) (Nat.le_of_ble_eq_true rfl)) rfl rfl rfl rfl (Nat.le_of_ble_eq_true rfl) (Nat.le_of_ble_eq_true rfl) rfl (E_X9_two hr90) rfl ?_
      show oRun G _ 93 _ [] _ _ _
      refine oRun.aload_n 94 dX9_writePair_93 0 rfl rfl (Nat.le_of_ble_eq_true rfl) rfl ?_
      refine oRun.bipush 96 dX9_writePair_94 oc_b8 rfl ?_
      obtain ⟨m96, hm96, h⟩ := oB1 h
      refine oRun.putI 99 dX9_writePair_96 fp_RX9_262 rfl rfl rfl ?_
      refine oRun.nameM hm96 ?_
      refine oRun.aload_n 100 dX9_writePair_99 0 rfl rfl (Nat.le_of_ble_eq_true rfl) rfl ?_
      refine oRun.getI 103 dX9_writePair_100 fd_RX9_262 rfl rfl rfl ?_
      rw [← Option.some.inj h]
      exact oRun.ret (r := some (.int (m96.1 51 9))) dX9_writePair_103
  · exact True.intro
set_option maxRecDepth 100000 in
set_option maxHeartbeats 4000000 in
theorem E_X8_writeTrain_L37 {G : oG} {x1 : Int32} {r : Option Value} {m' : oM} : ∀ (n : Nat) (x2 : Int32) (m : oM) (b : oM), oLoop (fun s : Int32 × oM => F_X8_writeTrain_L37 x1 s.1 s.2) n (x2, m) = some b → oRun G M_X8_writeTrain 80 [(0, .ref 0)] [] b r m' → oRun G M_X8_writeTrain 37 [(0, .ref 0), (1, .int x1), (2, .int x2)] [] m r m' := by
  intro n
  induction n with
  | zero => intro x2 m b h _; exact (oLoop_zero h).elim
  | succ n ih =>
    intro x2 m b h he
    obtain ⟨q', hq', h⟩ := oLoop_succ h
    have hc : ∀ s' : Int32 × oM, q' = .inl s' → oRun G M_X8_writeTrain 37 [(0, .ref 0), (1, .int x1), (2, .int s'.1)] [] s'.2 r m' := by
      rintro s' rfl
      exact ih (s'.1) (s'.2) b h he
    have hx : ∀ b' : oM, q' = .inr b' → oRun G M_X8_writeTrain 80 [(0, .ref 0)] [] b' r m' := by
      rintro b' rfl
      have h : b' = b := h
      rw [h]
      exact he
    clear h he ih
    have h := hq'
    clear hq'
    replace h : F_X8_writeTrain_L37 x1 x2 m = some q' := h
    unfold F_X8_writeTrain_L37 at h
    refine oRun.iload_n 38 dX8_writeTrain_37 2 rfl rfl rfl ?_
    refine oRun.aload_n 39 dX8_writeTrain_38 0 rfl rfl (Nat.le_of_ble_eq_true rfl) rfl ?_
    refine oRun.getR 42 dX8_writeTrain_39 fd_RX8_12 rfl rfl (Nat.le_of_ble_eq_true rfl) rfl ?_
    refine oRun.getR 45 dX8_writeTrain_42 fd_RX8_170 rfl rfl (Nat.le_of_ble_eq_true rfl) rfl ?_
    refine oRun.iload_n 46 dX8_writeTrain_45 1 rfl rfl rfl ?_
    obtain ⟨r46, hr46, h⟩ := oB1 h
    refine oRun.callV (as := [.int x1]) 49 dX8_writeTrain_46 lk_RX8_195 (oFit_i (Nat.le_of_ble_eq_true rfl) (Nat.le_of_ble_eq_true rfl)) rfl rfl rfl rfl (Nat.le_of_ble_eq_true rfl) (Nat.le_of_ble_eq_true rfl) rfl (E_X7_length rfl hr46) rfl ?_
    show oRun G _ 49 _ [.int r46, .int x2] _ _ _
    by_cases c49 : r46 ≤ x2
    · replace h := oIp c49 h
      refine oRun.icmp_ge_t 80 dX8_writeTrain_49 c49 rfl ?_
      cases h
      refine oRun.sub [0] rfl ?_
      exact hx _ rfl
    · replace h := oIn c49 h
      refine oRun.icmp_ge_f 52 dX8_writeTrain_49 rfl c49 rfl ?_
      refine oRun.aload_n 53 dX8_writeTrain_52 0 rfl rfl (Nat.le_of_ble_eq_true rfl) rfl ?_
      refine oRun.getR 56 dX8_writeTrain_53 fd_RX8_38 rfl rfl (Nat.le_of_ble_eq_true rfl) rfl ?_
      refine oRun.bipush 58 dX8_writeTrain_56 oc_b97 rfl ?_
      refine oRun.aload_n 59 dX8_writeTrain_58 0 rfl rfl (Nat.le_of_ble_eq_true rfl) rfl ?_
      refine oRun.getR 62 dX8_writeTrain_59 fd_RX8_12 rfl rfl (Nat.le_of_ble_eq_true rfl) rfl ?_
      refine oRun.getR 65 dX8_writeTrain_62 fd_RX8_170 rfl rfl (Nat.le_of_ble_eq_true rfl) rfl ?_
      refine oRun.iload_n 66 dX8_writeTrain_65 1 rfl rfl rfl ?_
      refine oRun.iload_n 67 dX8_writeTrain_66 2 rfl rfl rfl ?_
      obtain ⟨r67, hr67, h⟩ := oB1 h
      refine oRun.callV (as := [.int x1, .int x2]) 70 dX8_writeTrain_67 lk_RX8_203 (oFit_i (Nat.le_of_ble_eq_true rfl) (Nat.le_of_ble_eq_true rfl)) rfl rfl rfl rfl (Nat.le_of_ble_eq_true rfl) (Nat.le_of_ble_eq_true rfl) rfl (E_X7_pairAt rfl hr67) rfl ?_
      show oRun G _ 70 _ [.int r67, .int 97, .ref 45] _ _ _
      refine oRun.iadd 71 dX8_writeTrain_70 rfl ?_
      obtain ⟨r71, hr71, h⟩ := oB1 h
      refine oRun.callV (as := [.int (97 + r67)]) 74 dX8_writeTrain_71 lk_RX8_309 (oFit_i (Nat.le_of_ble_eq_true rfl) (Nat.le_of_ble_eq_true rfl)) rfl rfl rfl rfl (Nat.le_of_ble_eq_true rfl) (Nat.le_of_ble_eq_true rfl) rfl (E_X5_add hr71) rfl ?_
      show oRun G _ 74 _ [] _ _ _
      refine oRun.iinc 77 dX8_writeTrain_74 2 rfl (oAddC oc_i1) (Nat.le_of_ble_eq_true rfl) rfl rfl ?_
      refine oRun.goto 37 dX8_writeTrain_77 rfl ?_
      cases h
      refine oRun.sub [1, 2, 0] rfl ?_
      exact hc _ rfl
set_option maxRecDepth 100000 in
set_option maxHeartbeats 4000000 in
theorem E_X8_writeTrain {G : oG} {m : oM} {x1 : Int32} {w : Int32 × oM} (h : F_X8_writeTrain m x1 = some w) : oEv G M_X8_writeTrain [.ref 0, .int x1] m (some (.int w.1)) w.2 := by
  unfold F_X8_writeTrain at h
  refine ⟨?_, ?_⟩
  · show oRun G M_X8_writeTrain 0 [(0, .ref 0), (1, .int x1)] [] m (some (.int w.1)) w.2
    refine oRun.aload_n 1 dX8_writeTrain_0 0 rfl rfl (Nat.le_of_ble_eq_true rfl) rfl ?_
    refine oRun.getR 4 dX8_writeTrain_1 fd_RX8_12 rfl rfl (Nat.le_of_ble_eq_true rfl) rfl ?_
    refine oRun.iload_n 5 dX8_writeTrain_4 1 rfl rfl rfl ?_
    obtain ⟨r5, hr5, h⟩ := oB1 h
    refine oRun.callV (as := [.int x1]) 8 dX8_writeTrain_5 lk_RX8_68 (oFit_i (Nat.le_of_ble_eq_true rfl) (Nat.le_of_ble_eq_true rfl)) rfl rfl rfl rfl (Nat.le_of_ble_eq_true rfl) (Nat.le_of_ble_eq_true rfl) rfl (E_X1_hasBody rfl hr5) rfl ?_
    show oRun G _ 8 _ [.int r5] _ _ _
    by_cases c8 : r5 = 0
    · replace h := oIp c8 h
      refine oRun.if_ne_f 11 dX8_writeTrain_8 rfl c8 rfl ?_
      refine oRun.iconst 12 dX8_writeTrain_11 oc_im1 rfl ?_
      rw [← Option.some.inj h]
      exact oRun.ret (r := some (.int (-1))) dX8_writeTrain_12
    · replace h := oIn c8 h
      refine oRun.if_ne_t 13 dX8_writeTrain_8 c8 rfl ?_
      refine oRun.aload_n 14 dX8_writeTrain_13 0 rfl rfl (Nat.le_of_ble_eq_true rfl) rfl ?_
      refine oRun.getR 17 dX8_writeTrain_14 fd_RX8_12 rfl rfl (Nat.le_of_ble_eq_true rfl) rfl ?_
      refine oRun.iload_n 18 dX8_writeTrain_17 1 rfl rfl rfl ?_
      obtain ⟨r18, hr18, h⟩ := oB1 h
      refine oRun.callV (as := [.int x1]) 21 dX8_writeTrain_18 lk_RX8_192 (oFit_i (Nat.le_of_ble_eq_true rfl) (Nat.le_of_ble_eq_true rfl)) rfl rfl rfl rfl (Nat.le_of_ble_eq_true rfl) (Nat.le_of_ble_eq_true rfl) rfl (E_X1_hasTrain rfl hr18) rfl ?_
      show oRun G _ 21 _ [.int r18] _ _ _
      by_cases c21 : r18 = 0
      · replace h := oIp c21 h
        refine oRun.if_ne_f 24 dX8_writeTrain_21 rfl c21 rfl ?_
        refine oRun.bipush 26 dX8_writeTrain_24 oc_bm3 rfl ?_
        rw [← Option.some.inj h]
        exact oRun.ret (r := some (.int (-3))) dX8_writeTrain_26
      · replace h := oIn c21 h
        refine oRun.if_ne_t 27 dX8_writeTrain_21 c21 rfl ?_
        refine oRun.aload_n 28 dX8_writeTrain_27 0 rfl rfl (Nat.le_of_ble_eq_true rfl) rfl ?_
        refine oRun.getR 31 dX8_writeTrain_28 fd_RX8_38 rfl rfl (Nat.le_of_ble_eq_true rfl) rfl ?_
        refine oRun.iconst 32 dX8_writeTrain_31 oc_i0 rfl ?_
        obtain ⟨m32, hm32, h⟩ := oB1 h
        refine oRun.putI 35 dX8_writeTrain_32 fp_RX8_305 rfl rfl rfl ?_
        refine oRun.nameM hm32 ?_
        refine oRun.iconst 36 dX8_writeTrain_35 oc_i0 rfl ?_
        refine oRun.istore_n 37 dX8_writeTrain_36 rfl (Nat.le_of_ble_eq_true rfl) rfl rfl ?_
        obtain ⟨b37, hb37, h⟩ := oB1 h
        refine oRun.sub [1, 2, 0] rfl ?_
        refine E_X8_writeTrain_L37 _ _ _ _ hb37 ?_
        refine oRun.aload_n 81 dX8_writeTrain_80 0 rfl rfl (Nat.le_of_ble_eq_true rfl) rfl ?_
        refine oRun.getR 84 dX8_writeTrain_81 fd_RX8_38 rfl rfl (Nat.le_of_ble_eq_true rfl) rfl ?_
        refine oRun.getI 87 dX8_writeTrain_84 fd_RX8_305 rfl rfl rfl ?_
        rw [← Option.some.inj h]
        exact oRun.ret (r := some (.int (b37.1 45 0))) dX8_writeTrain_87
  · exact True.intro
set_option maxRecDepth 100000 in
set_option maxHeartbeats 4000000 in
theorem E_X9_writeTrain_L36 {G : oG} {x1 : Int32} {r : Option Value} {m' : oM} : ∀ (n : Nat) (x2 : Int32) (m : oM) (b : oM), oLoop (fun s : Int32 × oM => F_X9_writeTrain_L36 x1 s.1 s.2) n (x2, m) = some b → oRun G M_X9_writeTrain 65 [(0, .ref 51)] [] b r m' → oRun G M_X9_writeTrain 36 [(0, .ref 51), (1, .int x1), (2, .int x2)] [] m r m' := by
  intro n
  induction n with
  | zero => intro x2 m b h _; exact (oLoop_zero h).elim
  | succ n ih =>
    intro x2 m b h he
    obtain ⟨q', hq', h⟩ := oLoop_succ h
    have hc : ∀ s' : Int32 × oM, q' = .inl s' → oRun G M_X9_writeTrain 36 [(0, .ref 51), (1, .int x1), (2, .int s'.1)] [] s'.2 r m' := by
      rintro s' rfl
      exact ih (s'.1) (s'.2) b h he
    have hx : ∀ b' : oM, q' = .inr b' → oRun G M_X9_writeTrain 65 [(0, .ref 51)] [] b' r m' := by
      rintro b' rfl
      have h : b' = b := h
      rw [h]
      exact he
    clear h he ih
    have h := hq'
    clear hq'
    replace h : F_X9_writeTrain_L36 x1 x2 m = some q' := h
    unfold F_X9_writeTrain_L36 at h
    refine oRun.iload_n 37 dX9_writeTrain_36 2 rfl rfl rfl ?_
    refine oRun.aload_n 38 dX9_writeTrain_37 0 rfl rfl (Nat.le_of_ble_eq_true rfl) rfl ?_
    refine oRun.getI 41 dX9_writeTrain_38 fd_RX9_262 rfl rfl rfl ?_
    by_cases c41 : (m.1 51 9) ≤ x2
    · replace h := oIp c41 h
      refine oRun.icmp_ge_t 65 dX9_writeTrain_41 c41 rfl ?_
      cases h
      refine oRun.sub [0] rfl ?_
      exact hx _ rfl
    · replace h := oIn c41 h
      refine oRun.icmp_ge_f 44 dX9_writeTrain_41 rfl c41 rfl ?_
      refine oRun.aload_n 45 dX9_writeTrain_44 0 rfl rfl (Nat.le_of_ble_eq_true rfl) rfl ?_
      refine oRun.getR 48 dX9_writeTrain_45 fd_RX9_24 rfl rfl (Nat.le_of_ble_eq_true rfl) rfl ?_
      refine oRun.iload_n 49 dX9_writeTrain_48 2 rfl rfl rfl ?_
      refine oRun.bipush 51 dX9_writeTrain_49 oc_b97 rfl ?_
      refine oRun.aload_n 52 dX9_writeTrain_51 0 rfl rfl (Nat.le_of_ble_eq_true rfl) rfl ?_
      refine oRun.iload_n 53 dX9_writeTrain_52 1 rfl rfl rfl ?_
      refine oRun.iload_n 54 dX9_writeTrain_53 2 rfl rfl rfl ?_
      obtain ⟨r54, hr54, h⟩ := oB1 h
      refine oRun.callV (as := [.int x1, .int x2]) 57 dX9_writeTrain_54 lk_RX9_86 (oFit_i (Nat.le_of_ble_eq_true rfl) (Nat.le_of_ble_eq_true rfl)) rfl rfl rfl rfl (Nat.le_of_ble_eq_true rfl) (Nat.le_of_ble_eq_true rfl) rfl (E_X9_pairAt hr54) rfl ?_
      show oRun G _ 57 _ [.int r54, .int 97, .int x2, .ref 56] _ _ _
      refine oRun.iadd 58 dX9_writeTrain_57 rfl ?_
      obtain ⟨m58, hm58, h⟩ := oB1 h
      refine oRun.iastore 59 dX9_writeTrain_58 rfl hm58 rfl ?_
      refine oRun.iinc 62 dX9_writeTrain_59 2 rfl (oAddC oc_i1) (Nat.le_of_ble_eq_true rfl) rfl rfl ?_
      refine oRun.goto 36 dX9_writeTrain_62 rfl ?_
      cases h
      refine oRun.sub [1, 2, 0] rfl ?_
      exact hc _ rfl
set_option maxRecDepth 100000 in
set_option maxHeartbeats 4000000 in
theorem E_X9_writeTrain {G : oG} {m : oM} {x1 : Int32} {w : Int32 × oM} (h : F_X9_writeTrain m x1 = some w) : oEv G M_X9_writeTrain [.ref 51, .int x1] m (some (.int w.1)) w.2 := by
  unfold F_X9_writeTrain at h
  refine ⟨?_, ?_⟩
  · show oRun G M_X9_writeTrain 0 [(0, .ref 51), (1, .int x1)] [] m (some (.int w.1)) w.2
    refine oRun.aload_n 1 dX9_writeTrain_0 0 rfl rfl (Nat.le_of_ble_eq_true rfl) rfl ?_
    refine oRun.iload_n 2 dX9_writeTrain_1 1 rfl rfl rfl ?_
    obtain ⟨r2, hr2, h⟩ := oB1 h
    refine oRun.callV (as := [.int x1]) 5 dX9_writeTrain_2 lk_RX9_62 (oFit_i (Nat.le_of_ble_eq_true rfl) (Nat.le_of_ble_eq_true rfl)) rfl rfl rfl rfl (Nat.le_of_ble_eq_true rfl) (Nat.le_of_ble_eq_true rfl) rfl (E_X9_isBody hr2) rfl ?_
    show oRun G _ 5 _ [.int r2] _ _ _
    by_cases c5 : r2 = 0
    · replace h := oIp c5 h
      refine oRun.if_ne_f 8 dX9_writeTrain_5 rfl c5 rfl ?_
      refine oRun.iconst 9 dX9_writeTrain_8 oc_im1 rfl ?_
      rw [← Option.some.inj h]
      exact oRun.ret (r := some (.int (-1))) dX9_writeTrain_9
    · replace h := oIn c5 h
      refine oRun.if_ne_t 10 dX9_writeTrain_5 c5 rfl ?_
      refine oRun.aload_n 11 dX9_writeTrain_10 0 rfl rfl (Nat.le_of_ble_eq_true rfl) rfl ?_
      refine oRun.iload_n 12 dX9_writeTrain_11 1 rfl rfl rfl ?_
      obtain ⟨r12, hr12, h⟩ := oB1 h
      refine oRun.callV (as := [.int x1]) 15 dX9_writeTrain_12 lk_RX9_154 (oFit_i (Nat.le_of_ble_eq_true rfl) (Nat.le_of_ble_eq_true rfl)) rfl rfl rfl rfl (Nat.le_of_ble_eq_true rfl) (Nat.le_of_ble_eq_true rfl) rfl (E_X9_hasTrain hr12) rfl ?_
      show oRun G _ 15 _ [.int r12] _ _ _
      by_cases c15 : r12 = 0
      · replace h := oIp c15 h
        refine oRun.if_ne_f 18 dX9_writeTrain_15 rfl c15 rfl ?_
        refine oRun.bipush 20 dX9_writeTrain_18 oc_bm3 rfl ?_
        rw [← Option.some.inj h]
        exact oRun.ret (r := some (.int (-3))) dX9_writeTrain_20
      · replace h := oIn c15 h
        refine oRun.if_ne_t 21 dX9_writeTrain_15 c15 rfl ?_
        refine oRun.aload_n 22 dX9_writeTrain_21 0 rfl rfl (Nat.le_of_ble_eq_true rfl) rfl ?_
        refine oRun.aload_n 23 dX9_writeTrain_22 0 rfl rfl (Nat.le_of_ble_eq_true rfl) rfl ?_
        refine oRun.getR 26 dX9_writeTrain_23 fd_RX9_11 rfl rfl (Nat.le_of_ble_eq_true rfl) rfl ?_
        refine oRun.bipush 28 dX9_writeTrain_26 oc_b19 rfl ?_
        refine oRun.iload_n 29 dX9_writeTrain_28 1 rfl rfl rfl ?_
        refine oRun.iadd 30 dX9_writeTrain_29 rfl ?_
        obtain ⟨v30, hv30, h⟩ := oB1 h
        refine oRun.iaload 31 dX9_writeTrain_30 (Or.inr ⟨_, rfl⟩) hv30 rfl ?_
        obtain ⟨m31, hm31, h⟩ := oB1 h
        refine oRun.putI 34 dX9_writeTrain_31 fp_RX9_262 rfl rfl rfl ?_
        refine oRun.nameM hm31 ?_
        refine oRun.iconst 35 dX9_writeTrain_34 oc_i0 rfl ?_
        refine oRun.istore_n 36 dX9_writeTrain_35 rfl (Nat.le_of_ble_eq_true rfl) rfl rfl ?_
        obtain ⟨b36, hb36, h⟩ := oB1 h
        refine oRun.sub [1, 2, 0] rfl ?_
        refine E_X9_writeTrain_L36 _ _ _ _ hb36 ?_
        refine oRun.aload_n 66 dX9_writeTrain_65 0 rfl rfl (Nat.le_of_ble_eq_true rfl) rfl ?_
        refine oRun.getI 69 dX9_writeTrain_66 fd_RX9_262 rfl rfl rfl ?_
        rw [← Option.some.inj h]
        exact oRun.ret (r := some (.int (b36.1 51 9))) dX9_writeTrain_69
  · exact True.intro
set_option maxRecDepth 100000 in
set_option maxHeartbeats 4000000 in
theorem E_X8_paper {G : oG} {m : oM} {x1 : Int32} {w : Int32} (h : F_X8_paper m x1 = some w) : oEv G M_X8_paper [.ref 0, .int x1] m (some (.int w)) m := by
  unfold F_X8_paper at h
  refine ⟨?_, ?_⟩
  · show oRun G M_X8_paper 0 [(0, .ref 0), (1, .int x1)] [] m (some (.int w)) m
    refine oRun.iload_n 1 dX8_paper_0 1 rfl rfl rfl ?_
    by_cases c1 : x1 < 0
    · replace h := oIp c1 h
      refine oRun.if_lt_t 29 dX8_paper_1 c1 rfl ?_
      refine oRun.iconst 30 dX8_paper_29 oc_im1 rfl ?_
      rw [← Option.some.inj h]
      exact oRun.ret (r := some (.int (-1))) dX8_paper_30
    · replace h := oIn c1 h
      refine oRun.if_lt_f 4 dX8_paper_1 rfl c1 rfl ?_
      refine oRun.iload_n 5 dX8_paper_4 1 rfl rfl rfl ?_
      refine oRun.aload_n 6 dX8_paper_5 0 rfl rfl (Nat.le_of_ble_eq_true rfl) rfl ?_
      refine oRun.getR 9 dX8_paper_6 fd_RX8_38 rfl rfl (Nat.le_of_ble_eq_true rfl) rfl ?_
      refine oRun.getI 12 dX8_paper_9 fd_RX8_305 rfl rfl rfl ?_
      by_cases c12 : (m.1 45 0) ≤ x1
      · replace h := oIp c12 h
        refine oRun.icmp_ge_t 29 dX8_paper_12 c12 rfl ?_
        refine oRun.iconst 30 dX8_paper_29 oc_im1 rfl ?_
        rw [← Option.some.inj h]
        exact oRun.ret (r := some (.int (-1))) dX8_paper_30
      · replace h := oIn c12 h
        refine oRun.icmp_ge_f 15 dX8_paper_12 rfl c12 rfl ?_
        refine oRun.aload_n 16 dX8_paper_15 0 rfl rfl (Nat.le_of_ble_eq_true rfl) rfl ?_
        refine oRun.getR 19 dX8_paper_16 fd_RX8_38 rfl rfl (Nat.le_of_ble_eq_true rfl) rfl ?_
        refine oRun.getR 22 dX8_paper_19 fd_RX8_314 rfl rfl (Nat.le_of_ble_eq_true rfl) rfl ?_
        refine oRun.iload_n 23 dX8_paper_22 1 rfl rfl rfl ?_
        obtain ⟨r23, hr23, h⟩ := oB1 h
        refine oRun.callS (as := [.ref 46, .int x1]) 26 dX8_paper_23 lk_RX8_76 (oFit_i (Nat.le_of_ble_eq_true rfl) (Nat.le_of_ble_eq_true rfl)) rfl (Nat.le_of_ble_eq_true rfl) (Nat.le_of_ble_eq_true rfl) rfl (E_X8_at (Or.inr ⟨_, rfl⟩) hr23) rfl ?_
        show oRun G _ 26 _ [.int r23] _ _ _
        refine oRun.goto 30 dX8_paper_26 rfl ?_
        rw [← Option.some.inj h]
        exact oRun.ret (r := some (.int r23)) dX8_paper_30
  · exact True.intro
set_option maxRecDepth 100000 in
set_option maxHeartbeats 4000000 in
theorem E_X9_paper {G : oG} {m : oM} {x1 : Int32} {w : Int32} (h : F_X9_paper m x1 = some w) : oEv G M_X9_paper [.ref 51, .int x1] m (some (.int w)) m := by
  unfold F_X9_paper at h
  refine ⟨?_, ?_⟩
  · show oRun G M_X9_paper 0 [(0, .ref 51), (1, .int x1)] [] m (some (.int w)) m
    refine oRun.iload_n 1 dX9_paper_0 1 rfl rfl rfl ?_
    refine oRun.i2l 2 dX9_paper_1 rfl ?_
    refine oRun.lconst 3 dX9_paper_2 oc_l0 rfl ?_
    refine oRun.aload_n 4 dX9_paper_3 0 rfl rfl (Nat.le_of_ble_eq_true rfl) rfl ?_
    refine oRun.getI 7 dX9_paper_4 fd_RX9_262 rfl rfl rfl ?_
    refine oRun.iconst 8 dX9_paper_7 oc_i1 rfl ?_
    refine oRun.isub 9 dX9_paper_8 rfl ?_
    refine oRun.i2l 10 dX9_paper_9 rfl ?_
    obtain ⟨r10, hr10, h⟩ := oB1 h
    refine oRun.callS (as := [.long x1.toInt64, .long 0, .long (((m.1 51 9) - 1)).toInt64]) 13 dX9_paper_10 lk_RX9_44 (oFit_i (Nat.le_of_ble_eq_true rfl) (Nat.le_of_ble_eq_true rfl)) rfl (Nat.le_of_ble_eq_true rfl) (Nat.le_of_ble_eq_true rfl) rfl (E_X9_isIn hr10) rfl ?_
    show oRun G _ 13 _ [.int r10] _ _ _
    by_cases c13 : r10 = 0
    · replace h := oIp c13 h
      refine oRun.if_eq_t 25 dX9_paper_13 c13 rfl ?_
      refine oRun.iconst 26 dX9_paper_25 oc_im1 rfl ?_
      rw [← Option.some.inj h]
      exact oRun.ret (r := some (.int (-1))) dX9_paper_26
    · replace h := oIn c13 h
      refine oRun.if_eq_f 16 dX9_paper_13 rfl c13 rfl ?_
      refine oRun.aload_n 17 dX9_paper_16 0 rfl rfl (Nat.le_of_ble_eq_true rfl) rfl ?_
      refine oRun.getR 20 dX9_paper_17 fd_RX9_24 rfl rfl (Nat.le_of_ble_eq_true rfl) rfl ?_
      refine oRun.iload_n 21 dX9_paper_20 1 rfl rfl rfl ?_
      obtain ⟨v21, hv21, h⟩ := oB1 h
      refine oRun.iaload 22 dX9_paper_21 (Or.inr ⟨_, rfl⟩) hv21 rfl ?_
      refine oRun.goto 26 dX9_paper_22 rfl ?_
      rw [← Option.some.inj h]
      exact oRun.ret (r := some (.int v21)) dX9_paper_26
  · exact True.intro
set_option maxRecDepth 100000 in
set_option maxHeartbeats 4000000 in
theorem E_X4_has {G : oG} {m : oM} {x1 : Int32} {w : Int32} (h : F_X4_has x1 = some w) : oEv G M_X4_has [.ref 47, .int x1] m (some (.int w)) m := by
  unfold F_X4_has at h
  refine ⟨?_, ?_⟩
  · show oRun G M_X4_has 0 [(0, .ref 47), (1, .int x1)] [] m (some (.int w)) m
    refine oRun.iload_n 1 dX4_has_0 1 rfl rfl rfl ?_
    by_cases c1 : x1 < 0
    · replace h := oIp c1 h
      refine oRun.if_lt_t 13 dX4_has_1 c1 rfl ?_
      refine oRun.iconst 14 dX4_has_13 oc_i0 rfl ?_
      rw [← Option.some.inj h]
      exact oRun.ret (r := some (.int 0)) dX4_has_14
    · replace h := oIn c1 h
      refine oRun.if_lt_f 4 dX4_has_1 rfl c1 rfl ?_
      refine oRun.iload_n 5 dX4_has_4 1 rfl rfl rfl ?_
      refine oRun.iconst 6 dX4_has_5 oc_i4 rfl ?_
      by_cases c6 : 4 ≤ x1
      · replace h := oIp c6 h
        refine oRun.icmp_ge_t 13 dX4_has_6 c6 rfl ?_
        refine oRun.iconst 14 dX4_has_13 oc_i0 rfl ?_
        rw [← Option.some.inj h]
        exact oRun.ret (r := some (.int 0)) dX4_has_14
      · replace h := oIn c6 h
        refine oRun.icmp_ge_f 9 dX4_has_6 rfl c6 rfl ?_
        refine oRun.iconst 10 dX4_has_9 oc_i1 rfl ?_
        refine oRun.goto 14 dX4_has_10 rfl ?_
        rw [← Option.some.inj h]
        exact oRun.ret (r := some (.int 1)) dX4_has_14
  · show oROK (some .boolean) (some (.int w))
    by_cases c1 : x1 < 0
    · replace h := oIp c1 h
      rw [← Option.some.inj h]
      exact Or.inl rfl
    · replace h := oIn c1 h
      by_cases c6 : 4 ≤ x1
      · replace h := oIp c6 h
        rw [← Option.some.inj h]
        exact Or.inl rfl
      · replace h := oIn c6 h
        rw [← Option.some.inj h]
        exact Or.inr rfl
set_option maxRecDepth 100000 in
set_option maxHeartbeats 4000000 in
theorem E_X4_isHeld {G : oG} {m : oM} {x1 : Int32} {w : Int32} (h : F_X4_isHeld m x1 = some w) : oEv G M_X4_isHeld [.ref 47, .int x1] m (some (.int w)) m := by
  unfold F_X4_isHeld at h
  refine ⟨?_, ?_⟩
  · show oRun G M_X4_isHeld 0 [(0, .ref 47), (1, .int x1)] [] m (some (.int w)) m
    refine oRun.aload_n 1 dX4_isHeld_0 0 rfl rfl (Nat.le_of_ble_eq_true rfl) rfl ?_
    refine oRun.getR 4 dX4_isHeld_1 fd_RX4_9 rfl rfl (Nat.le_of_ble_eq_true rfl) rfl ?_
    refine oRun.iload_n 5 dX4_isHeld_4 1 rfl rfl rfl ?_
    obtain ⟨r5, hr5, h⟩ := oB1 h
    refine oRun.callN (as := [.ref 48, .int x1]) 8 dX4_isHeld_5 lk_RX4_19 (oFit_i (Nat.le_of_ble_eq_true rfl) (Nat.le_of_ble_eq_true rfl)) rfl (Nat.le_of_ble_eq_true rfl) (Nat.le_of_ble_eq_true rfl) rfl (E_X8_at (Or.inr ⟨_, rfl⟩) hr5) rfl ?_
    show oRun G _ 8 _ [.int r5] _ _ _
    by_cases c8 : r5 ≤ 0
    · replace h := oIp c8 h
      refine oRun.if_le_t 15 dX4_isHeld_8 c8 rfl ?_
      refine oRun.iconst 16 dX4_isHeld_15 oc_i0 rfl ?_
      rw [← Option.some.inj h]
      exact oRun.ret (r := some (.int 0)) dX4_isHeld_16
    · replace h := oIn c8 h
      refine oRun.if_le_f 11 dX4_isHeld_8 rfl c8 rfl ?_
      refine oRun.iconst 12 dX4_isHeld_11 oc_i1 rfl ?_
      refine oRun.goto 16 dX4_isHeld_12 rfl ?_
      rw [← Option.some.inj h]
      exact oRun.ret (r := some (.int 1)) dX4_isHeld_16
  · show oROK (some .boolean) (some (.int w))
    obtain ⟨r5, hr5, h⟩ := oB1 h
    by_cases c8 : r5 ≤ 0
    · replace h := oIp c8 h
      rw [← Option.some.inj h]
      exact Or.inl rfl
    · replace h := oIn c8 h
      rw [← Option.some.inj h]
      exact Or.inr rfl
set_option maxRecDepth 100000 in
set_option maxHeartbeats 4000000 in
theorem E_X4_size {G : oG} {m : oM} {x1 : Int32} {w : Int32} (h : F_X4_size m x1 = some w) : oEv G M_X4_size [.ref 47, .int x1] m (some (.int w)) m := by
  unfold F_X4_size at h
  refine ⟨?_, ?_⟩
  · show oRun G M_X4_size 0 [(0, .ref 47), (1, .int x1)] [] m (some (.int w)) m
    refine oRun.aload_n 1 dX4_size_0 0 rfl rfl (Nat.le_of_ble_eq_true rfl) rfl ?_
    refine oRun.iload_n 2 dX4_size_1 1 rfl rfl rfl ?_
    obtain ⟨r2, hr2, h⟩ := oB1 h
    refine oRun.callV (as := [.int x1]) 5 dX4_size_2 lk_RX4_23 (oFit_i (Nat.le_of_ble_eq_true rfl) (Nat.le_of_ble_eq_true rfl)) rfl rfl rfl rfl (Nat.le_of_ble_eq_true rfl) (Nat.le_of_ble_eq_true rfl) rfl (E_X4_isHeld hr2) rfl ?_
    show oRun G _ 5 _ [.int r2] _ _ _
    by_cases c5 : r2 = 0
    · replace h := oIp c5 h
      refine oRun.if_eq_t 21 dX4_size_5 c5 rfl ?_
      refine oRun.iconst 22 dX4_size_21 oc_i0 rfl ?_
      rw [← Option.some.inj h]
      exact oRun.ret (r := some (.int 0)) dX4_size_22
    · replace h := oIn c5 h
      refine oRun.if_eq_f 8 dX4_size_5 rfl c5 rfl ?_
      refine oRun.aload_n 9 dX4_size_8 0 rfl rfl (Nat.le_of_ble_eq_true rfl) rfl ?_
      refine oRun.getR 12 dX4_size_9 fd_RX4_9 rfl rfl (Nat.le_of_ble_eq_true rfl) rfl ?_
      refine oRun.iload_n 13 dX4_size_12 1 rfl rfl rfl ?_
      obtain ⟨r13, hr13, h⟩ := oB1 h
      refine oRun.callN (as := [.ref 48, .int x1]) 16 dX4_size_13 lk_RX4_19 (oFit_i (Nat.le_of_ble_eq_true rfl) (Nat.le_of_ble_eq_true rfl)) rfl (Nat.le_of_ble_eq_true rfl) (Nat.le_of_ble_eq_true rfl) rfl (E_X8_at (Or.inr ⟨_, rfl⟩) hr13) rfl ?_
      show oRun G _ 16 _ [.int r13] _ _ _
      refine oRun.iconst 17 dX4_size_16 oc_i1 rfl ?_
      refine oRun.isub 18 dX4_size_17 rfl ?_
      refine oRun.goto 22 dX4_size_18 rfl ?_
      rw [← Option.some.inj h]
      exact oRun.ret (r := some (.int (r13 - 1))) dX4_size_22
  · exact True.intro
set_option maxRecDepth 100000 in
set_option maxHeartbeats 4000000 in
theorem E_X4_cell {G : oG} {m : oM} {x1 : Int32} {x2 : Int32} {w : Int64} (h : F_X4_cell m x1 x2 = some w) : oEv G M_X4_cell [.ref 47, .int x1, .int x2] m (some (.long w)) m := by
  unfold F_X4_cell at h
  refine ⟨?_, ?_⟩
  · show oRun G M_X4_cell 0 [(0, .ref 47), (1, .int x1), (2, .int x2)] [] m (some (.long w)) m
    refine oRun.iload_n 1 dX4_cell_0 1 rfl rfl rfl ?_
    refine oRun.bipush 3 dX4_cell_1 oc_b12 rfl ?_
    refine oRun.imul 4 dX4_cell_3 rfl ?_
    refine oRun.iload_n 5 dX4_cell_4 2 rfl rfl rfl ?_
    refine oRun.iadd 6 dX4_cell_5 rfl ?_
    obtain ⟨x3_6, hx3_6, h⟩ := oB1 h
    refine oRun.nameI hx3_6 ?_
    refine oRun.istore_n 7 dX4_cell_6 rfl (Nat.le_of_ble_eq_true rfl) rfl rfl ?_
    refine oRun.iload_n 8 dX4_cell_7 0 rfl rfl rfl ?_
    by_cases c8 : x3_6 < 0
    · replace h := oIp c8 h
      refine oRun.if_lt_t 29 dX4_cell_8 c8 rfl ?_
      refine oRun.lconst 30 dX4_cell_29 oc_l0 rfl ?_
      rw [← Option.some.inj h]
      exact oRun.ret (r := some (.long 0)) dX4_cell_30
    · replace h := oIn c8 h
      refine oRun.if_lt_f 11 dX4_cell_8 rfl c8 rfl ?_
      refine oRun.iload_n 12 dX4_cell_11 0 rfl rfl rfl ?_
      refine oRun.aload_n 13 dX4_cell_12 1 rfl rfl (Nat.le_of_ble_eq_true rfl) rfl ?_
      refine oRun.getR 16 dX4_cell_13 fd_RX4_15 rfl rfl (Nat.le_of_ble_eq_true rfl) rfl ?_
      refine oRun.alen (v := 48) 17 dX4_cell_16 rfl (Nat.le_of_ble_eq_true rfl) (Or.inr rfl) rfl rfl ?_
      by_cases c17 : 48 ≤ x3_6
      · replace h := oIp c17 h
        refine oRun.icmp_ge_t 29 dX4_cell_17 c17 rfl ?_
        refine oRun.lconst 30 dX4_cell_29 oc_l0 rfl ?_
        rw [← Option.some.inj h]
        exact oRun.ret (r := some (.long 0)) dX4_cell_30
      · replace h := oIn c17 h
        refine oRun.icmp_ge_f 20 dX4_cell_17 rfl c17 rfl ?_
        refine oRun.aload_n 21 dX4_cell_20 1 rfl rfl (Nat.le_of_ble_eq_true rfl) rfl ?_
        refine oRun.getR 24 dX4_cell_21 fd_RX4_15 rfl rfl (Nat.le_of_ble_eq_true rfl) rfl ?_
        refine oRun.iload_n 25 dX4_cell_24 0 rfl rfl rfl ?_
        obtain ⟨v25, hv25, h⟩ := oB1 h
        refine oRun.laload 26 dX4_cell_25 rfl hv25 rfl ?_
        refine oRun.goto 30 dX4_cell_26 rfl ?_
        rw [← Option.some.inj h]
        exact oRun.ret (r := some (.long v25)) dX4_cell_30
  · exact True.intro
set_option maxRecDepth 100000 in
set_option maxHeartbeats 4000000 in
theorem E_X8_judge_L29 {G : oG} {m : oM} {x1 : Int32} {r : Option Value} {m' : oM} : ∀ (n : Nat) (x2 : Int32) (b : (Unit) ⊕ (Int32)), oLoop (fun s : Int32 => F_X8_judge_L29 m x1 s) n x2 = some b → Sum.elim (fun yy => oRun G M_X8_judge 87 [] [] m r m') (fun zz => r = (some (.int zz)) ∧ m' = m) b → oRun G M_X8_judge 29 [(0, .ref 0), (1, .int x1), (2, .int x2)] [] m r m' := by
  intro n
  induction n with
  | zero => intro x2 b h _; exact (oLoop_zero h).elim
  | succ n ih =>
    intro x2 b h he
    obtain ⟨q', hq', h⟩ := oLoop_succ h
    have hc : ∀ s' : Int32, q' = .inl s' → oRun G M_X8_judge 29 [(0, .ref 0), (1, .int x1), (2, .int s')] [] m r m' := by
      rintro s' rfl
      exact ih (s') b h he
    have hx : ∀ b' : (Unit) ⊕ (Int32), q' = .inr b' → Sum.elim (fun yy => oRun G M_X8_judge 87 [] [] m r m') (fun zz => r = (some (.int zz)) ∧ m' = m) b' := by
      rintro b' rfl
      have h : b' = b := h
      rw [h]
      exact he
    clear h he ih
    have h := hq'
    clear hq'
    replace h : F_X8_judge_L29 m x1 x2 = some q' := h
    unfold F_X8_judge_L29 at h
    refine oRun.iload_n 30 dX8_judge_29 2 rfl rfl rfl ?_
    refine oRun.aload_n 31 dX8_judge_30 0 rfl rfl (Nat.le_of_ble_eq_true rfl) rfl ?_
    refine oRun.getR 34 dX8_judge_31 fd_RX8_45 rfl rfl (Nat.le_of_ble_eq_true rfl) rfl ?_
    refine oRun.iload_n 35 dX8_judge_34 1 rfl rfl rfl ?_
    obtain ⟨r35, hr35, h⟩ := oB1 h
    refine oRun.callV (as := [.int x1]) 38 dX8_judge_35 lk_RX8_319 (oFit_i (Nat.le_of_ble_eq_true rfl) (Nat.le_of_ble_eq_true rfl)) rfl rfl rfl rfl (Nat.le_of_ble_eq_true rfl) (Nat.le_of_ble_eq_true rfl) rfl (E_X4_size hr35) rfl ?_
    show oRun G _ 38 _ [.int r35, .int x2] _ _ _
    by_cases c38 : r35 ≤ x2
    · replace h := oIp c38 h
      refine oRun.icmp_ge_t 87 dX8_judge_38 c38 rfl ?_
      cases h
      refine oRun.sub [] rfl ?_
      exact hx _ rfl
    · replace h := oIn c38 h
      refine oRun.icmp_ge_f 41 dX8_judge_38 rfl c38 rfl ?_
      refine oRun.aload_n 42 dX8_judge_41 0 rfl rfl (Nat.le_of_ble_eq_true rfl) rfl ?_
      refine oRun.getR 45 dX8_judge_42 fd_RX8_12 rfl rfl (Nat.le_of_ble_eq_true rfl) rfl ?_
      refine oRun.iload_n 46 dX8_judge_45 2 rfl rfl rfl ?_
      obtain ⟨r46, hr46, h⟩ := oB1 h
      refine oRun.callV (as := [.int x2]) 49 dX8_judge_46 lk_RX8_192 (oFit_i (Nat.le_of_ble_eq_true rfl) (Nat.le_of_ble_eq_true rfl)) rfl rfl rfl rfl (Nat.le_of_ble_eq_true rfl) (Nat.le_of_ble_eq_true rfl) rfl (E_X1_hasTrain rfl hr46) rfl ?_
      show oRun G _ 49 _ [.int r46] _ _ _
      by_cases c49 : r46 = 0
      · replace h := oIp c49 h
        refine oRun.if_eq_t 63 dX8_judge_49 c49 rfl ?_
        refine oRun.lconst 64 dX8_judge_63 oc_l0 rfl ?_
        refine oRun.lstore_n 65 dX8_judge_64 rfl (Nat.le_of_ble_eq_true rfl) rfl rfl ?_
        refine oRun.aload_n 66 dX8_judge_65 1 rfl rfl (Nat.le_of_ble_eq_true rfl) rfl ?_
        refine oRun.getR 69 dX8_judge_66 fd_RX8_45 rfl rfl (Nat.le_of_ble_eq_true rfl) rfl ?_
        refine oRun.iload_n 70 dX8_judge_69 2 rfl rfl rfl ?_
        refine oRun.iload_n 71 dX8_judge_70 3 rfl rfl rfl ?_
        obtain ⟨r71, hr71, h⟩ := oB1 h
        refine oRun.callV (as := [.int x1, .int x2]) 74 dX8_judge_71 lk_RX8_321 (oFit_i (Nat.le_of_ble_eq_true rfl) (Nat.le_of_ble_eq_true rfl)) rfl rfl rfl rfl (Nat.le_of_ble_eq_true rfl) (Nat.le_of_ble_eq_true rfl) rfl (E_X4_cell hr71) rfl ?_
        show oRun G _ 74 _ [.long r71] _ _ _
        refine oRun.lload_n 75 dX8_judge_74 0 rfl rfl rfl ?_
        refine oRun.lcmp 76 dX8_judge_75 rfl ?_
        by_cases c76 : r71 = 0
        · replace h := oIp c76 h
          refine oRun.if_eq_t 81 dX8_judge_76 ((oLc_eq _ _).mpr c76) rfl ?_
          refine oRun.iinc 84 dX8_judge_81 3 rfl (oAddC oc_i1) (Nat.le_of_ble_eq_true rfl) rfl rfl ?_
          refine oRun.goto 29 dX8_judge_84 rfl ?_
          cases h
          refine oRun.sub [2, 3, 0] rfl ?_
          exact hc _ rfl
        · replace h := oIn c76 h
          refine oRun.if_eq_f 79 dX8_judge_76 rfl (mt (oLc_eq _ _).mp c76) rfl ?_
          refine oRun.iload_n 80 dX8_judge_79 3 rfl rfl rfl ?_
          cases h
          obtain ⟨hr1, hr2⟩ := hx _ rfl
          rw [hr1, hr2]
          exact oRun.ret (r := some (.int x2)) dX8_judge_80
      · replace h := oIn c49 h
        refine oRun.if_eq_f 52 dX8_judge_49 rfl c49 rfl ?_
        refine oRun.aload_n 53 dX8_judge_52 0 rfl rfl (Nat.le_of_ble_eq_true rfl) rfl ?_
        refine oRun.getR 56 dX8_judge_53 fd_RX8_12 rfl rfl (Nat.le_of_ble_eq_true rfl) rfl ?_
        refine oRun.iload_n 57 dX8_judge_56 2 rfl rfl rfl ?_
        obtain ⟨r57, hr57, h⟩ := oB1 h
        refine oRun.callV (as := [.int x2]) 60 dX8_judge_57 lk_RX8_270 (oFit_i (Nat.le_of_ble_eq_true rfl) (Nat.le_of_ble_eq_true rfl)) rfl rfl rfl rfl (Nat.le_of_ble_eq_true rfl) (Nat.le_of_ble_eq_true rfl) rfl (E_X1_standing rfl hr57) rfl ?_
        show oRun G _ 60 _ [.long r57] _ _ _
        refine oRun.goto 64 dX8_judge_60 rfl ?_
        refine oRun.lstore_n 65 dX8_judge_64 rfl (Nat.le_of_ble_eq_true rfl) rfl rfl ?_
        refine oRun.aload_n 66 dX8_judge_65 1 rfl rfl (Nat.le_of_ble_eq_true rfl) rfl ?_
        refine oRun.getR 69 dX8_judge_66 fd_RX8_45 rfl rfl (Nat.le_of_ble_eq_true rfl) rfl ?_
        refine oRun.iload_n 70 dX8_judge_69 2 rfl rfl rfl ?_
        refine oRun.iload_n 71 dX8_judge_70 3 rfl rfl rfl ?_
        obtain ⟨r71, hr71, h⟩ := oB1 h
        refine oRun.callV (as := [.int x1, .int x2]) 74 dX8_judge_71 lk_RX8_321 (oFit_i (Nat.le_of_ble_eq_true rfl) (Nat.le_of_ble_eq_true rfl)) rfl rfl rfl rfl (Nat.le_of_ble_eq_true rfl) (Nat.le_of_ble_eq_true rfl) rfl (E_X4_cell hr71) rfl ?_
        show oRun G _ 74 _ [.long r71] _ _ _
        refine oRun.lload_n 75 dX8_judge_74 0 rfl rfl rfl ?_
        refine oRun.lcmp 76 dX8_judge_75 rfl ?_
        by_cases c76 : r71 = r57
        · replace h := oIp c76 h
          refine oRun.if_eq_t 81 dX8_judge_76 ((oLc_eq _ _).mpr c76) rfl ?_
          refine oRun.iinc 84 dX8_judge_81 3 rfl (oAddC oc_i1) (Nat.le_of_ble_eq_true rfl) rfl rfl ?_
          refine oRun.goto 29 dX8_judge_84 rfl ?_
          cases h
          refine oRun.sub [2, 3, 0] rfl ?_
          exact hc _ rfl
        · replace h := oIn c76 h
          refine oRun.if_eq_f 79 dX8_judge_76 rfl (mt (oLc_eq _ _).mp c76) rfl ?_
          refine oRun.iload_n 80 dX8_judge_79 3 rfl rfl rfl ?_
          cases h
          obtain ⟨hr1, hr2⟩ := hx _ rfl
          rw [hr1, hr2]
          exact oRun.ret (r := some (.int x2)) dX8_judge_80
set_option maxRecDepth 100000 in
set_option maxHeartbeats 4000000 in
theorem E_X8_judge {G : oG} {m : oM} {x1 : Int32} {w : Int32} (h : F_X8_judge m x1 = some w) : oEv G M_X8_judge [.ref 0, .int x1] m (some (.int w)) m := by
  unfold F_X8_judge at h
  refine ⟨?_, ?_⟩
  · show oRun G M_X8_judge 0 [(0, .ref 0), (1, .int x1)] [] m (some (.int w)) m
    refine oRun.aload_n 1 dX8_judge_0 0 rfl rfl (Nat.le_of_ble_eq_true rfl) rfl ?_
    refine oRun.getR 4 dX8_judge_1 fd_RX8_45 rfl rfl (Nat.le_of_ble_eq_true rfl) rfl ?_
    refine oRun.iload_n 5 dX8_judge_4 1 rfl rfl rfl ?_
    obtain ⟨r5, hr5, h⟩ := oB1 h
    refine oRun.callV (as := [.int x1]) 8 dX8_judge_5 lk_RX8_315 (oFit_i (Nat.le_of_ble_eq_true rfl) (Nat.le_of_ble_eq_true rfl)) rfl rfl rfl rfl (Nat.le_of_ble_eq_true rfl) (Nat.le_of_ble_eq_true rfl) rfl (E_X4_has hr5) rfl ?_
    show oRun G _ 8 _ [.int r5] _ _ _
    by_cases c8 : r5 = 0
    · replace h := oIp c8 h
      refine oRun.if_ne_f 11 dX8_judge_8 rfl c8 rfl ?_
      refine oRun.iconst 12 dX8_judge_11 oc_im1 rfl ?_
      rw [← Option.some.inj h]
      exact oRun.ret (r := some (.int (-1))) dX8_judge_12
    · replace h := oIn c8 h
      refine oRun.if_ne_t 13 dX8_judge_8 c8 rfl ?_
      refine oRun.aload_n 14 dX8_judge_13 0 rfl rfl (Nat.le_of_ble_eq_true rfl) rfl ?_
      refine oRun.getR 17 dX8_judge_14 fd_RX8_45 rfl rfl (Nat.le_of_ble_eq_true rfl) rfl ?_
      refine oRun.iload_n 18 dX8_judge_17 1 rfl rfl rfl ?_
      obtain ⟨r18, hr18, h⟩ := oB1 h
      refine oRun.callV (as := [.int x1]) 21 dX8_judge_18 lk_RX8_316 (oFit_i (Nat.le_of_ble_eq_true rfl) (Nat.le_of_ble_eq_true rfl)) rfl rfl rfl rfl (Nat.le_of_ble_eq_true rfl) (Nat.le_of_ble_eq_true rfl) rfl (E_X4_isHeld hr18) rfl ?_
      show oRun G _ 21 _ [.int r18] _ _ _
      by_cases c21 : r18 = 0
      · replace h := oIp c21 h
        refine oRun.if_ne_f 24 dX8_judge_21 rfl c21 rfl ?_
        refine oRun.bipush 26 dX8_judge_24 oc_bm11 rfl ?_
        rw [← Option.some.inj h]
        exact oRun.ret (r := some (.int (-11))) dX8_judge_26
      · replace h := oIn c21 h
        refine oRun.if_ne_t 27 dX8_judge_21 c21 rfl ?_
        refine oRun.iconst 28 dX8_judge_27 oc_i0 rfl ?_
        refine oRun.istore_n 29 dX8_judge_28 rfl (Nat.le_of_ble_eq_true rfl) rfl rfl ?_
        obtain ⟨b29, hb29, h⟩ := oB1 h
        refine oRun.sub [1, 2, 0] rfl ?_
        refine E_X8_judge_L29 _ _ _ hb29 ?_
        rcases b29 with y29 | z29
        · replace h := oSl h
          show oRun G _ _ _ _ _ _ _
          refine oRun.bipush 89 dX8_judge_87 oc_bm5 rfl ?_
          rw [← Option.some.inj h]
          exact oRun.ret (r := some (.int (-5))) dX8_judge_89
        · replace h := oSr h
          cases h
          exact ⟨rfl, rfl⟩
  · exact True.intro
set_option maxRecDepth 100000 in
set_option maxHeartbeats 4000000 in
theorem E_X9_isList {G : oG} {m : oM} {x0 : Int32} {w : Int32} (h : F_X9_isList x0 = some w) : oEv G M_X9_isList [.int x0] m (some (.int w)) m := by
  unfold F_X9_isList at h
  refine ⟨?_, ?_⟩
  · show oRun G M_X9_isList 0 [(0, .int x0)] [] m (some (.int w)) m
    refine oRun.iload_n 1 dX9_isList_0 0 rfl rfl rfl ?_
    refine oRun.i2l 2 dX9_isList_1 rfl ?_
    refine oRun.lconst 3 dX9_isList_2 oc_l0 rfl ?_
    refine oRun.ldc2 6 dX9_isList_3 wd_6_42 rfl ?_
    obtain ⟨r6, hr6, h⟩ := oB1 h
    refine oRun.callS (as := [.long x0.toInt64, .long 0, .long 3]) 9 dX9_isList_6 lk_RX9_44 (oFit_i (Nat.le_of_ble_eq_true rfl) (Nat.le_of_ble_eq_true rfl)) rfl (Nat.le_of_ble_eq_true rfl) (Nat.le_of_ble_eq_true rfl) rfl (E_X9_isIn hr6) rfl ?_
    show oRun G _ 9 _ [.int r6] _ _ _
    rw [← Option.some.inj h]
    exact oRun.ret (r := some (.int r6)) dX9_isList_9
  · show oROK (some .boolean) (some (.int w))
    obtain ⟨r6, hr6, h⟩ := oB1 h
    rw [← Option.some.inj h]
    exact (E_X9_isIn (G := G) (m := m) hr6).2
set_option maxRecDepth 100000 in
set_option maxHeartbeats 4000000 in
theorem E_X9_judge_L24 {G : oG} {m : oM} {x1 : Int32} {r : Option Value} {m' : oM} : ∀ (n : Nat) (x2 : Int32) (b : (Unit) ⊕ (Int32)), oLoop (fun s : Int32 => F_X9_judge_L24 m x1 s) n x2 = some b → Sum.elim (fun yy => oRun G M_X9_judge 74 [] [] m r m') (fun zz => r = (some (.int zz)) ∧ m' = m) b → oRun G M_X9_judge 24 [(0, .ref 51), (1, .int x1), (2, .int x2)] [] m r m' := by
  intro n
  induction n with
  | zero => intro x2 b h _; exact (oLoop_zero h).elim
  | succ n ih =>
    intro x2 b h he
    obtain ⟨q', hq', h⟩ := oLoop_succ h
    have hc : ∀ s' : Int32, q' = .inl s' → oRun G M_X9_judge 24 [(0, .ref 51), (1, .int x1), (2, .int s')] [] m r m' := by
      rintro s' rfl
      exact ih (s') b h he
    have hx : ∀ b' : (Unit) ⊕ (Int32), q' = .inr b' → Sum.elim (fun yy => oRun G M_X9_judge 74 [] [] m r m') (fun zz => r = (some (.int zz)) ∧ m' = m) b' := by
      rintro b' rfl
      have h : b' = b := h
      rw [h]
      exact he
    clear h he ih
    have h := hq'
    clear hq'
    replace h : F_X9_judge_L24 m x1 x2 = some q' := h
    unfold F_X9_judge_L24 at h
    refine oRun.iload_n 25 dX9_judge_24 2 rfl rfl rfl ?_
    refine oRun.aload_n 26 dX9_judge_25 0 rfl rfl (Nat.le_of_ble_eq_true rfl) rfl ?_
    refine oRun.getR 29 dX9_judge_26 fd_RX9_27 rfl rfl (Nat.le_of_ble_eq_true rfl) rfl ?_
    refine oRun.iload_n 30 dX9_judge_29 1 rfl rfl rfl ?_
    obtain ⟨v30, hv30, h⟩ := oB1 h
    refine oRun.iaload 31 dX9_judge_30 (Or.inr ⟨_, rfl⟩) hv30 rfl ?_
    by_cases c31 : v30 ≤ x2
    · replace h := oIp c31 h
      refine oRun.icmp_ge_t 74 dX9_judge_31 c31 rfl ?_
      cases h
      refine oRun.sub [] rfl ?_
      exact hx _ rfl
    · replace h := oIn c31 h
      refine oRun.icmp_ge_f 34 dX9_judge_31 rfl c31 rfl ?_
      refine oRun.aload_n 35 dX9_judge_34 0 rfl rfl (Nat.le_of_ble_eq_true rfl) rfl ?_
      refine oRun.getR 38 dX9_judge_35 fd_RX9_30 rfl rfl (Nat.le_of_ble_eq_true rfl) rfl ?_
      refine oRun.bipush 40 dX9_judge_38 oc_b12 rfl ?_
      refine oRun.iload_n 41 dX9_judge_40 1 rfl rfl rfl ?_
      refine oRun.imul 42 dX9_judge_41 rfl ?_
      refine oRun.iload_n 43 dX9_judge_42 2 rfl rfl rfl ?_
      refine oRun.iadd 44 dX9_judge_43 rfl ?_
      obtain ⟨v44, hv44, h⟩ := oB1 h
      refine oRun.laload 45 dX9_judge_44 rfl hv44 rfl ?_
      refine oRun.aload_n 46 dX9_judge_45 0 rfl rfl (Nat.le_of_ble_eq_true rfl) rfl ?_
      refine oRun.iload_n 47 dX9_judge_46 2 rfl rfl rfl ?_
      obtain ⟨r47, hr47, h⟩ := oB1 h
      refine oRun.callV (as := [.int x2]) 50 dX9_judge_47 lk_RX9_154 (oFit_i (Nat.le_of_ble_eq_true rfl) (Nat.le_of_ble_eq_true rfl)) rfl rfl rfl rfl (Nat.le_of_ble_eq_true rfl) (Nat.le_of_ble_eq_true rfl) rfl (E_X9_hasTrain hr47) rfl ?_
      show oRun G _ 50 _ [.int r47, .long v44] _ _ _
      by_cases c50 : r47 = 0
      · replace h := oIp c50 h
        refine oRun.if_eq_t 61 dX9_judge_50 c50 rfl ?_
        refine oRun.lconst 62 dX9_judge_61 oc_l0 rfl ?_
        refine oRun.lcmp 63 dX9_judge_62 rfl ?_
        by_cases c63 : v44 = 0
        · replace h := oIp c63 h
          refine oRun.if_eq_t 68 dX9_judge_63 ((oLc_eq _ _).mpr c63) rfl ?_
          refine oRun.iinc 71 dX9_judge_68 2 rfl (oAddC oc_i1) (Nat.le_of_ble_eq_true rfl) rfl rfl ?_
          refine oRun.goto 24 dX9_judge_71 rfl ?_
          cases h
          refine oRun.sub [1, 2, 0] rfl ?_
          exact hc _ rfl
        · replace h := oIn c63 h
          refine oRun.if_eq_f 66 dX9_judge_63 rfl (mt (oLc_eq _ _).mp c63) rfl ?_
          refine oRun.iload_n 67 dX9_judge_66 2 rfl rfl rfl ?_
          cases h
          obtain ⟨hr1, hr2⟩ := hx _ rfl
          rw [hr1, hr2]
          exact oRun.ret (r := some (.int x2)) dX9_judge_67
      · replace h := oIn c50 h
        refine oRun.if_eq_f 53 dX9_judge_50 rfl c50 rfl ?_
        refine oRun.aload_n 54 dX9_judge_53 0 rfl rfl (Nat.le_of_ble_eq_true rfl) rfl ?_
        refine oRun.iload_n 55 dX9_judge_54 2 rfl rfl rfl ?_
        obtain ⟨r55, hr55, h⟩ := oB1 h
        refine oRun.callV (as := [.int x2]) 58 dX9_judge_55 lk_RX9_225 (oFit_i (Nat.le_of_ble_eq_true rfl) (Nat.le_of_ble_eq_true rfl)) rfl rfl rfl rfl (Nat.le_of_ble_eq_true rfl) (Nat.le_of_ble_eq_true rfl) rfl (E_X9_standsAt hr55) rfl ?_
        show oRun G _ 58 _ [.long r55, .long v44] _ _ _
        refine oRun.goto 62 dX9_judge_58 rfl ?_
        refine oRun.lcmp 63 dX9_judge_62 rfl ?_
        by_cases c63 : v44 = r55
        · replace h := oIp c63 h
          refine oRun.if_eq_t 68 dX9_judge_63 ((oLc_eq _ _).mpr c63) rfl ?_
          refine oRun.iinc 71 dX9_judge_68 2 rfl (oAddC oc_i1) (Nat.le_of_ble_eq_true rfl) rfl rfl ?_
          refine oRun.goto 24 dX9_judge_71 rfl ?_
          cases h
          refine oRun.sub [1, 2, 0] rfl ?_
          exact hc _ rfl
        · replace h := oIn c63 h
          refine oRun.if_eq_f 66 dX9_judge_63 rfl (mt (oLc_eq _ _).mp c63) rfl ?_
          refine oRun.iload_n 67 dX9_judge_66 2 rfl rfl rfl ?_
          cases h
          obtain ⟨hr1, hr2⟩ := hx _ rfl
          rw [hr1, hr2]
          exact oRun.ret (r := some (.int x2)) dX9_judge_67
set_option maxRecDepth 100000 in
set_option maxHeartbeats 4000000 in
theorem E_X9_judge {G : oG} {m : oM} {x1 : Int32} {w : Int32} (h : F_X9_judge m x1 = some w) : oEv G M_X9_judge [.ref 51, .int x1] m (some (.int w)) m := by
  unfold F_X9_judge at h
  refine ⟨?_, ?_⟩
  · show oRun G M_X9_judge 0 [(0, .ref 51), (1, .int x1)] [] m (some (.int w)) m
    refine oRun.iload_n 1 dX9_judge_0 1 rfl rfl rfl ?_
    obtain ⟨r1, hr1, h⟩ := oB1 h
    refine oRun.callS (as := [.int x1]) 4 dX9_judge_1 lk_RX9_267 (oFit_i (Nat.le_of_ble_eq_true rfl) (Nat.le_of_ble_eq_true rfl)) rfl (Nat.le_of_ble_eq_true rfl) (Nat.le_of_ble_eq_true rfl) rfl (E_X9_isList hr1) rfl ?_
    show oRun G _ 4 _ [.int r1] _ _ _
    by_cases c4 : r1 = 0
    · replace h := oIp c4 h
      refine oRun.if_ne_f 7 dX9_judge_4 rfl c4 rfl ?_
      refine oRun.iconst 8 dX9_judge_7 oc_im1 rfl ?_
      rw [← Option.some.inj h]
      exact oRun.ret (r := some (.int (-1))) dX9_judge_8
    · replace h := oIn c4 h
      refine oRun.if_ne_t 9 dX9_judge_4 c4 rfl ?_
      refine oRun.aload_n 10 dX9_judge_9 0 rfl rfl (Nat.le_of_ble_eq_true rfl) rfl ?_
      refine oRun.getR 13 dX9_judge_10 fd_RX9_27 rfl rfl (Nat.le_of_ble_eq_true rfl) rfl ?_
      refine oRun.iload_n 14 dX9_judge_13 1 rfl rfl rfl ?_
      obtain ⟨v14, hv14, h⟩ := oB1 h
      refine oRun.iaload 15 dX9_judge_14 (Or.inr ⟨_, rfl⟩) hv14 rfl ?_
      refine oRun.iconst 16 dX9_judge_15 oc_im1 rfl ?_
      by_cases c16 : v14 = (-1)
      · replace h := oIp c16 h
        refine oRun.icmp_ne_f 19 dX9_judge_16 rfl c16 rfl ?_
        refine oRun.bipush 21 dX9_judge_19 oc_bm11 rfl ?_
        rw [← Option.some.inj h]
        exact oRun.ret (r := some (.int (-11))) dX9_judge_21
      · replace h := oIn c16 h
        refine oRun.icmp_ne_t 22 dX9_judge_16 c16 rfl ?_
        refine oRun.iconst 23 dX9_judge_22 oc_i0 rfl ?_
        refine oRun.istore_n 24 dX9_judge_23 rfl (Nat.le_of_ble_eq_true rfl) rfl rfl ?_
        obtain ⟨b24, hb24, h⟩ := oB1 h
        refine oRun.sub [1, 2, 0] rfl ?_
        refine E_X9_judge_L24 _ _ _ hb24 ?_
        rcases b24 with y24 | z24
        · replace h := oSl h
          show oRun G _ _ _ _ _ _ _
          refine oRun.bipush 76 dX9_judge_74 oc_bm5 rfl ?_
          rw [← Option.some.inj h]
          exact oRun.ret (r := some (.int (-5))) dX9_judge_76
        · replace h := oSr h
          cases h
          exact ⟨rfl, rfl⟩
  · exact True.intro
set_option maxRecDepth 100000 in
set_option maxHeartbeats 4000000 in
theorem E_X4_fill {G : oG} {m : oM} {x1 : Int32} {x2 : Int32} {x3 : Int64} {w : oM} (h : F_X4_fill m x1 x2 x3 = some w) : oEv G M_X4_fill [.ref 47, .int x1, .int x2, .long x3] m none w := by
  unfold F_X4_fill at h
  refine ⟨?_, ?_⟩
  · show oRun G M_X4_fill 0 [(0, .ref 47), (1, .int x1), (2, .int x2), (3, .long x3)] [] m none w
    refine oRun.iload_n 1 dX4_fill_0 1 rfl rfl rfl ?_
    refine oRun.bipush 3 dX4_fill_1 oc_b12 rfl ?_
    refine oRun.imul 4 dX4_fill_3 rfl ?_
    refine oRun.iload_n 5 dX4_fill_4 2 rfl rfl rfl ?_
    refine oRun.iadd 6 dX4_fill_5 rfl ?_
    obtain ⟨x5_6, hx5_6, h⟩ := oB1 h
    refine oRun.nameI hx5_6 ?_
    refine oRun.istore 8 dX4_fill_6 (Nat.le_of_ble_eq_true rfl) rfl rfl ?_
    refine oRun.iload 10 dX4_fill_8 0 rfl rfl ?_
    by_cases c10 : x5_6 < 0
    · replace h := oIp c10 h
      refine oRun.if_lt_t 31 dX4_fill_10 c10 rfl ?_
      rw [← Option.some.inj h]
      exact oRun.ret (r := none) dX4_fill_31
    · replace h := oIn c10 h
      refine oRun.if_lt_f 13 dX4_fill_10 rfl c10 rfl ?_
      refine oRun.iload 15 dX4_fill_13 0 rfl rfl ?_
      refine oRun.aload_n 16 dX4_fill_15 1 rfl rfl (Nat.le_of_ble_eq_true rfl) rfl ?_
      refine oRun.getR 19 dX4_fill_16 fd_RX4_15 rfl rfl (Nat.le_of_ble_eq_true rfl) rfl ?_
      refine oRun.alen (v := 48) 20 dX4_fill_19 rfl (Nat.le_of_ble_eq_true rfl) (Or.inr rfl) rfl rfl ?_
      by_cases c20 : 48 ≤ x5_6
      · replace h := oIp c20 h
        refine oRun.icmp_ge_t 31 dX4_fill_20 c20 rfl ?_
        rw [← Option.some.inj h]
        exact oRun.ret (r := none) dX4_fill_31
      · replace h := oIn c20 h
        refine oRun.icmp_ge_f 23 dX4_fill_20 rfl c20 rfl ?_
        refine oRun.aload_n 24 dX4_fill_23 1 rfl rfl (Nat.le_of_ble_eq_true rfl) rfl ?_
        refine oRun.getR 27 dX4_fill_24 fd_RX4_15 rfl rfl (Nat.le_of_ble_eq_true rfl) rfl ?_
        refine oRun.iload 29 dX4_fill_27 0 rfl rfl ?_
        refine oRun.lload_n 30 dX4_fill_29 4 rfl rfl rfl ?_
        obtain ⟨m30, hm30, h⟩ := oB1 h
        refine oRun.lastore 31 dX4_fill_30 rfl hm30 rfl ?_
        rw [← Option.some.inj h]
        exact oRun.ret (r := none) dX4_fill_31
  · exact True.intro
set_option maxRecDepth 100000 in
set_option maxHeartbeats 4000000 in
theorem E_X4_hold_L13 {G : oG} {x1 : Int32} {x2 : Int32} {r : Option Value} {m' : oM} : ∀ (n : Nat) (x3 : Int32) (m : oM) (b : oM), oLoop (fun s : Int32 × oM => F_X4_hold_L13 x1 x2 s.1 s.2) n (x3, m) = some b → oRun G M_X4_hold 31 [] [] b r m' → oRun G M_X4_hold 13 [(0, .ref 47), (1, .int x1), (2, .int x2), (3, .int x3)] [] m r m' := by
  intro n
  induction n with
  | zero => intro x3 m b h _; exact (oLoop_zero h).elim
  | succ n ih =>
    intro x3 m b h he
    obtain ⟨q', hq', h⟩ := oLoop_succ h
    have hc : ∀ s' : Int32 × oM, q' = .inl s' → oRun G M_X4_hold 13 [(0, .ref 47), (1, .int x1), (2, .int x2), (3, .int s'.1)] [] s'.2 r m' := by
      rintro s' rfl
      exact ih (s'.1) (s'.2) b h he
    have hx : ∀ b' : oM, q' = .inr b' → oRun G M_X4_hold 31 [] [] b' r m' := by
      rintro b' rfl
      have h : b' = b := h
      rw [h]
      exact he
    clear h he ih
    have h := hq'
    clear hq'
    replace h : F_X4_hold_L13 x1 x2 x3 m = some q' := h
    unfold F_X4_hold_L13 at h
    refine oRun.iload_n 14 dX4_hold_13 3 rfl rfl rfl ?_
    refine oRun.iload_n 15 dX4_hold_14 2 rfl rfl rfl ?_
    by_cases c15 : x2 ≤ x3
    · replace h := oIp c15 h
      refine oRun.icmp_ge_t 31 dX4_hold_15 c15 rfl ?_
      cases h
      refine oRun.sub [] rfl ?_
      exact hx _ rfl
    · replace h := oIn c15 h
      refine oRun.icmp_ge_f 18 dX4_hold_15 rfl c15 rfl ?_
      refine oRun.aload_n 19 dX4_hold_18 0 rfl rfl (Nat.le_of_ble_eq_true rfl) rfl ?_
      refine oRun.iload_n 20 dX4_hold_19 1 rfl rfl rfl ?_
      refine oRun.iload_n 21 dX4_hold_20 3 rfl rfl rfl ?_
      refine oRun.lconst 22 dX4_hold_21 oc_l0 rfl ?_
      obtain ⟨r22, hr22, h⟩ := oB1 h
      refine oRun.callV (as := [.int x1, .int x3, .long 0]) 25 dX4_hold_22 lk_RX4_31 (oFit_i (Nat.le_of_ble_eq_true rfl) (Nat.le_of_ble_eq_true rfl)) rfl rfl rfl rfl (Nat.le_of_ble_eq_true rfl) (Nat.le_of_ble_eq_true rfl) rfl (E_X4_fill hr22) rfl ?_
      show oRun G _ 25 _ [] _ _ _
      refine oRun.iinc 28 dX4_hold_25 3 rfl (oAddC oc_i1) (Nat.le_of_ble_eq_true rfl) rfl rfl ?_
      refine oRun.goto 13 dX4_hold_28 rfl ?_
      cases h
      refine oRun.sub [1, 2, 3, 0] rfl ?_
      exact hc _ rfl
set_option maxRecDepth 100000 in
set_option maxHeartbeats 4000000 in
theorem E_X4_hold {G : oG} {m : oM} {x1 : Int32} {x2 : Int32} {w : oM} (h : F_X4_hold m x1 x2 = some w) : oEv G M_X4_hold [.ref 47, .int x1, .int x2] m none w := by
  unfold F_X4_hold at h
  refine ⟨?_, ?_⟩
  · show oRun G M_X4_hold 0 [(0, .ref 47), (1, .int x1), (2, .int x2)] [] m none w
    refine oRun.aload_n 1 dX4_hold_0 0 rfl rfl (Nat.le_of_ble_eq_true rfl) rfl ?_
    refine oRun.getR 4 dX4_hold_1 fd_RX4_9 rfl rfl (Nat.le_of_ble_eq_true rfl) rfl ?_
    refine oRun.iload_n 5 dX4_hold_4 1 rfl rfl rfl ?_
    refine oRun.iload_n 6 dX4_hold_5 2 rfl rfl rfl ?_
    refine oRun.iconst 7 dX4_hold_6 oc_i1 rfl ?_
    refine oRun.iadd 8 dX4_hold_7 rfl ?_
    obtain ⟨r8, hr8, h⟩ := oB1 h
    refine oRun.callN (as := [.ref 48, .int x1, .int (x2 + 1)]) 11 dX4_hold_8 lk_RX4_27 (oFit_i (Nat.le_of_ble_eq_true rfl) (Nat.le_of_ble_eq_true rfl)) rfl (Nat.le_of_ble_eq_true rfl) (Nat.le_of_ble_eq_true rfl) rfl (E_X8_set (oWA_i rfl) hr8) rfl ?_
    show oRun G _ 11 _ [] _ _ _
    refine oRun.iconst 12 dX4_hold_11 oc_i0 rfl ?_
    refine oRun.istore_n 13 dX4_hold_12 rfl (Nat.le_of_ble_eq_true rfl) rfl rfl ?_
    obtain ⟨b13, hb13, h⟩ := oB1 h
    refine oRun.sub [1, 2, 3, 0] rfl ?_
    refine E_X4_hold_L13 _ _ _ _ hb13 ?_
    rw [← Option.some.inj h]
    exact oRun.ret (r := none) dX4_hold_31
  · exact True.intro
set_option maxRecDepth 100000 in
set_option maxHeartbeats 4000000 in
theorem E_X8_list {G : oG} {m : oM} {x1 : Int32} {x2 : Int32} {w : Int32 × oM} (h : F_X8_list m x1 x2 = some w) : oEv G M_X8_list [.ref 0, .int x1, .int x2] m (some (.int w.1)) w.2 := by
  unfold F_X8_list at h
  refine ⟨?_, ?_⟩
  · show oRun G M_X8_list 0 [(0, .ref 0), (1, .int x1), (2, .int x2)] [] m (some (.int w.1)) w.2
    refine oRun.aload_n 1 dX8_list_0 0 rfl rfl (Nat.le_of_ble_eq_true rfl) rfl ?_
    refine oRun.getR 4 dX8_list_1 fd_RX8_45 rfl rfl (Nat.le_of_ble_eq_true rfl) rfl ?_
    refine oRun.iload_n 5 dX8_list_4 1 rfl rfl rfl ?_
    obtain ⟨r5, hr5, h⟩ := oB1 h
    refine oRun.callV (as := [.int x1]) 8 dX8_list_5 lk_RX8_315 (oFit_i (Nat.le_of_ble_eq_true rfl) (Nat.le_of_ble_eq_true rfl)) rfl rfl rfl rfl (Nat.le_of_ble_eq_true rfl) (Nat.le_of_ble_eq_true rfl) rfl (E_X4_has hr5) rfl ?_
    show oRun G _ 8 _ [.int r5] _ _ _
    by_cases c8 : r5 = 0
    · replace h := oIp c8 h
      refine oRun.if_ne_f 11 dX8_list_8 rfl c8 rfl ?_
      refine oRun.iconst 12 dX8_list_11 oc_im1 rfl ?_
      rw [← Option.some.inj h]
      exact oRun.ret (r := some (.int (-1))) dX8_list_12
    · replace h := oIn c8 h
      refine oRun.if_ne_t 13 dX8_list_8 c8 rfl ?_
      refine oRun.iload_n 14 dX8_list_13 2 rfl rfl rfl ?_
      refine oRun.bipush 16 dX8_list_14 oc_b12 rfl ?_
      by_cases c16 : x2 ≤ 12
      · replace h := oIp c16 h
        refine oRun.icmp_le_t 22 dX8_list_16 c16 rfl ?_
        refine oRun.iload_n 23 dX8_list_22 2 rfl rfl rfl ?_
        by_cases c23 : 0 ≤ x2
        · replace h := oIp c23 h
          refine oRun.if_ge_t 29 dX8_list_23 c23 rfl ?_
          refine oRun.aload_n 30 dX8_list_29 0 rfl rfl (Nat.le_of_ble_eq_true rfl) rfl ?_
          refine oRun.getR 33 dX8_list_30 fd_RX8_45 rfl rfl (Nat.le_of_ble_eq_true rfl) rfl ?_
          refine oRun.iload_n 34 dX8_list_33 1 rfl rfl rfl ?_
          refine oRun.iload_n 35 dX8_list_34 2 rfl rfl rfl ?_
          obtain ⟨r35, hr35, h⟩ := oB1 h
          refine oRun.callV (as := [.int x1, .int x2]) 38 dX8_list_35 lk_RX8_325 (oFit_i (Nat.le_of_ble_eq_true rfl) (Nat.le_of_ble_eq_true rfl)) rfl rfl rfl rfl (Nat.le_of_ble_eq_true rfl) (Nat.le_of_ble_eq_true rfl) rfl (E_X4_hold hr35) rfl ?_
          show oRun G _ 38 _ [] _ _ _
          refine oRun.iconst 39 dX8_list_38 oc_i1 rfl ?_
          rw [← Option.some.inj h]
          exact oRun.ret (r := some (.int 1)) dX8_list_39
        · replace h := oIn c23 h
          refine oRun.if_ge_f 26 dX8_list_23 rfl c23 rfl ?_
          refine oRun.bipush 28 dX8_list_26 oc_bm14 rfl ?_
          rw [← Option.some.inj h]
          exact oRun.ret (r := some (.int (-14))) dX8_list_28
      · replace h := oIn c16 h
        refine oRun.icmp_le_f 19 dX8_list_16 rfl c16 rfl ?_
        refine oRun.bipush 21 dX8_list_19 oc_bm2 rfl ?_
        rw [← Option.some.inj h]
        exact oRun.ret (r := some (.int (-2))) dX8_list_21
  · exact True.intro
set_option maxRecDepth 100000 in
set_option maxHeartbeats 4000000 in
theorem E_X9_list_L34 {G : oG} {x1 : Int32} {r : Option Value} {m' : oM} : ∀ (n : Nat) (x3 : Int32) (m : oM) (b : oM), oLoop (fun s : Int32 × oM => F_X9_list_L34 x1 s.1 s.2) n (x3, m) = some b → oRun G M_X9_list 58 [] [] b r m' → oRun G M_X9_list 34 [(0, .ref 51), (1, .int x1), (3, .int x3)] [] m r m' := by
  intro n
  induction n with
  | zero => intro x3 m b h _; exact (oLoop_zero h).elim
  | succ n ih =>
    intro x3 m b h he
    obtain ⟨q', hq', h⟩ := oLoop_succ h
    have hc : ∀ s' : Int32 × oM, q' = .inl s' → oRun G M_X9_list 34 [(0, .ref 51), (1, .int x1), (3, .int s'.1)] [] s'.2 r m' := by
      rintro s' rfl
      exact ih (s'.1) (s'.2) b h he
    have hx : ∀ b' : oM, q' = .inr b' → oRun G M_X9_list 58 [] [] b' r m' := by
      rintro b' rfl
      have h : b' = b := h
      rw [h]
      exact he
    clear h he ih
    have h := hq'
    clear hq'
    replace h : F_X9_list_L34 x1 x3 m = some q' := h
    unfold F_X9_list_L34 at h
    refine oRun.iload_n 35 dX9_list_34 2 rfl rfl rfl ?_
    refine oRun.bipush 37 dX9_list_35 oc_b12 rfl ?_
    by_cases c37 : 12 ≤ x3
    · replace h := oIp c37 h
      refine oRun.icmp_ge_t 58 dX9_list_37 c37 rfl ?_
      cases h
      refine oRun.sub [] rfl ?_
      exact hx _ rfl
    · replace h := oIn c37 h
      refine oRun.icmp_ge_f 40 dX9_list_37 rfl c37 rfl ?_
      refine oRun.aload_n 41 dX9_list_40 0 rfl rfl (Nat.le_of_ble_eq_true rfl) rfl ?_
      refine oRun.getR 44 dX9_list_41 fd_RX9_30 rfl rfl (Nat.le_of_ble_eq_true rfl) rfl ?_
      refine oRun.bipush 46 dX9_list_44 oc_b12 rfl ?_
      refine oRun.iload_n 47 dX9_list_46 1 rfl rfl rfl ?_
      refine oRun.imul 48 dX9_list_47 rfl ?_
      refine oRun.iload_n 49 dX9_list_48 2 rfl rfl rfl ?_
      refine oRun.iadd 50 dX9_list_49 rfl ?_
      refine oRun.lconst 51 dX9_list_50 oc_l0 rfl ?_
      obtain ⟨m51, hm51, h⟩ := oB1 h
      refine oRun.lastore 52 dX9_list_51 rfl hm51 rfl ?_
      refine oRun.iinc 55 dX9_list_52 2 rfl (oAddC oc_i1) (Nat.le_of_ble_eq_true rfl) rfl rfl ?_
      refine oRun.goto 34 dX9_list_55 rfl ?_
      cases h
      refine oRun.sub [1, 2, 0] rfl ?_
      exact hc _ rfl
set_option maxRecDepth 100000 in
set_option maxHeartbeats 4000000 in
theorem E_X9_list {G : oG} {m : oM} {x1 : Int32} {x2 : Int32} {w : Int32 × oM} (h : F_X9_list m x1 x2 = some w) : oEv G M_X9_list [.ref 51, .int x1, .int x2] m (some (.int w.1)) w.2 := by
  unfold F_X9_list at h
  refine ⟨?_, ?_⟩
  · show oRun G M_X9_list 0 [(0, .ref 51), (1, .int x1), (2, .int x2)] [] m (some (.int w.1)) w.2
    refine oRun.iload_n 1 dX9_list_0 1 rfl rfl rfl ?_
    obtain ⟨r1, hr1, h⟩ := oB1 h
    refine oRun.callS (as := [.int x1]) 4 dX9_list_1 lk_RX9_267 (oFit_i (Nat.le_of_ble_eq_true rfl) (Nat.le_of_ble_eq_true rfl)) rfl (Nat.le_of_ble_eq_true rfl) (Nat.le_of_ble_eq_true rfl) rfl (E_X9_isList hr1) rfl ?_
    show oRun G _ 4 _ [.int r1] _ _ _
    by_cases c4 : r1 = 0
    · replace h := oIp c4 h
      refine oRun.if_ne_f 7 dX9_list_4 rfl c4 rfl ?_
      refine oRun.iconst 8 dX9_list_7 oc_im1 rfl ?_
      rw [← Option.some.inj h]
      exact oRun.ret (r := some (.int (-1))) dX9_list_8
    · replace h := oIn c4 h
      refine oRun.if_ne_t 9 dX9_list_4 c4 rfl ?_
      refine oRun.iload_n 10 dX9_list_9 2 rfl rfl rfl ?_
      refine oRun.bipush 12 dX9_list_10 oc_b12 rfl ?_
      by_cases c12 : x2 ≤ 12
      · replace h := oIp c12 h
        refine oRun.icmp_le_t 18 dX9_list_12 c12 rfl ?_
        refine oRun.iload_n 19 dX9_list_18 2 rfl rfl rfl ?_
        by_cases c19 : 0 ≤ x2
        · replace h := oIp c19 h
          refine oRun.if_ge_t 25 dX9_list_19 c19 rfl ?_
          refine oRun.aload_n 26 dX9_list_25 0 rfl rfl (Nat.le_of_ble_eq_true rfl) rfl ?_
          refine oRun.getR 29 dX9_list_26 fd_RX9_27 rfl rfl (Nat.le_of_ble_eq_true rfl) rfl ?_
          refine oRun.iload_n 30 dX9_list_29 1 rfl rfl rfl ?_
          refine oRun.iload_n 31 dX9_list_30 2 rfl rfl rfl ?_
          obtain ⟨m31, hm31, h⟩ := oB1 h
          refine oRun.iastore 32 dX9_list_31 rfl hm31 rfl ?_
          refine oRun.iconst 33 dX9_list_32 oc_i0 rfl ?_
          refine oRun.istore_n 34 dX9_list_33 rfl (Nat.le_of_ble_eq_true rfl) rfl rfl ?_
          obtain ⟨b34, hb34, h⟩ := oB1 h
          refine oRun.sub [1, 2, 0] rfl ?_
          refine E_X9_list_L34 _ _ _ _ hb34 ?_
          refine oRun.iconst 59 dX9_list_58 oc_i1 rfl ?_
          rw [← Option.some.inj h]
          exact oRun.ret (r := some (.int 1)) dX9_list_59
        · replace h := oIn c19 h
          refine oRun.if_ge_f 22 dX9_list_19 rfl c19 rfl ?_
          refine oRun.bipush 24 dX9_list_22 oc_bm14 rfl ?_
          rw [← Option.some.inj h]
          exact oRun.ret (r := some (.int (-14))) dX9_list_24
      · replace h := oIn c12 h
        refine oRun.icmp_le_f 15 dX9_list_12 rfl c12 rfl ?_
        refine oRun.bipush 17 dX9_list_15 oc_bm2 rfl ?_
        rw [← Option.some.inj h]
        exact oRun.ret (r := some (.int (-2))) dX9_list_17
  · exact True.intro
set_option maxRecDepth 100000 in
set_option maxHeartbeats 4000000 in
theorem E_X8_put {G : oG} {m : oM} {x1 : Int32} {x2 : Int32} {x3 : Int64} {w : Int32 × oM} (h : F_X8_put m x1 x2 x3 = some w) : oEv G M_X8_put [.ref 0, .int x1, .int x2, .long x3] m (some (.int w.1)) w.2 := by
  unfold F_X8_put at h
  refine ⟨?_, ?_⟩
  · show oRun G M_X8_put 0 [(0, .ref 0), (1, .int x1), (2, .int x2), (3, .long x3)] [] m (some (.int w.1)) w.2
    refine oRun.aload_n 1 dX8_put_0 0 rfl rfl (Nat.le_of_ble_eq_true rfl) rfl ?_
    refine oRun.getR 4 dX8_put_1 fd_RX8_45 rfl rfl (Nat.le_of_ble_eq_true rfl) rfl ?_
    refine oRun.iload_n 5 dX8_put_4 1 rfl rfl rfl ?_
    obtain ⟨r5, hr5, h⟩ := oB1 h
    refine oRun.callV (as := [.int x1]) 8 dX8_put_5 lk_RX8_315 (oFit_i (Nat.le_of_ble_eq_true rfl) (Nat.le_of_ble_eq_true rfl)) rfl rfl rfl rfl (Nat.le_of_ble_eq_true rfl) (Nat.le_of_ble_eq_true rfl) rfl (E_X4_has hr5) rfl ?_
    show oRun G _ 8 _ [.int r5] _ _ _
    by_cases c8 : r5 = 0
    · replace h := oIp c8 h
      refine oRun.if_ne_f 11 dX8_put_8 rfl c8 rfl ?_
      refine oRun.iconst 12 dX8_put_11 oc_im1 rfl ?_
      rw [← Option.some.inj h]
      exact oRun.ret (r := some (.int (-1))) dX8_put_12
    · replace h := oIn c8 h
      refine oRun.if_ne_t 13 dX8_put_8 c8 rfl ?_
      refine oRun.aload_n 14 dX8_put_13 0 rfl rfl (Nat.le_of_ble_eq_true rfl) rfl ?_
      refine oRun.getR 17 dX8_put_14 fd_RX8_45 rfl rfl (Nat.le_of_ble_eq_true rfl) rfl ?_
      refine oRun.iload_n 18 dX8_put_17 1 rfl rfl rfl ?_
      obtain ⟨r18, hr18, h⟩ := oB1 h
      refine oRun.callV (as := [.int x1]) 21 dX8_put_18 lk_RX8_316 (oFit_i (Nat.le_of_ble_eq_true rfl) (Nat.le_of_ble_eq_true rfl)) rfl rfl rfl rfl (Nat.le_of_ble_eq_true rfl) (Nat.le_of_ble_eq_true rfl) rfl (E_X4_isHeld hr18) rfl ?_
      show oRun G _ 21 _ [.int r18] _ _ _
      by_cases c21 : r18 = 0
      · replace h := oIp c21 h
        refine oRun.if_ne_f 24 dX8_put_21 rfl c21 rfl ?_
        refine oRun.bipush 26 dX8_put_24 oc_bm11 rfl ?_
        rw [← Option.some.inj h]
        exact oRun.ret (r := some (.int (-11))) dX8_put_26
      · replace h := oIn c21 h
        refine oRun.if_ne_t 27 dX8_put_21 c21 rfl ?_
        refine oRun.iload_n 28 dX8_put_27 2 rfl rfl rfl ?_
        by_cases c28 : x2 < 0
        · replace h := oIp c28 h
          refine oRun.if_lt_t 43 dX8_put_28 c28 rfl ?_
          refine oRun.bipush 45 dX8_put_43 oc_bm13 rfl ?_
          rw [← Option.some.inj h]
          exact oRun.ret (r := some (.int (-13))) dX8_put_45
        · replace h := oIn c28 h
          refine oRun.if_lt_f 31 dX8_put_28 rfl c28 rfl ?_
          refine oRun.iload_n 32 dX8_put_31 2 rfl rfl rfl ?_
          refine oRun.aload_n 33 dX8_put_32 0 rfl rfl (Nat.le_of_ble_eq_true rfl) rfl ?_
          refine oRun.getR 36 dX8_put_33 fd_RX8_45 rfl rfl (Nat.le_of_ble_eq_true rfl) rfl ?_
          refine oRun.iload_n 37 dX8_put_36 1 rfl rfl rfl ?_
          obtain ⟨r37, hr37, h⟩ := oB1 h
          refine oRun.callV (as := [.int x1]) 40 dX8_put_37 lk_RX8_319 (oFit_i (Nat.le_of_ble_eq_true rfl) (Nat.le_of_ble_eq_true rfl)) rfl rfl rfl rfl (Nat.le_of_ble_eq_true rfl) (Nat.le_of_ble_eq_true rfl) rfl (E_X4_size hr37) rfl ?_
          show oRun G _ 40 _ [.int r37, .int x2] _ _ _
          by_cases c40 : x2 < r37
          · replace h := oIp c40 h
            refine oRun.icmp_lt_t 46 dX8_put_40 c40 rfl ?_
            refine oRun.aload_n 47 dX8_put_46 0 rfl rfl (Nat.le_of_ble_eq_true rfl) rfl ?_
            refine oRun.getR 50 dX8_put_47 fd_RX8_45 rfl rfl (Nat.le_of_ble_eq_true rfl) rfl ?_
            refine oRun.iload_n 51 dX8_put_50 1 rfl rfl rfl ?_
            refine oRun.iload_n 52 dX8_put_51 2 rfl rfl rfl ?_
            refine oRun.lload_n 53 dX8_put_52 3 rfl rfl rfl ?_
            obtain ⟨r53, hr53, h⟩ := oB1 h
            refine oRun.callV (as := [.int x1, .int x2, .long x3]) 56 dX8_put_53 lk_RX8_328 (oFit_i (Nat.le_of_ble_eq_true rfl) (Nat.le_of_ble_eq_true rfl)) rfl rfl rfl rfl (Nat.le_of_ble_eq_true rfl) (Nat.le_of_ble_eq_true rfl) rfl (E_X4_fill hr53) rfl ?_
            show oRun G _ 56 _ [] _ _ _
            refine oRun.iconst 57 dX8_put_56 oc_i1 rfl ?_
            rw [← Option.some.inj h]
            exact oRun.ret (r := some (.int 1)) dX8_put_57
          · replace h := oIn c40 h
            refine oRun.icmp_lt_f 43 dX8_put_40 rfl c40 rfl ?_
            refine oRun.bipush 45 dX8_put_43 oc_bm13 rfl ?_
            rw [← Option.some.inj h]
            exact oRun.ret (r := some (.int (-13))) dX8_put_45
  · exact True.intro
set_option maxRecDepth 100000 in
set_option maxHeartbeats 4000000 in
theorem E_X9_put {G : oG} {m : oM} {x1 : Int32} {x2 : Int32} {x3 : Int64} {w : Int32 × oM} (h : F_X9_put m x1 x2 x3 = some w) : oEv G M_X9_put [.ref 51, .int x1, .int x2, .long x3] m (some (.int w.1)) w.2 := by
  unfold F_X9_put at h
  refine ⟨?_, ?_⟩
  · show oRun G M_X9_put 0 [(0, .ref 51), (1, .int x1), (2, .int x2), (3, .long x3)] [] m (some (.int w.1)) w.2
    refine oRun.iload_n 1 dX9_put_0 1 rfl rfl rfl ?_
    obtain ⟨r1, hr1, h⟩ := oB1 h
    refine oRun.callS (as := [.int x1]) 4 dX9_put_1 lk_RX9_267 (oFit_i (Nat.le_of_ble_eq_true rfl) (Nat.le_of_ble_eq_true rfl)) rfl (Nat.le_of_ble_eq_true rfl) (Nat.le_of_ble_eq_true rfl) rfl (E_X9_isList hr1) rfl ?_
    show oRun G _ 4 _ [.int r1] _ _ _
    by_cases c4 : r1 = 0
    · replace h := oIp c4 h
      refine oRun.if_ne_f 7 dX9_put_4 rfl c4 rfl ?_
      refine oRun.iconst 8 dX9_put_7 oc_im1 rfl ?_
      rw [← Option.some.inj h]
      exact oRun.ret (r := some (.int (-1))) dX9_put_8
    · replace h := oIn c4 h
      refine oRun.if_ne_t 9 dX9_put_4 c4 rfl ?_
      refine oRun.aload_n 10 dX9_put_9 0 rfl rfl (Nat.le_of_ble_eq_true rfl) rfl ?_
      refine oRun.getR 13 dX9_put_10 fd_RX9_27 rfl rfl (Nat.le_of_ble_eq_true rfl) rfl ?_
      refine oRun.iload_n 14 dX9_put_13 1 rfl rfl rfl ?_
      obtain ⟨v14, hv14, h⟩ := oB1 h
      refine oRun.iaload 15 dX9_put_14 (Or.inr ⟨_, rfl⟩) hv14 rfl ?_
      refine oRun.iconst 16 dX9_put_15 oc_im1 rfl ?_
      by_cases c16 : v14 = (-1)
      · replace h := oIp c16 h
        refine oRun.icmp_ne_f 19 dX9_put_16 rfl c16 rfl ?_
        refine oRun.bipush 21 dX9_put_19 oc_bm11 rfl ?_
        rw [← Option.some.inj h]
        exact oRun.ret (r := some (.int (-11))) dX9_put_21
      · replace h := oIn c16 h
        refine oRun.icmp_ne_t 22 dX9_put_16 c16 rfl ?_
        refine oRun.iload_n 23 dX9_put_22 2 rfl rfl rfl ?_
        refine oRun.i2l 24 dX9_put_23 rfl ?_
        refine oRun.lconst 25 dX9_put_24 oc_l0 rfl ?_
        refine oRun.aload_n 26 dX9_put_25 0 rfl rfl (Nat.le_of_ble_eq_true rfl) rfl ?_
        refine oRun.getR 29 dX9_put_26 fd_RX9_27 rfl rfl (Nat.le_of_ble_eq_true rfl) rfl ?_
        refine oRun.iload_n 30 dX9_put_29 1 rfl rfl rfl ?_
        obtain ⟨v30, hv30, h⟩ := oB1 h
        refine oRun.iaload 31 dX9_put_30 (Or.inr ⟨_, rfl⟩) hv30 rfl ?_
        refine oRun.iconst 32 dX9_put_31 oc_i1 rfl ?_
        refine oRun.isub 33 dX9_put_32 rfl ?_
        refine oRun.i2l 34 dX9_put_33 rfl ?_
        obtain ⟨r34, hr34, h⟩ := oB1 h
        refine oRun.callS (as := [.long x2.toInt64, .long 0, .long ((v30 - 1)).toInt64]) 37 dX9_put_34 lk_RX9_44 (oFit_i (Nat.le_of_ble_eq_true rfl) (Nat.le_of_ble_eq_true rfl)) rfl (Nat.le_of_ble_eq_true rfl) (Nat.le_of_ble_eq_true rfl) rfl (E_X9_isIn hr34) rfl ?_
        show oRun G _ 37 _ [.int r34] _ _ _
        by_cases c37 : r34 = 0
        · replace h := oIp c37 h
          refine oRun.if_ne_f 40 dX9_put_37 rfl c37 rfl ?_
          refine oRun.bipush 42 dX9_put_40 oc_bm13 rfl ?_
          rw [← Option.some.inj h]
          exact oRun.ret (r := some (.int (-13))) dX9_put_42
        · replace h := oIn c37 h
          refine oRun.if_ne_t 43 dX9_put_37 c37 rfl ?_
          refine oRun.aload_n 44 dX9_put_43 0 rfl rfl (Nat.le_of_ble_eq_true rfl) rfl ?_
          refine oRun.getR 47 dX9_put_44 fd_RX9_30 rfl rfl (Nat.le_of_ble_eq_true rfl) rfl ?_
          refine oRun.bipush 49 dX9_put_47 oc_b12 rfl ?_
          refine oRun.iload_n 50 dX9_put_49 1 rfl rfl rfl ?_
          refine oRun.imul 51 dX9_put_50 rfl ?_
          refine oRun.iload_n 52 dX9_put_51 2 rfl rfl rfl ?_
          refine oRun.iadd 53 dX9_put_52 rfl ?_
          refine oRun.lload_n 54 dX9_put_53 3 rfl rfl rfl ?_
          obtain ⟨m54, hm54, h⟩ := oB1 h
          refine oRun.lastore 55 dX9_put_54 rfl hm54 rfl ?_
          refine oRun.iconst 56 dX9_put_55 oc_i1 rfl ?_
          rw [← Option.some.inj h]
          exact oRun.ret (r := some (.int 1)) dX9_put_56
  · exact True.intro
set_option maxRecDepth 100000 in
set_option maxHeartbeats 4000000 in
theorem E_X8_get {G : oG} {m : oM} {x1 : Int32} {x2 : Int32} {w : Int64} (h : F_X8_get m x1 x2 = some w) : oEv G M_X8_get [.ref 0, .int x1, .int x2] m (some (.long w)) m := by
  unfold F_X8_get at h
  refine ⟨?_, ?_⟩
  · show oRun G M_X8_get 0 [(0, .ref 0), (1, .int x1), (2, .int x2)] [] m (some (.long w)) m
    refine oRun.aload_n 1 dX8_get_0 0 rfl rfl (Nat.le_of_ble_eq_true rfl) rfl ?_
    refine oRun.getR 4 dX8_get_1 fd_RX8_45 rfl rfl (Nat.le_of_ble_eq_true rfl) rfl ?_
    refine oRun.iload_n 5 dX8_get_4 1 rfl rfl rfl ?_
    obtain ⟨r5, hr5, h⟩ := oB1 h
    refine oRun.callV (as := [.int x1]) 8 dX8_get_5 lk_RX8_315 (oFit_i (Nat.le_of_ble_eq_true rfl) (Nat.le_of_ble_eq_true rfl)) rfl rfl rfl rfl (Nat.le_of_ble_eq_true rfl) (Nat.le_of_ble_eq_true rfl) rfl (E_X4_has hr5) rfl ?_
    show oRun G _ 8 _ [.int r5] _ _ _
    by_cases c8 : r5 = 0
    · replace h := oIp c8 h
      refine oRun.if_eq_t 27 dX8_get_8 c8 rfl ?_
      refine oRun.ldc2 30 dX8_get_27 wd_2_48 rfl ?_
      rw [← Option.some.inj h]
      exact oRun.ret (r := some (.long (-9223372036854775808))) dX8_get_30
    · replace h := oIn c8 h
      refine oRun.if_eq_f 11 dX8_get_8 rfl c8 rfl ?_
      refine oRun.iload_n 12 dX8_get_11 2 rfl rfl rfl ?_
      by_cases c12 : x2 < 0
      · replace h := oIp c12 h
        refine oRun.if_lt_t 27 dX8_get_12 c12 rfl ?_
        refine oRun.ldc2 30 dX8_get_27 wd_2_48 rfl ?_
        rw [← Option.some.inj h]
        exact oRun.ret (r := some (.long (-9223372036854775808))) dX8_get_30
      · replace h := oIn c12 h
        refine oRun.if_lt_f 15 dX8_get_12 rfl c12 rfl ?_
        refine oRun.iload_n 16 dX8_get_15 2 rfl rfl rfl ?_
        refine oRun.aload_n 17 dX8_get_16 0 rfl rfl (Nat.le_of_ble_eq_true rfl) rfl ?_
        refine oRun.getR 20 dX8_get_17 fd_RX8_45 rfl rfl (Nat.le_of_ble_eq_true rfl) rfl ?_
        refine oRun.iload_n 21 dX8_get_20 1 rfl rfl rfl ?_
        obtain ⟨r21, hr21, h⟩ := oB1 h
        refine oRun.callV (as := [.int x1]) 24 dX8_get_21 lk_RX8_319 (oFit_i (Nat.le_of_ble_eq_true rfl) (Nat.le_of_ble_eq_true rfl)) rfl rfl rfl rfl (Nat.le_of_ble_eq_true rfl) (Nat.le_of_ble_eq_true rfl) rfl (E_X4_size hr21) rfl ?_
        show oRun G _ 24 _ [.int r21, .int x2] _ _ _
        by_cases c24 : x2 < r21
        · replace h := oIp c24 h
          refine oRun.icmp_lt_t 31 dX8_get_24 c24 rfl ?_
          refine oRun.aload_n 32 dX8_get_31 0 rfl rfl (Nat.le_of_ble_eq_true rfl) rfl ?_
          refine oRun.getR 35 dX8_get_32 fd_RX8_45 rfl rfl (Nat.le_of_ble_eq_true rfl) rfl ?_
          refine oRun.iload_n 36 dX8_get_35 1 rfl rfl rfl ?_
          refine oRun.iload_n 37 dX8_get_36 2 rfl rfl rfl ?_
          obtain ⟨r37, hr37, h⟩ := oB1 h
          refine oRun.callV (as := [.int x1, .int x2]) 40 dX8_get_37 lk_RX8_321 (oFit_i (Nat.le_of_ble_eq_true rfl) (Nat.le_of_ble_eq_true rfl)) rfl rfl rfl rfl (Nat.le_of_ble_eq_true rfl) (Nat.le_of_ble_eq_true rfl) rfl (E_X4_cell hr37) rfl ?_
          show oRun G _ 40 _ [.long r37] _ _ _
          rw [← Option.some.inj h]
          exact oRun.ret (r := some (.long r37)) dX8_get_40
        · replace h := oIn c24 h
          refine oRun.icmp_lt_f 27 dX8_get_24 rfl c24 rfl ?_
          refine oRun.ldc2 30 dX8_get_27 wd_2_48 rfl ?_
          rw [← Option.some.inj h]
          exact oRun.ret (r := some (.long (-9223372036854775808))) dX8_get_30
  · exact True.intro
set_option maxRecDepth 100000 in
set_option maxHeartbeats 4000000 in
theorem E_X9_get {G : oG} {m : oM} {x1 : Int32} {x2 : Int32} {w : Int64} (h : F_X9_get m x1 x2 = some w) : oEv G M_X9_get [.ref 51, .int x1, .int x2] m (some (.long w)) m := by
  unfold F_X9_get at h
  refine ⟨?_, ?_⟩
  · show oRun G M_X9_get 0 [(0, .ref 51), (1, .int x1), (2, .int x2)] [] m (some (.long w)) m
    refine oRun.iload_n 1 dX9_get_0 1 rfl rfl rfl ?_
    obtain ⟨r1, hr1, h⟩ := oB1 h
    refine oRun.callS (as := [.int x1]) 4 dX9_get_1 lk_RX9_267 (oFit_i (Nat.le_of_ble_eq_true rfl) (Nat.le_of_ble_eq_true rfl)) rfl (Nat.le_of_ble_eq_true rfl) (Nat.le_of_ble_eq_true rfl) rfl (E_X9_isList hr1) rfl ?_
    show oRun G _ 4 _ [.int r1] _ _ _
    by_cases c4 : r1 = 0
    · replace h := oIp c4 h
      refine oRun.if_eq_t 39 dX9_get_4 c4 rfl ?_
      refine oRun.ldc2 42 dX9_get_39 wd_4_201 rfl ?_
      rw [← Option.some.inj h]
      exact oRun.ret (r := some (.long (-9223372036854775808))) dX9_get_42
    · replace h := oIn c4 h
      refine oRun.if_eq_f 7 dX9_get_4 rfl c4 rfl ?_
      refine oRun.iload_n 8 dX9_get_7 2 rfl rfl rfl ?_
      refine oRun.i2l 9 dX9_get_8 rfl ?_
      refine oRun.lconst 10 dX9_get_9 oc_l0 rfl ?_
      refine oRun.aload_n 11 dX9_get_10 0 rfl rfl (Nat.le_of_ble_eq_true rfl) rfl ?_
      refine oRun.getR 14 dX9_get_11 fd_RX9_27 rfl rfl (Nat.le_of_ble_eq_true rfl) rfl ?_
      refine oRun.iload_n 15 dX9_get_14 1 rfl rfl rfl ?_
      obtain ⟨v15, hv15, h⟩ := oB1 h
      refine oRun.iaload 16 dX9_get_15 (Or.inr ⟨_, rfl⟩) hv15 rfl ?_
      refine oRun.iconst 17 dX9_get_16 oc_i1 rfl ?_
      refine oRun.isub 18 dX9_get_17 rfl ?_
      refine oRun.i2l 19 dX9_get_18 rfl ?_
      obtain ⟨r19, hr19, h⟩ := oB1 h
      refine oRun.callS (as := [.long x2.toInt64, .long 0, .long ((v15 - 1)).toInt64]) 22 dX9_get_19 lk_RX9_44 (oFit_i (Nat.le_of_ble_eq_true rfl) (Nat.le_of_ble_eq_true rfl)) rfl (Nat.le_of_ble_eq_true rfl) (Nat.le_of_ble_eq_true rfl) rfl (E_X9_isIn hr19) rfl ?_
      show oRun G _ 22 _ [.int r19] _ _ _
      by_cases c22 : r19 = 0
      · replace h := oIp c22 h
        refine oRun.if_eq_t 39 dX9_get_22 c22 rfl ?_
        refine oRun.ldc2 42 dX9_get_39 wd_4_201 rfl ?_
        rw [← Option.some.inj h]
        exact oRun.ret (r := some (.long (-9223372036854775808))) dX9_get_42
      · replace h := oIn c22 h
        refine oRun.if_eq_f 25 dX9_get_22 rfl c22 rfl ?_
        refine oRun.aload_n 26 dX9_get_25 0 rfl rfl (Nat.le_of_ble_eq_true rfl) rfl ?_
        refine oRun.getR 29 dX9_get_26 fd_RX9_30 rfl rfl (Nat.le_of_ble_eq_true rfl) rfl ?_
        refine oRun.bipush 31 dX9_get_29 oc_b12 rfl ?_
        refine oRun.iload_n 32 dX9_get_31 1 rfl rfl rfl ?_
        refine oRun.imul 33 dX9_get_32 rfl ?_
        refine oRun.iload_n 34 dX9_get_33 2 rfl rfl rfl ?_
        refine oRun.iadd 35 dX9_get_34 rfl ?_
        obtain ⟨v35, hv35, h⟩ := oB1 h
        refine oRun.laload 36 dX9_get_35 rfl hv35 rfl ?_
        refine oRun.goto 42 dX9_get_36 rfl ?_
        rw [← Option.some.inj h]
        exact oRun.ret (r := some (.long v35)) dX9_get_42
  · exact True.intro
set_option maxRecDepth 100000 in
set_option maxHeartbeats 4000000 in
theorem E_X8_image {G : oG} {m : oM} {w : Int32 × oM} (h : F_X8_image m = some w) : oEv G M_X8_image [.ref 0] m (some (.int w.1)) w.2 := by
  unfold F_X8_image at h
  refine ⟨?_, ?_⟩
  · show oRun G M_X8_image 0 [(0, .ref 0)] [] m (some (.int w.1)) w.2
    refine oRun.aload_n 1 dX8_image_0 0 rfl rfl (Nat.le_of_ble_eq_true rfl) rfl ?_
    refine oRun.getR 4 dX8_image_1 fd_RX8_18 rfl rfl (Nat.le_of_ble_eq_true rfl) rfl ?_
    refine oRun.aload_n 5 dX8_image_4 0 rfl rfl (Nat.le_of_ble_eq_true rfl) rfl ?_
    refine oRun.getR 8 dX8_image_5 fd_RX8_12 rfl rfl (Nat.le_of_ble_eq_true rfl) rfl ?_
    obtain ⟨r8, hr8, h⟩ := oB1 h
    refine oRun.callV (as := [.ref 1]) 11 dX8_image_8 lk_RX8_282 (oFit_i (Nat.le_of_ble_eq_true rfl) (Nat.le_of_ble_eq_true rfl)) rfl rfl rfl rfl (Nat.le_of_ble_eq_true rfl) (Nat.le_of_ble_eq_true rfl) rfl (E_X1_copyFrom rfl rfl hr8) rfl ?_
    show oRun G _ 11 _ [] _ _ _
    refine oRun.aload_n 12 dX8_image_11 0 rfl rfl (Nat.le_of_ble_eq_true rfl) rfl ?_
    refine oRun.iconst 13 dX8_image_12 oc_i1 rfl ?_
    obtain ⟨m13, hm13, h⟩ := oB1 h
    refine oRun.putZ 16 dX8_image_13 fp_RX8_24 rfl rfl (by decide) rfl ?_
    refine oRun.nameM hm13 ?_
    refine oRun.aload_n 17 dX8_image_16 0 rfl rfl (Nat.le_of_ble_eq_true rfl) rfl ?_
    refine oRun.getR 20 dX8_image_17 fd_RX8_12 rfl rfl (Nat.le_of_ble_eq_true rfl) rfl ?_
    refine oRun.getI 23 dX8_image_20 fd_RX8_60 rfl rfl rfl ?_
    rw [← Option.some.inj h]
    exact oRun.ret (r := some (.int (m13.1 1 0))) dX8_image_23
  · exact True.intro
set_option maxRecDepth 100000 in
set_option maxHeartbeats 4000000 in
theorem E_X9_image {G : oG} {m : oM} {w : Int32 × oM} (h : F_X9_image m = some w) : oEv G M_X9_image [.ref 51] m (some (.int w.1)) w.2 := by
  unfold F_X9_image at h
  refine ⟨?_, ?_⟩
  · show oRun G M_X9_image 0 [(0, .ref 51)] [] m (some (.int w.1)) w.2
    refine oRun.aload_n 1 dX9_image_0 0 rfl rfl (Nat.le_of_ble_eq_true rfl) rfl ?_
    refine oRun.getR 4 dX9_image_1 fd_RX9_11 rfl rfl (Nat.le_of_ble_eq_true rfl) rfl ?_
    refine oRun.aload_n 5 dX9_image_4 0 rfl rfl (Nat.le_of_ble_eq_true rfl) rfl ?_
    refine oRun.getR 8 dX9_image_5 fd_RX9_15 rfl rfl (Nat.le_of_ble_eq_true rfl) rfl ?_
    obtain ⟨r8, hr8, h⟩ := oB1 h
    refine oRun.callS (as := [.ref 52, .ref 53]) 11 dX9_image_8 lk_RX9_252 (oFit_i (Nat.le_of_ble_eq_true rfl) (Nat.le_of_ble_eq_true rfl)) rfl (Nat.le_of_ble_eq_true rfl) (Nat.le_of_ble_eq_true rfl) rfl (E_X9_copies (Or.inr ⟨_, rfl⟩) (oWA_i rfl) hr8) rfl ?_
    show oRun G _ 11 _ [] _ _ _
    refine oRun.aload_n 12 dX9_image_11 0 rfl rfl (Nat.le_of_ble_eq_true rfl) rfl ?_
    refine oRun.iconst 13 dX9_image_12 oc_i1 rfl ?_
    obtain ⟨m13, hm13, h⟩ := oB1 h
    refine oRun.putZ 16 dX9_image_13 fp_RX9_270 rfl rfl (by decide) rfl ?_
    refine oRun.nameM hm13 ?_
    refine oRun.aload_n 17 dX9_image_16 0 rfl rfl (Nat.le_of_ble_eq_true rfl) rfl ?_
    refine oRun.getR 20 dX9_image_17 fd_RX9_11 rfl rfl (Nat.le_of_ble_eq_true rfl) rfl ?_
    refine oRun.iconst 21 dX9_image_20 oc_i0 rfl ?_
    refine oRun.iaload (x := m13.1 52 0) 22 dX9_image_21 (Or.inr ⟨_, rfl⟩) (oAL_lit (i := 0) rfl) rfl ?_
    rw [← Option.some.inj h]
    exact oRun.ret (r := some (.int (m13.1 52 0))) dX9_image_22
  · exact True.intro
set_option maxRecDepth 100000 in
set_option maxHeartbeats 4000000 in
theorem E_X8_undo {G : oG} {m : oM} {w : Int32 × oM} (h : F_X8_undo m = some w) : oEv G M_X8_undo [.ref 0] m (some (.int w.1)) w.2 := by
  unfold F_X8_undo at h
  refine ⟨?_, ?_⟩
  · show oRun G M_X8_undo 0 [(0, .ref 0)] [] m (some (.int w.1)) w.2
    refine oRun.aload_n 1 dX8_undo_0 0 rfl rfl (Nat.le_of_ble_eq_true rfl) rfl ?_
    refine oRun.getI 4 dX8_undo_1 fd_RX8_24 rfl rfl rfl ?_
    by_cases c4 : (m.1 0 3) = 0
    · replace h := oIp c4 h
      refine oRun.if_ne_f 7 dX8_undo_4 rfl c4 rfl ?_
      refine oRun.bipush 9 dX8_undo_7 oc_bm3 rfl ?_
      rw [← Option.some.inj h]
      exact oRun.ret (r := some (.int (-3))) dX8_undo_9
    · replace h := oIn c4 h
      refine oRun.if_ne_t 10 dX8_undo_4 c4 rfl ?_
      refine oRun.aload_n 11 dX8_undo_10 0 rfl rfl (Nat.le_of_ble_eq_true rfl) rfl ?_
      refine oRun.getR 14 dX8_undo_11 fd_RX8_12 rfl rfl (Nat.le_of_ble_eq_true rfl) rfl ?_
      refine oRun.aload_n 15 dX8_undo_14 0 rfl rfl (Nat.le_of_ble_eq_true rfl) rfl ?_
      refine oRun.getR 18 dX8_undo_15 fd_RX8_18 rfl rfl (Nat.le_of_ble_eq_true rfl) rfl ?_
      obtain ⟨r18, hr18, h⟩ := oB1 h
      refine oRun.callV (as := [.ref 15]) 21 dX8_undo_18 lk_RX8_282 (oFit_i (Nat.le_of_ble_eq_true rfl) (Nat.le_of_ble_eq_true rfl)) rfl rfl rfl rfl (Nat.le_of_ble_eq_true rfl) (Nat.le_of_ble_eq_true rfl) rfl (E_X1_copyFrom rfl rfl hr18) rfl ?_
      show oRun G _ 21 _ [] _ _ _
      refine oRun.aload_n 22 dX8_undo_21 0 rfl rfl (Nat.le_of_ble_eq_true rfl) rfl ?_
      refine oRun.getR 25 dX8_undo_22 fd_RX8_12 rfl rfl (Nat.le_of_ble_eq_true rfl) rfl ?_
      refine oRun.getI 28 dX8_undo_25 fd_RX8_60 rfl rfl rfl ?_
      rw [← Option.some.inj h]
      exact oRun.ret (r := some (.int (r18.1 1 0))) dX8_undo_28
  · exact True.intro
set_option maxRecDepth 100000 in
set_option maxHeartbeats 4000000 in
theorem E_X9_undo {G : oG} {m : oM} {w : Int32 × oM} (h : F_X9_undo m = some w) : oEv G M_X9_undo [.ref 51] m (some (.int w.1)) w.2 := by
  unfold F_X9_undo at h
  refine ⟨?_, ?_⟩
  · show oRun G M_X9_undo 0 [(0, .ref 51)] [] m (some (.int w.1)) w.2
    refine oRun.aload_n 1 dX9_undo_0 0 rfl rfl (Nat.le_of_ble_eq_true rfl) rfl ?_
    refine oRun.getI 4 dX9_undo_1 fd_RX9_270 rfl rfl rfl ?_
    by_cases c4 : (m.1 51 3) = 0
    · replace h := oIp c4 h
      refine oRun.if_ne_f 7 dX9_undo_4 rfl c4 rfl ?_
      refine oRun.bipush 9 dX9_undo_7 oc_bm3 rfl ?_
      rw [← Option.some.inj h]
      exact oRun.ret (r := some (.int (-3))) dX9_undo_9
    · replace h := oIn c4 h
      refine oRun.if_ne_t 10 dX9_undo_4 c4 rfl ?_
      refine oRun.aload_n 11 dX9_undo_10 0 rfl rfl (Nat.le_of_ble_eq_true rfl) rfl ?_
      refine oRun.getR 14 dX9_undo_11 fd_RX9_15 rfl rfl (Nat.le_of_ble_eq_true rfl) rfl ?_
      refine oRun.aload_n 15 dX9_undo_14 0 rfl rfl (Nat.le_of_ble_eq_true rfl) rfl ?_
      refine oRun.getR 18 dX9_undo_15 fd_RX9_11 rfl rfl (Nat.le_of_ble_eq_true rfl) rfl ?_
      obtain ⟨r18, hr18, h⟩ := oB1 h
      refine oRun.callS (as := [.ref 53, .ref 52]) 21 dX9_undo_18 lk_RX9_252 (oFit_i (Nat.le_of_ble_eq_true rfl) (Nat.le_of_ble_eq_true rfl)) rfl (Nat.le_of_ble_eq_true rfl) (Nat.le_of_ble_eq_true rfl) rfl (E_X9_copies (Or.inr ⟨_, rfl⟩) (oWA_i rfl) hr18) rfl ?_
      show oRun G _ 21 _ [] _ _ _
      refine oRun.aload_n 22 dX9_undo_21 0 rfl rfl (Nat.le_of_ble_eq_true rfl) rfl ?_
      refine oRun.getR 25 dX9_undo_22 fd_RX9_11 rfl rfl (Nat.le_of_ble_eq_true rfl) rfl ?_
      refine oRun.iconst 26 dX9_undo_25 oc_i0 rfl ?_
      refine oRun.iaload (x := r18.1 52 0) 27 dX9_undo_26 (Or.inr ⟨_, rfl⟩) (oAL_lit (i := 0) rfl) rfl ?_
      rw [← Option.some.inj h]
      exact oRun.ret (r := some (.int (r18.1 52 0))) dX9_undo_27
  · exact True.intro
