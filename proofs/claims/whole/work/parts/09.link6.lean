set_option maxRecDepth 100000 in
set_option maxHeartbeats 4000000 in
theorem E_X7_number_L4 {G : oG} {o : Nat} (ho : oTb o = true) {m : oM} {r : Option Value} {m' : oM} : ∀ (n : Nat) (x1 : Int32) (x2 : Int32) (b : Int32), oLoop (fun s : Int32 × Int32 => F_X7_number_L4 o m s.1 s.2) n (x1, x2) = some b → oRun G M_X7_number 27 [(1, .int b)] [] m r m' → oRun G M_X7_number 4 [(0, .ref o), (1, .int x1), (2, .int x2)] [] m r m' := by
  intro n
  induction n with
  | zero => intro x1 x2 b h _; exact (oLoop_zero h).elim
  | succ n ih =>
    intro x1 x2 b h he
    obtain ⟨q', hq', h⟩ := oLoop_succ h
    have hc : ∀ s' : Int32 × Int32, q' = .inl s' → oRun G M_X7_number 4 [(0, .ref o), (1, .int s'.1), (2, .int s'.2)] [] m r m' := by
      rintro s' rfl
      exact ih (s'.1) (s'.2) b h he
    have hx : ∀ b' : Int32, q' = .inr b' → oRun G M_X7_number 27 [(1, .int b')] [] m r m' := by
      rintro b' rfl
      have h : b' = b := h
      rw [h]
      exact he
    clear h he ih
    have h := hq'
    clear hq'
    replace h : F_X7_number_L4 o m x1 x2 = some q' := h
    unfold F_X7_number_L4 at h
    refine oRun.iload_n 5 dX7_number_4 2 rfl rfl rfl ?_
    refine oRun.bipush 7 dX7_number_5 oc_b6 rfl ?_
    by_cases c7 : 6 ≤ x2
    · replace h := oIp c7 h
      refine oRun.icmp_ge_t 27 dX7_number_7 c7 rfl ?_
      cases h
      refine oRun.sub [1] rfl ?_
      exact hx _ rfl
    · replace h := oIn c7 h
      refine oRun.icmp_ge_f 10 dX7_number_7 rfl c7 rfl ?_
      refine oRun.aload_n 11 dX7_number_10 0 rfl rfl (oLt66 (oT_lt ho)) rfl ?_
      refine oRun.iload_n 12 dX7_number_11 2 rfl rfl rfl ?_
      obtain ⟨r12, hr12, h⟩ := oB1 h
      refine oRun.callV (as := [.int x2]) 15 dX7_number_12 lk_RX7_30 (oFit_i (Nat.le_of_ble_eq_true rfl) (Nat.le_of_ble_eq_true rfl)) (oT_sh ho) rfl rfl rfl (Nat.le_of_ble_eq_true rfl) (Nat.le_of_ble_eq_true rfl) rfl (E_X7_length ho hr12) rfl ?_
      show oRun G _ 15 _ [.int r12] _ _ _
      by_cases c15 : r12 ≤ 0
      · replace h := oIp c15 h
        refine oRun.if_le_t 21 dX7_number_15 c15 rfl ?_
        refine oRun.iinc 24 dX7_number_21 2 rfl (oAddC oc_i1) (Nat.le_of_ble_eq_true rfl) rfl rfl ?_
        refine oRun.goto 4 dX7_number_24 rfl ?_
        cases h
        refine oRun.sub [1, 2, 0] rfl ?_
        exact hc _ rfl
      · replace h := oIn c15 h
        refine oRun.if_le_f 18 dX7_number_15 rfl c15 rfl ?_
        refine oRun.iinc 21 dX7_number_18 1 rfl (oAddC oc_i1) (Nat.le_of_ble_eq_true rfl) rfl rfl ?_
        refine oRun.iinc 24 dX7_number_21 2 rfl (oAddC oc_i1) (Nat.le_of_ble_eq_true rfl) rfl rfl ?_
        refine oRun.goto 4 dX7_number_24 rfl ?_
        cases h
        refine oRun.sub [2, 1, 0] rfl ?_
        exact hc _ rfl
set_option maxRecDepth 100000 in
set_option maxHeartbeats 4000000 in
theorem E_X7_number {G : oG} {o : Nat} (ho : oTb o = true) {m : oM} {w : Int32} (h : F_X7_number o m = some w) : oEv G M_X7_number [.ref o] m (some (.int w)) m := by
  unfold F_X7_number at h
  refine ⟨?_, ?_⟩
  · show oRun G M_X7_number 0 [(0, .ref o)] [] m (some (.int w)) m
    refine oRun.iconst 1 dX7_number_0 oc_i0 rfl ?_
    refine oRun.istore_n 2 dX7_number_1 rfl (Nat.le_of_ble_eq_true rfl) rfl rfl ?_
    refine oRun.iconst 3 dX7_number_2 oc_i0 rfl ?_
    refine oRun.istore_n 4 dX7_number_3 rfl (Nat.le_of_ble_eq_true rfl) rfl rfl ?_
    obtain ⟨b4, hb4, h⟩ := oB1 h
    refine oRun.sub [2, 1, 0] rfl ?_
    refine E_X7_number_L4 ho _ _ _ _ hb4 ?_
    refine oRun.iload_n 28 dX7_number_27 0 rfl rfl rfl ?_
    rw [← Option.some.inj h]
    exact oRun.ret (r := some (.int b4)) dX7_number_28
  · exact True.intro
set_option maxRecDepth 100000 in
set_option maxHeartbeats 4000000 in
theorem E_X8_count {G : oG} {m : oM} {x1 : Int32} {w : Int32} (h : F_X8_count m x1 = some w) : oEv G M_X8_count [.ref 0, .int x1] m (some (.int w)) m := by
  unfold F_X8_count at h
  refine ⟨?_, ?_⟩
  · show oRun G M_X8_count 0 [(0, .ref 0), (1, .int x1)] [] m (some (.int w)) m
    refine oRun.iload_n 1 dX8_count_0 1 rfl rfl rfl ?_
    by_cases c1_0 : x1 = 0
    · replace h := oIp c1_0 h
      refine oRun.tsin 44 dX8_count_1 (q := 0) (by rw [c1_0]; rfl) (by decide) (by decide) rfl rfl ?_
      refine oRun.aload_n 45 dX8_count_44 0 rfl rfl (Nat.le_of_ble_eq_true rfl) rfl ?_
      refine oRun.getR 48 dX8_count_45 fd_RX8_12 rfl rfl (Nat.le_of_ble_eq_true rfl) rfl ?_
      refine oRun.getI 51 dX8_count_48 fd_RX8_60 rfl rfl rfl ?_
      rw [← Option.some.inj h]
      exact oRun.ret (r := some (.int (m.1 1 0))) dX8_count_51
    · replace h := oIn c1_0 h
      by_cases c1_1 : x1 = 1
      · replace h := oIp c1_1 h
        refine oRun.tsin 52 dX8_count_1 (q := 1) (by rw [c1_1]; rfl) (by decide) (by decide) rfl rfl ?_
        refine oRun.aload_n 53 dX8_count_52 0 rfl rfl (Nat.le_of_ble_eq_true rfl) rfl ?_
        refine oRun.getR 56 dX8_count_53 fd_RX8_12 rfl rfl (Nat.le_of_ble_eq_true rfl) rfl ?_
        refine oRun.getR 59 dX8_count_56 fd_RX8_135 rfl rfl (Nat.le_of_ble_eq_true rfl) rfl ?_
        refine oRun.getI 62 dX8_count_59 fd_RX8_139 rfl rfl rfl ?_
        rw [← Option.some.inj h]
        exact oRun.ret (r := some (.int (m.1 4 0))) dX8_count_62
      · replace h := oIn c1_1 h
        by_cases c1_2 : x1 = 2
        · replace h := oIp c1_2 h
          refine oRun.tsin 63 dX8_count_1 (q := 2) (by rw [c1_2]; rfl) (by decide) (by decide) rfl rfl ?_
          refine oRun.aload_n 64 dX8_count_63 0 rfl rfl (Nat.le_of_ble_eq_true rfl) rfl ?_
          refine oRun.getR 67 dX8_count_64 fd_RX8_12 rfl rfl (Nat.le_of_ble_eq_true rfl) rfl ?_
          refine oRun.getR 70 dX8_count_67 fd_RX8_170 rfl rfl (Nat.le_of_ble_eq_true rfl) rfl ?_
          obtain ⟨r70, hr70, h⟩ := oB1 h
          refine oRun.callV (as := []) 73 dX8_count_70 lk_RX8_332 (oFit_i (Nat.le_of_ble_eq_true rfl) (Nat.le_of_ble_eq_true rfl)) rfl rfl rfl rfl (Nat.le_of_ble_eq_true rfl) (Nat.le_of_ble_eq_true rfl) rfl (E_X7_number rfl hr70) rfl ?_
          show oRun G _ 73 _ [.int r70] _ _ _
          rw [← Option.some.inj h]
          exact oRun.ret (r := some (.int r70)) dX8_count_73
        · replace h := oIn c1_2 h
          by_cases c1_3 : x1 = 3
          · replace h := oIp c1_3 h
            refine oRun.tsin 74 dX8_count_1 (q := 3) (by rw [c1_3]; rfl) (by decide) (by decide) rfl rfl ?_
            refine oRun.aload_n 75 dX8_count_74 0 rfl rfl (Nat.le_of_ble_eq_true rfl) rfl ?_
            refine oRun.getR 78 dX8_count_75 fd_RX8_12 rfl rfl (Nat.le_of_ble_eq_true rfl) rfl ?_
            refine oRun.getR 81 dX8_count_78 fd_RX8_170 rfl rfl (Nat.le_of_ble_eq_true rfl) rfl ?_
            obtain ⟨r81, hr81, h⟩ := oB1 h
            refine oRun.callV (as := []) 84 dX8_count_81 lk_RX8_335 (oFit_i (Nat.le_of_ble_eq_true rfl) (Nat.le_of_ble_eq_true rfl)) rfl rfl rfl rfl (Nat.le_of_ble_eq_true rfl) (Nat.le_of_ble_eq_true rfl) rfl (E_X7_wheels rfl hr81) rfl ?_
            show oRun G _ 84 _ [.int r81] _ _ _
            rw [← Option.some.inj h]
            exact oRun.ret (r := some (.int r81)) dX8_count_84
          · replace h := oIn c1_3 h
            by_cases c1_4 : x1 = 4
            · replace h := oIp c1_4 h
              refine oRun.tsin 85 dX8_count_1 (q := 4) (by rw [c1_4]; rfl) (by decide) (by decide) rfl rfl ?_
              refine oRun.aload_n 86 dX8_count_85 0 rfl rfl (Nat.le_of_ble_eq_true rfl) rfl ?_
              refine oRun.getR 89 dX8_count_86 fd_RX8_31 rfl rfl (Nat.le_of_ble_eq_true rfl) rfl ?_
              refine oRun.getI 92 dX8_count_89 fd_RX8_118 rfl rfl rfl ?_
              rw [← Option.some.inj h]
              exact oRun.ret (r := some (.int (m.1 43 0))) dX8_count_92
            · replace h := oIn c1_4 h
              by_cases c1_5 : x1 = 5
              · replace h := oIp c1_5 h
                refine oRun.tsin 93 dX8_count_1 (q := 5) (by rw [c1_5]; rfl) (by decide) (by decide) rfl rfl ?_
                refine oRun.aload_n 94 dX8_count_93 0 rfl rfl (Nat.le_of_ble_eq_true rfl) rfl ?_
                refine oRun.getR 97 dX8_count_94 fd_RX8_38 rfl rfl (Nat.le_of_ble_eq_true rfl) rfl ?_
                refine oRun.getI 100 dX8_count_97 fd_RX8_305 rfl rfl rfl ?_
                rw [← Option.some.inj h]
                exact oRun.ret (r := some (.int (m.1 45 0))) dX8_count_100
              · replace h := oIn c1_5 h
                by_cases c1_6 : x1 = 6
                · replace h := oIp c1_6 h
                  refine oRun.tsin 101 dX8_count_1 (q := 6) (by rw [c1_6]; rfl) (by decide) (by decide) rfl rfl ?_
                  refine oRun.aload_n 102 dX8_count_101 0 rfl rfl (Nat.le_of_ble_eq_true rfl) rfl ?_
                  refine oRun.getR 105 dX8_count_102 fd_RX8_12 rfl rfl (Nat.le_of_ble_eq_true rfl) rfl ?_
                  refine oRun.getR 108 dX8_count_105 fd_RX8_289 rfl rfl (Nat.le_of_ble_eq_true rfl) rfl ?_
                  refine oRun.getI 111 dX8_count_108 fd_RX8_293 rfl rfl rfl ?_
                  rw [← Option.some.inj h]
                  exact oRun.ret (r := some (.int (m.1 12 0))) dX8_count_111
                · replace h := oIn c1_6 h
                  have dk : oRun G M_X8_count 112 [(0, .ref 0), (1, .int x1)] [] m (some (.int w)) m := by
                    refine oRun.bipush 114 dX8_count_112 oc_bm2 rfl ?_
                    rw [← Option.some.inj h]
                    exact oRun.ret (r := some (.int (-2))) dX8_count_114
                  by_cases hl1 : x1.toInt < 0 ∨ 6 < x1.toInt
                  · exact oRun.tsout 112 dX8_count_1 hl1 rfl dk
                  · have hq : x1.toInt = 0 ∨ x1.toInt = 1 ∨ x1.toInt = 2 ∨ x1.toInt = 3 ∨ x1.toInt = 4 ∨ x1.toInt = 5 ∨ x1.toInt = 6 := by omega
                    rcases hq with hq | hq | hq | hq | hq | hq | hq
                    · exact absurd (oTs (k := 0) rfl hq) c1_0
                    · exact absurd (oTs (k := 1) rfl hq) c1_1
                    · exact absurd (oTs (k := 2) rfl hq) c1_2
                    · exact absurd (oTs (k := 3) rfl hq) c1_3
                    · exact absurd (oTs (k := 4) rfl hq) c1_4
                    · exact absurd (oTs (k := 5) rfl hq) c1_5
                    · exact absurd (oTs (k := 6) rfl hq) c1_6
  · exact True.intro
set_option maxRecDepth 100000 in
set_option maxHeartbeats 4000000 in
theorem E_X9_count_L60 {G : oG} {m : oM} {r : Option Value} {m' : oM} : ∀ (n : Nat) (x2 : Int32) (x3 : Int32) (b : Int32), oLoop (fun s : Int32 × Int32 => F_X9_count_L60 m s.1 s.2) n (x2, x3) = some b → oRun G M_X9_count 92 [(2, .int b)] [] m r m' → oRun G M_X9_count 60 [(0, .ref 51), (2, .int x2), (3, .int x3)] [] m r m' := by
  intro n
  induction n with
  | zero => intro x2 x3 b h _; exact (oLoop_zero h).elim
  | succ n ih =>
    intro x2 x3 b h he
    obtain ⟨q', hq', h⟩ := oLoop_succ h
    have hc : ∀ s' : Int32 × Int32, q' = .inl s' → oRun G M_X9_count 60 [(0, .ref 51), (2, .int s'.1), (3, .int s'.2)] [] m r m' := by
      rintro s' rfl
      exact ih (s'.1) (s'.2) b h he
    have hx : ∀ b' : Int32, q' = .inr b' → oRun G M_X9_count 92 [(2, .int b')] [] m r m' := by
      rintro b' rfl
      have h : b' = b := h
      rw [h]
      exact he
    clear h he ih
    have h := hq'
    clear hq'
    replace h : F_X9_count_L60 m x2 x3 = some q' := h
    unfold F_X9_count_L60 at h
    refine oRun.iload_n 61 dX9_count_60 2 rfl rfl rfl ?_
    refine oRun.aload_n 62 dX9_count_61 0 rfl rfl (Nat.le_of_ble_eq_true rfl) rfl ?_
    refine oRun.getR 65 dX9_count_62 fd_RX9_11 rfl rfl (Nat.le_of_ble_eq_true rfl) rfl ?_
    refine oRun.iconst 66 dX9_count_65 oc_i0 rfl ?_
    refine oRun.iaload (x := m.1 52 0) 67 dX9_count_66 (Or.inr ⟨_, rfl⟩) (oAL_lit (i := 0) rfl) rfl ?_
    by_cases c67 : (m.1 52 0) ≤ x3
    · replace h := oIp c67 h
      refine oRun.icmp_ge_t 92 dX9_count_67 c67 rfl ?_
      cases h
      refine oRun.sub [1] rfl ?_
      exact hx _ rfl
    · replace h := oIn c67 h
      refine oRun.icmp_ge_f 70 dX9_count_67 rfl c67 rfl ?_
      refine oRun.iload_n 71 dX9_count_70 1 rfl rfl rfl ?_
      refine oRun.aload_n 72 dX9_count_71 0 rfl rfl (Nat.le_of_ble_eq_true rfl) rfl ?_
      refine oRun.iload_n 73 dX9_count_72 2 rfl rfl rfl ?_
      obtain ⟨r73, hr73, h⟩ := oB1 h
      refine oRun.callV (as := [.int x3]) 76 dX9_count_73 lk_RX9_154 (oFit_i (Nat.le_of_ble_eq_true rfl) (Nat.le_of_ble_eq_true rfl)) rfl rfl rfl rfl (Nat.le_of_ble_eq_true rfl) (Nat.le_of_ble_eq_true rfl) rfl (E_X9_hasTrain hr73) rfl ?_
      show oRun G _ 76 _ [.int r73, .int x2] _ _ _
      by_cases c76 : r73 = 0
      · replace h := oIp c76 h
        refine oRun.if_eq_t 83 dX9_count_76 c76 rfl ?_
        refine oRun.iconst 84 dX9_count_83 oc_i0 rfl ?_
        refine oRun.iadd 85 dX9_count_84 rfl ?_
        obtain ⟨x2_85, hx2_85, h⟩ := oB1 h
        refine oRun.nameI hx2_85 ?_
        refine oRun.istore_n 86 dX9_count_85 rfl (Nat.le_of_ble_eq_true rfl) rfl rfl ?_
        refine oRun.iinc 89 dX9_count_86 2 rfl (oAddC oc_i1) (Nat.le_of_ble_eq_true rfl) rfl rfl ?_
        refine oRun.goto 60 dX9_count_89 rfl ?_
        cases h
        refine oRun.sub [2, 1, 0] rfl ?_
        exact hc _ rfl
      · replace h := oIn c76 h
        refine oRun.if_eq_f 79 dX9_count_76 rfl c76 rfl ?_
        refine oRun.iconst 80 dX9_count_79 oc_i1 rfl ?_
        refine oRun.goto 84 dX9_count_80 rfl ?_
        refine oRun.iadd 85 dX9_count_84 rfl ?_
        obtain ⟨x2_85, hx2_85, h⟩ := oB1 h
        refine oRun.nameI hx2_85 ?_
        refine oRun.istore_n 86 dX9_count_85 rfl (Nat.le_of_ble_eq_true rfl) rfl rfl ?_
        refine oRun.iinc 89 dX9_count_86 2 rfl (oAddC oc_i1) (Nat.le_of_ble_eq_true rfl) rfl rfl ?_
        refine oRun.goto 60 dX9_count_89 rfl ?_
        cases h
        refine oRun.sub [2, 1, 0] rfl ?_
        exact hc _ rfl
set_option maxRecDepth 100000 in
set_option maxHeartbeats 4000000 in
theorem E_X9_count {G : oG} {m : oM} {x1 : Int32} {w : Int32} (h : F_X9_count m x1 = some w) : oEv G M_X9_count [.ref 51, .int x1] m (some (.int w)) m := by
  unfold F_X9_count at h
  refine ⟨?_, ?_⟩
  · show oRun G M_X9_count 0 [(0, .ref 51), (1, .int x1)] [] m (some (.int w)) m
    refine oRun.iconst 1 dX9_count_0 oc_i0 rfl ?_
    refine oRun.istore_n 2 dX9_count_1 rfl (Nat.le_of_ble_eq_true rfl) rfl rfl ?_
    refine oRun.iload_n 3 dX9_count_2 2 rfl rfl rfl ?_
    by_cases c3_0 : x1 = 0
    · replace h := oIp c3_0 h
      refine oRun.tsin 44 dX9_count_3 (q := 0) (by rw [c3_0]; rfl) (by decide) (by decide) rfl rfl ?_
      refine oRun.aload_n 45 dX9_count_44 1 rfl rfl (Nat.le_of_ble_eq_true rfl) rfl ?_
      refine oRun.getR 48 dX9_count_45 fd_RX9_11 rfl rfl (Nat.le_of_ble_eq_true rfl) rfl ?_
      refine oRun.iconst 49 dX9_count_48 oc_i0 rfl ?_
      refine oRun.iaload (x := m.1 52 0) 50 dX9_count_49 (Or.inr ⟨_, rfl⟩) (oAL_lit (i := 0) rfl) rfl ?_
      rw [← Option.some.inj h]
      exact oRun.ret (r := some (.int (m.1 52 0))) dX9_count_50
    · replace h := oIn c3_0 h
      by_cases c3_1 : x1 = 1
      · replace h := oIp c3_1 h
        refine oRun.tsin 51 dX9_count_3 (q := 1) (by rw [c3_1]; rfl) (by decide) (by decide) rfl rfl ?_
        refine oRun.aload_n 52 dX9_count_51 1 rfl rfl (Nat.le_of_ble_eq_true rfl) rfl ?_
        refine oRun.getR 55 dX9_count_52 fd_RX9_11 rfl rfl (Nat.le_of_ble_eq_true rfl) rfl ?_
        refine oRun.iconst 56 dX9_count_55 oc_i3 rfl ?_
        refine oRun.iaload (x := m.1 52 3) 57 dX9_count_56 (Or.inr ⟨_, rfl⟩) (oAL_lit (i := 3) rfl) rfl ?_
        rw [← Option.some.inj h]
        exact oRun.ret (r := some (.int (m.1 52 3))) dX9_count_57
      · replace h := oIn c3_1 h
        by_cases c3_2 : x1 = 2
        · replace h := oIp c3_2 h
          refine oRun.tsin 58 dX9_count_3 (q := 2) (by rw [c3_2]; rfl) (by decide) (by decide) rfl rfl ?_
          refine oRun.iconst 59 dX9_count_58 oc_i0 rfl ?_
          refine oRun.istore_n 60 dX9_count_59 rfl (Nat.le_of_ble_eq_true rfl) rfl rfl ?_
          obtain ⟨b60, hb60, h⟩ := oB1 h
          refine oRun.sub [2, 1, 0] rfl ?_
          refine E_X9_count_L60 _ _ _ _ hb60 ?_
          refine oRun.iload_n 93 dX9_count_92 0 rfl rfl rfl ?_
          rw [← Option.some.inj h]
          exact oRun.ret (r := some (.int b60)) dX9_count_93
        · replace h := oIn c3_2 h
          by_cases c3_3 : x1 = 3
          · replace h := oIp c3_3 h
            refine oRun.tsin 94 dX9_count_3 (q := 3) (by rw [c3_3]; rfl) (by decide) (by decide) rfl rfl ?_
            refine oRun.aload_n 95 dX9_count_94 1 rfl rfl (Nat.le_of_ble_eq_true rfl) rfl ?_
            obtain ⟨r95, hr95, h⟩ := oB1 h
            refine oRun.callV (as := []) 98 dX9_count_95 lk_RX9_179 (oFit_i (Nat.le_of_ble_eq_true rfl) (Nat.le_of_ble_eq_true rfl)) rfl rfl rfl rfl (Nat.le_of_ble_eq_true rfl) (Nat.le_of_ble_eq_true rfl) rfl (E_X9_wheels hr95) rfl ?_
            show oRun G _ 98 _ [.int r95] _ _ _
            rw [← Option.some.inj h]
            exact oRun.ret (r := some (.int r95)) dX9_count_98
          · replace h := oIn c3_3 h
            by_cases c3_4 : x1 = 4
            · replace h := oIp c3_4 h
              refine oRun.tsin 99 dX9_count_3 (q := 4) (by rw [c3_4]; rfl) (by decide) (by decide) rfl rfl ?_
              refine oRun.aload_n 100 dX9_count_99 1 rfl rfl (Nat.le_of_ble_eq_true rfl) rfl ?_
              refine oRun.getI 103 dX9_count_100 fd_RX9_92 rfl rfl rfl ?_
              rw [← Option.some.inj h]
              exact oRun.ret (r := some (.int (m.1 51 8))) dX9_count_103
            · replace h := oIn c3_4 h
              by_cases c3_5 : x1 = 5
              · replace h := oIp c3_5 h
                refine oRun.tsin 104 dX9_count_3 (q := 5) (by rw [c3_5]; rfl) (by decide) (by decide) rfl rfl ?_
                refine oRun.aload_n 105 dX9_count_104 1 rfl rfl (Nat.le_of_ble_eq_true rfl) rfl ?_
                refine oRun.getI 108 dX9_count_105 fd_RX9_262 rfl rfl rfl ?_
                rw [← Option.some.inj h]
                exact oRun.ret (r := some (.int (m.1 51 9))) dX9_count_108
              · replace h := oIn c3_5 h
                by_cases c3_6 : x1 = 6
                · replace h := oIp c3_6 h
                  refine oRun.tsin 109 dX9_count_3 (q := 6) (by rw [c3_6]; rfl) (by decide) (by decide) rfl rfl ?_
                  refine oRun.aload_n 110 dX9_count_109 1 rfl rfl (Nat.le_of_ble_eq_true rfl) rfl ?_
                  refine oRun.getR 113 dX9_count_110 fd_RX9_11 rfl rfl (Nat.le_of_ble_eq_true rfl) rfl ?_
                  refine oRun.bipush 115 dX9_count_113 oc_b6 rfl ?_
                  refine oRun.iaload (x := m.1 52 6) 116 dX9_count_115 (Or.inr ⟨_, rfl⟩) (oAL_lit (i := 6) rfl) rfl ?_
                  rw [← Option.some.inj h]
                  exact oRun.ret (r := some (.int (m.1 52 6))) dX9_count_116
                · replace h := oIn c3_6 h
                  have dk : oRun G M_X9_count 117 [(2, .int 0), (0, .ref 51), (1, .int x1)] [] m (some (.int w)) m := by
                    refine oRun.bipush 119 dX9_count_117 oc_bm2 rfl ?_
                    rw [← Option.some.inj h]
                    exact oRun.ret (r := some (.int (-2))) dX9_count_119
                  by_cases hl3 : x1.toInt < 0 ∨ 6 < x1.toInt
                  · exact oRun.tsout 117 dX9_count_3 hl3 rfl dk
                  · have hq : x1.toInt = 0 ∨ x1.toInt = 1 ∨ x1.toInt = 2 ∨ x1.toInt = 3 ∨ x1.toInt = 4 ∨ x1.toInt = 5 ∨ x1.toInt = 6 := by omega
                    rcases hq with hq | hq | hq | hq | hq | hq | hq
                    · exact absurd (oTs (k := 0) rfl hq) c3_0
                    · exact absurd (oTs (k := 1) rfl hq) c3_1
                    · exact absurd (oTs (k := 2) rfl hq) c3_2
                    · exact absurd (oTs (k := 3) rfl hq) c3_3
                    · exact absurd (oTs (k := 4) rfl hq) c3_4
                    · exact absurd (oTs (k := 5) rfl hq) c3_5
                    · exact absurd (oTs (k := 6) rfl hq) c3_6
  · exact True.intro
