set_option maxRecDepth 100000 in
set_option maxHeartbeats 4000000 in
theorem E_X6_faultAsPairs_L2 {G : oG} {m : oM} {r : Option Value} {m' : oM} : ∀ (n : Nat) (x1 : Int32) (b : (Unit) ⊕ (Int32)), oLoop (fun s : Int32 => F_X6_faultAsPairs_L2 m s) n x1 = some b → Sum.elim (fun yy => oRun G M_X6_faultAsPairs 36 [(0, .ref 43)] [] m r m') (fun zz => r = (some (.int zz)) ∧ m' = m) b → oRun G M_X6_faultAsPairs 2 [(0, .ref 43), (1, .int x1)] [] m r m' := by
  intro n
  induction n with
  | zero => intro x1 b h _; exact (oLoop_zero h).elim
  | succ n ih =>
    intro x1 b h he
    obtain ⟨q', hq', h⟩ := oLoop_succ h
    have hc : ∀ s' : Int32, q' = .inl s' → oRun G M_X6_faultAsPairs 2 [(0, .ref 43), (1, .int s')] [] m r m' := by
      rintro s' rfl
      exact ih (s') b h he
    have hx : ∀ b' : (Unit) ⊕ (Int32), q' = .inr b' → Sum.elim (fun yy => oRun G M_X6_faultAsPairs 36 [(0, .ref 43)] [] m r m') (fun zz => r = (some (.int zz)) ∧ m' = m) b' := by
      rintro b' rfl
      have h : b' = b := h
      rw [h]
      exact he
    clear h he ih
    have h := hq'
    clear hq'
    replace h : F_X6_faultAsPairs_L2 m x1 = some q' := h
    unfold F_X6_faultAsPairs_L2 at h
    refine oRun.iload_n 3 dX6_faultAsPairs_2 1 rfl rfl rfl ?_
    refine oRun.aload_n 4 dX6_faultAsPairs_3 0 rfl rfl (Nat.le_of_ble_eq_true rfl) rfl ?_
    refine oRun.getI 7 dX6_faultAsPairs_4 fd_RX6_9 rfl rfl rfl ?_
    by_cases c7 : (m.1 43 0) ≤ x1
    · replace h := oIp c7 h
      refine oRun.icmp_ge_t 36 dX6_faultAsPairs_7 c7 rfl ?_
      cases h
      refine oRun.sub [0] rfl ?_
      exact hx _ rfl
    · replace h := oIn c7 h
      refine oRun.icmp_ge_f 10 dX6_faultAsPairs_7 rfl c7 rfl ?_
      refine oRun.iload_n 11 dX6_faultAsPairs_10 1 rfl rfl rfl ?_
      refine oRun.bipush 13 dX6_faultAsPairs_11 oc_b9 rfl ?_
      refine oRun.irem 14 dX6_faultAsPairs_13 (by decide) rfl ?_
      refine oRun.aload_n 15 dX6_faultAsPairs_14 0 rfl rfl (Nat.le_of_ble_eq_true rfl) rfl ?_
      refine oRun.getR 18 dX6_faultAsPairs_15 fd_RX6_15 rfl rfl (Nat.le_of_ble_eq_true rfl) rfl ?_
      refine oRun.iload_n 19 dX6_faultAsPairs_18 1 rfl rfl rfl ?_
      obtain ⟨r19, hr19, h⟩ := oB1 h
      refine oRun.callN (as := [.ref 44, .int x1]) 22 dX6_faultAsPairs_19 lk_RX6_19 (oFit_i (Nat.le_of_ble_eq_true rfl) (Nat.le_of_ble_eq_true rfl)) rfl (Nat.le_of_ble_eq_true rfl) (Nat.le_of_ble_eq_true rfl) rfl (E_X8_at (Or.inr ⟨_, rfl⟩) hr19) rfl ?_
      show oRun G _ 22 _ [.int r19, .int (oRI x1 9)] _ _ _
      obtain ⟨r22, hr22, h⟩ := oB1 h
      refine oRun.callS (as := [.int (oRI x1 9), .int r19]) 25 dX6_faultAsPairs_22 lk_RX6_23 (oFit_i (Nat.le_of_ble_eq_true rfl) (Nat.le_of_ble_eq_true rfl)) rfl (Nat.le_of_ble_eq_true rfl) (Nat.le_of_ble_eq_true rfl) rfl (E_X6_fitsClause hr22) rfl ?_
      show oRun G _ 25 _ [.int r22] _ _ _
      by_cases c25 : r22 = 0
      · replace h := oIp c25 h
        refine oRun.if_ne_f 28 dX6_faultAsPairs_25 rfl c25 rfl ?_
        refine oRun.iload_n 29 dX6_faultAsPairs_28 1 rfl rfl rfl ?_
        cases h
        obtain ⟨hr1, hr2⟩ := hx _ rfl
        rw [hr1, hr2]
        exact oRun.ret (r := some (.int x1)) dX6_faultAsPairs_29
      · replace h := oIn c25 h
        refine oRun.if_ne_t 30 dX6_faultAsPairs_25 c25 rfl ?_
        refine oRun.iinc 33 dX6_faultAsPairs_30 1 rfl (oAddC oc_i1) (Nat.le_of_ble_eq_true rfl) rfl rfl ?_
        refine oRun.goto 2 dX6_faultAsPairs_33 rfl ?_
        cases h
        refine oRun.sub [1, 0] rfl ?_
        exact hc _ rfl
set_option maxRecDepth 100000 in
set_option maxHeartbeats 4000000 in
theorem E_X6_faultAsPairs {G : oG} {m : oM} {w : Int32} (h : F_X6_faultAsPairs m = some w) : oEv G M_X6_faultAsPairs [.ref 43] m (some (.int w)) m := by
  unfold F_X6_faultAsPairs at h
  refine ⟨?_, ?_⟩
  · show oRun G M_X6_faultAsPairs 0 [(0, .ref 43)] [] m (some (.int w)) m
    refine oRun.iconst 1 dX6_faultAsPairs_0 oc_i0 rfl ?_
    refine oRun.istore_n 2 dX6_faultAsPairs_1 rfl (Nat.le_of_ble_eq_true rfl) rfl rfl ?_
    obtain ⟨b2, hb2, h⟩ := oB1 h
    refine oRun.sub [1, 0] rfl ?_
    refine E_X6_faultAsPairs_L2 _ _ _ hb2 ?_
    rcases b2 with y2 | z2
    · replace h := oSl h
      show oRun G _ _ _ _ _ _ _
      refine oRun.aload_n 37 dX6_faultAsPairs_36 0 rfl rfl (Nat.le_of_ble_eq_true rfl) rfl ?_
      refine oRun.getI 40 dX6_faultAsPairs_37 fd_RX6_9 rfl rfl rfl ?_
      refine oRun.bipush 42 dX6_faultAsPairs_40 oc_b9 rfl ?_
      refine oRun.irem 43 dX6_faultAsPairs_42 (by decide) rfl ?_
      refine oRun.bipush 45 dX6_faultAsPairs_43 oc_b8 rfl ?_
      by_cases c45 : (oRI ((m.1 43 0)) 9) = 8
      · replace h := oIp c45 h
        refine oRun.icmp_ne_f 48 dX6_faultAsPairs_45 rfl c45 rfl ?_
        refine oRun.iconst 49 dX6_faultAsPairs_48 oc_im1 rfl ?_
        refine oRun.goto 56 dX6_faultAsPairs_49 rfl ?_
        rw [← Option.some.inj h]
        exact oRun.ret (r := some (.int (-1))) dX6_faultAsPairs_56
      · replace h := oIn c45 h
        refine oRun.icmp_ne_t 52 dX6_faultAsPairs_45 c45 rfl ?_
        refine oRun.aload_n 53 dX6_faultAsPairs_52 0 rfl rfl (Nat.le_of_ble_eq_true rfl) rfl ?_
        refine oRun.getI 56 dX6_faultAsPairs_53 fd_RX6_9 rfl rfl rfl ?_
        rw [← Option.some.inj h]
        exact oRun.ret (r := some (.int (m.1 43 0))) dX6_faultAsPairs_56
    · replace h := oSr h
      cases h
      exact ⟨rfl, rfl⟩
  · exact True.intro
set_option maxRecDepth 100000 in
set_option maxHeartbeats 4000000 in
theorem E_X6_clauses {G : oG} {m : oM} {w : Int32} (h : F_X6_clauses m = some w) : oEv G M_X6_clauses [.ref 43] m (some (.int w)) m := by
  unfold F_X6_clauses at h
  refine ⟨?_, ?_⟩
  · show oRun G M_X6_clauses 0 [(0, .ref 43)] [] m (some (.int w)) m
    refine oRun.aload_n 1 dX6_clauses_0 0 rfl rfl (Nat.le_of_ble_eq_true rfl) rfl ?_
    refine oRun.getI 4 dX6_clauses_1 fd_RX6_9 rfl rfl rfl ?_
    refine oRun.iconst 5 dX6_clauses_4 oc_i1 rfl ?_
    refine oRun.iadd 6 dX6_clauses_5 rfl ?_
    refine oRun.bipush 8 dX6_clauses_6 oc_b9 rfl ?_
    refine oRun.idiv 9 dX6_clauses_8 (by decide) rfl ?_
    rw [← Option.some.inj h]
    exact oRun.ret (r := some (.int (((m.1 43 0) + 1) / 9))) dX6_clauses_9
  · exact True.intro
set_option maxRecDepth 100000 in
set_option maxHeartbeats 4000000 in
theorem E_X6_figureAt {G : oG} {m : oM} {x1 : Int32} {w : Int32} (h : F_X6_figureAt m x1 = some w) : oEv G M_X6_figureAt [.ref 43, .int x1] m (some (.int w)) m := by
  unfold F_X6_figureAt at h
  refine ⟨?_, ?_⟩
  · show oRun G M_X6_figureAt 0 [(0, .ref 43), (1, .int x1)] [] m (some (.int w)) m
    refine oRun.aload_n 1 dX6_figureAt_0 0 rfl rfl (Nat.le_of_ble_eq_true rfl) rfl ?_
    refine oRun.getR 4 dX6_figureAt_1 fd_RX6_15 rfl rfl (Nat.le_of_ble_eq_true rfl) rfl ?_
    refine oRun.iload_n 5 dX6_figureAt_4 1 rfl rfl rfl ?_
    obtain ⟨r5, hr5, h⟩ := oB1 h
    refine oRun.callN (as := [.ref 44, .int x1]) 8 dX6_figureAt_5 lk_RX6_19 (oFit_i (Nat.le_of_ble_eq_true rfl) (Nat.le_of_ble_eq_true rfl)) rfl (Nat.le_of_ble_eq_true rfl) (Nat.le_of_ble_eq_true rfl) rfl (E_X8_at (Or.inr ⟨_, rfl⟩) hr5) rfl ?_
    show oRun G _ 8 _ [.int r5] _ _ _
    refine oRun.bipush 10 dX6_figureAt_8 oc_b48 rfl ?_
    refine oRun.isub 11 dX6_figureAt_10 rfl ?_
    rw [← Option.some.inj h]
    exact oRun.ret (r := some (.int (r5 - 48))) dX6_figureAt_11
  · exact True.intro
set_option maxRecDepth 100000 in
set_option maxHeartbeats 4000000 in
theorem E_X6_numberAt {G : oG} {m : oM} {x1 : Int32} {w : Int32} (h : F_X6_numberAt m x1 = some w) : oEv G M_X6_numberAt [.ref 43, .int x1] m (some (.int w)) m := by
  unfold F_X6_numberAt at h
  refine ⟨?_, ?_⟩
  · show oRun G M_X6_numberAt 0 [(0, .ref 43), (1, .int x1)] [] m (some (.int w)) m
    refine oRun.bipush 2 dX6_numberAt_0 oc_b10 rfl ?_
    refine oRun.aload_n 3 dX6_numberAt_2 0 rfl rfl (Nat.le_of_ble_eq_true rfl) rfl ?_
    refine oRun.iload_n 4 dX6_numberAt_3 1 rfl rfl rfl ?_
    obtain ⟨r4, hr4, h⟩ := oB1 h
    refine oRun.callV (as := [.int x1]) 7 dX6_numberAt_4 lk_RX6_31 (oFit_i (Nat.le_of_ble_eq_true rfl) (Nat.le_of_ble_eq_true rfl)) rfl rfl rfl rfl (Nat.le_of_ble_eq_true rfl) (Nat.le_of_ble_eq_true rfl) rfl (E_X6_figureAt hr4) rfl ?_
    show oRun G _ 7 _ [.int r4, .int 10] _ _ _
    refine oRun.imul 8 dX6_numberAt_7 rfl ?_
    refine oRun.aload_n 9 dX6_numberAt_8 0 rfl rfl (Nat.le_of_ble_eq_true rfl) rfl ?_
    refine oRun.iload_n 10 dX6_numberAt_9 1 rfl rfl rfl ?_
    refine oRun.iconst 11 dX6_numberAt_10 oc_i1 rfl ?_
    refine oRun.iadd 12 dX6_numberAt_11 rfl ?_
    obtain ⟨r12, hr12, h⟩ := oB1 h
    refine oRun.callV (as := [.int (x1 + 1)]) 15 dX6_numberAt_12 lk_RX6_31 (oFit_i (Nat.le_of_ble_eq_true rfl) (Nat.le_of_ble_eq_true rfl)) rfl rfl rfl rfl (Nat.le_of_ble_eq_true rfl) (Nat.le_of_ble_eq_true rfl) rfl (E_X6_figureAt hr12) rfl ?_
    show oRun G _ 15 _ [.int r12, .int (10 * r4)] _ _ _
    refine oRun.iadd 16 dX6_numberAt_15 rfl ?_
    rw [← Option.some.inj h]
    exact oRun.ret (r := some (.int ((10 * r4) + r12))) dX6_numberAt_16
  · exact True.intro
set_option maxRecDepth 100000 in
set_option maxHeartbeats 4000000 in
theorem E_X2_add {G : oG} {o : Nat} (ho : oPb o = true) {m : oM} {x1 : Int32} {x2 : Int32} {x3 : Int32} {x4 : Int32} {w : oM} (h : F_X2_add o m x1 x2 x3 x4 = some w) : oEv G M_X2_add [.ref o, .int x1, .int x2, .int x3, .int x4] m none w := by
  unfold F_X2_add at h
  refine ⟨?_, ?_⟩
  · show oRun G M_X2_add 0 [(0, .ref o), (1, .int x1), (2, .int x2), (3, .int x3), (4, .int x4)] [] m none w
    refine oRun.aload_n 1 dX2_add_0 0 rfl rfl (oLt66 (oP_lt ho)) rfl ?_
    refine oRun.getR 4 dX2_add_1 fd_RX2_15 (oP_sh ho) rfl (oP_l1 ho) rfl ?_
    refine oRun.aload_n 5 dX2_add_4 0 rfl rfl (oLt66 (oP_lt ho)) rfl ?_
    refine oRun.getI 8 dX2_add_5 fd_RX2_9 (oP_sh ho) rfl rfl ?_
    refine oRun.iload_n 9 dX2_add_8 1 rfl rfl rfl ?_
    obtain ⟨r9, hr9, h⟩ := oB1 h
    refine oRun.callN (as := [.ref (o + 1), .int (m.1 o 0), .int x1]) 12 dX2_add_9 lk_RX2_32 (oFit_i (Nat.le_of_ble_eq_true rfl) (Nat.le_of_ble_eq_true rfl)) rfl (Nat.le_of_ble_eq_true rfl) (Nat.le_of_ble_eq_true rfl) rfl (E_X8_set (oWA_i (oP_a1 ho)) hr9) rfl ?_
    show oRun G _ 12 _ [] _ _ _
    refine oRun.aload_n 13 dX2_add_12 0 rfl rfl (oLt66 (oP_lt ho)) rfl ?_
    refine oRun.getR 16 dX2_add_13 fd_RX2_19 (oP_sh ho) rfl (oP_l2 ho) rfl ?_
    refine oRun.aload_n 17 dX2_add_16 0 rfl rfl (oLt66 (oP_lt ho)) rfl ?_
    refine oRun.getI 20 dX2_add_17 fd_RX2_9 (oP_sh ho) rfl rfl ?_
    refine oRun.iload_n 21 dX2_add_20 2 rfl rfl rfl ?_
    obtain ⟨r21, hr21, h⟩ := oB1 h
    refine oRun.callN (as := [.ref (o + 2), .int (r9.1 o 0), .int x2]) 24 dX2_add_21 lk_RX2_32 (oFit_i (Nat.le_of_ble_eq_true rfl) (Nat.le_of_ble_eq_true rfl)) rfl (Nat.le_of_ble_eq_true rfl) (Nat.le_of_ble_eq_true rfl) rfl (E_X8_set (oWA_i (oP_a2 ho)) hr21) rfl ?_
    show oRun G _ 24 _ [] _ _ _
    refine oRun.aload_n 25 dX2_add_24 0 rfl rfl (oLt66 (oP_lt ho)) rfl ?_
    refine oRun.getR 28 dX2_add_25 fd_RX2_22 (oP_sh ho) rfl (oP_l3 ho) rfl ?_
    refine oRun.aload_n 29 dX2_add_28 0 rfl rfl (oLt66 (oP_lt ho)) rfl ?_
    refine oRun.getI 32 dX2_add_29 fd_RX2_9 (oP_sh ho) rfl rfl ?_
    refine oRun.iload_n 33 dX2_add_32 3 rfl rfl rfl ?_
    obtain ⟨r33, hr33, h⟩ := oB1 h
    refine oRun.callN (as := [.ref (o + 3), .int (r21.1 o 0), .int x3]) 36 dX2_add_33 lk_RX2_32 (oFit_i (Nat.le_of_ble_eq_true rfl) (Nat.le_of_ble_eq_true rfl)) rfl (Nat.le_of_ble_eq_true rfl) (Nat.le_of_ble_eq_true rfl) rfl (E_X8_set (oWA_i (oP_a3 ho)) hr33) rfl ?_
    show oRun G _ 36 _ [] _ _ _
    refine oRun.aload_n 37 dX2_add_36 0 rfl rfl (oLt66 (oP_lt ho)) rfl ?_
    refine oRun.getR 40 dX2_add_37 fd_RX2_25 (oP_sh ho) rfl (oP_l4 ho) rfl ?_
    refine oRun.aload_n 41 dX2_add_40 0 rfl rfl (oLt66 (oP_lt ho)) rfl ?_
    refine oRun.getI 44 dX2_add_41 fd_RX2_9 (oP_sh ho) rfl rfl ?_
    refine oRun.iload 46 dX2_add_44 4 rfl rfl ?_
    obtain ⟨r46, hr46, h⟩ := oB1 h
    refine oRun.callN (as := [.ref (o + 4), .int (r33.1 o 0), .int x4]) 49 dX2_add_46 lk_RX2_32 (oFit_i (Nat.le_of_ble_eq_true rfl) (Nat.le_of_ble_eq_true rfl)) rfl (Nat.le_of_ble_eq_true rfl) (Nat.le_of_ble_eq_true rfl) rfl (E_X8_set (oWA_i (oP_a4 ho)) hr46) rfl ?_
    show oRun G _ 49 _ [] _ _ _
    refine oRun.aload_n 50 dX2_add_49 0 rfl rfl (oLt66 (oP_lt ho)) rfl ?_
    refine oRun.dup 51 dX2_add_50 rfl rfl ?_
    refine oRun.getI 54 dX2_add_51 fd_RX2_9 (oP_sh ho) rfl rfl ?_
    refine oRun.iconst 55 dX2_add_54 oc_i1 rfl ?_
    refine oRun.iadd 56 dX2_add_55 rfl ?_
    obtain ⟨m56, hm56, h⟩ := oB1 h
    refine oRun.putI 59 dX2_add_56 fp_RX2_9 (oP_sh ho) rfl rfl ?_
    refine oRun.nameM hm56 ?_
    rw [← Option.some.inj h]
    exact oRun.ret (r := none) dX2_add_59
  · exact True.intro
set_option maxRecDepth 100000 in
set_option maxHeartbeats 4000000 in
theorem E_X6_tellPair {G : oG} {q : Nat} (hq : oPb q = true) {m : oM} {x1 : Int32} {w : oM} (h : F_X6_tellPair q m x1 = some w) : oEv G M_X6_tellPair [.ref 43, .int x1, .ref q] m none w := by
  unfold F_X6_tellPair at h
  refine ⟨?_, ?_⟩
  · show oRun G M_X6_tellPair 0 [(0, .ref 43), (1, .int x1), (2, .ref q)] [] m none w
    refine oRun.iload_n 1 dX6_tellPair_0 1 rfl rfl rfl ?_
    refine oRun.bipush 3 dX6_tellPair_1 oc_b9 rfl ?_
    refine oRun.imul 4 dX6_tellPair_3 rfl ?_
    obtain ⟨x3_4, hx3_4, h⟩ := oB1 h
    refine oRun.nameI hx3_4 ?_
    refine oRun.istore_n 5 dX6_tellPair_4 rfl (Nat.le_of_ble_eq_true rfl) rfl rfl ?_
    refine oRun.aload_n 6 dX6_tellPair_5 3 rfl rfl (oLt66 (oP_lt hq)) rfl ?_
    refine oRun.aload_n 7 dX6_tellPair_6 1 rfl rfl (Nat.le_of_ble_eq_true rfl) rfl ?_
    refine oRun.getR 10 dX6_tellPair_7 fd_RX6_15 rfl rfl (Nat.le_of_ble_eq_true rfl) rfl ?_
    refine oRun.iload_n 11 dX6_tellPair_10 0 rfl rfl rfl ?_
    obtain ⟨r11, hr11, h⟩ := oB1 h
    refine oRun.callN (as := [.ref 44, .int x3_4]) 14 dX6_tellPair_11 lk_RX6_19 (oFit_i (Nat.le_of_ble_eq_true rfl) (Nat.le_of_ble_eq_true rfl)) rfl (Nat.le_of_ble_eq_true rfl) (Nat.le_of_ble_eq_true rfl) rfl (E_X8_at (Or.inr ⟨_, rfl⟩) hr11) rfl ?_
    show oRun G _ 14 _ [.int r11, .ref q] _ _ _
    obtain ⟨r14, hr14, h⟩ := oB1 h
    refine oRun.callN (as := [.int r11]) 17 dX6_tellPair_14 lk_RX6_27 (oFit_i (Nat.le_of_ble_eq_true rfl) (Nat.le_of_ble_eq_true rfl)) rfl (Nat.le_of_ble_eq_true rfl) (Nat.le_of_ble_eq_true rfl) rfl (E_X8_kindOf hr14) rfl ?_
    show oRun G _ 17 _ [.int r14, .ref q] _ _ _
    refine oRun.aload_n 18 dX6_tellPair_17 1 rfl rfl (Nat.le_of_ble_eq_true rfl) rfl ?_
    refine oRun.iload_n 19 dX6_tellPair_18 0 rfl rfl rfl ?_
    refine oRun.iconst 20 dX6_tellPair_19 oc_i1 rfl ?_
    refine oRun.iadd 21 dX6_tellPair_20 rfl ?_
    obtain ⟨r21, hr21, h⟩ := oB1 h
    refine oRun.callV (as := [.int (x3_4 + 1)]) 24 dX6_tellPair_21 lk_RX6_31 (oFit_i (Nat.le_of_ble_eq_true rfl) (Nat.le_of_ble_eq_true rfl)) rfl rfl rfl rfl (Nat.le_of_ble_eq_true rfl) (Nat.le_of_ble_eq_true rfl) rfl (E_X6_figureAt hr21) rfl ?_
    show oRun G _ 24 _ [.int r21, .int r14, .ref q] _ _ _
    refine oRun.aload_n 25 dX6_tellPair_24 1 rfl rfl (Nat.le_of_ble_eq_true rfl) rfl ?_
    refine oRun.iload_n 26 dX6_tellPair_25 0 rfl rfl rfl ?_
    refine oRun.iconst 27 dX6_tellPair_26 oc_i3 rfl ?_
    refine oRun.iadd 28 dX6_tellPair_27 rfl ?_
    obtain ⟨r28, hr28, h⟩ := oB1 h
    refine oRun.callV (as := [.int (x3_4 + 3)]) 31 dX6_tellPair_28 lk_RX6_34 (oFit_i (Nat.le_of_ble_eq_true rfl) (Nat.le_of_ble_eq_true rfl)) rfl rfl rfl rfl (Nat.le_of_ble_eq_true rfl) (Nat.le_of_ble_eq_true rfl) rfl (E_X6_numberAt hr28) rfl ?_
    show oRun G _ 31 _ [.int r28, .int r21, .int r14, .ref q] _ _ _
    refine oRun.aload_n 32 dX6_tellPair_31 1 rfl rfl (Nat.le_of_ble_eq_true rfl) rfl ?_
    refine oRun.iload_n 33 dX6_tellPair_32 0 rfl rfl rfl ?_
    refine oRun.bipush 35 dX6_tellPair_33 oc_b6 rfl ?_
    refine oRun.iadd 36 dX6_tellPair_35 rfl ?_
    obtain ⟨r36, hr36, h⟩ := oB1 h
    refine oRun.callV (as := [.int (x3_4 + 6)]) 39 dX6_tellPair_36 lk_RX6_34 (oFit_i (Nat.le_of_ble_eq_true rfl) (Nat.le_of_ble_eq_true rfl)) rfl rfl rfl rfl (Nat.le_of_ble_eq_true rfl) (Nat.le_of_ble_eq_true rfl) rfl (E_X6_numberAt hr36) rfl ?_
    show oRun G _ 39 _ [.int r36, .int r28, .int r21, .int r14, .ref q] _ _ _
    obtain ⟨r39, hr39, h⟩ := oB1 h
    refine oRun.callV (as := [.int r14, .int r21, .int r28, .int r36]) 42 dX6_tellPair_39 lk_RX6_37 (oFit_i (Nat.le_of_ble_eq_true rfl) (Nat.le_of_ble_eq_true rfl)) (oP_sh hq) rfl rfl rfl (Nat.le_of_ble_eq_true rfl) (Nat.le_of_ble_eq_true rfl) rfl (E_X2_add hq hr39) rfl ?_
    show oRun G _ 42 _ [] _ _ _
    rw [← Option.some.inj h]
    exact oRun.ret (r := none) dX6_tellPair_42
  · exact True.intro
set_option maxRecDepth 100000 in
set_option maxHeartbeats 4000000 in
theorem E_X8_pairs_L56 {G : oG} {x2 : Int32} {r : Option Value} {m' : oM} : ∀ (n : Nat) (x3 : Int32) (m : oM) (b : oM), oLoop (fun s : Int32 × oM => F_X8_pairs_L56 x2 s.1 s.2) n (x3, m) = some b → oRun G M_X8_pairs 82 [(0, .ref 0)] [] b r m' → oRun G M_X8_pairs 56 [(0, .ref 0), (2, .int x2), (3, .int x3)] [] m r m' := by
  intro n
  induction n with
  | zero => intro x3 m b h _; exact (oLoop_zero h).elim
  | succ n ih =>
    intro x3 m b h he
    obtain ⟨q', hq', h⟩ := oLoop_succ h
    have hc : ∀ s' : Int32 × oM, q' = .inl s' → oRun G M_X8_pairs 56 [(0, .ref 0), (2, .int x2), (3, .int s'.1)] [] s'.2 r m' := by
      rintro s' rfl
      exact ih (s'.1) (s'.2) b h he
    have hx : ∀ b' : oM, q' = .inr b' → oRun G M_X8_pairs 82 [(0, .ref 0)] [] b' r m' := by
      rintro b' rfl
      have h : b' = b := h
      rw [h]
      exact he
    clear h he ih
    have h := hq'
    clear hq'
    replace h : F_X8_pairs_L56 x2 x3 m = some q' := h
    unfold F_X8_pairs_L56 at h
    refine oRun.iload_n 57 dX8_pairs_56 2 rfl rfl rfl ?_
    refine oRun.iload_n 58 dX8_pairs_57 1 rfl rfl rfl ?_
    by_cases c58 : x2 ≤ x3
    · replace h := oIp c58 h
      refine oRun.icmp_ge_t 82 dX8_pairs_58 c58 rfl ?_
      cases h
      refine oRun.sub [0] rfl ?_
      exact hx _ rfl
    · replace h := oIn c58 h
      refine oRun.icmp_ge_f 61 dX8_pairs_58 rfl c58 rfl ?_
      refine oRun.aload_n 62 dX8_pairs_61 0 rfl rfl (Nat.le_of_ble_eq_true rfl) rfl ?_
      refine oRun.getR 65 dX8_pairs_62 fd_RX8_31 rfl rfl (Nat.le_of_ble_eq_true rfl) rfl ?_
      refine oRun.iload_n 66 dX8_pairs_65 2 rfl rfl rfl ?_
      refine oRun.aload_n 67 dX8_pairs_66 0 rfl rfl (Nat.le_of_ble_eq_true rfl) rfl ?_
      refine oRun.getR 70 dX8_pairs_67 fd_RX8_12 rfl rfl (Nat.le_of_ble_eq_true rfl) rfl ?_
      refine oRun.getR 73 dX8_pairs_70 fd_RX8_135 rfl rfl (Nat.le_of_ble_eq_true rfl) rfl ?_
      obtain ⟨r73, hr73, h⟩ := oB1 h
      refine oRun.callV (as := [.int x3, .ref 4]) 76 dX8_pairs_73 lk_RX8_144 (oFit_i (Nat.le_of_ble_eq_true rfl) (Nat.le_of_ble_eq_true rfl)) rfl rfl rfl rfl (Nat.le_of_ble_eq_true rfl) (Nat.le_of_ble_eq_true rfl) rfl (E_X6_tellPair rfl hr73) rfl ?_
      show oRun G _ 76 _ [] _ _ _
      refine oRun.iinc 79 dX8_pairs_76 2 rfl (oAddC oc_i1) (Nat.le_of_ble_eq_true rfl) rfl rfl ?_
      refine oRun.goto 56 dX8_pairs_79 rfl ?_
      cases h
      refine oRun.sub [1, 2, 0] rfl ?_
      exact hc _ rfl
set_option maxRecDepth 100000 in
set_option maxHeartbeats 4000000 in
theorem E_X8_pairs {G : oG} {m : oM} {w : Int32 × oM} (h : F_X8_pairs m = some w) : oEv G M_X8_pairs [.ref 0] m (some (.int w.1)) w.2 := by
  unfold F_X8_pairs at h
  refine ⟨?_, ?_⟩
  · show oRun G M_X8_pairs 0 [(0, .ref 0)] [] m (some (.int w.1)) w.2
    refine oRun.aload_n 1 dX8_pairs_0 0 rfl rfl (Nat.le_of_ble_eq_true rfl) rfl ?_
    refine oRun.getR 4 dX8_pairs_1 fd_RX8_31 rfl rfl (Nat.le_of_ble_eq_true rfl) rfl ?_
    obtain ⟨r4, hr4, h⟩ := oB1 h
    refine oRun.callV (as := []) 7 dX8_pairs_4 lk_RX8_128 (oFit_i (Nat.le_of_ble_eq_true rfl) (Nat.le_of_ble_eq_true rfl)) rfl rfl rfl rfl (Nat.le_of_ble_eq_true rfl) (Nat.le_of_ble_eq_true rfl) rfl (E_X6_faultAsPairs hr4) rfl ?_
    show oRun G _ 7 _ [.int r4] _ _ _
    refine oRun.istore_n 8 dX8_pairs_7 rfl (Nat.le_of_ble_eq_true rfl) rfl rfl ?_
    refine oRun.aload_n 9 dX8_pairs_8 1 rfl rfl (Nat.le_of_ble_eq_true rfl) rfl ?_
    refine oRun.getR 12 dX8_pairs_9 fd_RX8_31 rfl rfl (Nat.le_of_ble_eq_true rfl) rfl ?_
    obtain ⟨r12, hr12, h⟩ := oB1 h
    refine oRun.callV (as := []) 15 dX8_pairs_12 lk_RX8_132 (oFit_i (Nat.le_of_ble_eq_true rfl) (Nat.le_of_ble_eq_true rfl)) rfl rfl rfl rfl (Nat.le_of_ble_eq_true rfl) (Nat.le_of_ble_eq_true rfl) rfl (E_X6_clauses hr12) rfl ?_
    show oRun G _ 15 _ [.int r12] _ _ _
    refine oRun.istore_n 16 dX8_pairs_15 rfl (Nat.le_of_ble_eq_true rfl) rfl rfl ?_
    refine oRun.aload_n 17 dX8_pairs_16 2 rfl rfl (Nat.le_of_ble_eq_true rfl) rfl ?_
    refine oRun.getR 20 dX8_pairs_17 fd_RX8_31 rfl rfl (Nat.le_of_ble_eq_true rfl) rfl ?_
    refine oRun.iconst 21 dX8_pairs_20 oc_i0 rfl ?_
    obtain ⟨m21, hm21, h⟩ := oB1 h
    refine oRun.putI 24 dX8_pairs_21 fp_RX8_118 rfl rfl rfl ?_
    refine oRun.nameM hm21 ?_
    refine oRun.iload_n 25 dX8_pairs_24 1 rfl rfl rfl ?_
    refine oRun.iconst 26 dX8_pairs_25 oc_im1 rfl ?_
    by_cases c26 : r4 = (-1)
    · replace h := oIp c26 h
      refine oRun.icmp_eq_t 34 dX8_pairs_26 c26 rfl ?_
      refine oRun.aload_n 35 dX8_pairs_34 2 rfl rfl (Nat.le_of_ble_eq_true rfl) rfl ?_
      refine oRun.getR 38 dX8_pairs_35 fd_RX8_12 rfl rfl (Nat.le_of_ble_eq_true rfl) rfl ?_
      refine oRun.getR 41 dX8_pairs_38 fd_RX8_135 rfl rfl (Nat.le_of_ble_eq_true rfl) rfl ?_
      refine oRun.getI 44 dX8_pairs_41 fd_RX8_139 rfl rfl rfl ?_
      refine oRun.iload_n 45 dX8_pairs_44 0 rfl rfl rfl ?_
      refine oRun.iadd 46 dX8_pairs_45 rfl ?_
      refine oRun.bipush 48 dX8_pairs_46 oc_b10 rfl ?_
      by_cases c48 : ((m21.1 4 0) + r12) ≤ 10
      · replace h := oIp c48 h
        refine oRun.icmp_le_t 54 dX8_pairs_48 c48 rfl ?_
        refine oRun.iconst 55 dX8_pairs_54 oc_i0 rfl ?_
        refine oRun.istore_n 56 dX8_pairs_55 rfl (Nat.le_of_ble_eq_true rfl) rfl rfl ?_
        obtain ⟨b56, hb56, h⟩ := oB1 h
        refine oRun.sub [3, 1, 0] rfl ?_
        refine E_X8_pairs_L56 _ _ _ _ hb56 ?_
        refine oRun.aload_n 83 dX8_pairs_82 0 rfl rfl (Nat.le_of_ble_eq_true rfl) rfl ?_
        refine oRun.getR 86 dX8_pairs_83 fd_RX8_12 rfl rfl (Nat.le_of_ble_eq_true rfl) rfl ?_
        refine oRun.getR 89 dX8_pairs_86 fd_RX8_135 rfl rfl (Nat.le_of_ble_eq_true rfl) rfl ?_
        refine oRun.getI 92 dX8_pairs_89 fd_RX8_139 rfl rfl rfl ?_
        rw [← Option.some.inj h]
        exact oRun.ret (r := some (.int (b56.1 4 0))) dX8_pairs_92
      · replace h := oIn c48 h
        refine oRun.icmp_le_f 51 dX8_pairs_48 rfl c48 rfl ?_
        refine oRun.bipush 53 dX8_pairs_51 oc_bm4 rfl ?_
        rw [← Option.some.inj h]
        exact oRun.ret (r := some (.int (-4))) dX8_pairs_53
    · replace h := oIn c26 h
      refine oRun.icmp_eq_f 29 dX8_pairs_26 rfl c26 rfl ?_
      refine oRun.bipush 31 dX8_pairs_29 oc_bm100 rfl ?_
      refine oRun.iload_n 32 dX8_pairs_31 1 rfl rfl rfl ?_
      refine oRun.isub 33 dX8_pairs_32 rfl ?_
      rw [← Option.some.inj h]
      exact oRun.ret (r := some (.int ((-100) - r4))) dX8_pairs_33
  · exact True.intro
set_option maxRecDepth 100000 in
set_option maxHeartbeats 4000000 in
theorem E_X9_here {G : oG} {m : oM} {w : Int32} (h : F_X9_here m = some w) : oEv G M_X9_here [.ref 51] m (some (.int w)) m := by
  unfold F_X9_here at h
  refine ⟨?_, ?_⟩
  · show oRun G M_X9_here 0 [(0, .ref 51)] [] m (some (.int w)) m
    refine oRun.aload_n 1 dX9_here_0 0 rfl rfl (Nat.le_of_ble_eq_true rfl) rfl ?_
    refine oRun.getI 4 dX9_here_1 fd_RX9_96 rfl rfl rfl ?_
    refine oRun.aload_n 5 dX9_here_4 0 rfl rfl (Nat.le_of_ble_eq_true rfl) rfl ?_
    refine oRun.getI 8 dX9_here_5 fd_RX9_92 rfl rfl rfl ?_
    by_cases c8 : (m.1 51 8) ≤ (m.1 51 11)
    · replace h := oIp c8 h
      refine oRun.icmp_ge_t 23 dX9_here_8 c8 rfl ?_
      refine oRun.iconst 24 dX9_here_23 oc_i0 rfl ?_
      rw [← Option.some.inj h]
      exact oRun.ret (r := some (.int 0)) dX9_here_24
    · replace h := oIn c8 h
      refine oRun.icmp_ge_f 11 dX9_here_8 rfl c8 rfl ?_
      refine oRun.aload_n 12 dX9_here_11 0 rfl rfl (Nat.le_of_ble_eq_true rfl) rfl ?_
      refine oRun.getR 15 dX9_here_12 fd_RX9_21 rfl rfl (Nat.le_of_ble_eq_true rfl) rfl ?_
      refine oRun.aload_n 16 dX9_here_15 0 rfl rfl (Nat.le_of_ble_eq_true rfl) rfl ?_
      refine oRun.getI 19 dX9_here_16 fd_RX9_96 rfl rfl rfl ?_
      obtain ⟨v19, hv19, h⟩ := oB1 h
      refine oRun.iaload 20 dX9_here_19 (Or.inr ⟨_, rfl⟩) hv19 rfl ?_
      refine oRun.goto 24 dX9_here_20 rfl ?_
      rw [← Option.some.inj h]
      exact oRun.ret (r := some (.int v19)) dX9_here_24
  · exact True.intro
set_option maxRecDepth 100000 in
set_option maxHeartbeats 4000000 in
theorem E_J0_isLatin1_aae02 {G : oG} {m : oM} {w : Int32} (h : F_J0_isLatin1_aae02 = some w) : oEv G M_J0_isLatin1_aae02 [.ref 63] m (some (.int w)) m := by
  unfold F_J0_isLatin1_aae02 at h
  refine ⟨?_, ?_⟩
  · show oRun G M_J0_isLatin1_aae02 0 [(0, .ref 63)] [] m (some (.int w)) m
    refine oRun.getsCS 3 dJ0_isLatin1_aae02_0 wd_5_16 rfl ?_
    refine oRun.if_eq_f 6 dJ0_isLatin1_aae02_3 rfl (by decide) rfl ?_
    refine oRun.aload_n 7 dJ0_isLatin1_aae02_6 0 rfl rfl (Nat.le_of_ble_eq_true rfl) rfl ?_
    refine oRun.getCoder 10 dJ0_isLatin1_aae02_7 wd_6_68 rfl ?_
    refine oRun.if_ne_f 13 dJ0_isLatin1_aae02_10 rfl (by decide) rfl ?_
    refine oRun.iconst 14 dJ0_isLatin1_aae02_13 oc_i1 rfl ?_
    refine oRun.goto 18 dJ0_isLatin1_aae02_14 rfl ?_
    rw [← Option.some.inj h]
    exact oRun.ret (r := some (.int 1)) dJ0_isLatin1_aae02_18
  · show oROK (some .boolean) (some (.int w))
    rw [← Option.some.inj h]
    exact Or.inr rfl
set_option maxRecDepth 100000 in
set_option maxHeartbeats 4000000 in
theorem E_J3_checkIndex_8e157 {G : oG} {m : oM} {x0 : Int32} {x1 : Int32} {w : Int32} (h : F_J3_checkIndex_8e157 x0 x1 = some w) : oEv G M_J3_checkIndex_8e157 [.int x0, .int x1, .ref 66] m (some (.int w)) m := by
  unfold F_J3_checkIndex_8e157 at h
  refine ⟨?_, ?_⟩
  · show oRun G M_J3_checkIndex_8e157 0 [(0, .int x0), (1, .int x1), (2, .ref 66)] [] m (some (.int w)) m
    refine oRun.iload_n 1 dJ3_checkIndex_8e157_0 0 rfl rfl rfl ?_
    by_cases c1 : x0 < 0
    · replace h := oIp c1 h
      refine oRun.if_lt_t 9 dJ3_checkIndex_8e157_1 c1 rfl ?_
      cases h
    · replace h := oIn c1 h
      refine oRun.if_lt_f 4 dJ3_checkIndex_8e157_1 rfl c1 rfl ?_
      refine oRun.iload_n 5 dJ3_checkIndex_8e157_4 0 rfl rfl rfl ?_
      refine oRun.iload_n 6 dJ3_checkIndex_8e157_5 1 rfl rfl rfl ?_
      by_cases c6 : x0 < x1
      · replace h := oIp c6 h
        refine oRun.icmp_lt_t 16 dJ3_checkIndex_8e157_6 c6 rfl ?_
        refine oRun.iload_n 17 dJ3_checkIndex_8e157_16 0 rfl rfl rfl ?_
        rw [← Option.some.inj h]
        exact oRun.ret (r := some (.int x0)) dJ3_checkIndex_8e157_17
      · replace h := oIn c6 h
        refine oRun.icmp_lt_f 9 dJ3_checkIndex_8e157_6 rfl c6 rfl ?_
        cases h
  · exact True.intro
set_option maxRecDepth 100000 in
set_option maxHeartbeats 4000000 in
theorem E_J0_checkIndex_df160 {G : oG} {m : oM} {x0 : Int32} {x1 : Int32} {w : Unit} (h : F_J0_checkIndex_df160 x0 x1 = some w) : oEv G M_J0_checkIndex_df160 [.int x0, .int x1] m none m := by
  unfold F_J0_checkIndex_df160 at h
  refine ⟨?_, ?_⟩
  · show oRun G M_J0_checkIndex_df160 0 [(0, .int x0), (1, .int x1)] [] m none m
    refine oRun.iload_n 1 dJ0_checkIndex_df160_0 0 rfl rfl rfl ?_
    refine oRun.iload_n 2 dJ0_checkIndex_df160_1 1 rfl rfl rfl ?_
    refine oRun.gets66 5 dJ0_checkIndex_df160_2 wd_5_24 rfl ?_
    obtain ⟨r5, hr5, h⟩ := oB1 h
    refine oRun.callS (as := [.int x0, .int x1, .ref 66]) 8 dJ0_checkIndex_df160_5 lk_RJ0_1059 (oFit_i (Nat.le_of_ble_eq_true rfl) (Nat.le_of_ble_eq_true rfl)) rfl (Nat.le_of_ble_eq_true rfl) (Nat.le_of_ble_eq_true rfl) rfl (E_J3_checkIndex_8e157 hr5) rfl ?_
    show oRun G _ 8 _ [.int r5] _ _ _
    refine oRun.pop 9 dJ0_checkIndex_df160_8 rfl rfl ?_
    exact oRun.ret (r := none) dJ0_checkIndex_df160_9
  · exact True.intro
set_option maxRecDepth 100000 in
set_option maxHeartbeats 4000000 in
theorem E_J1_charAt_3b067 {G : oG} {m : oM} {x1 : Int32} {w : Int32} (h : F_J1_charAt_3b067 x1 = some w) : oEv G M_J1_charAt_3b067 [.ref 65, .int x1] m (some (.int w)) m := by
  unfold F_J1_charAt_3b067 at h
  refine ⟨?_, ?_⟩
  · show oRun G M_J1_charAt_3b067 0 [(0, .ref 65), (1, .int x1)] [] m (some (.int w)) m
    refine oRun.iload_n 1 dJ1_charAt_3b067_0 1 rfl rfl rfl ?_
    refine oRun.aload_n 2 dJ1_charAt_3b067_1 0 rfl rfl (Nat.le_of_ble_eq_true rfl) rfl ?_
    refine oRun.blen 3 dJ1_charAt_3b067_2 rfl ?_
    obtain ⟨r3, hr3, h⟩ := oB1 h
    refine oRun.callS (as := [.int x1, .int 6]) 6 dJ1_charAt_3b067_3 lk_RJ1_9 (oFit_i (Nat.le_of_ble_eq_true rfl) (Nat.le_of_ble_eq_true rfl)) rfl (Nat.le_of_ble_eq_true rfl) (Nat.le_of_ble_eq_true rfl) rfl (E_J0_checkIndex_df160 hr3) rfl ?_
    show oRun G _ 6 _ [] _ _ _
    refine oRun.aload_n 7 dJ1_charAt_3b067_6 0 rfl rfl (Nat.le_of_ble_eq_true rfl) rfl ?_
    refine oRun.iload_n 8 dJ1_charAt_3b067_7 1 rfl rfl rfl ?_
    obtain ⟨v8, hv8, h⟩ := oB1 h
    obtain ⟨hz8, hv8⟩ := oXA_ok hv8
    refine oRun.baload 9 dJ1_charAt_3b067_8 hz8 rfl ?_
    refine oRun.nameI hv8 ?_
    refine oRun.sipush 12 dJ1_charAt_3b067_9 oc_s255 rfl ?_
    refine oRun.iand 13 dJ1_charAt_3b067_12 rfl ?_
    refine oRun.i2c 14 dJ1_charAt_3b067_13 rfl ?_
    rw [oZc_eq h]
    exact oRun.ret (r := some (.int (((v8 &&& 255)).toUInt32 % 65536).toInt32)) dJ1_charAt_3b067_14
  · show oROK (some .char) (some (.int w))
    obtain ⟨r3, hr3, h⟩ := oB1 h
    obtain ⟨v8, hv8, h⟩ := oB1 h
    exact oZc_ok h
set_option maxRecDepth 100000 in
set_option maxHeartbeats 4000000 in
theorem E_J0_charAt_5068e {G : oG} {m : oM} {x1 : Int32} {w : Int32} (h : F_J0_charAt_5068e x1 = some w) : oEv G M_J0_charAt_5068e [.ref 63, .int x1] m (some (.int w)) m := by
  unfold F_J0_charAt_5068e at h
  refine ⟨?_, ?_⟩
  · show oRun G M_J0_charAt_5068e 0 [(0, .ref 63), (1, .int x1)] [] m (some (.int w)) m
    refine oRun.aload_n 1 dJ0_charAt_5068e_0 0 rfl rfl (Nat.le_of_ble_eq_true rfl) rfl ?_
    obtain ⟨r1, hr1, h⟩ := oB1 h
    refine oRun.callStr (as := []) 4 dJ0_charAt_5068e_1 lk_RJ0_492 (oFit_i (Nat.le_of_ble_eq_true rfl) (Nat.le_of_ble_eq_true rfl)) rfl rfl (Nat.le_of_ble_eq_true rfl) (Nat.le_of_ble_eq_true rfl) rfl (E_J0_isLatin1_aae02 hr1) rfl ?_
    show oRun G _ 4 _ [.int r1] _ _ _
    by_cases c4 : r1 = 0
    · replace h := oIp c4 h
      refine oRun.if_eq_t 16 dJ0_charAt_5068e_4 c4 rfl ?_
      refine oRun.aload_n 17 dJ0_charAt_5068e_16 0 rfl rfl (Nat.le_of_ble_eq_true rfl) rfl ?_
      refine oRun.getValue 20 dJ0_charAt_5068e_17 wd_6_69 rfl ?_
      refine oRun.iload_n 21 dJ0_charAt_5068e_20 1 rfl rfl rfl ?_
      cases h
    · replace h := oIn c4 h
      refine oRun.if_eq_f 7 dJ0_charAt_5068e_4 rfl c4 rfl ?_
      refine oRun.aload_n 8 dJ0_charAt_5068e_7 0 rfl rfl (Nat.le_of_ble_eq_true rfl) rfl ?_
      refine oRun.getValue 11 dJ0_charAt_5068e_8 wd_6_69 rfl ?_
      refine oRun.iload_n 12 dJ0_charAt_5068e_11 1 rfl rfl rfl ?_
      obtain ⟨r12, hr12, h⟩ := oB1 h
      refine oRun.callS (as := [.ref 65, .int x1]) 15 dJ0_charAt_5068e_12 lk_RJ0_495 (oFit_i (Nat.le_of_ble_eq_true rfl) (Nat.le_of_ble_eq_true rfl)) rfl (Nat.le_of_ble_eq_true rfl) (Nat.le_of_ble_eq_true rfl) rfl (E_J1_charAt_3b067 hr12) rfl ?_
      show oRun G _ 15 _ [.int r12] _ _ _
      rw [oZc_eq h]
      exact oRun.ret (r := some (.int r12)) dJ0_charAt_5068e_15
  · show oROK (some .char) (some (.int w))
    obtain ⟨r1, hr1, h⟩ := oB1 h
    by_cases c4 : r1 = 0
    · replace h := oIp c4 h
      cases h
    · replace h := oIn c4 h
      obtain ⟨r12, hr12, h⟩ := oB1 h
      exact oZc_ok h
set_option maxRecDepth 100000 in
set_option maxHeartbeats 4000000 in
theorem E_X9_fails {G : oG} {m : oM} {w : oM} (h : F_X9_fails m = some w) : oEv G M_X9_fails [.ref 51] m none w := by
  unfold F_X9_fails at h
  refine ⟨?_, ?_⟩
  · show oRun G M_X9_fails 0 [(0, .ref 51)] [] m none w
    refine oRun.aload_n 1 dX9_fails_0 0 rfl rfl (Nat.le_of_ble_eq_true rfl) rfl ?_
    refine oRun.getI 4 dX9_fails_1 fd_RX9_99 rfl rfl rfl ?_
    refine oRun.iconst 5 dX9_fails_4 oc_im1 rfl ?_
    by_cases c5 : (m.1 51 12) = (-1)
    · replace h := oIp c5 h
      refine oRun.icmp_ne_f 8 dX9_fails_5 rfl c5 rfl ?_
      refine oRun.aload_n 9 dX9_fails_8 0 rfl rfl (Nat.le_of_ble_eq_true rfl) rfl ?_
      refine oRun.aload_n 10 dX9_fails_9 0 rfl rfl (Nat.le_of_ble_eq_true rfl) rfl ?_
      refine oRun.getI 13 dX9_fails_10 fd_RX9_96 rfl rfl rfl ?_
      obtain ⟨m13, hm13, h⟩ := oB1 h
      refine oRun.putI 16 dX9_fails_13 fp_RX9_99 rfl rfl rfl ?_
      refine oRun.nameM hm13 ?_
      rw [← Option.some.inj h]
      exact oRun.ret (r := none) dX9_fails_16
    · replace h := oIn c5 h
      refine oRun.icmp_ne_t 16 dX9_fails_5 c5 rfl ?_
      rw [← Option.some.inj h]
      exact oRun.ret (r := none) dX9_fails_16
  · exact True.intro
set_option maxRecDepth 100000 in
set_option maxHeartbeats 4000000 in
theorem E_X9_kindHere_L2 {G : oG} {r : Option Value} {m' : oM} : ∀ (n : Nat) (x1 : Int32) (m : oM) (b : (oM) ⊕ (Int32 × oM)), oLoop (fun s : Int32 × oM => F_X9_kindHere_L2 s.1 s.2) n (x1, m) = some b → Sum.elim (fun yy => oRun G M_X9_kindHere 50 [(0, .ref 51)] [] yy r m') (fun zz => r = (some (.int zz.1)) ∧ m' = zz.2) b → oRun G M_X9_kindHere 2 [(0, .ref 51), (1, .int x1)] [] m r m' := by
  intro n
  induction n with
  | zero => intro x1 m b h _; exact (oLoop_zero h).elim
  | succ n ih =>
    intro x1 m b h he
    obtain ⟨q', hq', h⟩ := oLoop_succ h
    have hc : ∀ s' : Int32 × oM, q' = .inl s' → oRun G M_X9_kindHere 2 [(0, .ref 51), (1, .int s'.1)] [] s'.2 r m' := by
      rintro s' rfl
      exact ih (s'.1) (s'.2) b h he
    have hx : ∀ b' : (oM) ⊕ (Int32 × oM), q' = .inr b' → Sum.elim (fun yy => oRun G M_X9_kindHere 50 [(0, .ref 51)] [] yy r m') (fun zz => r = (some (.int zz.1)) ∧ m' = zz.2) b' := by
      rintro b' rfl
      have h : b' = b := h
      rw [h]
      exact he
    clear h he ih
    have h := hq'
    clear hq'
    replace h : F_X9_kindHere_L2 x1 m = some q' := h
    unfold F_X9_kindHere_L2 at h
    refine oRun.iload_n 3 dX9_kindHere_2 1 rfl rfl rfl ?_
    refine oRun.bipush 5 dX9_kindHere_3 oc_b6 rfl ?_
    by_cases c5 : 6 ≤ x1
    · replace h := oIp c5 h
      refine oRun.icmp_ge_t 50 dX9_kindHere_5 c5 rfl ?_
      cases h
      refine oRun.sub [0] rfl ?_
      exact hx _ rfl
    · replace h := oIn c5 h
      refine oRun.icmp_ge_f 8 dX9_kindHere_5 rfl c5 rfl ?_
      refine oRun.aload_n 9 dX9_kindHere_8 0 rfl rfl (Nat.le_of_ble_eq_true rfl) rfl ?_
      refine oRun.getI 12 dX9_kindHere_9 fd_RX9_99 rfl rfl rfl ?_
      refine oRun.iconst 13 dX9_kindHere_12 oc_im1 rfl ?_
      by_cases c13 : (m.1 51 12) = (-1)
      · replace h := oIp c13 h
        refine oRun.icmp_ne_f 16 dX9_kindHere_13 rfl c13 rfl ?_
        refine oRun.aload_n 17 dX9_kindHere_16 0 rfl rfl (Nat.le_of_ble_eq_true rfl) rfl ?_
        obtain ⟨r17, hr17, h⟩ := oB1 h
        refine oRun.callV (as := []) 20 dX9_kindHere_17 lk_RX9_102 (oFit_i (Nat.le_of_ble_eq_true rfl) (Nat.le_of_ble_eq_true rfl)) rfl rfl rfl rfl (Nat.le_of_ble_eq_true rfl) (Nat.le_of_ble_eq_true rfl) rfl (E_X9_here hr17) rfl ?_
        show oRun G _ 20 _ [.int r17] _ _ _
        refine oRun.ldcS 22 (own := "") rfl dX9_kindHere_20 rfl ?_
        refine oRun.iload_n 23 dX9_kindHere_22 1 rfl rfl rfl ?_
        obtain ⟨r23, hr23, h⟩ := oB1 h
        refine oRun.callStr (as := [.int x1]) 26 dX9_kindHere_23 lk_RX9_113 (oFit_i (Nat.le_of_ble_eq_true rfl) (Nat.le_of_ble_eq_true rfl)) rfl rfl (Nat.le_of_ble_eq_true rfl) (Nat.le_of_ble_eq_true rfl) rfl (E_J0_charAt_5068e hr23) rfl ?_
        show oRun G _ 26 _ [.int r23, .int r17] _ _ _
        by_cases c26 : r17 = r23
        · replace h := oIp c26 h
          refine oRun.icmp_eq_t 32 dX9_kindHere_26 c26 rfl ?_
          refine oRun.aload_n 33 dX9_kindHere_32 0 rfl rfl (Nat.le_of_ble_eq_true rfl) rfl ?_
          refine oRun.dup 34 dX9_kindHere_33 rfl rfl ?_
          refine oRun.getI 37 dX9_kindHere_34 fd_RX9_96 rfl rfl rfl ?_
          refine oRun.iconst 38 dX9_kindHere_37 oc_i1 rfl ?_
          refine oRun.iadd 39 dX9_kindHere_38 rfl ?_
          obtain ⟨m39, hm39, h⟩ := oB1 h
          refine oRun.putI 42 dX9_kindHere_39 fp_RX9_96 rfl rfl rfl ?_
          refine oRun.nameM hm39 ?_
          refine oRun.iload_n 43 dX9_kindHere_42 1 rfl rfl rfl ?_
          cases h
          obtain ⟨hr1, hr2⟩ := hx _ rfl
          rw [hr1, hr2]
          exact oRun.ret (r := some (.int x1)) dX9_kindHere_43
        · replace h := oIn c26 h
          refine oRun.icmp_eq_f 29 dX9_kindHere_26 rfl c26 rfl ?_
          refine oRun.goto 44 dX9_kindHere_29 rfl ?_
          refine oRun.iinc 47 dX9_kindHere_44 1 rfl (oAddC oc_i1) (Nat.le_of_ble_eq_true rfl) rfl rfl ?_
          refine oRun.goto 2 dX9_kindHere_47 rfl ?_
          cases h
          refine oRun.sub [1, 0] rfl ?_
          exact hc _ rfl
      · replace h := oIn c13 h
        refine oRun.icmp_ne_t 44 dX9_kindHere_13 c13 rfl ?_
        refine oRun.iinc 47 dX9_kindHere_44 1 rfl (oAddC oc_i1) (Nat.le_of_ble_eq_true rfl) rfl rfl ?_
        refine oRun.goto 2 dX9_kindHere_47 rfl ?_
        cases h
        refine oRun.sub [1, 0] rfl ?_
        exact hc _ rfl
set_option maxRecDepth 100000 in
set_option maxHeartbeats 4000000 in
theorem E_X9_kindHere {G : oG} {m : oM} {w : Int32 × oM} (h : F_X9_kindHere m = some w) : oEv G M_X9_kindHere [.ref 51] m (some (.int w.1)) w.2 := by
  unfold F_X9_kindHere at h
  refine ⟨?_, ?_⟩
  · show oRun G M_X9_kindHere 0 [(0, .ref 51)] [] m (some (.int w.1)) w.2
    refine oRun.iconst 1 dX9_kindHere_0 oc_i0 rfl ?_
    refine oRun.istore_n 2 dX9_kindHere_1 rfl (Nat.le_of_ble_eq_true rfl) rfl rfl ?_
    obtain ⟨b2, hb2, h⟩ := oB1 h
    refine oRun.sub [1, 0] rfl ?_
    refine E_X9_kindHere_L2 _ _ _ _ hb2 ?_
    rcases b2 with y2 | z2
    · replace h := oSl h
      show oRun G _ _ _ _ _ _ _
      refine oRun.aload_n 51 dX9_kindHere_50 0 rfl rfl (Nat.le_of_ble_eq_true rfl) rfl ?_
      obtain ⟨r51, hr51, h⟩ := oB1 h
      refine oRun.callV (as := []) 54 dX9_kindHere_51 lk_RX9_108 (oFit_i (Nat.le_of_ble_eq_true rfl) (Nat.le_of_ble_eq_true rfl)) rfl rfl rfl rfl (Nat.le_of_ble_eq_true rfl) (Nat.le_of_ble_eq_true rfl) rfl (E_X9_fails hr51) rfl ?_
      show oRun G _ 54 _ [] _ _ _
      refine oRun.iconst 55 dX9_kindHere_54 oc_i0 rfl ?_
      rw [← Option.some.inj h]
      exact oRun.ret (r := some (.int 0)) dX9_kindHere_55
    · replace h := oSr h
      cases h
      exact ⟨rfl, rfl⟩
  · exact True.intro
set_option maxRecDepth 100000 in
set_option maxHeartbeats 4000000 in
theorem E_X9_figure {G : oG} {m : oM} {x1 : Int32} {w : Int32 × oM} (h : F_X9_figure m x1 = some w) : oEv G M_X9_figure [.ref 51, .int x1] m (some (.int w.1)) w.2 := by
  unfold F_X9_figure at h
  refine ⟨?_, ?_⟩
  · show oRun G M_X9_figure 0 [(0, .ref 51), (1, .int x1)] [] m (some (.int w.1)) w.2
    refine oRun.aload_n 1 dX9_figure_0 0 rfl rfl (Nat.le_of_ble_eq_true rfl) rfl ?_
    obtain ⟨r1, hr1, h⟩ := oB1 h
    refine oRun.callV (as := []) 4 dX9_figure_1 lk_RX9_102 (oFit_i (Nat.le_of_ble_eq_true rfl) (Nat.le_of_ble_eq_true rfl)) rfl rfl rfl rfl (Nat.le_of_ble_eq_true rfl) (Nat.le_of_ble_eq_true rfl) rfl (E_X9_here hr1) rfl ?_
    show oRun G _ 4 _ [.int r1] _ _ _
    refine oRun.istore_n 5 dX9_figure_4 rfl (Nat.le_of_ble_eq_true rfl) rfl rfl ?_
    refine oRun.aload_n 6 dX9_figure_5 1 rfl rfl (Nat.le_of_ble_eq_true rfl) rfl ?_
    refine oRun.getI 9 dX9_figure_6 fd_RX9_99 rfl rfl rfl ?_
    refine oRun.iconst 10 dX9_figure_9 oc_im1 rfl ?_
    by_cases c10 : (m.1 51 12) = (-1)
    · replace h := oIp c10 h
      refine oRun.icmp_ne_f 13 dX9_figure_10 rfl c10 rfl ?_
      refine oRun.iload_n 14 dX9_figure_13 0 rfl rfl rfl ?_
      refine oRun.i2l 15 dX9_figure_14 rfl ?_
      refine oRun.bipush 17 dX9_figure_15 oc_b48 rfl ?_
      refine oRun.iload_n 18 dX9_figure_17 2 rfl rfl rfl ?_
      refine oRun.iadd 19 dX9_figure_18 rfl ?_
      refine oRun.i2l 20 dX9_figure_19 rfl ?_
      refine oRun.ldc2 23 dX9_figure_20 wd_5_56 rfl ?_
      obtain ⟨r23, hr23, h⟩ := oB1 h
      refine oRun.callS (as := [.long r1.toInt64, .long ((48 + x1)).toInt64, .long 57]) 26 dX9_figure_23 lk_RX9_44 (oFit_i (Nat.le_of_ble_eq_true rfl) (Nat.le_of_ble_eq_true rfl)) rfl (Nat.le_of_ble_eq_true rfl) (Nat.le_of_ble_eq_true rfl) rfl (E_X9_isIn hr23) rfl ?_
      show oRun G _ 26 _ [.int r23] _ _ _
      by_cases c26 : r23 = 0
      · replace h := oIp c26 h
        refine oRun.if_ne_f 29 dX9_figure_26 rfl c26 rfl ?_
        refine oRun.aload_n 30 dX9_figure_29 1 rfl rfl (Nat.le_of_ble_eq_true rfl) rfl ?_
        obtain ⟨r30, hr30, h⟩ := oB1 h
        refine oRun.callV (as := []) 33 dX9_figure_30 lk_RX9_108 (oFit_i (Nat.le_of_ble_eq_true rfl) (Nat.le_of_ble_eq_true rfl)) rfl rfl rfl rfl (Nat.le_of_ble_eq_true rfl) (Nat.le_of_ble_eq_true rfl) rfl (E_X9_fails hr30) rfl ?_
        show oRun G _ 33 _ [] _ _ _
        refine oRun.iconst 34 dX9_figure_33 oc_i0 rfl ?_
        rw [← Option.some.inj h]
        exact oRun.ret (r := some (.int 0)) dX9_figure_34
      · replace h := oIn c26 h
        refine oRun.if_ne_t 35 dX9_figure_26 c26 rfl ?_
        refine oRun.aload_n 36 dX9_figure_35 1 rfl rfl (Nat.le_of_ble_eq_true rfl) rfl ?_
        refine oRun.dup 37 dX9_figure_36 rfl rfl ?_
        refine oRun.getI 40 dX9_figure_37 fd_RX9_96 rfl rfl rfl ?_
        refine oRun.iconst 41 dX9_figure_40 oc_i1 rfl ?_
        refine oRun.iadd 42 dX9_figure_41 rfl ?_
        obtain ⟨m42, hm42, h⟩ := oB1 h
        refine oRun.putI 45 dX9_figure_42 fp_RX9_96 rfl rfl rfl ?_
        refine oRun.nameM hm42 ?_
        refine oRun.iload_n 46 dX9_figure_45 0 rfl rfl rfl ?_
        refine oRun.bipush 48 dX9_figure_46 oc_b48 rfl ?_
        refine oRun.isub 49 dX9_figure_48 rfl ?_
        rw [← Option.some.inj h]
        exact oRun.ret (r := some (.int (r1 - 48))) dX9_figure_49
    · replace h := oIn c10 h
      refine oRun.icmp_ne_t 29 dX9_figure_10 c10 rfl ?_
      refine oRun.aload_n 30 dX9_figure_29 1 rfl rfl (Nat.le_of_ble_eq_true rfl) rfl ?_
      obtain ⟨r30, hr30, h⟩ := oB1 h
      refine oRun.callV (as := []) 33 dX9_figure_30 lk_RX9_108 (oFit_i (Nat.le_of_ble_eq_true rfl) (Nat.le_of_ble_eq_true rfl)) rfl rfl rfl rfl (Nat.le_of_ble_eq_true rfl) (Nat.le_of_ble_eq_true rfl) rfl (E_X9_fails hr30) rfl ?_
      show oRun G _ 33 _ [] _ _ _
      refine oRun.iconst 34 dX9_figure_33 oc_i0 rfl ?_
      rw [← Option.some.inj h]
      exact oRun.ret (r := some (.int 0)) dX9_figure_34
  · exact True.intro
set_option maxRecDepth 100000 in
set_option maxHeartbeats 4000000 in
theorem E_X9_must {G : oG} {m : oM} {x1 : Int32} {w : oM} (h : F_X9_must m x1 = some w) : oEv G M_X9_must [.ref 51, .int x1] m none w := by
  unfold F_X9_must at h
  refine ⟨?_, ?_⟩
  · show oRun G M_X9_must 0 [(0, .ref 51), (1, .int x1)] [] m none w
    refine oRun.aload_n 1 dX9_must_0 0 rfl rfl (Nat.le_of_ble_eq_true rfl) rfl ?_
    refine oRun.getI 4 dX9_must_1 fd_RX9_99 rfl rfl rfl ?_
    refine oRun.iconst 5 dX9_must_4 oc_im1 rfl ?_
    by_cases c5 : (m.1 51 12) = (-1)
    · replace h := oIp c5 h
      refine oRun.icmp_ne_f 8 dX9_must_5 rfl c5 rfl ?_
      refine oRun.aload_n 9 dX9_must_8 0 rfl rfl (Nat.le_of_ble_eq_true rfl) rfl ?_
      obtain ⟨r9, hr9, h⟩ := oB1 h
      refine oRun.callV (as := []) 12 dX9_must_9 lk_RX9_102 (oFit_i (Nat.le_of_ble_eq_true rfl) (Nat.le_of_ble_eq_true rfl)) rfl rfl rfl rfl (Nat.le_of_ble_eq_true rfl) (Nat.le_of_ble_eq_true rfl) rfl (E_X9_here hr9) rfl ?_
      show oRun G _ 12 _ [.int r9] _ _ _
      refine oRun.iload_n 13 dX9_must_12 1 rfl rfl rfl ?_
      by_cases c13 : r9 = x1
      · replace h := oIp c13 h
        refine oRun.icmp_eq_t 23 dX9_must_13 c13 rfl ?_
        refine oRun.aload_n 24 dX9_must_23 0 rfl rfl (Nat.le_of_ble_eq_true rfl) rfl ?_
        refine oRun.dup 25 dX9_must_24 rfl rfl ?_
        refine oRun.getI 28 dX9_must_25 fd_RX9_96 rfl rfl rfl ?_
        refine oRun.iconst 29 dX9_must_28 oc_i1 rfl ?_
        refine oRun.iadd 30 dX9_must_29 rfl ?_
        obtain ⟨m30, hm30, h⟩ := oB1 h
        refine oRun.putI 33 dX9_must_30 fp_RX9_96 rfl rfl rfl ?_
        refine oRun.nameM hm30 ?_
        rw [← Option.some.inj h]
        exact oRun.ret (r := none) dX9_must_33
      · replace h := oIn c13 h
        refine oRun.icmp_eq_f 16 dX9_must_13 rfl c13 rfl ?_
        refine oRun.aload_n 17 dX9_must_16 0 rfl rfl (Nat.le_of_ble_eq_true rfl) rfl ?_
        obtain ⟨r17, hr17, h⟩ := oB1 h
        refine oRun.callV (as := []) 20 dX9_must_17 lk_RX9_108 (oFit_i (Nat.le_of_ble_eq_true rfl) (Nat.le_of_ble_eq_true rfl)) rfl rfl rfl rfl (Nat.le_of_ble_eq_true rfl) (Nat.le_of_ble_eq_true rfl) rfl (E_X9_fails hr17) rfl ?_
        show oRun G _ 20 _ [] _ _ _
        refine oRun.goto 33 dX9_must_20 rfl ?_
        rw [← Option.some.inj h]
        exact oRun.ret (r := none) dX9_must_33
    · replace h := oIn c5 h
      refine oRun.icmp_ne_t 16 dX9_must_5 c5 rfl ?_
      refine oRun.aload_n 17 dX9_must_16 0 rfl rfl (Nat.le_of_ble_eq_true rfl) rfl ?_
      obtain ⟨r17, hr17, h⟩ := oB1 h
      refine oRun.callV (as := []) 20 dX9_must_17 lk_RX9_108 (oFit_i (Nat.le_of_ble_eq_true rfl) (Nat.le_of_ble_eq_true rfl)) rfl rfl rfl rfl (Nat.le_of_ble_eq_true rfl) (Nat.le_of_ble_eq_true rfl) rfl (E_X9_fails hr17) rfl ?_
      show oRun G _ 20 _ [] _ _ _
      refine oRun.goto 33 dX9_must_20 rfl ?_
      rw [← Option.some.inj h]
      exact oRun.ret (r := none) dX9_must_33
  · exact True.intro
set_option maxRecDepth 100000 in
set_option maxHeartbeats 4000000 in
theorem E_X9_clauses_J120 {G : oG} {m : oM} {x1 : Int32} {t0 : Int32} {r : Option Value} {m' : oM} {q' : (Int32 × Int32 × oM) ⊕ (Int32 × oM)} (h : F_X9_clauses_J120 m x1 t0 = some q') (hc : ∀ s' : Int32 × Int32 × oM, q' = .inl s' → oRun G M_X9_clauses 4 [(0, .ref 51), (1, .int s'.1), (2, .int s'.2.1)] [] s'.2.2 r m') (hx : ∀ b' : Int32 × oM, q' = .inr b' → oRun G M_X9_clauses 142 [(0, .ref 51), (1, .int b'.1)] [] b'.2 r m') : oRun G M_X9_clauses 120 [(0, .ref 51), (1, .int x1)] [.int t0] m r m' := by
  unfold F_X9_clauses_J120 at h
  refine oRun.istore_n 121 dX9_clauses_120 rfl (Nat.le_of_ble_eq_true rfl) rfl rfl ?_
  refine oRun.aload_n 122 dX9_clauses_121 1 rfl rfl (Nat.le_of_ble_eq_true rfl) rfl ?_
  refine oRun.dup 123 dX9_clauses_122 rfl rfl ?_
  refine oRun.getI 126 dX9_clauses_123 fd_RX9_96 rfl rfl rfl ?_
  refine oRun.iload_n 127 dX9_clauses_126 0 rfl rfl rfl ?_
  by_cases c127 : t0 = 0
  · replace h := oIp c127 h
    refine oRun.if_eq_t 134 dX9_clauses_127 c127 rfl ?_
    refine oRun.iconst 135 dX9_clauses_134 oc_i0 rfl ?_
    refine oRun.iadd 136 dX9_clauses_135 rfl ?_
    obtain ⟨m136, hm136, h⟩ := oB1 h
    refine oRun.putI 139 dX9_clauses_136 fp_RX9_96 rfl rfl rfl ?_
    refine oRun.nameM hm136 ?_
    refine oRun.goto 4 dX9_clauses_139 rfl ?_
    cases h
    refine oRun.sub [1, 2, 0] rfl ?_
    exact hc _ rfl
  · replace h := oIn c127 h
    refine oRun.if_eq_f 130 dX9_clauses_127 rfl c127 rfl ?_
    refine oRun.iconst 131 dX9_clauses_130 oc_i1 rfl ?_
    refine oRun.goto 135 dX9_clauses_131 rfl ?_
    refine oRun.iadd 136 dX9_clauses_135 rfl ?_
    obtain ⟨m136, hm136, h⟩ := oB1 h
    refine oRun.putI 139 dX9_clauses_136 fp_RX9_96 rfl rfl rfl ?_
    refine oRun.nameM hm136 ?_
    refine oRun.goto 4 dX9_clauses_139 rfl ?_
    cases h
    refine oRun.sub [1, 2, 0] rfl ?_
    exact hc _ rfl
set_option maxRecDepth 100000 in
set_option maxHeartbeats 4000000 in
theorem E_X9_clauses_J119 {G : oG} {m : oM} {x1 : Int32} {r : Option Value} {m' : oM} {q' : (Int32 × Int32 × oM) ⊕ (Int32 × oM)} (h : F_X9_clauses_J119 m x1 = some q') (hc : ∀ s' : Int32 × Int32 × oM, q' = .inl s' → oRun G M_X9_clauses 4 [(0, .ref 51), (1, .int s'.1), (2, .int s'.2.1)] [] s'.2.2 r m') (hx : ∀ b' : Int32 × oM, q' = .inr b' → oRun G M_X9_clauses 142 [(0, .ref 51), (1, .int b'.1)] [] b'.2 r m') : oRun G M_X9_clauses 119 [(0, .ref 51), (1, .int x1)] [] m r m' := by
  unfold F_X9_clauses_J119 at h
  refine oRun.iconst 120 dX9_clauses_119 oc_i0 rfl ?_
  refine oRun.sub [0, 1] rfl ?_
  exact E_X9_clauses_J120 h hc hx
set_option maxRecDepth 100000 in
set_option maxHeartbeats 4000000 in
theorem E_X9_clauses_L4 {G : oG} {r : Option Value} {m' : oM} : ∀ (n : Nat) (x1 : Int32) (x2 : Int32) (m : oM) (b : Int32 × oM), oLoop (fun s : Int32 × Int32 × oM => F_X9_clauses_L4 s.1 s.2.1 s.2.2) n (x1, x2, m) = some b → oRun G M_X9_clauses 142 [(0, .ref 51), (1, .int b.1)] [] b.2 r m' → oRun G M_X9_clauses 4 [(0, .ref 51), (1, .int x1), (2, .int x2)] [] m r m' := by
  intro n
  induction n with
  | zero => intro x1 x2 m b h _; exact (oLoop_zero h).elim
  | succ n ih =>
    intro x1 x2 m b h he
    obtain ⟨q', hq', h⟩ := oLoop_succ h
    have hc : ∀ s' : Int32 × Int32 × oM, q' = .inl s' → oRun G M_X9_clauses 4 [(0, .ref 51), (1, .int s'.1), (2, .int s'.2.1)] [] s'.2.2 r m' := by
      rintro s' rfl
      exact ih (s'.1) (s'.2.1) (s'.2.2) b h he
    have hx : ∀ b' : Int32 × oM, q' = .inr b' → oRun G M_X9_clauses 142 [(0, .ref 51), (1, .int b'.1)] [] b'.2 r m' := by
      rintro b' rfl
      have h : b' = b := h
      rw [h]
      exact he
    clear h he ih
    have h := hq'
    clear hq'
    replace h : F_X9_clauses_L4 x1 x2 m = some q' := h
    unfold F_X9_clauses_L4 at h
    refine oRun.iload_n 5 dX9_clauses_4 2 rfl rfl rfl ?_
    by_cases c5 : x2 = 0
    · replace h := oIp c5 h
      refine oRun.if_eq_t 142 dX9_clauses_5 c5 rfl ?_
      cases h
      refine oRun.sub [0, 1] rfl ?_
      exact hx _ rfl
    · replace h := oIn c5 h
      refine oRun.if_eq_f 8 dX9_clauses_5 rfl c5 rfl ?_
      refine oRun.aload_n 9 dX9_clauses_8 0 rfl rfl (Nat.le_of_ble_eq_true rfl) rfl ?_
      refine oRun.getR 12 dX9_clauses_9 fd_RX9_37 rfl rfl (Nat.le_of_ble_eq_true rfl) rfl ?_
      refine oRun.iconst 13 dX9_clauses_12 oc_i4 rfl ?_
      refine oRun.iload_n 14 dX9_clauses_13 1 rfl rfl rfl ?_
      refine oRun.imul 15 dX9_clauses_14 rfl ?_
      refine oRun.aload_n 16 dX9_clauses_15 0 rfl rfl (Nat.le_of_ble_eq_true rfl) rfl ?_
      obtain ⟨r16, hr16, h⟩ := oB1 h
      refine oRun.callV (as := []) 19 dX9_clauses_16 lk_RX9_119 (oFit_i (Nat.le_of_ble_eq_true rfl) (Nat.le_of_ble_eq_true rfl)) rfl rfl rfl rfl (Nat.le_of_ble_eq_true rfl) (Nat.le_of_ble_eq_true rfl) rfl (E_X9_kindHere hr16) rfl ?_
      show oRun G _ 19 _ [.int r16.1, .int (4 * x1), .ref 60] _ _ _
      obtain ⟨m19, hm19, h⟩ := oB1 h
      refine oRun.iastore 20 dX9_clauses_19 rfl hm19 rfl ?_
      refine oRun.aload_n 21 dX9_clauses_20 0 rfl rfl (Nat.le_of_ble_eq_true rfl) rfl ?_
      refine oRun.getR 24 dX9_clauses_21 fd_RX9_37 rfl rfl (Nat.le_of_ble_eq_true rfl) rfl ?_
      refine oRun.iconst 25 dX9_clauses_24 oc_i4 rfl ?_
      refine oRun.iload_n 26 dX9_clauses_25 1 rfl rfl rfl ?_
      refine oRun.imul 27 dX9_clauses_26 rfl ?_
      refine oRun.iconst 28 dX9_clauses_27 oc_i1 rfl ?_
      refine oRun.iadd 29 dX9_clauses_28 rfl ?_
      refine oRun.aload_n 30 dX9_clauses_29 0 rfl rfl (Nat.le_of_ble_eq_true rfl) rfl ?_
      refine oRun.iconst 31 dX9_clauses_30 oc_i0 rfl ?_
      obtain ⟨r31, hr31, h⟩ := oB1 h
      refine oRun.callV (as := [.int 0]) 34 dX9_clauses_31 lk_RX9_122 (oFit_i (Nat.le_of_ble_eq_true rfl) (Nat.le_of_ble_eq_true rfl)) rfl rfl rfl rfl (Nat.le_of_ble_eq_true rfl) (Nat.le_of_ble_eq_true rfl) rfl (E_X9_figure hr31) rfl ?_
      show oRun G _ 34 _ [.int r31.1, .int ((4 * x1) + 1), .ref 60] _ _ _
      obtain ⟨m34, hm34, h⟩ := oB1 h
      refine oRun.iastore 35 dX9_clauses_34 rfl hm34 rfl ?_
      refine oRun.aload_n 36 dX9_clauses_35 0 rfl rfl (Nat.le_of_ble_eq_true rfl) rfl ?_
      refine oRun.bipush 38 dX9_clauses_36 oc_b32 rfl ?_
      obtain ⟨r38, hr38, h⟩ := oB1 h
      refine oRun.callV (as := [.int 32]) 41 dX9_clauses_38 lk_RX9_125 (oFit_i (Nat.le_of_ble_eq_true rfl) (Nat.le_of_ble_eq_true rfl)) rfl rfl rfl rfl (Nat.le_of_ble_eq_true rfl) (Nat.le_of_ble_eq_true rfl) rfl (E_X9_must hr38) rfl ?_
      show oRun G _ 41 _ [] _ _ _
      refine oRun.aload_n 42 dX9_clauses_41 0 rfl rfl (Nat.le_of_ble_eq_true rfl) rfl ?_
      refine oRun.getR 45 dX9_clauses_42 fd_RX9_37 rfl rfl (Nat.le_of_ble_eq_true rfl) rfl ?_
      refine oRun.iconst 46 dX9_clauses_45 oc_i4 rfl ?_
      refine oRun.iload_n 47 dX9_clauses_46 1 rfl rfl rfl ?_
      refine oRun.imul 48 dX9_clauses_47 rfl ?_
      refine oRun.iconst 49 dX9_clauses_48 oc_i2 rfl ?_
      refine oRun.iadd 50 dX9_clauses_49 rfl ?_
      refine oRun.bipush 52 dX9_clauses_50 oc_b10 rfl ?_
      refine oRun.aload_n 53 dX9_clauses_52 0 rfl rfl (Nat.le_of_ble_eq_true rfl) rfl ?_
      refine oRun.iconst 54 dX9_clauses_53 oc_i1 rfl ?_
      obtain ⟨r54, hr54, h⟩ := oB1 h
      refine oRun.callV (as := [.int 1]) 57 dX9_clauses_54 lk_RX9_122 (oFit_i (Nat.le_of_ble_eq_true rfl) (Nat.le_of_ble_eq_true rfl)) rfl rfl rfl rfl (Nat.le_of_ble_eq_true rfl) (Nat.le_of_ble_eq_true rfl) rfl (E_X9_figure hr54) rfl ?_
      show oRun G _ 57 _ [.int r54.1, .int 10, .int ((4 * x1) + 2), .ref 60] _ _ _
      refine oRun.imul 58 dX9_clauses_57 rfl ?_
      refine oRun.aload_n 59 dX9_clauses_58 0 rfl rfl (Nat.le_of_ble_eq_true rfl) rfl ?_
      refine oRun.iconst 60 dX9_clauses_59 oc_i0 rfl ?_
      obtain ⟨r60, hr60, h⟩ := oB1 h
      refine oRun.callV (as := [.int 0]) 63 dX9_clauses_60 lk_RX9_122 (oFit_i (Nat.le_of_ble_eq_true rfl) (Nat.le_of_ble_eq_true rfl)) rfl rfl rfl rfl (Nat.le_of_ble_eq_true rfl) (Nat.le_of_ble_eq_true rfl) rfl (E_X9_figure hr60) rfl ?_
      show oRun G _ 63 _ [.int r60.1, .int (10 * r54.1), .int ((4 * x1) + 2), .ref 60] _ _ _
      refine oRun.iadd 64 dX9_clauses_63 rfl ?_
      obtain ⟨m64, hm64, h⟩ := oB1 h
      refine oRun.iastore 65 dX9_clauses_64 rfl hm64 rfl ?_
      refine oRun.aload_n 66 dX9_clauses_65 0 rfl rfl (Nat.le_of_ble_eq_true rfl) rfl ?_
      refine oRun.bipush 68 dX9_clauses_66 oc_b47 rfl ?_
      obtain ⟨r68, hr68, h⟩ := oB1 h
      refine oRun.callV (as := [.int 47]) 71 dX9_clauses_68 lk_RX9_125 (oFit_i (Nat.le_of_ble_eq_true rfl) (Nat.le_of_ble_eq_true rfl)) rfl rfl rfl rfl (Nat.le_of_ble_eq_true rfl) (Nat.le_of_ble_eq_true rfl) rfl (E_X9_must hr68) rfl ?_
      show oRun G _ 71 _ [] _ _ _
      refine oRun.aload_n 72 dX9_clauses_71 0 rfl rfl (Nat.le_of_ble_eq_true rfl) rfl ?_
      refine oRun.getR 75 dX9_clauses_72 fd_RX9_37 rfl rfl (Nat.le_of_ble_eq_true rfl) rfl ?_
      refine oRun.iconst 76 dX9_clauses_75 oc_i4 rfl ?_
      refine oRun.iload_n 77 dX9_clauses_76 1 rfl rfl rfl ?_
      refine oRun.imul 78 dX9_clauses_77 rfl ?_
      refine oRun.iconst 79 dX9_clauses_78 oc_i3 rfl ?_
      refine oRun.iadd 80 dX9_clauses_79 rfl ?_
      refine oRun.bipush 82 dX9_clauses_80 oc_b10 rfl ?_
      refine oRun.aload_n 83 dX9_clauses_82 0 rfl rfl (Nat.le_of_ble_eq_true rfl) rfl ?_
      refine oRun.iconst 84 dX9_clauses_83 oc_i1 rfl ?_
      obtain ⟨r84, hr84, h⟩ := oB1 h
      refine oRun.callV (as := [.int 1]) 87 dX9_clauses_84 lk_RX9_122 (oFit_i (Nat.le_of_ble_eq_true rfl) (Nat.le_of_ble_eq_true rfl)) rfl rfl rfl rfl (Nat.le_of_ble_eq_true rfl) (Nat.le_of_ble_eq_true rfl) rfl (E_X9_figure hr84) rfl ?_
      show oRun G _ 87 _ [.int r84.1, .int 10, .int ((4 * x1) + 3), .ref 60] _ _ _
      refine oRun.imul 88 dX9_clauses_87 rfl ?_
      refine oRun.aload_n 89 dX9_clauses_88 0 rfl rfl (Nat.le_of_ble_eq_true rfl) rfl ?_
      refine oRun.iconst 90 dX9_clauses_89 oc_i0 rfl ?_
      obtain ⟨r90, hr90, h⟩ := oB1 h
      refine oRun.callV (as := [.int 0]) 93 dX9_clauses_90 lk_RX9_122 (oFit_i (Nat.le_of_ble_eq_true rfl) (Nat.le_of_ble_eq_true rfl)) rfl rfl rfl rfl (Nat.le_of_ble_eq_true rfl) (Nat.le_of_ble_eq_true rfl) rfl (E_X9_figure hr90) rfl ?_
      show oRun G _ 93 _ [.int r90.1, .int (10 * r84.1), .int ((4 * x1) + 3), .ref 60] _ _ _
      refine oRun.iadd 94 dX9_clauses_93 rfl ?_
      obtain ⟨m94, hm94, h⟩ := oB1 h
      refine oRun.iastore 95 dX9_clauses_94 rfl hm94 rfl ?_
      refine oRun.iinc 98 dX9_clauses_95 1 rfl (oAddC oc_i1) (Nat.le_of_ble_eq_true rfl) rfl rfl ?_
      refine oRun.aload_n 99 dX9_clauses_98 1 rfl rfl (Nat.le_of_ble_eq_true rfl) rfl ?_
      refine oRun.getI 102 dX9_clauses_99 fd_RX9_99 rfl rfl rfl ?_
      refine oRun.iconst 103 dX9_clauses_102 oc_im1 rfl ?_
      by_cases c103 : (m94.1 51 12) = (-1)
      · replace h := oIp c103 h
        refine oRun.icmp_ne_f 106 dX9_clauses_103 rfl c103 rfl ?_
        refine oRun.aload_n 107 dX9_clauses_106 1 rfl rfl (Nat.le_of_ble_eq_true rfl) rfl ?_
        obtain ⟨r107, hr107, h⟩ := oB1 h
        refine oRun.callV (as := []) 110 dX9_clauses_107 lk_RX9_102 (oFit_i (Nat.le_of_ble_eq_true rfl) (Nat.le_of_ble_eq_true rfl)) rfl rfl rfl rfl (Nat.le_of_ble_eq_true rfl) (Nat.le_of_ble_eq_true rfl) rfl (E_X9_here hr107) rfl ?_
        show oRun G _ 110 _ [.int r107] _ _ _
        refine oRun.bipush 112 dX9_clauses_110 oc_b59 rfl ?_
        by_cases c112 : r107 = 59
        · replace h := oIp c112 h
          refine oRun.icmp_ne_f 115 dX9_clauses_112 rfl c112 rfl ?_
          refine oRun.iconst 116 dX9_clauses_115 oc_i1 rfl ?_
          refine oRun.goto 120 dX9_clauses_116 rfl ?_
          refine oRun.sub [1, 0] rfl ?_
          exact E_X9_clauses_J120 h hc hx
        · replace h := oIn c112 h
          refine oRun.icmp_ne_t 119 dX9_clauses_112 c112 rfl ?_
          refine oRun.sub [1, 0] rfl ?_
          exact E_X9_clauses_J119 h hc hx
      · replace h := oIn c103 h
        refine oRun.icmp_ne_t 119 dX9_clauses_103 c103 rfl ?_
        refine oRun.sub [1, 0] rfl ?_
        exact E_X9_clauses_J119 h hc hx
set_option maxRecDepth 100000 in
set_option maxHeartbeats 4000000 in
theorem E_X9_clauses {G : oG} {m : oM} {w : Int32 × oM} (h : F_X9_clauses m = some w) : oEv G M_X9_clauses [.ref 51] m (some (.int w.1)) w.2 := by
  unfold F_X9_clauses at h
  refine ⟨?_, ?_⟩
  · show oRun G M_X9_clauses 0 [(0, .ref 51)] [] m (some (.int w.1)) w.2
    refine oRun.iconst 1 dX9_clauses_0 oc_i0 rfl ?_
    refine oRun.istore_n 2 dX9_clauses_1 rfl (Nat.le_of_ble_eq_true rfl) rfl rfl ?_
    refine oRun.iconst 3 dX9_clauses_2 oc_i1 rfl ?_
    refine oRun.istore_n 4 dX9_clauses_3 rfl (Nat.le_of_ble_eq_true rfl) rfl rfl ?_
    obtain ⟨b4, hb4, h⟩ := oB1 h
    refine oRun.sub [2, 1, 0] rfl ?_
    refine E_X9_clauses_L4 _ _ _ _ _ hb4 ?_
    refine oRun.aload_n 143 dX9_clauses_142 0 rfl rfl (Nat.le_of_ble_eq_true rfl) rfl ?_
    refine oRun.getI 146 dX9_clauses_143 fd_RX9_96 rfl rfl rfl ?_
    refine oRun.aload_n 147 dX9_clauses_146 0 rfl rfl (Nat.le_of_ble_eq_true rfl) rfl ?_
    refine oRun.getI 150 dX9_clauses_147 fd_RX9_92 rfl rfl rfl ?_
    by_cases c150 : (b4.2.1 51 8) ≤ (b4.2.1 51 11)
    · replace h := oIp c150 h
      refine oRun.icmp_ge_t 157 dX9_clauses_150 c150 rfl ?_
      refine oRun.iload_n 158 dX9_clauses_157 1 rfl rfl rfl ?_
      rw [← Option.some.inj h]
      exact oRun.ret (r := some (.int b4.1)) dX9_clauses_158
    · replace h := oIn c150 h
      refine oRun.icmp_ge_f 153 dX9_clauses_150 rfl c150 rfl ?_
      refine oRun.aload_n 154 dX9_clauses_153 0 rfl rfl (Nat.le_of_ble_eq_true rfl) rfl ?_
      obtain ⟨r154, hr154, h⟩ := oB1 h
      refine oRun.callV (as := []) 157 dX9_clauses_154 lk_RX9_108 (oFit_i (Nat.le_of_ble_eq_true rfl) (Nat.le_of_ble_eq_true rfl)) rfl rfl rfl rfl (Nat.le_of_ble_eq_true rfl) (Nat.le_of_ble_eq_true rfl) rfl (E_X9_fails hr154) rfl ?_
      show oRun G _ 157 _ [] _ _ _
      refine oRun.iload_n 158 dX9_clauses_157 1 rfl rfl rfl ?_
      rw [← Option.some.inj h]
      exact oRun.ret (r := some (.int b4.1)) dX9_clauses_158
  · exact True.intro
set_option maxRecDepth 100000 in
set_option maxHeartbeats 4000000 in
theorem E_X9_pairs_L54 {G : oG} {x1 : Int32} {r : Option Value} {m' : oM} : ∀ (n : Nat) (x2 : Int32) (m : oM) (b : oM), oLoop (fun s : Int32 × oM => F_X9_pairs_L54 x1 s.1 s.2) n (x2, m) = some b → oRun G M_X9_pairs 156 [(0, .ref 51)] [] b r m' → oRun G M_X9_pairs 54 [(0, .ref 51), (1, .int x1), (2, .int x2)] [] m r m' := by
  intro n
  induction n with
  | zero => intro x2 m b h _; exact (oLoop_zero h).elim
  | succ n ih =>
    intro x2 m b h he
    obtain ⟨q', hq', h⟩ := oLoop_succ h
    have hc : ∀ s' : Int32 × oM, q' = .inl s' → oRun G M_X9_pairs 54 [(0, .ref 51), (1, .int x1), (2, .int s'.1)] [] s'.2 r m' := by
      rintro s' rfl
      exact ih (s'.1) (s'.2) b h he
    have hx : ∀ b' : oM, q' = .inr b' → oRun G M_X9_pairs 156 [(0, .ref 51)] [] b' r m' := by
      rintro b' rfl
      have h : b' = b := h
      rw [h]
      exact he
    clear h he ih
    have h := hq'
    clear hq'
    replace h : F_X9_pairs_L54 x1 x2 m = some q' := h
    unfold F_X9_pairs_L54 at h
    refine oRun.iload_n 55 dX9_pairs_54 2 rfl rfl rfl ?_
    refine oRun.iload_n 56 dX9_pairs_55 1 rfl rfl rfl ?_
    by_cases c56 : x1 ≤ x2
    · replace h := oIp c56 h
      refine oRun.icmp_ge_t 156 dX9_pairs_56 c56 rfl ?_
      cases h
      refine oRun.sub [0] rfl ?_
      exact hx _ rfl
    · replace h := oIn c56 h
      refine oRun.icmp_ge_f 59 dX9_pairs_56 rfl c56 rfl ?_
      refine oRun.aload_n 60 dX9_pairs_59 0 rfl rfl (Nat.le_of_ble_eq_true rfl) rfl ?_
      refine oRun.getR 63 dX9_pairs_60 fd_RX9_11 rfl rfl (Nat.le_of_ble_eq_true rfl) rfl ?_
      refine oRun.iconst 64 dX9_pairs_63 oc_i3 rfl ?_
      refine oRun.iaload (x := m.1 52 3) 65 dX9_pairs_64 (Or.inr ⟨_, rfl⟩) (oAL_lit (i := 3) rfl) rfl ?_
      obtain ⟨x3_65, hx3_65, h⟩ := oB1 h
      refine oRun.nameI hx3_65 ?_
      refine oRun.istore_n 66 dX9_pairs_65 rfl (Nat.le_of_ble_eq_true rfl) rfl rfl ?_
      refine oRun.aload_n 67 dX9_pairs_66 1 rfl rfl (Nat.le_of_ble_eq_true rfl) rfl ?_
      refine oRun.getR 70 dX9_pairs_67 fd_RX9_11 rfl rfl (Nat.le_of_ble_eq_true rfl) rfl ?_
      refine oRun.bipush 72 dX9_pairs_70 oc_b43 rfl ?_
      refine oRun.iload_n 73 dX9_pairs_72 0 rfl rfl rfl ?_
      refine oRun.iadd 74 dX9_pairs_73 rfl ?_
      refine oRun.aload_n 75 dX9_pairs_74 1 rfl rfl (Nat.le_of_ble_eq_true rfl) rfl ?_
      refine oRun.getR 78 dX9_pairs_75 fd_RX9_37 rfl rfl (Nat.le_of_ble_eq_true rfl) rfl ?_
      refine oRun.iconst 79 dX9_pairs_78 oc_i4 rfl ?_
      refine oRun.iload_n 80 dX9_pairs_79 3 rfl rfl rfl ?_
      refine oRun.imul 81 dX9_pairs_80 rfl ?_
      obtain ⟨v81, hv81, h⟩ := oB1 h
      refine oRun.iaload 82 dX9_pairs_81 (Or.inr ⟨_, rfl⟩) hv81 rfl ?_
      obtain ⟨m82, hm82, h⟩ := oB1 h
      refine oRun.iastore 83 dX9_pairs_82 rfl hm82 rfl ?_
      refine oRun.aload_n 84 dX9_pairs_83 1 rfl rfl (Nat.le_of_ble_eq_true rfl) rfl ?_
      refine oRun.getR 87 dX9_pairs_84 fd_RX9_11 rfl rfl (Nat.le_of_ble_eq_true rfl) rfl ?_
      refine oRun.bipush 89 dX9_pairs_87 oc_b53 rfl ?_
      refine oRun.iload_n 90 dX9_pairs_89 0 rfl rfl rfl ?_
      refine oRun.iadd 91 dX9_pairs_90 rfl ?_
      refine oRun.aload_n 92 dX9_pairs_91 1 rfl rfl (Nat.le_of_ble_eq_true rfl) rfl ?_
      refine oRun.getR 95 dX9_pairs_92 fd_RX9_37 rfl rfl (Nat.le_of_ble_eq_true rfl) rfl ?_
      refine oRun.iconst 96 dX9_pairs_95 oc_i4 rfl ?_
      refine oRun.iload_n 97 dX9_pairs_96 3 rfl rfl rfl ?_
      refine oRun.imul 98 dX9_pairs_97 rfl ?_
      refine oRun.iconst 99 dX9_pairs_98 oc_i1 rfl ?_
      refine oRun.iadd 100 dX9_pairs_99 rfl ?_
      obtain ⟨v100, hv100, h⟩ := oB1 h
      refine oRun.iaload 101 dX9_pairs_100 (Or.inr ⟨_, rfl⟩) hv100 rfl ?_
      obtain ⟨m101, hm101, h⟩ := oB1 h
      refine oRun.iastore 102 dX9_pairs_101 rfl hm101 rfl ?_
      refine oRun.aload_n 103 dX9_pairs_102 1 rfl rfl (Nat.le_of_ble_eq_true rfl) rfl ?_
      refine oRun.getR 106 dX9_pairs_103 fd_RX9_11 rfl rfl (Nat.le_of_ble_eq_true rfl) rfl ?_
      refine oRun.bipush 108 dX9_pairs_106 oc_b63 rfl ?_
      refine oRun.iload_n 109 dX9_pairs_108 0 rfl rfl rfl ?_
      refine oRun.iadd 110 dX9_pairs_109 rfl ?_
      refine oRun.aload_n 111 dX9_pairs_110 1 rfl rfl (Nat.le_of_ble_eq_true rfl) rfl ?_
      refine oRun.getR 114 dX9_pairs_111 fd_RX9_37 rfl rfl (Nat.le_of_ble_eq_true rfl) rfl ?_
      refine oRun.iconst 115 dX9_pairs_114 oc_i4 rfl ?_
      refine oRun.iload_n 116 dX9_pairs_115 3 rfl rfl rfl ?_
      refine oRun.imul 117 dX9_pairs_116 rfl ?_
      refine oRun.iconst 118 dX9_pairs_117 oc_i2 rfl ?_
      refine oRun.iadd 119 dX9_pairs_118 rfl ?_
      obtain ⟨v119, hv119, h⟩ := oB1 h
      refine oRun.iaload 120 dX9_pairs_119 (Or.inr ⟨_, rfl⟩) hv119 rfl ?_
      obtain ⟨m120, hm120, h⟩ := oB1 h
      refine oRun.iastore 121 dX9_pairs_120 rfl hm120 rfl ?_
      refine oRun.aload_n 122 dX9_pairs_121 1 rfl rfl (Nat.le_of_ble_eq_true rfl) rfl ?_
      refine oRun.getR 125 dX9_pairs_122 fd_RX9_11 rfl rfl (Nat.le_of_ble_eq_true rfl) rfl ?_
      refine oRun.bipush 127 dX9_pairs_125 oc_b73 rfl ?_
      refine oRun.iload_n 128 dX9_pairs_127 0 rfl rfl rfl ?_
      refine oRun.iadd 129 dX9_pairs_128 rfl ?_
      refine oRun.aload_n 130 dX9_pairs_129 1 rfl rfl (Nat.le_of_ble_eq_true rfl) rfl ?_
      refine oRun.getR 133 dX9_pairs_130 fd_RX9_37 rfl rfl (Nat.le_of_ble_eq_true rfl) rfl ?_
      refine oRun.iconst 134 dX9_pairs_133 oc_i4 rfl ?_
      refine oRun.iload_n 135 dX9_pairs_134 3 rfl rfl rfl ?_
      refine oRun.imul 136 dX9_pairs_135 rfl ?_
      refine oRun.iconst 137 dX9_pairs_136 oc_i3 rfl ?_
      refine oRun.iadd 138 dX9_pairs_137 rfl ?_
      obtain ⟨v138, hv138, h⟩ := oB1 h
      refine oRun.iaload 139 dX9_pairs_138 (Or.inr ⟨_, rfl⟩) hv138 rfl ?_
      obtain ⟨m139, hm139, h⟩ := oB1 h
      refine oRun.iastore 140 dX9_pairs_139 rfl hm139 rfl ?_
      refine oRun.aload_n 141 dX9_pairs_140 1 rfl rfl (Nat.le_of_ble_eq_true rfl) rfl ?_
      refine oRun.getR 144 dX9_pairs_141 fd_RX9_11 rfl rfl (Nat.le_of_ble_eq_true rfl) rfl ?_
      refine oRun.iconst 145 dX9_pairs_144 oc_i3 rfl ?_
      refine oRun.dup2 146 dX9_pairs_145 rfl rfl rfl ?_
      refine oRun.iaload (x := m139.1 52 3) 147 dX9_pairs_146 (Or.inr ⟨_, rfl⟩) (oAL_lit (i := 3) rfl) rfl ?_
      refine oRun.iconst 148 dX9_pairs_147 oc_i1 rfl ?_
      refine oRun.iadd 149 dX9_pairs_148 rfl ?_
      obtain ⟨m149, hm149, h⟩ := oB1 h
      refine oRun.iastore 150 dX9_pairs_149 rfl (oAS_lit (i := 3) rfl hm149) rfl ?_
      refine oRun.iinc 153 dX9_pairs_150 3 rfl (oAddC oc_i1) (Nat.le_of_ble_eq_true rfl) rfl rfl ?_
      refine oRun.goto 54 dX9_pairs_153 rfl ?_
      cases h
      refine oRun.sub [2, 3, 0] rfl ?_
      exact hc _ rfl
set_option maxRecDepth 100000 in
set_option maxHeartbeats 4000000 in
theorem E_X9_pairs {G : oG} {m : oM} {w : Int32 × oM} (h : F_X9_pairs m = some w) : oEv G M_X9_pairs [.ref 51] m (some (.int w.1)) w.2 := by
  unfold F_X9_pairs at h
  refine ⟨?_, ?_⟩
  · show oRun G M_X9_pairs 0 [(0, .ref 51)] [] m (some (.int w.1)) w.2
    refine oRun.aload_n 1 dX9_pairs_0 0 rfl rfl (Nat.le_of_ble_eq_true rfl) rfl ?_
    refine oRun.iconst 2 dX9_pairs_1 oc_i0 rfl ?_
    obtain ⟨m2, hm2, h⟩ := oB1 h
    refine oRun.putI 5 dX9_pairs_2 fp_RX9_96 rfl rfl rfl ?_
    refine oRun.nameM hm2 ?_
    refine oRun.aload_n 6 dX9_pairs_5 0 rfl rfl (Nat.le_of_ble_eq_true rfl) rfl ?_
    refine oRun.iconst 7 dX9_pairs_6 oc_im1 rfl ?_
    obtain ⟨m7, hm7, h⟩ := oB1 h
    refine oRun.putI 10 dX9_pairs_7 fp_RX9_99 rfl rfl rfl ?_
    refine oRun.nameM hm7 ?_
    refine oRun.aload_n 11 dX9_pairs_10 0 rfl rfl (Nat.le_of_ble_eq_true rfl) rfl ?_
    obtain ⟨r11, hr11, h⟩ := oB1 h
    refine oRun.callV (as := []) 14 dX9_pairs_11 lk_RX9_129 (oFit_i (Nat.le_of_ble_eq_true rfl) (Nat.le_of_ble_eq_true rfl)) rfl rfl rfl rfl (Nat.le_of_ble_eq_true rfl) (Nat.le_of_ble_eq_true rfl) rfl (E_X9_clauses hr11) rfl ?_
    show oRun G _ 14 _ [.int r11.1] _ _ _
    refine oRun.istore_n 15 dX9_pairs_14 rfl (Nat.le_of_ble_eq_true rfl) rfl rfl ?_
    refine oRun.aload_n 16 dX9_pairs_15 1 rfl rfl (Nat.le_of_ble_eq_true rfl) rfl ?_
    refine oRun.iconst 17 dX9_pairs_16 oc_i0 rfl ?_
    obtain ⟨m17, hm17, h⟩ := oB1 h
    refine oRun.putI 20 dX9_pairs_17 fp_RX9_92 rfl rfl rfl ?_
    refine oRun.nameM hm17 ?_
    refine oRun.aload_n 21 dX9_pairs_20 1 rfl rfl (Nat.le_of_ble_eq_true rfl) rfl ?_
    refine oRun.getI 24 dX9_pairs_21 fd_RX9_99 rfl rfl rfl ?_
    refine oRun.iconst 25 dX9_pairs_24 oc_im1 rfl ?_
    by_cases c25 : (m17.1 51 12) = (-1)
    · replace h := oIp c25 h
      refine oRun.icmp_eq_t 36 dX9_pairs_25 c25 rfl ?_
      refine oRun.aload_n 37 dX9_pairs_36 1 rfl rfl (Nat.le_of_ble_eq_true rfl) rfl ?_
      refine oRun.getR 40 dX9_pairs_37 fd_RX9_11 rfl rfl (Nat.le_of_ble_eq_true rfl) rfl ?_
      refine oRun.iconst 41 dX9_pairs_40 oc_i3 rfl ?_
      refine oRun.iaload (x := m17.1 52 3) 42 dX9_pairs_41 (Or.inr ⟨_, rfl⟩) (oAL_lit (i := 3) rfl) rfl ?_
      refine oRun.iload_n 43 dX9_pairs_42 0 rfl rfl rfl ?_
      refine oRun.iadd 44 dX9_pairs_43 rfl ?_
      refine oRun.bipush 46 dX9_pairs_44 oc_b10 rfl ?_
      by_cases c46 : ((m17.1 52 3) + r11.1) ≤ 10
      · replace h := oIp c46 h
        refine oRun.icmp_le_t 52 dX9_pairs_46 c46 rfl ?_
        refine oRun.iconst 53 dX9_pairs_52 oc_i0 rfl ?_
        refine oRun.istore_n 54 dX9_pairs_53 rfl (Nat.le_of_ble_eq_true rfl) rfl rfl ?_
        obtain ⟨b54, hb54, h⟩ := oB1 h
        refine oRun.sub [2, 1, 0] rfl ?_
        refine E_X9_pairs_L54 _ _ _ _ hb54 ?_
        refine oRun.aload_n 157 dX9_pairs_156 0 rfl rfl (Nat.le_of_ble_eq_true rfl) rfl ?_
        refine oRun.getR 160 dX9_pairs_157 fd_RX9_11 rfl rfl (Nat.le_of_ble_eq_true rfl) rfl ?_
        refine oRun.iconst 161 dX9_pairs_160 oc_i3 rfl ?_
        refine oRun.iaload (x := b54.1 52 3) 162 dX9_pairs_161 (Or.inr ⟨_, rfl⟩) (oAL_lit (i := 3) rfl) rfl ?_
        rw [← Option.some.inj h]
        exact oRun.ret (r := some (.int (b54.1 52 3))) dX9_pairs_162
      · replace h := oIn c46 h
        refine oRun.icmp_le_f 49 dX9_pairs_46 rfl c46 rfl ?_
        refine oRun.bipush 51 dX9_pairs_49 oc_bm4 rfl ?_
        rw [← Option.some.inj h]
        exact oRun.ret (r := some (.int (-4))) dX9_pairs_51
    · replace h := oIn c25 h
      refine oRun.icmp_eq_f 28 dX9_pairs_25 rfl c25 rfl ?_
      refine oRun.bipush 30 dX9_pairs_28 oc_bm100 rfl ?_
      refine oRun.aload_n 31 dX9_pairs_30 1 rfl rfl (Nat.le_of_ble_eq_true rfl) rfl ?_
      refine oRun.getI 34 dX9_pairs_31 fd_RX9_99 rfl rfl rfl ?_
      refine oRun.isub 35 dX9_pairs_34 rfl ?_
      rw [← Option.some.inj h]
      exact oRun.ret (r := some (.int ((-100) - (m17.1 51 12)))) dX9_pairs_35
  · exact True.intro
set_option maxRecDepth 100000 in
set_option maxHeartbeats 4000000 in
theorem E_X2_has {G : oG} {o : Nat} (ho : oPb o = true) {m : oM} {x1 : Int32} {w : Int32} (h : F_X2_has o m x1 = some w) : oEv G M_X2_has [.ref o, .int x1] m (some (.int w)) m := by
  unfold F_X2_has at h
  refine ⟨?_, ?_⟩
  · show oRun G M_X2_has 0 [(0, .ref o), (1, .int x1)] [] m (some (.int w)) m
    refine oRun.iload_n 1 dX2_has_0 1 rfl rfl rfl ?_
    by_cases c1 : x1 < 0
    · replace h := oIp c1 h
      refine oRun.if_lt_t 16 dX2_has_1 c1 rfl ?_
      refine oRun.iconst 17 dX2_has_16 oc_i0 rfl ?_
      rw [← Option.some.inj h]
      exact oRun.ret (r := some (.int 0)) dX2_has_17
    · replace h := oIn c1 h
      refine oRun.if_lt_f 4 dX2_has_1 rfl c1 rfl ?_
      refine oRun.iload_n 5 dX2_has_4 1 rfl rfl rfl ?_
      refine oRun.aload_n 6 dX2_has_5 0 rfl rfl (oLt66 (oP_lt ho)) rfl ?_
      refine oRun.getI 9 dX2_has_6 fd_RX2_9 (oP_sh ho) rfl rfl ?_
      by_cases c9 : (m.1 o 0) ≤ x1
      · replace h := oIp c9 h
        refine oRun.icmp_ge_t 16 dX2_has_9 c9 rfl ?_
        refine oRun.iconst 17 dX2_has_16 oc_i0 rfl ?_
        rw [← Option.some.inj h]
        exact oRun.ret (r := some (.int 0)) dX2_has_17
      · replace h := oIn c9 h
        refine oRun.icmp_ge_f 12 dX2_has_9 rfl c9 rfl ?_
        refine oRun.iconst 13 dX2_has_12 oc_i1 rfl ?_
        refine oRun.goto 17 dX2_has_13 rfl ?_
        rw [← Option.some.inj h]
        exact oRun.ret (r := some (.int 1)) dX2_has_17
  · show oROK (some .boolean) (some (.int w))
    by_cases c1 : x1 < 0
    · replace h := oIp c1 h
      rw [← Option.some.inj h]
      exact Or.inl rfl
    · replace h := oIn c1 h
      by_cases c9 : (m.1 o 0) ≤ x1
      · replace h := oIp c9 h
        rw [← Option.some.inj h]
        exact Or.inl rfl
      · replace h := oIn c9 h
        rw [← Option.some.inj h]
        exact Or.inr rfl
set_option maxRecDepth 100000 in
set_option maxHeartbeats 4000000 in
theorem E_X8_becomes {G : oG} {m : oM} {x1 : Int32} {x2 : Int32} {x3 : Int32} {w : Int32 × oM} (h : F_X8_becomes m x1 x2 x3 = some w) : oEv G M_X8_becomes [.ref 0, .int x1, .int x2, .int x3] m (some (.int w.1)) w.2 := by
  unfold F_X8_becomes at h
  refine ⟨?_, ?_⟩
  · show oRun G M_X8_becomes 0 [(0, .ref 0), (1, .int x1), (2, .int x2), (3, .int x3)] [] m (some (.int w.1)) w.2
    refine oRun.aload_n 1 dX8_becomes_0 0 rfl rfl (Nat.le_of_ble_eq_true rfl) rfl ?_
    refine oRun.getR 4 dX8_becomes_1 fd_RX8_12 rfl rfl (Nat.le_of_ble_eq_true rfl) rfl ?_
    refine oRun.getR 7 dX8_becomes_4 fd_RX8_135 rfl rfl (Nat.le_of_ble_eq_true rfl) rfl ?_
    refine oRun.iload_n 8 dX8_becomes_7 1 rfl rfl rfl ?_
    obtain ⟨r8, hr8, h⟩ := oB1 h
    refine oRun.callV (as := [.int x1]) 11 dX8_becomes_8 lk_RX8_148 (oFit_i (Nat.le_of_ble_eq_true rfl) (Nat.le_of_ble_eq_true rfl)) rfl rfl rfl rfl (Nat.le_of_ble_eq_true rfl) (Nat.le_of_ble_eq_true rfl) rfl (E_X2_has rfl hr8) rfl ?_
    show oRun G _ 11 _ [.int r8] _ _ _
    by_cases c11 : r8 = 0
    · replace h := oIp c11 h
      refine oRun.if_eq_t 24 dX8_becomes_11 c11 rfl ?_
      refine oRun.iconst 25 dX8_becomes_24 oc_im1 rfl ?_
      rw [← Option.some.inj h]
      exact oRun.ret (r := some (.int (-1))) dX8_becomes_25
    · replace h := oIn c11 h
      refine oRun.if_eq_f 14 dX8_becomes_11 rfl c11 rfl ?_
      refine oRun.iload_n 15 dX8_becomes_14 2 rfl rfl rfl ?_
      by_cases c15 : x2 < 0
      · replace h := oIp c15 h
        refine oRun.if_lt_t 24 dX8_becomes_15 c15 rfl ?_
        refine oRun.iconst 25 dX8_becomes_24 oc_im1 rfl ?_
        rw [← Option.some.inj h]
        exact oRun.ret (r := some (.int (-1))) dX8_becomes_25
      · replace h := oIn c15 h
        refine oRun.if_lt_f 18 dX8_becomes_15 rfl c15 rfl ?_
        refine oRun.iload_n 19 dX8_becomes_18 2 rfl rfl rfl ?_
        refine oRun.bipush 21 dX8_becomes_19 oc_b6 rfl ?_
        by_cases c21 : x2 < 6
        · replace h := oIp c21 h
          refine oRun.icmp_lt_t 26 dX8_becomes_21 c21 rfl ?_
          refine oRun.iload_n 27 dX8_becomes_26 3 rfl rfl rfl ?_
          by_cases c27 : x3 < 0
          · replace h := oIp c27 h
            refine oRun.if_lt_t 36 dX8_becomes_27 c27 rfl ?_
            refine oRun.bipush 38 dX8_becomes_36 oc_bm2 rfl ?_
            rw [← Option.some.inj h]
            exact oRun.ret (r := some (.int (-2))) dX8_becomes_38
          · replace h := oIn c27 h
            refine oRun.if_lt_f 30 dX8_becomes_27 rfl c27 rfl ?_
            refine oRun.iload_n 31 dX8_becomes_30 3 rfl rfl rfl ?_
            refine oRun.bipush 33 dX8_becomes_31 oc_b9 rfl ?_
            by_cases c33 : x3 ≤ 9
            · replace h := oIp c33 h
              refine oRun.icmp_le_t 39 dX8_becomes_33 c33 rfl ?_
              refine oRun.bipush 41 dX8_becomes_39 oc_b10 rfl ?_
              refine oRun.aload_n 42 dX8_becomes_41 0 rfl rfl (Nat.le_of_ble_eq_true rfl) rfl ?_
              refine oRun.getR 45 dX8_becomes_42 fd_RX8_12 rfl rfl (Nat.le_of_ble_eq_true rfl) rfl ?_
              refine oRun.getR 48 dX8_becomes_45 fd_RX8_135 rfl rfl (Nat.le_of_ble_eq_true rfl) rfl ?_
              refine oRun.getR 51 dX8_becomes_48 fd_RX8_151 rfl rfl (Nat.le_of_ble_eq_true rfl) rfl ?_
              refine oRun.iload_n 52 dX8_becomes_51 1 rfl rfl rfl ?_
              obtain ⟨r52, hr52, h⟩ := oB1 h
              refine oRun.callS (as := [.ref 5, .int x1]) 55 dX8_becomes_52 lk_RX8_76 (oFit_i (Nat.le_of_ble_eq_true rfl) (Nat.le_of_ble_eq_true rfl)) rfl (Nat.le_of_ble_eq_true rfl) (Nat.le_of_ble_eq_true rfl) rfl (E_X8_at (Or.inr ⟨_, rfl⟩) hr52) rfl ?_
              show oRun G _ 55 _ [.int r52, .int 10] _ _ _
              refine oRun.imul 56 dX8_becomes_55 rfl ?_
              refine oRun.aload_n 57 dX8_becomes_56 0 rfl rfl (Nat.le_of_ble_eq_true rfl) rfl ?_
              refine oRun.getR 60 dX8_becomes_57 fd_RX8_12 rfl rfl (Nat.le_of_ble_eq_true rfl) rfl ?_
              refine oRun.getR 63 dX8_becomes_60 fd_RX8_135 rfl rfl (Nat.le_of_ble_eq_true rfl) rfl ?_
              refine oRun.getR 66 dX8_becomes_63 fd_RX8_154 rfl rfl (Nat.le_of_ble_eq_true rfl) rfl ?_
              refine oRun.iload_n 67 dX8_becomes_66 1 rfl rfl rfl ?_
              obtain ⟨r67, hr67, h⟩ := oB1 h
              refine oRun.callS (as := [.ref 6, .int x1]) 70 dX8_becomes_67 lk_RX8_76 (oFit_i (Nat.le_of_ble_eq_true rfl) (Nat.le_of_ble_eq_true rfl)) rfl (Nat.le_of_ble_eq_true rfl) (Nat.le_of_ble_eq_true rfl) rfl (E_X8_at (Or.inr ⟨_, rfl⟩) hr67) rfl ?_
              show oRun G _ 70 _ [.int r67, .int (10 * r52)] _ _ _
              refine oRun.iadd 71 dX8_becomes_70 rfl ?_
              obtain ⟨x4_71, hx4_71, h⟩ := oB1 h
              refine oRun.nameI hx4_71 ?_
              refine oRun.istore 73 dX8_becomes_71 (Nat.le_of_ble_eq_true rfl) rfl rfl ?_
              refine oRun.aload_n 74 dX8_becomes_73 1 rfl rfl (Nat.le_of_ble_eq_true rfl) rfl ?_
              refine oRun.getR 77 dX8_becomes_74 fd_RX8_12 rfl rfl (Nat.le_of_ble_eq_true rfl) rfl ?_
              refine oRun.getR 80 dX8_becomes_77 fd_RX8_135 rfl rfl (Nat.le_of_ble_eq_true rfl) rfl ?_
              refine oRun.getR 83 dX8_becomes_80 fd_RX8_151 rfl rfl (Nat.le_of_ble_eq_true rfl) rfl ?_
              refine oRun.iload_n 84 dX8_becomes_83 2 rfl rfl rfl ?_
              refine oRun.iload_n 85 dX8_becomes_84 3 rfl rfl rfl ?_
              obtain ⟨r85, hr85, h⟩ := oB1 h
              refine oRun.callS (as := [.ref 5, .int x1, .int x2]) 88 dX8_becomes_85 lk_RX8_124 (oFit_i (Nat.le_of_ble_eq_true rfl) (Nat.le_of_ble_eq_true rfl)) rfl (Nat.le_of_ble_eq_true rfl) (Nat.le_of_ble_eq_true rfl) rfl (E_X8_set (oWA_i rfl) hr85) rfl ?_
              show oRun G _ 88 _ [] _ _ _
              refine oRun.aload_n 89 dX8_becomes_88 1 rfl rfl (Nat.le_of_ble_eq_true rfl) rfl ?_
              refine oRun.getR 92 dX8_becomes_89 fd_RX8_12 rfl rfl (Nat.le_of_ble_eq_true rfl) rfl ?_
              refine oRun.getR 95 dX8_becomes_92 fd_RX8_135 rfl rfl (Nat.le_of_ble_eq_true rfl) rfl ?_
              refine oRun.getR 98 dX8_becomes_95 fd_RX8_154 rfl rfl (Nat.le_of_ble_eq_true rfl) rfl ?_
              refine oRun.iload_n 99 dX8_becomes_98 2 rfl rfl rfl ?_
              refine oRun.iload_n 100 dX8_becomes_99 4 rfl rfl rfl ?_
              obtain ⟨r100, hr100, h⟩ := oB1 h
              refine oRun.callS (as := [.ref 6, .int x1, .int x3]) 103 dX8_becomes_100 lk_RX8_124 (oFit_i (Nat.le_of_ble_eq_true rfl) (Nat.le_of_ble_eq_true rfl)) rfl (Nat.le_of_ble_eq_true rfl) (Nat.le_of_ble_eq_true rfl) rfl (E_X8_set (oWA_i rfl) hr100) rfl ?_
              show oRun G _ 103 _ [] _ _ _
              refine oRun.iload 105 dX8_becomes_103 0 rfl rfl ?_
              rw [← Option.some.inj h]
              exact oRun.ret (r := some (.int x4_71)) dX8_becomes_105
            · replace h := oIn c33 h
              refine oRun.icmp_le_f 36 dX8_becomes_33 rfl c33 rfl ?_
              refine oRun.bipush 38 dX8_becomes_36 oc_bm2 rfl ?_
              rw [← Option.some.inj h]
              exact oRun.ret (r := some (.int (-2))) dX8_becomes_38
        · replace h := oIn c21 h
          refine oRun.icmp_lt_f 24 dX8_becomes_21 rfl c21 rfl ?_
          refine oRun.iconst 25 dX8_becomes_24 oc_im1 rfl ?_
          rw [← Option.some.inj h]
          exact oRun.ret (r := some (.int (-1))) dX8_becomes_25
  · exact True.intro
set_option maxRecDepth 100000 in
set_option maxHeartbeats 4000000 in
theorem E_X9_isPair {G : oG} {m : oM} {x1 : Int32} {w : Int32} (h : F_X9_isPair m x1 = some w) : oEv G M_X9_isPair [.ref 51, .int x1] m (some (.int w)) m := by
  unfold F_X9_isPair at h
  refine ⟨?_, ?_⟩
  · show oRun G M_X9_isPair 0 [(0, .ref 51), (1, .int x1)] [] m (some (.int w)) m
    refine oRun.iload_n 1 dX9_isPair_0 1 rfl rfl rfl ?_
    refine oRun.i2l 2 dX9_isPair_1 rfl ?_
    refine oRun.lconst 3 dX9_isPair_2 oc_l0 rfl ?_
    refine oRun.aload_n 4 dX9_isPair_3 0 rfl rfl (Nat.le_of_ble_eq_true rfl) rfl ?_
    refine oRun.getR 7 dX9_isPair_4 fd_RX9_11 rfl rfl (Nat.le_of_ble_eq_true rfl) rfl ?_
    refine oRun.iconst 8 dX9_isPair_7 oc_i3 rfl ?_
    refine oRun.iaload (x := m.1 52 3) 9 dX9_isPair_8 (Or.inr ⟨_, rfl⟩) (oAL_lit (i := 3) rfl) rfl ?_
    refine oRun.iconst 10 dX9_isPair_9 oc_i1 rfl ?_
    refine oRun.isub 11 dX9_isPair_10 rfl ?_
    refine oRun.i2l 12 dX9_isPair_11 rfl ?_
    obtain ⟨r12, hr12, h⟩ := oB1 h
    refine oRun.callS (as := [.long x1.toInt64, .long 0, .long (((m.1 52 3) - 1)).toInt64]) 15 dX9_isPair_12 lk_RX9_44 (oFit_i (Nat.le_of_ble_eq_true rfl) (Nat.le_of_ble_eq_true rfl)) rfl (Nat.le_of_ble_eq_true rfl) (Nat.le_of_ble_eq_true rfl) rfl (E_X9_isIn hr12) rfl ?_
    show oRun G _ 15 _ [.int r12] _ _ _
    rw [← Option.some.inj h]
    exact oRun.ret (r := some (.int r12)) dX9_isPair_15
  · show oROK (some .boolean) (some (.int w))
    obtain ⟨r12, hr12, h⟩ := oB1 h
    rw [← Option.some.inj h]
    exact (E_X9_isIn (G := G) (m := m) hr12).2
set_option maxRecDepth 100000 in
set_option maxHeartbeats 4000000 in
theorem E_X9_becomes {G : oG} {m : oM} {x1 : Int32} {x2 : Int32} {x3 : Int32} {w : Int32 × oM} (h : F_X9_becomes m x1 x2 x3 = some w) : oEv G M_X9_becomes [.ref 51, .int x1, .int x2, .int x3] m (some (.int w.1)) w.2 := by
  unfold F_X9_becomes at h
  refine ⟨?_, ?_⟩
  · show oRun G M_X9_becomes 0 [(0, .ref 51), (1, .int x1), (2, .int x2), (3, .int x3)] [] m (some (.int w.1)) w.2
    refine oRun.aload_n 1 dX9_becomes_0 0 rfl rfl (Nat.le_of_ble_eq_true rfl) rfl ?_
    refine oRun.iload_n 2 dX9_becomes_1 1 rfl rfl rfl ?_
    obtain ⟨r2, hr2, h⟩ := oB1 h
    refine oRun.callV (as := [.int x1]) 5 dX9_becomes_2 lk_RX9_132 (oFit_i (Nat.le_of_ble_eq_true rfl) (Nat.le_of_ble_eq_true rfl)) rfl rfl rfl rfl (Nat.le_of_ble_eq_true rfl) (Nat.le_of_ble_eq_true rfl) rfl (E_X9_isPair hr2) rfl ?_
    show oRun G _ 5 _ [.int r2] _ _ _
    by_cases c5 : r2 = 0
    · replace h := oIp c5 h
      refine oRun.if_eq_t 20 dX9_becomes_5 c5 rfl ?_
      refine oRun.iconst 21 dX9_becomes_20 oc_im1 rfl ?_
      rw [← Option.some.inj h]
      exact oRun.ret (r := some (.int (-1))) dX9_becomes_21
    · replace h := oIn c5 h
      refine oRun.if_eq_f 8 dX9_becomes_5 rfl c5 rfl ?_
      refine oRun.iload_n 9 dX9_becomes_8 2 rfl rfl rfl ?_
      refine oRun.i2l 10 dX9_becomes_9 rfl ?_
      refine oRun.lconst 11 dX9_becomes_10 oc_l0 rfl ?_
      refine oRun.ldc2 14 dX9_becomes_11 wd_5_70 rfl ?_
      obtain ⟨r14, hr14, h⟩ := oB1 h
      refine oRun.callS (as := [.long x2.toInt64, .long 0, .long 5]) 17 dX9_becomes_14 lk_RX9_44 (oFit_i (Nat.le_of_ble_eq_true rfl) (Nat.le_of_ble_eq_true rfl)) rfl (Nat.le_of_ble_eq_true rfl) (Nat.le_of_ble_eq_true rfl) rfl (E_X9_isIn hr14) rfl ?_
      show oRun G _ 17 _ [.int r14] _ _ _
      by_cases c17 : r14 = 0
      · replace h := oIp c17 h
        refine oRun.if_ne_f 20 dX9_becomes_17 rfl c17 rfl ?_
        refine oRun.iconst 21 dX9_becomes_20 oc_im1 rfl ?_
        rw [← Option.some.inj h]
        exact oRun.ret (r := some (.int (-1))) dX9_becomes_21
      · replace h := oIn c17 h
        refine oRun.if_ne_t 22 dX9_becomes_17 c17 rfl ?_
        refine oRun.iload_n 23 dX9_becomes_22 3 rfl rfl rfl ?_
        refine oRun.i2l 24 dX9_becomes_23 rfl ?_
        refine oRun.lconst 25 dX9_becomes_24 oc_l0 rfl ?_
        refine oRun.ldc2 28 dX9_becomes_25 wd_5_71 rfl ?_
        obtain ⟨r28, hr28, h⟩ := oB1 h
        refine oRun.callS (as := [.long x3.toInt64, .long 0, .long 9]) 31 dX9_becomes_28 lk_RX9_44 (oFit_i (Nat.le_of_ble_eq_true rfl) (Nat.le_of_ble_eq_true rfl)) rfl (Nat.le_of_ble_eq_true rfl) (Nat.le_of_ble_eq_true rfl) rfl (E_X9_isIn hr28) rfl ?_
        show oRun G _ 31 _ [.int r28] _ _ _
        by_cases c31 : r28 = 0
        · replace h := oIp c31 h
          refine oRun.if_ne_f 34 dX9_becomes_31 rfl c31 rfl ?_
          refine oRun.bipush 36 dX9_becomes_34 oc_bm2 rfl ?_
          rw [← Option.some.inj h]
          exact oRun.ret (r := some (.int (-2))) dX9_becomes_36
        · replace h := oIn c31 h
          refine oRun.if_ne_t 37 dX9_becomes_31 c31 rfl ?_
          refine oRun.bipush 39 dX9_becomes_37 oc_b10 rfl ?_
          refine oRun.aload_n 40 dX9_becomes_39 0 rfl rfl (Nat.le_of_ble_eq_true rfl) rfl ?_
          refine oRun.getR 43 dX9_becomes_40 fd_RX9_11 rfl rfl (Nat.le_of_ble_eq_true rfl) rfl ?_
          refine oRun.bipush 45 dX9_becomes_43 oc_b43 rfl ?_
          refine oRun.iload_n 46 dX9_becomes_45 1 rfl rfl rfl ?_
          refine oRun.iadd 47 dX9_becomes_46 rfl ?_
          obtain ⟨v47, hv47, h⟩ := oB1 h
          refine oRun.iaload 48 dX9_becomes_47 (Or.inr ⟨_, rfl⟩) hv47 rfl ?_
          refine oRun.imul 49 dX9_becomes_48 rfl ?_
          refine oRun.aload_n 50 dX9_becomes_49 0 rfl rfl (Nat.le_of_ble_eq_true rfl) rfl ?_
          refine oRun.getR 53 dX9_becomes_50 fd_RX9_11 rfl rfl (Nat.le_of_ble_eq_true rfl) rfl ?_
          refine oRun.bipush 55 dX9_becomes_53 oc_b53 rfl ?_
          refine oRun.iload_n 56 dX9_becomes_55 1 rfl rfl rfl ?_
          refine oRun.iadd 57 dX9_becomes_56 rfl ?_
          obtain ⟨v57, hv57, h⟩ := oB1 h
          refine oRun.iaload 58 dX9_becomes_57 (Or.inr ⟨_, rfl⟩) hv57 rfl ?_
          refine oRun.iadd 59 dX9_becomes_58 rfl ?_
          obtain ⟨x4_59, hx4_59, h⟩ := oB1 h
          refine oRun.nameI hx4_59 ?_
          refine oRun.istore 61 dX9_becomes_59 (Nat.le_of_ble_eq_true rfl) rfl rfl ?_
          refine oRun.aload_n 62 dX9_becomes_61 1 rfl rfl (Nat.le_of_ble_eq_true rfl) rfl ?_
          refine oRun.getR 65 dX9_becomes_62 fd_RX9_11 rfl rfl (Nat.le_of_ble_eq_true rfl) rfl ?_
          refine oRun.bipush 67 dX9_becomes_65 oc_b43 rfl ?_
          refine oRun.iload_n 68 dX9_becomes_67 2 rfl rfl rfl ?_
          refine oRun.iadd 69 dX9_becomes_68 rfl ?_
          refine oRun.iload_n 70 dX9_becomes_69 3 rfl rfl rfl ?_
          obtain ⟨m70, hm70, h⟩ := oB1 h
          refine oRun.iastore 71 dX9_becomes_70 rfl hm70 rfl ?_
          refine oRun.aload_n 72 dX9_becomes_71 1 rfl rfl (Nat.le_of_ble_eq_true rfl) rfl ?_
          refine oRun.getR 75 dX9_becomes_72 fd_RX9_11 rfl rfl (Nat.le_of_ble_eq_true rfl) rfl ?_
          refine oRun.bipush 77 dX9_becomes_75 oc_b53 rfl ?_
          refine oRun.iload_n 78 dX9_becomes_77 2 rfl rfl rfl ?_
          refine oRun.iadd 79 dX9_becomes_78 rfl ?_
          refine oRun.iload_n 80 dX9_becomes_79 4 rfl rfl rfl ?_
          obtain ⟨m80, hm80, h⟩ := oB1 h
          refine oRun.iastore 81 dX9_becomes_80 rfl hm80 rfl ?_
          refine oRun.iload 83 dX9_becomes_81 0 rfl rfl ?_
          rw [← Option.some.inj h]
          exact oRun.ret (r := some (.int x4_59)) dX9_becomes_83
  · exact True.intro
set_option maxRecDepth 100000 in
set_option maxHeartbeats 4000000 in
theorem E_X8_teeth {G : oG} {m : oM} {x1 : Int32} {x2 : Int32} {x3 : Int32} {w : Int32 × oM} (h : F_X8_teeth m x1 x2 x3 = some w) : oEv G M_X8_teeth [.ref 0, .int x1, .int x2, .int x3] m (some (.int w.1)) w.2 := by
  unfold F_X8_teeth at h
  refine ⟨?_, ?_⟩
  · show oRun G M_X8_teeth 0 [(0, .ref 0), (1, .int x1), (2, .int x2), (3, .int x3)] [] m (some (.int w.1)) w.2
    refine oRun.aload_n 1 dX8_teeth_0 0 rfl rfl (Nat.le_of_ble_eq_true rfl) rfl ?_
    refine oRun.getR 4 dX8_teeth_1 fd_RX8_12 rfl rfl (Nat.le_of_ble_eq_true rfl) rfl ?_
    refine oRun.getR 7 dX8_teeth_4 fd_RX8_135 rfl rfl (Nat.le_of_ble_eq_true rfl) rfl ?_
    refine oRun.iload_n 8 dX8_teeth_7 1 rfl rfl rfl ?_
    obtain ⟨r8, hr8, h⟩ := oB1 h
    refine oRun.callV (as := [.int x1]) 11 dX8_teeth_8 lk_RX8_148 (oFit_i (Nat.le_of_ble_eq_true rfl) (Nat.le_of_ble_eq_true rfl)) rfl rfl rfl rfl (Nat.le_of_ble_eq_true rfl) (Nat.le_of_ble_eq_true rfl) rfl (E_X2_has rfl hr8) rfl ?_
    show oRun G _ 11 _ [.int r8] _ _ _
    by_cases c11 : r8 = 0
    · replace h := oIp c11 h
      refine oRun.if_eq_t 23 dX8_teeth_11 c11 rfl ?_
      refine oRun.iconst 24 dX8_teeth_23 oc_im1 rfl ?_
      rw [← Option.some.inj h]
      exact oRun.ret (r := some (.int (-1))) dX8_teeth_24
    · replace h := oIn c11 h
      refine oRun.if_eq_f 14 dX8_teeth_11 rfl c11 rfl ?_
      refine oRun.iload_n 15 dX8_teeth_14 2 rfl rfl rfl ?_
      by_cases c15 : x2 < 0
      · replace h := oIp c15 h
        refine oRun.if_lt_t 23 dX8_teeth_15 c15 rfl ?_
        refine oRun.iconst 24 dX8_teeth_23 oc_im1 rfl ?_
        rw [← Option.some.inj h]
        exact oRun.ret (r := some (.int (-1))) dX8_teeth_24
      · replace h := oIn c15 h
        refine oRun.if_lt_f 18 dX8_teeth_15 rfl c15 rfl ?_
        refine oRun.iload_n 19 dX8_teeth_18 2 rfl rfl rfl ?_
        refine oRun.iconst 20 dX8_teeth_19 oc_i1 rfl ?_
        by_cases c20 : x2 ≤ 1
        · replace h := oIp c20 h
          refine oRun.icmp_le_t 25 dX8_teeth_20 c20 rfl ?_
          refine oRun.iload_n 26 dX8_teeth_25 3 rfl rfl rfl ?_
          obtain ⟨r26, hr26, h⟩ := oB1 h
          refine oRun.callS (as := [.int x3]) 29 dX8_teeth_26 lk_RX8_102 (oFit_i (Nat.le_of_ble_eq_true rfl) (Nat.le_of_ble_eq_true rfl)) rfl (Nat.le_of_ble_eq_true rfl) (Nat.le_of_ble_eq_true rfl) rfl (E_X8_isTeeth hr26) rfl ?_
          show oRun G _ 29 _ [.int r26] _ _ _
          by_cases c29 : r26 = 0
          · replace h := oIp c29 h
            refine oRun.if_ne_f 32 dX8_teeth_29 rfl c29 rfl ?_
            refine oRun.bipush 34 dX8_teeth_32 oc_bm2 rfl ?_
            rw [← Option.some.inj h]
            exact oRun.ret (r := some (.int (-2))) dX8_teeth_34
          · replace h := oIn c29 h
            refine oRun.if_ne_t 35 dX8_teeth_29 c29 rfl ?_
            refine oRun.iload_n 36 dX8_teeth_35 2 rfl rfl rfl ?_
            by_cases c36 : x2 = 0
            · replace h := oIp c36 h
              refine oRun.if_ne_f 39 dX8_teeth_36 rfl c36 rfl ?_
              refine oRun.aload_n 40 dX8_teeth_39 0 rfl rfl (Nat.le_of_ble_eq_true rfl) rfl ?_
              refine oRun.getR 43 dX8_teeth_40 fd_RX8_12 rfl rfl (Nat.le_of_ble_eq_true rfl) rfl ?_
              refine oRun.getR 46 dX8_teeth_43 fd_RX8_135 rfl rfl (Nat.le_of_ble_eq_true rfl) rfl ?_
              refine oRun.getR 49 dX8_teeth_46 fd_RX8_157 rfl rfl (Nat.le_of_ble_eq_true rfl) rfl ?_
              refine oRun.goto 62 dX8_teeth_49 rfl ?_
              refine oRun.astore 64 dX8_teeth_62 (Nat.le_of_ble_eq_true rfl) (Nat.le_of_ble_eq_true rfl) rfl rfl ?_
              refine oRun.aload 66 dX8_teeth_64 0 rfl (Nat.le_of_ble_eq_true rfl) rfl ?_
              refine oRun.iload_n 67 dX8_teeth_66 2 rfl rfl rfl ?_
              obtain ⟨r67, hr67, h⟩ := oB1 h
              refine oRun.callS (as := [.ref 7, .int x1]) 70 dX8_teeth_67 lk_RX8_76 (oFit_i (Nat.le_of_ble_eq_true rfl) (Nat.le_of_ble_eq_true rfl)) rfl (Nat.le_of_ble_eq_true rfl) (Nat.le_of_ble_eq_true rfl) rfl (E_X8_at (Or.inr ⟨_, rfl⟩) hr67) rfl ?_
              show oRun G _ 70 _ [.int r67] _ _ _
              refine oRun.istore 72 dX8_teeth_70 (Nat.le_of_ble_eq_true rfl) rfl rfl ?_
              refine oRun.aload 74 dX8_teeth_72 1 rfl (Nat.le_of_ble_eq_true rfl) rfl ?_
              refine oRun.iload_n 75 dX8_teeth_74 3 rfl rfl rfl ?_
              refine oRun.iload_n 76 dX8_teeth_75 5 rfl rfl rfl ?_
              obtain ⟨r76, hr76, h⟩ := oB1 h
              refine oRun.callS (as := [.ref 7, .int x1, .int x3]) 79 dX8_teeth_76 lk_RX8_124 (oFit_i (Nat.le_of_ble_eq_true rfl) (Nat.le_of_ble_eq_true rfl)) rfl (Nat.le_of_ble_eq_true rfl) (Nat.le_of_ble_eq_true rfl) rfl (E_X8_set (oWA_i rfl) hr76) rfl ?_
              show oRun G _ 79 _ [] _ _ _
              refine oRun.iload 81 dX8_teeth_79 0 rfl rfl ?_
              rw [← Option.some.inj h]
              exact oRun.ret (r := some (.int r67)) dX8_teeth_81
            · replace h := oIn c36 h
              refine oRun.if_ne_t 52 dX8_teeth_36 c36 rfl ?_
              refine oRun.aload_n 53 dX8_teeth_52 0 rfl rfl (Nat.le_of_ble_eq_true rfl) rfl ?_
              refine oRun.getR 56 dX8_teeth_53 fd_RX8_12 rfl rfl (Nat.le_of_ble_eq_true rfl) rfl ?_
              refine oRun.getR 59 dX8_teeth_56 fd_RX8_135 rfl rfl (Nat.le_of_ble_eq_true rfl) rfl ?_
              refine oRun.getR 62 dX8_teeth_59 fd_RX8_160 rfl rfl (Nat.le_of_ble_eq_true rfl) rfl ?_
              refine oRun.astore 64 dX8_teeth_62 (Nat.le_of_ble_eq_true rfl) (Nat.le_of_ble_eq_true rfl) rfl rfl ?_
              refine oRun.aload 66 dX8_teeth_64 0 rfl (Nat.le_of_ble_eq_true rfl) rfl ?_
              refine oRun.iload_n 67 dX8_teeth_66 2 rfl rfl rfl ?_
              obtain ⟨r67, hr67, h⟩ := oB1 h
              refine oRun.callS (as := [.ref 8, .int x1]) 70 dX8_teeth_67 lk_RX8_76 (oFit_i (Nat.le_of_ble_eq_true rfl) (Nat.le_of_ble_eq_true rfl)) rfl (Nat.le_of_ble_eq_true rfl) (Nat.le_of_ble_eq_true rfl) rfl (E_X8_at (Or.inr ⟨_, rfl⟩) hr67) rfl ?_
              show oRun G _ 70 _ [.int r67] _ _ _
              refine oRun.istore 72 dX8_teeth_70 (Nat.le_of_ble_eq_true rfl) rfl rfl ?_
              refine oRun.aload 74 dX8_teeth_72 1 rfl (Nat.le_of_ble_eq_true rfl) rfl ?_
              refine oRun.iload_n 75 dX8_teeth_74 3 rfl rfl rfl ?_
              refine oRun.iload_n 76 dX8_teeth_75 5 rfl rfl rfl ?_
              obtain ⟨r76, hr76, h⟩ := oB1 h
              refine oRun.callS (as := [.ref 8, .int x1, .int x3]) 79 dX8_teeth_76 lk_RX8_124 (oFit_i (Nat.le_of_ble_eq_true rfl) (Nat.le_of_ble_eq_true rfl)) rfl (Nat.le_of_ble_eq_true rfl) (Nat.le_of_ble_eq_true rfl) rfl (E_X8_set (oWA_i rfl) hr76) rfl ?_
              show oRun G _ 79 _ [] _ _ _
              refine oRun.iload 81 dX8_teeth_79 0 rfl rfl ?_
              rw [← Option.some.inj h]
              exact oRun.ret (r := some (.int r67)) dX8_teeth_81
        · replace h := oIn c20 h
          refine oRun.icmp_le_f 23 dX8_teeth_20 rfl c20 rfl ?_
          refine oRun.iconst 24 dX8_teeth_23 oc_im1 rfl ?_
          rw [← Option.some.inj h]
          exact oRun.ret (r := some (.int (-1))) dX8_teeth_24
  · exact True.intro
set_option maxRecDepth 100000 in
set_option maxHeartbeats 4000000 in
theorem E_X9_teeth {G : oG} {m : oM} {x1 : Int32} {x2 : Int32} {x3 : Int32} {w : Int32 × oM} (h : F_X9_teeth m x1 x2 x3 = some w) : oEv G M_X9_teeth [.ref 51, .int x1, .int x2, .int x3] m (some (.int w.1)) w.2 := by
  unfold F_X9_teeth at h
  refine ⟨?_, ?_⟩
  · show oRun G M_X9_teeth 0 [(0, .ref 51), (1, .int x1), (2, .int x2), (3, .int x3)] [] m (some (.int w.1)) w.2
    refine oRun.aload_n 1 dX9_teeth_0 0 rfl rfl (Nat.le_of_ble_eq_true rfl) rfl ?_
    refine oRun.iload_n 2 dX9_teeth_1 1 rfl rfl rfl ?_
    obtain ⟨r2, hr2, h⟩ := oB1 h
    refine oRun.callV (as := [.int x1]) 5 dX9_teeth_2 lk_RX9_132 (oFit_i (Nat.le_of_ble_eq_true rfl) (Nat.le_of_ble_eq_true rfl)) rfl rfl rfl rfl (Nat.le_of_ble_eq_true rfl) (Nat.le_of_ble_eq_true rfl) rfl (E_X9_isPair hr2) rfl ?_
    show oRun G _ 5 _ [.int r2] _ _ _
    by_cases c5 : r2 = 0
    · replace h := oIp c5 h
      refine oRun.if_eq_t 18 dX9_teeth_5 c5 rfl ?_
      refine oRun.iconst 19 dX9_teeth_18 oc_im1 rfl ?_
      rw [← Option.some.inj h]
      exact oRun.ret (r := some (.int (-1))) dX9_teeth_19
    · replace h := oIn c5 h
      refine oRun.if_eq_f 8 dX9_teeth_5 rfl c5 rfl ?_
      refine oRun.iload_n 9 dX9_teeth_8 2 rfl rfl rfl ?_
      refine oRun.i2l 10 dX9_teeth_9 rfl ?_
      refine oRun.lconst 11 dX9_teeth_10 oc_l0 rfl ?_
      refine oRun.lconst 12 dX9_teeth_11 oc_l1 rfl ?_
      obtain ⟨r12, hr12, h⟩ := oB1 h
      refine oRun.callS (as := [.long x2.toInt64, .long 0, .long 1]) 15 dX9_teeth_12 lk_RX9_44 (oFit_i (Nat.le_of_ble_eq_true rfl) (Nat.le_of_ble_eq_true rfl)) rfl (Nat.le_of_ble_eq_true rfl) (Nat.le_of_ble_eq_true rfl) rfl (E_X9_isIn hr12) rfl ?_
      show oRun G _ 15 _ [.int r12] _ _ _
      by_cases c15 : r12 = 0
      · replace h := oIp c15 h
        refine oRun.if_ne_f 18 dX9_teeth_15 rfl c15 rfl ?_
        refine oRun.iconst 19 dX9_teeth_18 oc_im1 rfl ?_
        rw [← Option.some.inj h]
        exact oRun.ret (r := some (.int (-1))) dX9_teeth_19
      · replace h := oIn c15 h
        refine oRun.if_ne_t 20 dX9_teeth_15 c15 rfl ?_
        refine oRun.iload_n 21 dX9_teeth_20 3 rfl rfl rfl ?_
        refine oRun.i2l 22 dX9_teeth_21 rfl ?_
        refine oRun.ldc2 25 dX9_teeth_22 wd_4_211 rfl ?_
        refine oRun.ldc2 28 dX9_teeth_25 wd_4_206 rfl ?_
        obtain ⟨r28, hr28, h⟩ := oB1 h
        refine oRun.callS (as := [.long x3.toInt64, .long 10, .long 99]) 31 dX9_teeth_28 lk_RX9_44 (oFit_i (Nat.le_of_ble_eq_true rfl) (Nat.le_of_ble_eq_true rfl)) rfl (Nat.le_of_ble_eq_true rfl) (Nat.le_of_ble_eq_true rfl) rfl (E_X9_isIn hr28) rfl ?_
        show oRun G _ 31 _ [.int r28] _ _ _
        by_cases c31 : r28 = 0
        · replace h := oIp c31 h
          refine oRun.if_ne_f 34 dX9_teeth_31 rfl c31 rfl ?_
          refine oRun.bipush 36 dX9_teeth_34 oc_bm2 rfl ?_
          rw [← Option.some.inj h]
          exact oRun.ret (r := some (.int (-2))) dX9_teeth_36
        · replace h := oIn c31 h
          refine oRun.if_ne_t 37 dX9_teeth_31 c31 rfl ?_
          refine oRun.iload_n 38 dX9_teeth_37 2 rfl rfl rfl ?_
          by_cases c38 : x2 = 0
          · replace h := oIp c38 h
            refine oRun.if_ne_f 41 dX9_teeth_38 rfl c38 rfl ?_
            refine oRun.bipush 43 dX9_teeth_41 oc_b63 rfl ?_
            refine oRun.iload_n 44 dX9_teeth_43 1 rfl rfl rfl ?_
            refine oRun.iadd 45 dX9_teeth_44 rfl ?_
            refine oRun.goto 52 dX9_teeth_45 rfl ?_
            obtain ⟨x4_52, hx4_52, h⟩ := oB1 h
            refine oRun.nameI hx4_52 ?_
            refine oRun.istore 54 dX9_teeth_52 (Nat.le_of_ble_eq_true rfl) rfl rfl ?_
            refine oRun.aload_n 55 dX9_teeth_54 1 rfl rfl (Nat.le_of_ble_eq_true rfl) rfl ?_
            refine oRun.getR 58 dX9_teeth_55 fd_RX9_11 rfl rfl (Nat.le_of_ble_eq_true rfl) rfl ?_
            refine oRun.iload 60 dX9_teeth_58 0 rfl rfl ?_
            obtain ⟨v60, hv60, h⟩ := oB1 h
            refine oRun.iaload 61 dX9_teeth_60 (Or.inr ⟨_, rfl⟩) hv60 rfl ?_
            refine oRun.istore 63 dX9_teeth_61 (Nat.le_of_ble_eq_true rfl) rfl rfl ?_
            refine oRun.aload_n 64 dX9_teeth_63 2 rfl rfl (Nat.le_of_ble_eq_true rfl) rfl ?_
            refine oRun.getR 67 dX9_teeth_64 fd_RX9_11 rfl rfl (Nat.le_of_ble_eq_true rfl) rfl ?_
            refine oRun.iload 69 dX9_teeth_67 1 rfl rfl ?_
            refine oRun.iload_n 70 dX9_teeth_69 5 rfl rfl rfl ?_
            obtain ⟨m70, hm70, h⟩ := oB1 h
            refine oRun.iastore 71 dX9_teeth_70 rfl hm70 rfl ?_
            refine oRun.iload 73 dX9_teeth_71 0 rfl rfl ?_
            rw [← Option.some.inj h]
            exact oRun.ret (r := some (.int v60)) dX9_teeth_73
          · replace h := oIn c38 h
            refine oRun.if_ne_t 48 dX9_teeth_38 c38 rfl ?_
            refine oRun.bipush 50 dX9_teeth_48 oc_b73 rfl ?_
            refine oRun.iload_n 51 dX9_teeth_50 1 rfl rfl rfl ?_
            refine oRun.iadd 52 dX9_teeth_51 rfl ?_
            obtain ⟨x4_52, hx4_52, h⟩ := oB1 h
            refine oRun.nameI hx4_52 ?_
            refine oRun.istore 54 dX9_teeth_52 (Nat.le_of_ble_eq_true rfl) rfl rfl ?_
            refine oRun.aload_n 55 dX9_teeth_54 1 rfl rfl (Nat.le_of_ble_eq_true rfl) rfl ?_
            refine oRun.getR 58 dX9_teeth_55 fd_RX9_11 rfl rfl (Nat.le_of_ble_eq_true rfl) rfl ?_
            refine oRun.iload 60 dX9_teeth_58 0 rfl rfl ?_
            obtain ⟨v60, hv60, h⟩ := oB1 h
            refine oRun.iaload 61 dX9_teeth_60 (Or.inr ⟨_, rfl⟩) hv60 rfl ?_
            refine oRun.istore 63 dX9_teeth_61 (Nat.le_of_ble_eq_true rfl) rfl rfl ?_
            refine oRun.aload_n 64 dX9_teeth_63 2 rfl rfl (Nat.le_of_ble_eq_true rfl) rfl ?_
            refine oRun.getR 67 dX9_teeth_64 fd_RX9_11 rfl rfl (Nat.le_of_ble_eq_true rfl) rfl ?_
            refine oRun.iload 69 dX9_teeth_67 1 rfl rfl ?_
            refine oRun.iload_n 70 dX9_teeth_69 5 rfl rfl rfl ?_
            obtain ⟨m70, hm70, h⟩ := oB1 h
            refine oRun.iastore 71 dX9_teeth_70 rfl hm70 rfl ?_
            refine oRun.iload 73 dX9_teeth_71 0 rfl rfl ?_
            rw [← Option.some.inj h]
            exact oRun.ret (r := some (.int v60)) dX9_teeth_73
  · exact True.intro
set_option maxRecDepth 100000 in
set_option maxHeartbeats 4000000 in
theorem E_X2_play {G : oG} {o : Nat} (ho : oPb o = true) {m : oM} {x1 : Int32} {w : Int32} (h : F_X2_play o m x1 = some w) : oEv G M_X2_play [.ref o, .int x1] m (some (.int w)) m := by
  unfold F_X2_play at h
  refine ⟨?_, ?_⟩
  · show oRun G M_X2_play 0 [(0, .ref o), (1, .int x1)] [] m (some (.int w)) m
    refine oRun.aload_n 1 dX2_play_0 0 rfl rfl (oLt66 (oP_lt ho)) rfl ?_
    refine oRun.getR 4 dX2_play_1 fd_RX2_19 (oP_sh ho) rfl (oP_l2 ho) rfl ?_
    refine oRun.iload_n 5 dX2_play_4 1 rfl rfl rfl ?_
    obtain ⟨r5, hr5, h⟩ := oB1 h
    refine oRun.callN (as := [.ref (o + 2), .int x1]) 8 dX2_play_5 lk_RX2_36 (oFit_i (Nat.le_of_ble_eq_true rfl) (Nat.le_of_ble_eq_true rfl)) rfl (Nat.le_of_ble_eq_true rfl) (Nat.le_of_ble_eq_true rfl) rfl (E_X8_at (Or.inr ⟨_, (oP_a2 ho)⟩) hr5) rfl ?_
    show oRun G _ 8 _ [.int r5] _ _ _
    refine oRun.istore_n 9 dX2_play_8 rfl (Nat.le_of_ble_eq_true rfl) rfl rfl ?_
    refine oRun.aload_n 10 dX2_play_9 1 rfl rfl (oLt66 (oP_lt ho)) rfl ?_
    refine oRun.getR 13 dX2_play_10 fd_RX2_15 (oP_sh ho) rfl (oP_l1 ho) rfl ?_
    refine oRun.iload_n 14 dX2_play_13 2 rfl rfl rfl ?_
    obtain ⟨r14, hr14, h⟩ := oB1 h
    refine oRun.callN (as := [.ref (o + 1), .int x1]) 17 dX2_play_14 lk_RX2_36 (oFit_i (Nat.le_of_ble_eq_true rfl) (Nat.le_of_ble_eq_true rfl)) rfl (Nat.le_of_ble_eq_true rfl) (Nat.le_of_ble_eq_true rfl) rfl (E_X8_at (Or.inr ⟨_, (oP_a1 ho)⟩) hr14) rfl ?_
    show oRun G _ 17 _ [.int r14] _ _ _
    by_cases c17_1 : r14 = 1
    · replace h := oIp c17_1 h
      refine oRun.tsin 48 dX2_play_17 (q := 1) (by rw [c17_1]; rfl) (by decide) (by decide) rfl rfl ?_
      refine oRun.iload_n 49 dX2_play_48 0 rfl rfl rfl ?_
      refine oRun.iconst 50 dX2_play_49 oc_i3 rfl ?_
      refine oRun.iadd 51 dX2_play_50 rfl ?_
      rw [← Option.some.inj h]
      exact oRun.ret (r := some (.int (r5 + 3))) dX2_play_51
    · replace h := oIn c17_1 h
      by_cases c17_2 : r14 = 2
      · replace h := oIp c17_2 h
        refine oRun.tsin 52 dX2_play_17 (q := 2) (by rw [c17_2]; rfl) (by decide) (by decide) rfl rfl ?_
        refine oRun.iload_n 53 dX2_play_52 0 rfl rfl rfl ?_
        refine oRun.iconst 54 dX2_play_53 oc_i2 rfl ?_
        refine oRun.idiv 55 dX2_play_54 (by decide) rfl ?_
        rw [← Option.some.inj h]
        exact oRun.ret (r := some (.int (r5 / 2))) dX2_play_55
      · replace h := oIn c17_2 h
        by_cases c17_3 : r14 = 3
        · replace h := oIp c17_3 h
          refine oRun.tsin 56 dX2_play_17 (q := 3) (by rw [c17_3]; rfl) (by decide) (by decide) rfl rfl ?_
          refine oRun.iconst 57 dX2_play_56 oc_i2 rfl ?_
          refine oRun.iload_n 58 dX2_play_57 0 rfl rfl rfl ?_
          refine oRun.iconst 59 dX2_play_58 oc_i3 rfl ?_
          refine oRun.iadd 60 dX2_play_59 rfl ?_
          refine oRun.imul 61 dX2_play_60 rfl ?_
          rw [← Option.some.inj h]
          exact oRun.ret (r := some (.int (2 * (r5 + 3)))) dX2_play_61
        · replace h := oIn c17_3 h
          by_cases c17_4 : r14 = 4
          · replace h := oIp c17_4 h
            refine oRun.tsin 62 dX2_play_17 (q := 4) (by rw [c17_4]; rfl) (by decide) (by decide) rfl rfl ?_
            refine oRun.iload_n 63 dX2_play_62 0 rfl rfl rfl ?_
            refine oRun.iconst 64 dX2_play_63 oc_i2 rfl ?_
            refine oRun.irem 65 dX2_play_64 (by decide) rfl ?_
            by_cases c65 : (oRI r5 2) = 0
            · replace h := oIp c65 h
              refine oRun.if_ne_f 68 dX2_play_65 rfl c65 rfl ?_
              refine oRun.iconst 69 dX2_play_68 oc_i0 rfl ?_
              refine oRun.goto 75 dX2_play_69 rfl ?_
              rw [← Option.some.inj h]
              exact oRun.ret (r := some (.int 0)) dX2_play_75
            · replace h := oIn c65 h
              refine oRun.if_ne_t 72 dX2_play_65 c65 rfl ?_
              refine oRun.iload_n 73 dX2_play_72 0 rfl rfl rfl ?_
              refine oRun.iconst 74 dX2_play_73 oc_i2 rfl ?_
              refine oRun.idiv 75 dX2_play_74 (by decide) rfl ?_
              rw [← Option.some.inj h]
              exact oRun.ret (r := some (.int (r5 / 2))) dX2_play_75
          · replace h := oIn c17_4 h
            have dk : oRun G M_X2_play 76 [(2, .int r5), (0, .ref o), (1, .int x1)] [] m (some (.int w)) m := by
              refine oRun.iload_n 77 dX2_play_76 0 rfl rfl rfl ?_
              rw [← Option.some.inj h]
              exact oRun.ret (r := some (.int r5)) dX2_play_77
            by_cases hl17 : r14.toInt < 1 ∨ 4 < r14.toInt
            · exact oRun.tsout 76 dX2_play_17 hl17 rfl dk
            · have hq : r14.toInt = 1 ∨ r14.toInt = 2 ∨ r14.toInt = 3 ∨ r14.toInt = 4 := by omega
              rcases hq with hq | hq | hq | hq
              · exact absurd (oTs (k := 1) rfl hq) c17_1
              · exact absurd (oTs (k := 2) rfl hq) c17_2
              · exact absurd (oTs (k := 3) rfl hq) c17_3
              · exact absurd (oTs (k := 4) rfl hq) c17_4
  · exact True.intro
set_option maxRecDepth 100000 in
set_option maxHeartbeats 4000000 in
theorem E_X2_goesRound {G : oG} {o : Nat} (ho : oPb o = true) {m : oM} {x1 : Int32} {w : Int32} (h : F_X2_goesRound o m x1 = some w) : oEv G M_X2_goesRound [.ref o, .int x1] m (some (.int w)) m := by
  unfold F_X2_goesRound at h
  refine ⟨?_, ?_⟩
  · show oRun G M_X2_goesRound 0 [(0, .ref o), (1, .int x1)] [] m (some (.int w)) m
    refine oRun.aload_n 1 dX2_goesRound_0 0 rfl rfl (oLt66 (oP_lt ho)) rfl ?_
    refine oRun.getR 4 dX2_goesRound_1 fd_RX2_15 (oP_sh ho) rfl (oP_l1 ho) rfl ?_
    refine oRun.iload_n 5 dX2_goesRound_4 1 rfl rfl rfl ?_
    obtain ⟨r5, hr5, h⟩ := oB1 h
    refine oRun.callN (as := [.ref (o + 1), .int x1]) 8 dX2_goesRound_5 lk_RX2_36 (oFit_i (Nat.le_of_ble_eq_true rfl) (Nat.le_of_ble_eq_true rfl)) rfl (Nat.le_of_ble_eq_true rfl) (Nat.le_of_ble_eq_true rfl) rfl (E_X8_at (Or.inr ⟨_, (oP_a1 ho)⟩) hr5) rfl ?_
    show oRun G _ 8 _ [.int r5] _ _ _
    refine oRun.iconst 9 dX2_goesRound_8 oc_i5 rfl ?_
    by_cases c9 : r5 = 5
    · replace h := oIp c9 h
      refine oRun.icmp_eq_t 16 dX2_goesRound_9 c9 rfl ?_
      refine oRun.iconst 17 dX2_goesRound_16 oc_i0 rfl ?_
      rw [← Option.some.inj h]
      exact oRun.ret (r := some (.int 0)) dX2_goesRound_17
    · replace h := oIn c9 h
      refine oRun.icmp_eq_f 12 dX2_goesRound_9 rfl c9 rfl ?_
      refine oRun.iconst 13 dX2_goesRound_12 oc_i1 rfl ?_
      refine oRun.goto 17 dX2_goesRound_13 rfl ?_
      rw [← Option.some.inj h]
      exact oRun.ret (r := some (.int 1)) dX2_goesRound_17
  · show oROK (some .boolean) (some (.int w))
    obtain ⟨r5, hr5, h⟩ := oB1 h
    by_cases c9 : r5 = 5
    · replace h := oIp c9 h
      rw [← Option.some.inj h]
      exact Or.inl rfl
    · replace h := oIn c9 h
      rw [← Option.some.inj h]
      exact Or.inr rfl
set_option maxRecDepth 100000 in
set_option maxHeartbeats 4000000 in
theorem E_X7_length {G : oG} {o : Nat} (ho : oTb o = true) {m : oM} {x1 : Int32} {w : Int32} (h : F_X7_length o m x1 = some w) : oEv G M_X7_length [.ref o, .int x1] m (some (.int w)) m := by
  unfold F_X7_length at h
  refine ⟨?_, ?_⟩
  · show oRun G M_X7_length 0 [(0, .ref o), (1, .int x1)] [] m (some (.int w)) m
    refine oRun.aload_n 1 dX7_length_0 0 rfl rfl (oLt66 (oT_lt ho)) rfl ?_
    refine oRun.getR 4 dX7_length_1 fd_RX7_9 (oT_sh ho) rfl (oT_l1 ho) rfl ?_
    refine oRun.iload_n 5 dX7_length_4 1 rfl rfl rfl ?_
    obtain ⟨r5, hr5, h⟩ := oB1 h
    refine oRun.callN (as := [.ref (o + 1), .int x1]) 8 dX7_length_5 lk_RX7_22 (oFit_i (Nat.le_of_ble_eq_true rfl) (Nat.le_of_ble_eq_true rfl)) rfl (Nat.le_of_ble_eq_true rfl) (Nat.le_of_ble_eq_true rfl) rfl (E_X8_at (Or.inr ⟨_, (oT_a1 ho)⟩) hr5) rfl ?_
    show oRun G _ 8 _ [.int r5] _ _ _
    rw [← Option.some.inj h]
    exact oRun.ret (r := some (.int r5)) dX7_length_8
  · exact True.intro
set_option maxRecDepth 100000 in
set_option maxHeartbeats 4000000 in
theorem E_X7_pairAt {G : oG} {o : Nat} (ho : oTb o = true) {m : oM} {x1 : Int32} {x2 : Int32} {w : Int32} (h : F_X7_pairAt o m x1 x2 = some w) : oEv G M_X7_pairAt [.ref o, .int x1, .int x2] m (some (.int w)) m := by
  unfold F_X7_pairAt at h
  refine ⟨?_, ?_⟩
  · show oRun G M_X7_pairAt 0 [(0, .ref o), (1, .int x1), (2, .int x2)] [] m (some (.int w)) m
    refine oRun.aload_n 1 dX7_pairAt_0 0 rfl rfl (oLt66 (oT_lt ho)) rfl ?_
    refine oRun.getR 4 dX7_pairAt_1 fd_RX7_15 (oT_sh ho) rfl (oT_l2 ho) rfl ?_
    refine oRun.iload_n 5 dX7_pairAt_4 1 rfl rfl rfl ?_
    refine oRun.iconst 6 dX7_pairAt_5 oc_i3 rfl ?_
    refine oRun.imul 7 dX7_pairAt_6 rfl ?_
    refine oRun.iload_n 8 dX7_pairAt_7 2 rfl rfl rfl ?_
    refine oRun.iadd 9 dX7_pairAt_8 rfl ?_
    obtain ⟨r9, hr9, h⟩ := oB1 h
    refine oRun.callN (as := [.ref (o + 2), .int ((x1 * 3) + x2)]) 12 dX7_pairAt_9 lk_RX7_22 (oFit_i (Nat.le_of_ble_eq_true rfl) (Nat.le_of_ble_eq_true rfl)) rfl (Nat.le_of_ble_eq_true rfl) (Nat.le_of_ble_eq_true rfl) rfl (E_X8_at (Or.inr ⟨_, (oT_a2 ho)⟩) hr9) rfl ?_
    show oRun G _ 12 _ [.int r9] _ _ _
    rw [← Option.some.inj h]
    exact oRun.ret (r := some (.int r9)) dX7_pairAt_12
  · exact True.intro
set_option maxRecDepth 100000 in
set_option maxHeartbeats 4000000 in
theorem E_X7_holding_L13 {G : oG} {o : Nat} (ho : oTb o = true) {m : oM} {x1 : Int32} {x3 : Int32} {r : Option Value} {m' : oM} : ∀ (n : Nat) (x2 : Int32) (x4 : Int32) (b : Int32), oLoop (fun s : Int32 × Int32 => F_X7_holding_L13 o m x1 x3 s.1 s.2) n (x2, x4) = some b → oRun G M_X7_holding 43 [(0, .ref o), (1, .int x1), (2, .int b), (3, .int x3)] [] m r m' → oRun G M_X7_holding 13 [(0, .ref o), (1, .int x1), (2, .int x2), (3, .int x3), (4, .int x4)] [] m r m' := by
  intro n
  induction n with
  | zero => intro x2 x4 b h _; exact (oLoop_zero h).elim
  | succ n ih =>
    intro x2 x4 b h he
    obtain ⟨q', hq', h⟩ := oLoop_succ h
    have hc : ∀ s' : Int32 × Int32, q' = .inl s' → oRun G M_X7_holding 13 [(0, .ref o), (1, .int x1), (2, .int s'.1), (3, .int x3), (4, .int s'.2)] [] m r m' := by
      rintro s' rfl
      exact ih (s'.1) (s'.2) b h he
    have hx : ∀ b' : Int32, q' = .inr b' → oRun G M_X7_holding 43 [(0, .ref o), (1, .int x1), (2, .int b'), (3, .int x3)] [] m r m' := by
      rintro b' rfl
      have h : b' = b := h
      rw [h]
      exact he
    clear h he ih
    have h := hq'
    clear hq'
    replace h : F_X7_holding_L13 o m x1 x3 x2 x4 = some q' := h
    unfold F_X7_holding_L13 at h
    refine oRun.iload 15 dX7_holding_13 4 rfl rfl ?_
    refine oRun.aload_n 16 dX7_holding_15 0 rfl rfl (oLt66 (oT_lt ho)) rfl ?_
    refine oRun.iload_n 17 dX7_holding_16 3 rfl rfl rfl ?_
    obtain ⟨r17, hr17, h⟩ := oB1 h
    refine oRun.callV (as := [.int x3]) 20 dX7_holding_17 lk_RX7_30 (oFit_i (Nat.le_of_ble_eq_true rfl) (Nat.le_of_ble_eq_true rfl)) (oT_sh ho) rfl rfl rfl (Nat.le_of_ble_eq_true rfl) (Nat.le_of_ble_eq_true rfl) rfl (E_X7_length ho hr17) rfl ?_
    show oRun G _ 20 _ [.int r17, .int x4] _ _ _
    by_cases c20 : r17 ≤ x4
    · replace h := oIp c20 h
      refine oRun.icmp_ge_t 43 dX7_holding_20 c20 rfl ?_
      cases h
      refine oRun.sub [0, 1, 2, 3] rfl ?_
      exact hx _ rfl
    · replace h := oIn c20 h
      refine oRun.icmp_ge_f 23 dX7_holding_20 rfl c20 rfl ?_
      refine oRun.aload_n 24 dX7_holding_23 0 rfl rfl (oLt66 (oT_lt ho)) rfl ?_
      refine oRun.iload_n 25 dX7_holding_24 3 rfl rfl rfl ?_
      refine oRun.iload 27 dX7_holding_25 4 rfl rfl ?_
      obtain ⟨r27, hr27, h⟩ := oB1 h
      refine oRun.callV (as := [.int x3, .int x4]) 30 dX7_holding_27 lk_RX7_34 (oFit_i (Nat.le_of_ble_eq_true rfl) (Nat.le_of_ble_eq_true rfl)) (oT_sh ho) rfl rfl rfl (Nat.le_of_ble_eq_true rfl) (Nat.le_of_ble_eq_true rfl) rfl (E_X7_pairAt ho hr27) rfl ?_
      show oRun G _ 30 _ [.int r27] _ _ _
      refine oRun.iload_n 31 dX7_holding_30 1 rfl rfl rfl ?_
      by_cases c31 : r27 = x1
      · replace h := oIp c31 h
        refine oRun.icmp_ne_f 34 dX7_holding_31 rfl c31 rfl ?_
        refine oRun.iinc 37 dX7_holding_34 2 rfl (oAddC oc_i1) (Nat.le_of_ble_eq_true rfl) rfl rfl ?_
        refine oRun.iinc 40 dX7_holding_37 4 rfl (oAddC oc_i1) (Nat.le_of_ble_eq_true rfl) rfl rfl ?_
        refine oRun.goto 13 dX7_holding_40 rfl ?_
        cases h
        refine oRun.sub [2, 3, 1, 4, 0] rfl ?_
        exact hc _ rfl
      · replace h := oIn c31 h
        refine oRun.icmp_ne_t 37 dX7_holding_31 c31 rfl ?_
        refine oRun.iinc 40 dX7_holding_37 4 rfl (oAddC oc_i1) (Nat.le_of_ble_eq_true rfl) rfl rfl ?_
        refine oRun.goto 13 dX7_holding_40 rfl ?_
        cases h
        refine oRun.sub [1, 2, 3, 4, 0] rfl ?_
        exact hc _ rfl
set_option maxRecDepth 100000 in
set_option maxHeartbeats 4000000 in
theorem E_X7_holding_L4 {G : oG} {o : Nat} (ho : oTb o = true) {m : oM} {x1 : Int32} {r : Option Value} {m' : oM} : ∀ (n : Nat) (x2 : Int32) (x3 : Int32) (b : Int32), oLoop (fun s : Int32 × Int32 => F_X7_holding_L4 o m x1 s.1 s.2) n (x2, x3) = some b → oRun G M_X7_holding 49 [(2, .int b)] [] m r m' → oRun G M_X7_holding 4 [(0, .ref o), (1, .int x1), (2, .int x2), (3, .int x3)] [] m r m' := by
  intro n
  induction n with
  | zero => intro x2 x3 b h _; exact (oLoop_zero h).elim
  | succ n ih =>
    intro x2 x3 b h he
    obtain ⟨q', hq', h⟩ := oLoop_succ h
    have hc : ∀ s' : Int32 × Int32, q' = .inl s' → oRun G M_X7_holding 4 [(0, .ref o), (1, .int x1), (2, .int s'.1), (3, .int s'.2)] [] m r m' := by
      rintro s' rfl
      exact ih (s'.1) (s'.2) b h he
    have hx : ∀ b' : Int32, q' = .inr b' → oRun G M_X7_holding 49 [(2, .int b')] [] m r m' := by
      rintro b' rfl
      have h : b' = b := h
      rw [h]
      exact he
    clear h he ih
    have h := hq'
    clear hq'
    replace h : F_X7_holding_L4 o m x1 x2 x3 = some q' := h
    unfold F_X7_holding_L4 at h
    refine oRun.iload_n 5 dX7_holding_4 3 rfl rfl rfl ?_
    refine oRun.bipush 7 dX7_holding_5 oc_b6 rfl ?_
    by_cases c7 : 6 ≤ x3
    · replace h := oIp c7 h
      refine oRun.icmp_ge_t 49 dX7_holding_7 c7 rfl ?_
      cases h
      refine oRun.sub [2] rfl ?_
      exact hx _ rfl
    · replace h := oIn c7 h
      refine oRun.icmp_ge_f 10 dX7_holding_7 rfl c7 rfl ?_
      refine oRun.iconst 11 dX7_holding_10 oc_i0 rfl ?_
      refine oRun.istore 13 dX7_holding_11 (Nat.le_of_ble_eq_true rfl) rfl rfl ?_
      obtain ⟨b13, hb13, h⟩ := oB1 h
      refine oRun.sub [1, 2, 3, 4, 0] rfl ?_
      refine E_X7_holding_L13 ho _ _ _ _ hb13 ?_
      refine oRun.iinc 46 dX7_holding_43 3 rfl (oAddC oc_i1) (Nat.le_of_ble_eq_true rfl) rfl rfl ?_
      refine oRun.goto 4 dX7_holding_46 rfl ?_
      cases h
      refine oRun.sub [1, 2, 3, 0] rfl ?_
      exact hc _ rfl
set_option maxRecDepth 100000 in
set_option maxHeartbeats 4000000 in
theorem E_X7_holding {G : oG} {o : Nat} (ho : oTb o = true) {m : oM} {x1 : Int32} {w : Int32} (h : F_X7_holding o m x1 = some w) : oEv G M_X7_holding [.ref o, .int x1] m (some (.int w)) m := by
  unfold F_X7_holding at h
  refine ⟨?_, ?_⟩
  · show oRun G M_X7_holding 0 [(0, .ref o), (1, .int x1)] [] m (some (.int w)) m
    refine oRun.iconst 1 dX7_holding_0 oc_i0 rfl ?_
    refine oRun.istore_n 2 dX7_holding_1 rfl (Nat.le_of_ble_eq_true rfl) rfl rfl ?_
    refine oRun.iconst 3 dX7_holding_2 oc_i0 rfl ?_
    refine oRun.istore_n 4 dX7_holding_3 rfl (Nat.le_of_ble_eq_true rfl) rfl rfl ?_
    obtain ⟨b4, hb4, h⟩ := oB1 h
    refine oRun.sub [2, 3, 1, 0] rfl ?_
    refine E_X7_holding_L4 ho _ _ _ _ hb4 ?_
    refine oRun.iload_n 50 dX7_holding_49 0 rfl rfl rfl ?_
    rw [← Option.some.inj h]
    exact oRun.ret (r := some (.int b4)) dX7_holding_50
  · exact True.intro
set_option maxRecDepth 100000 in
set_option maxHeartbeats 4000000 in
theorem E_X8_pair {G : oG} {m : oM} {x1 : Int32} {x2 : Int32} {w : Int32} (h : F_X8_pair m x1 x2 = some w) : oEv G M_X8_pair [.ref 0, .int x1, .int x2] m (some (.int w)) m := by
  unfold F_X8_pair at h
  refine ⟨?_, ?_⟩
  · show oRun G M_X8_pair 0 [(0, .ref 0), (1, .int x1), (2, .int x2)] [] m (some (.int w)) m
    refine oRun.aload_n 1 dX8_pair_0 0 rfl rfl (Nat.le_of_ble_eq_true rfl) rfl ?_
    refine oRun.getR 4 dX8_pair_1 fd_RX8_12 rfl rfl (Nat.le_of_ble_eq_true rfl) rfl ?_
    refine oRun.getR 7 dX8_pair_4 fd_RX8_135 rfl rfl (Nat.le_of_ble_eq_true rfl) rfl ?_
    refine oRun.iload_n 8 dX8_pair_7 1 rfl rfl rfl ?_
    obtain ⟨r8, hr8, h⟩ := oB1 h
    refine oRun.callV (as := [.int x1]) 11 dX8_pair_8 lk_RX8_148 (oFit_i (Nat.le_of_ble_eq_true rfl) (Nat.le_of_ble_eq_true rfl)) rfl rfl rfl rfl (Nat.le_of_ble_eq_true rfl) (Nat.le_of_ble_eq_true rfl) rfl (E_X2_has rfl hr8) rfl ?_
    show oRun G _ 11 _ [.int r8] _ _ _
    by_cases c11 : r8 = 0
    · replace h := oIp c11 h
      refine oRun.if_ne_f 14 dX8_pair_11 rfl c11 rfl ?_
      refine oRun.iconst 15 dX8_pair_14 oc_im1 rfl ?_
      rw [← Option.some.inj h]
      exact oRun.ret (r := some (.int (-1))) dX8_pair_15
    · replace h := oIn c11 h
      refine oRun.if_ne_t 16 dX8_pair_11 c11 rfl ?_
      refine oRun.iload_n 17 dX8_pair_16 2 rfl rfl rfl ?_
      by_cases c17_0 : x2 = 0
      · replace h := oIp c17_0 h
        refine oRun.tsin 60 dX8_pair_17 (q := 0) (by rw [c17_0]; rfl) (by decide) (by decide) rfl rfl ?_
        refine oRun.aload_n 61 dX8_pair_60 0 rfl rfl (Nat.le_of_ble_eq_true rfl) rfl ?_
        refine oRun.getR 64 dX8_pair_61 fd_RX8_12 rfl rfl (Nat.le_of_ble_eq_true rfl) rfl ?_
        refine oRun.getR 67 dX8_pair_64 fd_RX8_135 rfl rfl (Nat.le_of_ble_eq_true rfl) rfl ?_
        refine oRun.getR 70 dX8_pair_67 fd_RX8_151 rfl rfl (Nat.le_of_ble_eq_true rfl) rfl ?_
        refine oRun.iload_n 71 dX8_pair_70 1 rfl rfl rfl ?_
        obtain ⟨r71, hr71, h⟩ := oB1 h
        refine oRun.callS (as := [.ref 5, .int x1]) 74 dX8_pair_71 lk_RX8_76 (oFit_i (Nat.le_of_ble_eq_true rfl) (Nat.le_of_ble_eq_true rfl)) rfl (Nat.le_of_ble_eq_true rfl) (Nat.le_of_ble_eq_true rfl) rfl (E_X8_at (Or.inr ⟨_, rfl⟩) hr71) rfl ?_
        show oRun G _ 74 _ [.int r71] _ _ _
        rw [← Option.some.inj h]
        exact oRun.ret (r := some (.int r71)) dX8_pair_74
      · replace h := oIn c17_0 h
        by_cases c17_1 : x2 = 1
        · replace h := oIp c17_1 h
          refine oRun.tsin 75 dX8_pair_17 (q := 1) (by rw [c17_1]; rfl) (by decide) (by decide) rfl rfl ?_
          refine oRun.aload_n 76 dX8_pair_75 0 rfl rfl (Nat.le_of_ble_eq_true rfl) rfl ?_
          refine oRun.getR 79 dX8_pair_76 fd_RX8_12 rfl rfl (Nat.le_of_ble_eq_true rfl) rfl ?_
          refine oRun.getR 82 dX8_pair_79 fd_RX8_135 rfl rfl (Nat.le_of_ble_eq_true rfl) rfl ?_
          refine oRun.getR 85 dX8_pair_82 fd_RX8_154 rfl rfl (Nat.le_of_ble_eq_true rfl) rfl ?_
          refine oRun.iload_n 86 dX8_pair_85 1 rfl rfl rfl ?_
          obtain ⟨r86, hr86, h⟩ := oB1 h
          refine oRun.callS (as := [.ref 6, .int x1]) 89 dX8_pair_86 lk_RX8_76 (oFit_i (Nat.le_of_ble_eq_true rfl) (Nat.le_of_ble_eq_true rfl)) rfl (Nat.le_of_ble_eq_true rfl) (Nat.le_of_ble_eq_true rfl) rfl (E_X8_at (Or.inr ⟨_, rfl⟩) hr86) rfl ?_
          show oRun G _ 89 _ [.int r86] _ _ _
          rw [← Option.some.inj h]
          exact oRun.ret (r := some (.int r86)) dX8_pair_89
        · replace h := oIn c17_1 h
          by_cases c17_2 : x2 = 2
          · replace h := oIp c17_2 h
            refine oRun.tsin 90 dX8_pair_17 (q := 2) (by rw [c17_2]; rfl) (by decide) (by decide) rfl rfl ?_
            refine oRun.aload_n 91 dX8_pair_90 0 rfl rfl (Nat.le_of_ble_eq_true rfl) rfl ?_
            refine oRun.getR 94 dX8_pair_91 fd_RX8_12 rfl rfl (Nat.le_of_ble_eq_true rfl) rfl ?_
            refine oRun.getR 97 dX8_pair_94 fd_RX8_135 rfl rfl (Nat.le_of_ble_eq_true rfl) rfl ?_
            refine oRun.getR 100 dX8_pair_97 fd_RX8_157 rfl rfl (Nat.le_of_ble_eq_true rfl) rfl ?_
            refine oRun.iload_n 101 dX8_pair_100 1 rfl rfl rfl ?_
            obtain ⟨r101, hr101, h⟩ := oB1 h
            refine oRun.callS (as := [.ref 7, .int x1]) 104 dX8_pair_101 lk_RX8_76 (oFit_i (Nat.le_of_ble_eq_true rfl) (Nat.le_of_ble_eq_true rfl)) rfl (Nat.le_of_ble_eq_true rfl) (Nat.le_of_ble_eq_true rfl) rfl (E_X8_at (Or.inr ⟨_, rfl⟩) hr101) rfl ?_
            show oRun G _ 104 _ [.int r101] _ _ _
            rw [← Option.some.inj h]
            exact oRun.ret (r := some (.int r101)) dX8_pair_104
          · replace h := oIn c17_2 h
            by_cases c17_3 : x2 = 3
            · replace h := oIp c17_3 h
              refine oRun.tsin 105 dX8_pair_17 (q := 3) (by rw [c17_3]; rfl) (by decide) (by decide) rfl rfl ?_
              refine oRun.aload_n 106 dX8_pair_105 0 rfl rfl (Nat.le_of_ble_eq_true rfl) rfl ?_
              refine oRun.getR 109 dX8_pair_106 fd_RX8_12 rfl rfl (Nat.le_of_ble_eq_true rfl) rfl ?_
              refine oRun.getR 112 dX8_pair_109 fd_RX8_135 rfl rfl (Nat.le_of_ble_eq_true rfl) rfl ?_
              refine oRun.getR 115 dX8_pair_112 fd_RX8_160 rfl rfl (Nat.le_of_ble_eq_true rfl) rfl ?_
              refine oRun.iload_n 116 dX8_pair_115 1 rfl rfl rfl ?_
              obtain ⟨r116, hr116, h⟩ := oB1 h
              refine oRun.callS (as := [.ref 8, .int x1]) 119 dX8_pair_116 lk_RX8_76 (oFit_i (Nat.le_of_ble_eq_true rfl) (Nat.le_of_ble_eq_true rfl)) rfl (Nat.le_of_ble_eq_true rfl) (Nat.le_of_ble_eq_true rfl) rfl (E_X8_at (Or.inr ⟨_, rfl⟩) hr116) rfl ?_
              show oRun G _ 119 _ [.int r116] _ _ _
              rw [← Option.some.inj h]
              exact oRun.ret (r := some (.int r116)) dX8_pair_119
            · replace h := oIn c17_3 h
              by_cases c17_4 : x2 = 4
              · replace h := oIp c17_4 h
                refine oRun.tsin 120 dX8_pair_17 (q := 4) (by rw [c17_4]; rfl) (by decide) (by decide) rfl rfl ?_
                refine oRun.aload_n 121 dX8_pair_120 0 rfl rfl (Nat.le_of_ble_eq_true rfl) rfl ?_
                refine oRun.getR 124 dX8_pair_121 fd_RX8_12 rfl rfl (Nat.le_of_ble_eq_true rfl) rfl ?_
                refine oRun.getR 127 dX8_pair_124 fd_RX8_135 rfl rfl (Nat.le_of_ble_eq_true rfl) rfl ?_
                refine oRun.iload_n 128 dX8_pair_127 1 rfl rfl rfl ?_
                obtain ⟨r128, hr128, h⟩ := oB1 h
                refine oRun.callV (as := [.int x1]) 131 dX8_pair_128 lk_RX8_163 (oFit_i (Nat.le_of_ble_eq_true rfl) (Nat.le_of_ble_eq_true rfl)) rfl rfl rfl rfl (Nat.le_of_ble_eq_true rfl) (Nat.le_of_ble_eq_true rfl) rfl (E_X2_play rfl hr128) rfl ?_
                show oRun G _ 131 _ [.int r128] _ _ _
                rw [← Option.some.inj h]
                exact oRun.ret (r := some (.int r128)) dX8_pair_131
              · replace h := oIn c17_4 h
                by_cases c17_5 : x2 = 5
                · replace h := oIp c17_5 h
                  refine oRun.tsin 132 dX8_pair_17 (q := 5) (by rw [c17_5]; rfl) (by decide) (by decide) rfl rfl ?_
                  refine oRun.aload_n 133 dX8_pair_132 0 rfl rfl (Nat.le_of_ble_eq_true rfl) rfl ?_
                  refine oRun.getR 136 dX8_pair_133 fd_RX8_12 rfl rfl (Nat.le_of_ble_eq_true rfl) rfl ?_
                  refine oRun.getR 139 dX8_pair_136 fd_RX8_135 rfl rfl (Nat.le_of_ble_eq_true rfl) rfl ?_
                  refine oRun.iload_n 140 dX8_pair_139 1 rfl rfl rfl ?_
                  obtain ⟨r140, hr140, h⟩ := oB1 h
                  refine oRun.callV (as := [.int x1]) 143 dX8_pair_140 lk_RX8_167 (oFit_i (Nat.le_of_ble_eq_true rfl) (Nat.le_of_ble_eq_true rfl)) rfl rfl rfl rfl (Nat.le_of_ble_eq_true rfl) (Nat.le_of_ble_eq_true rfl) rfl (E_X2_goesRound rfl hr140) rfl ?_
                  show oRun G _ 143 _ [.int r140] _ _ _
                  by_cases c143 : r140 = 0
                  · replace h := oIp c143 h
                    refine oRun.if_eq_t 150 dX8_pair_143 c143 rfl ?_
                    refine oRun.iconst 151 dX8_pair_150 oc_i0 rfl ?_
                    rw [← Option.some.inj h]
                    exact oRun.ret (r := some (.int 0)) dX8_pair_151
                  · replace h := oIn c143 h
                    refine oRun.if_eq_f 146 dX8_pair_143 rfl c143 rfl ?_
                    refine oRun.iconst 147 dX8_pair_146 oc_i1 rfl ?_
                    refine oRun.goto 151 dX8_pair_147 rfl ?_
                    rw [← Option.some.inj h]
                    exact oRun.ret (r := some (.int 1)) dX8_pair_151
                · replace h := oIn c17_5 h
                  by_cases c17_6 : x2 = 6
                  · replace h := oIp c17_6 h
                    refine oRun.tsin 152 dX8_pair_17 (q := 6) (by rw [c17_6]; rfl) (by decide) (by decide) rfl rfl ?_
                    refine oRun.aload_n 153 dX8_pair_152 0 rfl rfl (Nat.le_of_ble_eq_true rfl) rfl ?_
                    refine oRun.getR 156 dX8_pair_153 fd_RX8_12 rfl rfl (Nat.le_of_ble_eq_true rfl) rfl ?_
                    refine oRun.getR 159 dX8_pair_156 fd_RX8_170 rfl rfl (Nat.le_of_ble_eq_true rfl) rfl ?_
                    refine oRun.iload_n 160 dX8_pair_159 1 rfl rfl rfl ?_
                    obtain ⟨r160, hr160, h⟩ := oB1 h
                    refine oRun.callV (as := [.int x1]) 163 dX8_pair_160 lk_RX8_174 (oFit_i (Nat.le_of_ble_eq_true rfl) (Nat.le_of_ble_eq_true rfl)) rfl rfl rfl rfl (Nat.le_of_ble_eq_true rfl) (Nat.le_of_ble_eq_true rfl) rfl (E_X7_holding rfl hr160) rfl ?_
                    show oRun G _ 163 _ [.int r160] _ _ _
                    rw [← Option.some.inj h]
                    exact oRun.ret (r := some (.int r160)) dX8_pair_163
                  · replace h := oIn c17_6 h
                    have dk : oRun G M_X8_pair 164 [(0, .ref 0), (1, .int x1), (2, .int x2)] [] m (some (.int w)) m := by
                      refine oRun.iconst 165 dX8_pair_164 oc_im1 rfl ?_
                      rw [← Option.some.inj h]
                      exact oRun.ret (r := some (.int (-1))) dX8_pair_165
                    by_cases hl17 : x2.toInt < 0 ∨ 6 < x2.toInt
                    · exact oRun.tsout 164 dX8_pair_17 hl17 rfl dk
                    · have hq : x2.toInt = 0 ∨ x2.toInt = 1 ∨ x2.toInt = 2 ∨ x2.toInt = 3 ∨ x2.toInt = 4 ∨ x2.toInt = 5 ∨ x2.toInt = 6 := by omega
                      rcases hq with hq | hq | hq | hq | hq | hq | hq
                      · exact absurd (oTs (k := 0) rfl hq) c17_0
                      · exact absurd (oTs (k := 1) rfl hq) c17_1
                      · exact absurd (oTs (k := 2) rfl hq) c17_2
                      · exact absurd (oTs (k := 3) rfl hq) c17_3
                      · exact absurd (oTs (k := 4) rfl hq) c17_4
                      · exact absurd (oTs (k := 5) rfl hq) c17_5
                      · exact absurd (oTs (k := 6) rfl hq) c17_6
  · exact True.intro
set_option maxRecDepth 100000 in
set_option maxHeartbeats 4000000 in
theorem E_X9_play {G : oG} {m : oM} {x1 : Int32} {w : Int32} (h : F_X9_play m x1 = some w) : oEv G M_X9_play [.ref 51, .int x1] m (some (.int w)) m := by
  unfold F_X9_play at h
  refine ⟨?_, ?_⟩
  · show oRun G M_X9_play 0 [(0, .ref 51), (1, .int x1)] [] m (some (.int w)) m
    refine oRun.aload_n 1 dX9_play_0 0 rfl rfl (Nat.le_of_ble_eq_true rfl) rfl ?_
    refine oRun.getR 4 dX9_play_1 fd_RX9_11 rfl rfl (Nat.le_of_ble_eq_true rfl) rfl ?_
    refine oRun.bipush 6 dX9_play_4 oc_b53 rfl ?_
    refine oRun.iload_n 7 dX9_play_6 1 rfl rfl rfl ?_
    refine oRun.iadd 8 dX9_play_7 rfl ?_
    obtain ⟨v8, hv8, h⟩ := oB1 h
    refine oRun.iaload 9 dX9_play_8 (Or.inr ⟨_, rfl⟩) hv8 rfl ?_
    refine oRun.istore_n 10 dX9_play_9 rfl (Nat.le_of_ble_eq_true rfl) rfl rfl ?_
    refine oRun.aload_n 11 dX9_play_10 1 rfl rfl (Nat.le_of_ble_eq_true rfl) rfl ?_
    refine oRun.getR 14 dX9_play_11 fd_RX9_11 rfl rfl (Nat.le_of_ble_eq_true rfl) rfl ?_
    refine oRun.bipush 16 dX9_play_14 oc_b43 rfl ?_
    refine oRun.iload_n 17 dX9_play_16 2 rfl rfl rfl ?_
    refine oRun.iadd 18 dX9_play_17 rfl ?_
    obtain ⟨v18, hv18, h⟩ := oB1 h
    refine oRun.iaload 19 dX9_play_18 (Or.inr ⟨_, rfl⟩) hv18 rfl ?_
    by_cases c19_1 : v18 = 1
    · replace h := oIp c19_1 h
      refine oRun.tsin 48 dX9_play_19 (q := 1) (by rw [c19_1]; rfl) (by decide) (by decide) rfl rfl ?_
      refine oRun.iload_n 49 dX9_play_48 0 rfl rfl rfl ?_
      refine oRun.iconst 50 dX9_play_49 oc_i3 rfl ?_
      refine oRun.iadd 51 dX9_play_50 rfl ?_
      rw [← Option.some.inj h]
      exact oRun.ret (r := some (.int (v8 + 3))) dX9_play_51
    · replace h := oIn c19_1 h
      by_cases c19_2 : v18 = 2
      · replace h := oIp c19_2 h
        refine oRun.tsin 52 dX9_play_19 (q := 2) (by rw [c19_2]; rfl) (by decide) (by decide) rfl rfl ?_
        refine oRun.iload_n 53 dX9_play_52 0 rfl rfl rfl ?_
        refine oRun.iconst 54 dX9_play_53 oc_i2 rfl ?_
        refine oRun.idiv 55 dX9_play_54 (by decide) rfl ?_
        rw [← Option.some.inj h]
        exact oRun.ret (r := some (.int (v8 / 2))) dX9_play_55
      · replace h := oIn c19_2 h
        by_cases c19_3 : v18 = 3
        · replace h := oIp c19_3 h
          refine oRun.tsin 56 dX9_play_19 (q := 3) (by rw [c19_3]; rfl) (by decide) (by decide) rfl rfl ?_
          refine oRun.iconst 57 dX9_play_56 oc_i2 rfl ?_
          refine oRun.iload_n 58 dX9_play_57 0 rfl rfl rfl ?_
          refine oRun.iconst 59 dX9_play_58 oc_i3 rfl ?_
          refine oRun.iadd 60 dX9_play_59 rfl ?_
          refine oRun.imul 61 dX9_play_60 rfl ?_
          rw [← Option.some.inj h]
          exact oRun.ret (r := some (.int (2 * (v8 + 3)))) dX9_play_61
        · replace h := oIn c19_3 h
          by_cases c19_4 : v18 = 4
          · replace h := oIp c19_4 h
            refine oRun.tsin 62 dX9_play_19 (q := 4) (by rw [c19_4]; rfl) (by decide) (by decide) rfl rfl ?_
            refine oRun.iload_n 63 dX9_play_62 0 rfl rfl rfl ?_
            refine oRun.iconst 64 dX9_play_63 oc_i2 rfl ?_
            refine oRun.irem 65 dX9_play_64 (by decide) rfl ?_
            by_cases c65 : (oRI v8 2) = 0
            · replace h := oIp c65 h
              refine oRun.if_ne_f 68 dX9_play_65 rfl c65 rfl ?_
              refine oRun.iconst 69 dX9_play_68 oc_i0 rfl ?_
              refine oRun.goto 75 dX9_play_69 rfl ?_
              rw [← Option.some.inj h]
              exact oRun.ret (r := some (.int 0)) dX9_play_75
            · replace h := oIn c65 h
              refine oRun.if_ne_t 72 dX9_play_65 c65 rfl ?_
              refine oRun.iload_n 73 dX9_play_72 0 rfl rfl rfl ?_
              refine oRun.iconst 74 dX9_play_73 oc_i2 rfl ?_
              refine oRun.idiv 75 dX9_play_74 (by decide) rfl ?_
              rw [← Option.some.inj h]
              exact oRun.ret (r := some (.int (v8 / 2))) dX9_play_75
          · replace h := oIn c19_4 h
            have dk : oRun G M_X9_play 76 [(2, .int v8), (0, .ref 51), (1, .int x1)] [] m (some (.int w)) m := by
              refine oRun.iload_n 77 dX9_play_76 0 rfl rfl rfl ?_
              rw [← Option.some.inj h]
              exact oRun.ret (r := some (.int v8)) dX9_play_77
            by_cases hl19 : v18.toInt < 1 ∨ 4 < v18.toInt
            · exact oRun.tsout 76 dX9_play_19 hl19 rfl dk
            · have hq : v18.toInt = 1 ∨ v18.toInt = 2 ∨ v18.toInt = 3 ∨ v18.toInt = 4 := by omega
              rcases hq with hq | hq | hq | hq
              · exact absurd (oTs (k := 1) rfl hq) c19_1
              · exact absurd (oTs (k := 2) rfl hq) c19_2
              · exact absurd (oTs (k := 3) rfl hq) c19_3
              · exact absurd (oTs (k := 4) rfl hq) c19_4
  · exact True.intro
set_option maxRecDepth 100000 in
set_option maxHeartbeats 4000000 in
theorem E_X9_pairAt {G : oG} {m : oM} {x1 : Int32} {x2 : Int32} {w : Int32} (h : F_X9_pairAt m x1 x2 = some w) : oEv G M_X9_pairAt [.ref 51, .int x1, .int x2] m (some (.int w)) m := by
  unfold F_X9_pairAt at h
  refine ⟨?_, ?_⟩
  · show oRun G M_X9_pairAt 0 [(0, .ref 51), (1, .int x1), (2, .int x2)] [] m (some (.int w)) m
    refine oRun.aload_n 1 dX9_pairAt_0 0 rfl rfl (Nat.le_of_ble_eq_true rfl) rfl ?_
    refine oRun.getR 4 dX9_pairAt_1 fd_RX9_11 rfl rfl (Nat.le_of_ble_eq_true rfl) rfl ?_
    refine oRun.bipush 6 dX9_pairAt_4 oc_b25 rfl ?_
    refine oRun.iconst 7 dX9_pairAt_6 oc_i3 rfl ?_
    refine oRun.iload_n 8 dX9_pairAt_7 1 rfl rfl rfl ?_
    refine oRun.imul 9 dX9_pairAt_8 rfl ?_
    refine oRun.iadd 10 dX9_pairAt_9 rfl ?_
    refine oRun.iload_n 11 dX9_pairAt_10 2 rfl rfl rfl ?_
    refine oRun.iadd 12 dX9_pairAt_11 rfl ?_
    obtain ⟨v12, hv12, h⟩ := oB1 h
    refine oRun.iaload 13 dX9_pairAt_12 (Or.inr ⟨_, rfl⟩) hv12 rfl ?_
    rw [← Option.some.inj h]
    exact oRun.ret (r := some (.int v12)) dX9_pairAt_13
  · exact True.intro
set_option maxRecDepth 100000 in
set_option maxHeartbeats 4000000 in
theorem E_X9_trainsOf_L17 {G : oG} {m : oM} {x1 : Int32} {x3 : Int32} {r : Option Value} {m' : oM} : ∀ (n : Nat) (x2 : Int32) (x4 : Int32) (b : Int32), oLoop (fun s : Int32 × Int32 => F_X9_trainsOf_L17 m x1 x3 s.1 s.2) n (x2, x4) = some b → oRun G M_X9_trainsOf 56 [(0, .ref 51), (1, .int x1), (2, .int b), (3, .int x3)] [] m r m' → oRun G M_X9_trainsOf 17 [(0, .ref 51), (1, .int x1), (2, .int x2), (3, .int x3), (4, .int x4)] [] m r m' := by
  intro n
  induction n with
  | zero => intro x2 x4 b h _; exact (oLoop_zero h).elim
  | succ n ih =>
    intro x2 x4 b h he
    obtain ⟨q', hq', h⟩ := oLoop_succ h
    have hc : ∀ s' : Int32 × Int32, q' = .inl s' → oRun G M_X9_trainsOf 17 [(0, .ref 51), (1, .int x1), (2, .int s'.1), (3, .int x3), (4, .int s'.2)] [] m r m' := by
      rintro s' rfl
      exact ih (s'.1) (s'.2) b h he
    have hx : ∀ b' : Int32, q' = .inr b' → oRun G M_X9_trainsOf 56 [(0, .ref 51), (1, .int x1), (2, .int b'), (3, .int x3)] [] m r m' := by
      rintro b' rfl
      have h : b' = b := h
      rw [h]
      exact he
    clear h he ih
    have h := hq'
    clear hq'
    replace h : F_X9_trainsOf_L17 m x1 x3 x2 x4 = some q' := h
    unfold F_X9_trainsOf_L17 at h
    refine oRun.iload 19 dX9_trainsOf_17 4 rfl rfl ?_
    refine oRun.aload_n 20 dX9_trainsOf_19 0 rfl rfl (Nat.le_of_ble_eq_true rfl) rfl ?_
    refine oRun.getR 23 dX9_trainsOf_20 fd_RX9_11 rfl rfl (Nat.le_of_ble_eq_true rfl) rfl ?_
    refine oRun.bipush 25 dX9_trainsOf_23 oc_b19 rfl ?_
    refine oRun.iload_n 26 dX9_trainsOf_25 3 rfl rfl rfl ?_
    refine oRun.iadd 27 dX9_trainsOf_26 rfl ?_
    obtain ⟨v27, hv27, h⟩ := oB1 h
    refine oRun.iaload 28 dX9_trainsOf_27 (Or.inr ⟨_, rfl⟩) hv27 rfl ?_
    by_cases c28 : v27 ≤ x4
    · replace h := oIp c28 h
      refine oRun.icmp_ge_t 56 dX9_trainsOf_28 c28 rfl ?_
      cases h
      refine oRun.sub [0, 1, 2, 3] rfl ?_
      exact hx _ rfl
    · replace h := oIn c28 h
      refine oRun.icmp_ge_f 31 dX9_trainsOf_28 rfl c28 rfl ?_
      refine oRun.iload_n 32 dX9_trainsOf_31 2 rfl rfl rfl ?_
      refine oRun.aload_n 33 dX9_trainsOf_32 0 rfl rfl (Nat.le_of_ble_eq_true rfl) rfl ?_
      refine oRun.iload_n 34 dX9_trainsOf_33 3 rfl rfl rfl ?_
      refine oRun.iload 36 dX9_trainsOf_34 4 rfl rfl ?_
      obtain ⟨r36, hr36, h⟩ := oB1 h
      refine oRun.callV (as := [.int x3, .int x4]) 39 dX9_trainsOf_36 lk_RX9_86 (oFit_i (Nat.le_of_ble_eq_true rfl) (Nat.le_of_ble_eq_true rfl)) rfl rfl rfl rfl (Nat.le_of_ble_eq_true rfl) (Nat.le_of_ble_eq_true rfl) rfl (E_X9_pairAt hr36) rfl ?_
      show oRun G _ 39 _ [.int r36, .int x2] _ _ _
      refine oRun.iload_n 40 dX9_trainsOf_39 1 rfl rfl rfl ?_
      by_cases c40 : r36 = x1
      · replace h := oIp c40 h
        refine oRun.icmp_ne_f 43 dX9_trainsOf_40 rfl c40 rfl ?_
        refine oRun.iconst 44 dX9_trainsOf_43 oc_i1 rfl ?_
        refine oRun.goto 48 dX9_trainsOf_44 rfl ?_
        refine oRun.iadd 49 dX9_trainsOf_48 rfl ?_
        obtain ⟨x2_49, hx2_49, h⟩ := oB1 h
        refine oRun.nameI hx2_49 ?_
        refine oRun.istore_n 50 dX9_trainsOf_49 rfl (Nat.le_of_ble_eq_true rfl) rfl rfl ?_
        refine oRun.iinc 53 dX9_trainsOf_50 4 rfl (oAddC oc_i1) (Nat.le_of_ble_eq_true rfl) rfl rfl ?_
        refine oRun.goto 17 dX9_trainsOf_53 rfl ?_
        cases h
        refine oRun.sub [2, 3, 1, 4, 0] rfl ?_
        exact hc _ rfl
      · replace h := oIn c40 h
        refine oRun.icmp_ne_t 47 dX9_trainsOf_40 c40 rfl ?_
        refine oRun.iconst 48 dX9_trainsOf_47 oc_i0 rfl ?_
        refine oRun.iadd 49 dX9_trainsOf_48 rfl ?_
        obtain ⟨x2_49, hx2_49, h⟩ := oB1 h
        refine oRun.nameI hx2_49 ?_
        refine oRun.istore_n 50 dX9_trainsOf_49 rfl (Nat.le_of_ble_eq_true rfl) rfl rfl ?_
        refine oRun.iinc 53 dX9_trainsOf_50 4 rfl (oAddC oc_i1) (Nat.le_of_ble_eq_true rfl) rfl rfl ?_
        refine oRun.goto 17 dX9_trainsOf_53 rfl ?_
        cases h
        refine oRun.sub [2, 3, 1, 4, 0] rfl ?_
        exact hc _ rfl
set_option maxRecDepth 100000 in
set_option maxHeartbeats 4000000 in
theorem E_X9_trainsOf_L4 {G : oG} {m : oM} {x1 : Int32} {r : Option Value} {m' : oM} : ∀ (n : Nat) (x2 : Int32) (x3 : Int32) (b : Int32), oLoop (fun s : Int32 × Int32 => F_X9_trainsOf_L4 m x1 s.1 s.2) n (x2, x3) = some b → oRun G M_X9_trainsOf 62 [(2, .int b)] [] m r m' → oRun G M_X9_trainsOf 4 [(0, .ref 51), (1, .int x1), (2, .int x2), (3, .int x3)] [] m r m' := by
  intro n
  induction n with
  | zero => intro x2 x3 b h _; exact (oLoop_zero h).elim
  | succ n ih =>
    intro x2 x3 b h he
    obtain ⟨q', hq', h⟩ := oLoop_succ h
    have hc : ∀ s' : Int32 × Int32, q' = .inl s' → oRun G M_X9_trainsOf 4 [(0, .ref 51), (1, .int x1), (2, .int s'.1), (3, .int s'.2)] [] m r m' := by
      rintro s' rfl
      exact ih (s'.1) (s'.2) b h he
    have hx : ∀ b' : Int32, q' = .inr b' → oRun G M_X9_trainsOf 62 [(2, .int b')] [] m r m' := by
      rintro b' rfl
      have h : b' = b := h
      rw [h]
      exact he
    clear h he ih
    have h := hq'
    clear hq'
    replace h : F_X9_trainsOf_L4 m x1 x2 x3 = some q' := h
    unfold F_X9_trainsOf_L4 at h
    refine oRun.iload_n 5 dX9_trainsOf_4 3 rfl rfl rfl ?_
    refine oRun.aload_n 6 dX9_trainsOf_5 0 rfl rfl (Nat.le_of_ble_eq_true rfl) rfl ?_
    refine oRun.getR 9 dX9_trainsOf_6 fd_RX9_11 rfl rfl (Nat.le_of_ble_eq_true rfl) rfl ?_
    refine oRun.iconst 10 dX9_trainsOf_9 oc_i0 rfl ?_
    refine oRun.iaload (x := m.1 52 0) 11 dX9_trainsOf_10 (Or.inr ⟨_, rfl⟩) (oAL_lit (i := 0) rfl) rfl ?_
    by_cases c11 : (m.1 52 0) ≤ x3
    · replace h := oIp c11 h
      refine oRun.icmp_ge_t 62 dX9_trainsOf_11 c11 rfl ?_
      cases h
      refine oRun.sub [2] rfl ?_
      exact hx _ rfl
    · replace h := oIn c11 h
      refine oRun.icmp_ge_f 14 dX9_trainsOf_11 rfl c11 rfl ?_
      refine oRun.iconst 15 dX9_trainsOf_14 oc_i0 rfl ?_
      refine oRun.istore 17 dX9_trainsOf_15 (Nat.le_of_ble_eq_true rfl) rfl rfl ?_
      obtain ⟨b17, hb17, h⟩ := oB1 h
      refine oRun.sub [1, 2, 3, 4, 0] rfl ?_
      refine E_X9_trainsOf_L17 _ _ _ _ hb17 ?_
      refine oRun.iinc 59 dX9_trainsOf_56 3 rfl (oAddC oc_i1) (Nat.le_of_ble_eq_true rfl) rfl rfl ?_
      refine oRun.goto 4 dX9_trainsOf_59 rfl ?_
      cases h
      refine oRun.sub [1, 2, 3, 0] rfl ?_
      exact hc _ rfl
set_option maxRecDepth 100000 in
set_option maxHeartbeats 4000000 in
theorem E_X9_trainsOf {G : oG} {m : oM} {x1 : Int32} {w : Int32} (h : F_X9_trainsOf m x1 = some w) : oEv G M_X9_trainsOf [.ref 51, .int x1] m (some (.int w)) m := by
  unfold F_X9_trainsOf at h
  refine ⟨?_, ?_⟩
  · show oRun G M_X9_trainsOf 0 [(0, .ref 51), (1, .int x1)] [] m (some (.int w)) m
    refine oRun.iconst 1 dX9_trainsOf_0 oc_i0 rfl ?_
    refine oRun.istore_n 2 dX9_trainsOf_1 rfl (Nat.le_of_ble_eq_true rfl) rfl rfl ?_
    refine oRun.iconst 3 dX9_trainsOf_2 oc_i0 rfl ?_
    refine oRun.istore_n 4 dX9_trainsOf_3 rfl (Nat.le_of_ble_eq_true rfl) rfl rfl ?_
    obtain ⟨b4, hb4, h⟩ := oB1 h
    refine oRun.sub [2, 3, 1, 0] rfl ?_
    refine E_X9_trainsOf_L4 _ _ _ _ hb4 ?_
    refine oRun.iload_n 63 dX9_trainsOf_62 0 rfl rfl rfl ?_
    rw [← Option.some.inj h]
    exact oRun.ret (r := some (.int b4)) dX9_trainsOf_63
  · exact True.intro
set_option maxRecDepth 100000 in
set_option maxHeartbeats 4000000 in
theorem E_X9_pair {G : oG} {m : oM} {x1 : Int32} {x2 : Int32} {w : Int32} (h : F_X9_pair m x1 x2 = some w) : oEv G M_X9_pair [.ref 51, .int x1, .int x2] m (some (.int w)) m := by
  unfold F_X9_pair at h
  refine ⟨?_, ?_⟩
  · show oRun G M_X9_pair 0 [(0, .ref 51), (1, .int x1), (2, .int x2)] [] m (some (.int w)) m
    refine oRun.aload_n 1 dX9_pair_0 0 rfl rfl (Nat.le_of_ble_eq_true rfl) rfl ?_
    refine oRun.iload_n 2 dX9_pair_1 1 rfl rfl rfl ?_
    obtain ⟨r2, hr2, h⟩ := oB1 h
    refine oRun.callV (as := [.int x1]) 5 dX9_pair_2 lk_RX9_132 (oFit_i (Nat.le_of_ble_eq_true rfl) (Nat.le_of_ble_eq_true rfl)) rfl rfl rfl rfl (Nat.le_of_ble_eq_true rfl) (Nat.le_of_ble_eq_true rfl) rfl (E_X9_isPair hr2) rfl ?_
    show oRun G _ 5 _ [.int r2] _ _ _
    by_cases c5 : r2 = 0
    · replace h := oIp c5 h
      refine oRun.if_ne_f 8 dX9_pair_5 rfl c5 rfl ?_
      refine oRun.iconst 9 dX9_pair_8 oc_im1 rfl ?_
      rw [← Option.some.inj h]
      exact oRun.ret (r := some (.int (-1))) dX9_pair_9
    · replace h := oIn c5 h
      refine oRun.if_ne_t 10 dX9_pair_5 c5 rfl ?_
      refine oRun.iload_n 11 dX9_pair_10 2 rfl rfl rfl ?_
      by_cases c11_0 : x2 = 0
      · replace h := oIp c11_0 h
        refine oRun.tsin 52 dX9_pair_11 (q := 0) (by rw [c11_0]; rfl) (by decide) (by decide) rfl rfl ?_
        refine oRun.aload_n 53 dX9_pair_52 0 rfl rfl (Nat.le_of_ble_eq_true rfl) rfl ?_
        refine oRun.getR 56 dX9_pair_53 fd_RX9_11 rfl rfl (Nat.le_of_ble_eq_true rfl) rfl ?_
        refine oRun.bipush 58 dX9_pair_56 oc_b43 rfl ?_
        refine oRun.iload_n 59 dX9_pair_58 1 rfl rfl rfl ?_
        refine oRun.iadd 60 dX9_pair_59 rfl ?_
        obtain ⟨v60, hv60, h⟩ := oB1 h
        refine oRun.iaload 61 dX9_pair_60 (Or.inr ⟨_, rfl⟩) hv60 rfl ?_
        rw [← Option.some.inj h]
        exact oRun.ret (r := some (.int v60)) dX9_pair_61
      · replace h := oIn c11_0 h
        by_cases c11_1 : x2 = 1
        · replace h := oIp c11_1 h
          refine oRun.tsin 62 dX9_pair_11 (q := 1) (by rw [c11_1]; rfl) (by decide) (by decide) rfl rfl ?_
          refine oRun.aload_n 63 dX9_pair_62 0 rfl rfl (Nat.le_of_ble_eq_true rfl) rfl ?_
          refine oRun.getR 66 dX9_pair_63 fd_RX9_11 rfl rfl (Nat.le_of_ble_eq_true rfl) rfl ?_
          refine oRun.bipush 68 dX9_pair_66 oc_b53 rfl ?_
          refine oRun.iload_n 69 dX9_pair_68 1 rfl rfl rfl ?_
          refine oRun.iadd 70 dX9_pair_69 rfl ?_
          obtain ⟨v70, hv70, h⟩ := oB1 h
          refine oRun.iaload 71 dX9_pair_70 (Or.inr ⟨_, rfl⟩) hv70 rfl ?_
          rw [← Option.some.inj h]
          exact oRun.ret (r := some (.int v70)) dX9_pair_71
        · replace h := oIn c11_1 h
          by_cases c11_2 : x2 = 2
          · replace h := oIp c11_2 h
            refine oRun.tsin 72 dX9_pair_11 (q := 2) (by rw [c11_2]; rfl) (by decide) (by decide) rfl rfl ?_
            refine oRun.aload_n 73 dX9_pair_72 0 rfl rfl (Nat.le_of_ble_eq_true rfl) rfl ?_
            refine oRun.getR 76 dX9_pair_73 fd_RX9_11 rfl rfl (Nat.le_of_ble_eq_true rfl) rfl ?_
            refine oRun.bipush 78 dX9_pair_76 oc_b63 rfl ?_
            refine oRun.iload_n 79 dX9_pair_78 1 rfl rfl rfl ?_
            refine oRun.iadd 80 dX9_pair_79 rfl ?_
            obtain ⟨v80, hv80, h⟩ := oB1 h
            refine oRun.iaload 81 dX9_pair_80 (Or.inr ⟨_, rfl⟩) hv80 rfl ?_
            rw [← Option.some.inj h]
            exact oRun.ret (r := some (.int v80)) dX9_pair_81
          · replace h := oIn c11_2 h
            by_cases c11_3 : x2 = 3
            · replace h := oIp c11_3 h
              refine oRun.tsin 82 dX9_pair_11 (q := 3) (by rw [c11_3]; rfl) (by decide) (by decide) rfl rfl ?_
              refine oRun.aload_n 83 dX9_pair_82 0 rfl rfl (Nat.le_of_ble_eq_true rfl) rfl ?_
              refine oRun.getR 86 dX9_pair_83 fd_RX9_11 rfl rfl (Nat.le_of_ble_eq_true rfl) rfl ?_
              refine oRun.bipush 88 dX9_pair_86 oc_b73 rfl ?_
              refine oRun.iload_n 89 dX9_pair_88 1 rfl rfl rfl ?_
              refine oRun.iadd 90 dX9_pair_89 rfl ?_
              obtain ⟨v90, hv90, h⟩ := oB1 h
              refine oRun.iaload 91 dX9_pair_90 (Or.inr ⟨_, rfl⟩) hv90 rfl ?_
              rw [← Option.some.inj h]
              exact oRun.ret (r := some (.int v90)) dX9_pair_91
            · replace h := oIn c11_3 h
              by_cases c11_4 : x2 = 4
              · replace h := oIp c11_4 h
                refine oRun.tsin 92 dX9_pair_11 (q := 4) (by rw [c11_4]; rfl) (by decide) (by decide) rfl rfl ?_
                refine oRun.aload_n 93 dX9_pair_92 0 rfl rfl (Nat.le_of_ble_eq_true rfl) rfl ?_
                refine oRun.iload_n 94 dX9_pair_93 1 rfl rfl rfl ?_
                obtain ⟨r94, hr94, h⟩ := oB1 h
                refine oRun.callV (as := [.int x1]) 97 dX9_pair_94 lk_RX9_139 (oFit_i (Nat.le_of_ble_eq_true rfl) (Nat.le_of_ble_eq_true rfl)) rfl rfl rfl rfl (Nat.le_of_ble_eq_true rfl) (Nat.le_of_ble_eq_true rfl) rfl (E_X9_play hr94) rfl ?_
                show oRun G _ 97 _ [.int r94] _ _ _
                rw [← Option.some.inj h]
                exact oRun.ret (r := some (.int r94)) dX9_pair_97
              · replace h := oIn c11_4 h
                by_cases c11_5 : x2 = 5
                · replace h := oIp c11_5 h
                  refine oRun.tsin 98 dX9_pair_11 (q := 5) (by rw [c11_5]; rfl) (by decide) (by decide) rfl rfl ?_
                  refine oRun.aload_n 99 dX9_pair_98 0 rfl rfl (Nat.le_of_ble_eq_true rfl) rfl ?_
                  refine oRun.getR 102 dX9_pair_99 fd_RX9_11 rfl rfl (Nat.le_of_ble_eq_true rfl) rfl ?_
                  refine oRun.bipush 104 dX9_pair_102 oc_b43 rfl ?_
                  refine oRun.iload_n 105 dX9_pair_104 1 rfl rfl rfl ?_
                  refine oRun.iadd 106 dX9_pair_105 rfl ?_
                  obtain ⟨v106, hv106, h⟩ := oB1 h
                  refine oRun.iaload 107 dX9_pair_106 (Or.inr ⟨_, rfl⟩) hv106 rfl ?_
                  refine oRun.iconst 108 dX9_pair_107 oc_i5 rfl ?_
                  by_cases c108 : v106 = 5
                  · replace h := oIp c108 h
                    refine oRun.icmp_ne_f 111 dX9_pair_108 rfl c108 rfl ?_
                    refine oRun.iconst 112 dX9_pair_111 oc_i0 rfl ?_
                    refine oRun.goto 116 dX9_pair_112 rfl ?_
                    rw [← Option.some.inj h]
                    exact oRun.ret (r := some (.int 0)) dX9_pair_116
                  · replace h := oIn c108 h
                    refine oRun.icmp_ne_t 115 dX9_pair_108 c108 rfl ?_
                    refine oRun.iconst 116 dX9_pair_115 oc_i1 rfl ?_
                    rw [← Option.some.inj h]
                    exact oRun.ret (r := some (.int 1)) dX9_pair_116
                · replace h := oIn c11_5 h
                  by_cases c11_6 : x2 = 6
                  · replace h := oIp c11_6 h
                    refine oRun.tsin 117 dX9_pair_11 (q := 6) (by rw [c11_6]; rfl) (by decide) (by decide) rfl rfl ?_
                    refine oRun.aload_n 118 dX9_pair_117 0 rfl rfl (Nat.le_of_ble_eq_true rfl) rfl ?_
                    refine oRun.iload_n 119 dX9_pair_118 1 rfl rfl rfl ?_
                    obtain ⟨r119, hr119, h⟩ := oB1 h
                    refine oRun.callV (as := [.int x1]) 122 dX9_pair_119 lk_RX9_142 (oFit_i (Nat.le_of_ble_eq_true rfl) (Nat.le_of_ble_eq_true rfl)) rfl rfl rfl rfl (Nat.le_of_ble_eq_true rfl) (Nat.le_of_ble_eq_true rfl) rfl (E_X9_trainsOf hr119) rfl ?_
                    show oRun G _ 122 _ [.int r119] _ _ _
                    rw [← Option.some.inj h]
                    exact oRun.ret (r := some (.int r119)) dX9_pair_122
                  · replace h := oIn c11_6 h
                    have dk : oRun G M_X9_pair 123 [(0, .ref 51), (1, .int x1), (2, .int x2)] [] m (some (.int w)) m := by
                      refine oRun.iconst 124 dX9_pair_123 oc_im1 rfl ?_
                      rw [← Option.some.inj h]
                      exact oRun.ret (r := some (.int (-1))) dX9_pair_124
                    by_cases hl11 : x2.toInt < 0 ∨ 6 < x2.toInt
                    · exact oRun.tsout 123 dX9_pair_11 hl11 rfl dk
                    · have hq : x2.toInt = 0 ∨ x2.toInt = 1 ∨ x2.toInt = 2 ∨ x2.toInt = 3 ∨ x2.toInt = 4 ∨ x2.toInt = 5 ∨ x2.toInt = 6 := by omega
                      rcases hq with hq | hq | hq | hq | hq | hq | hq
                      · exact absurd (oTs (k := 0) rfl hq) c11_0
                      · exact absurd (oTs (k := 1) rfl hq) c11_1
                      · exact absurd (oTs (k := 2) rfl hq) c11_2
                      · exact absurd (oTs (k := 3) rfl hq) c11_3
                      · exact absurd (oTs (k := 4) rfl hq) c11_4
                      · exact absurd (oTs (k := 5) rfl hq) c11_5
                      · exact absurd (oTs (k := 6) rfl hq) c11_6
  · exact True.intro
set_option maxRecDepth 100000 in
set_option maxHeartbeats 4000000 in
theorem E_X6_pairTold {G : oG} {m : oM} {x1 : Int32} {w : Int32} (h : F_X6_pairTold m x1 = some w) : oEv G M_X6_pairTold [.ref 43, .int x1] m (some (.int w)) m := by
  unfold F_X6_pairTold at h
  refine ⟨?_, ?_⟩
  · show oRun G M_X6_pairTold 0 [(0, .ref 43), (1, .int x1)] [] m (some (.int w)) m
    refine oRun.aload_n 1 dX6_pairTold_0 0 rfl rfl (Nat.le_of_ble_eq_true rfl) rfl ?_
    refine oRun.getR 4 dX6_pairTold_1 fd_RX6_15 rfl rfl (Nat.le_of_ble_eq_true rfl) rfl ?_
    refine oRun.iload_n 5 dX6_pairTold_4 1 rfl rfl rfl ?_
    obtain ⟨r5, hr5, h⟩ := oB1 h
    refine oRun.callN (as := [.ref 44, .int x1]) 8 dX6_pairTold_5 lk_RX6_19 (oFit_i (Nat.le_of_ble_eq_true rfl) (Nat.le_of_ble_eq_true rfl)) rfl (Nat.le_of_ble_eq_true rfl) (Nat.le_of_ble_eq_true rfl) rfl (E_X8_at (Or.inr ⟨_, rfl⟩) hr5) rfl ?_
    show oRun G _ 8 _ [.int r5] _ _ _
    refine oRun.bipush 10 dX6_pairTold_8 oc_b97 rfl ?_
    refine oRun.isub 11 dX6_pairTold_10 rfl ?_
    rw [← Option.some.inj h]
    exact oRun.ret (r := some (.int (r5 - 97))) dX6_pairTold_11
  · exact True.intro
set_option maxRecDepth 100000 in
set_option maxHeartbeats 4000000 in
theorem E_X6_isToldAhead_L2 {G : oG} {m : oM} {x1 : Int32} {r : Option Value} {m' : oM} : ∀ (n : Nat) (x2 : Int32) (b : (Unit) ⊕ (Int32)), oLoop (fun s : Int32 => F_X6_isToldAhead_L2 m x1 s) n x2 = some b → Sum.elim (fun yy => oRun G M_X6_isToldAhead 34 [] [] m r m') (fun zz => r = (some (.int zz)) ∧ m' = m) b → oRun G M_X6_isToldAhead 2 [(0, .ref 43), (1, .int x1), (2, .int x2)] [] m r m' := by
  intro n
  induction n with
  | zero => intro x2 b h _; exact (oLoop_zero h).elim
  | succ n ih =>
    intro x2 b h he
    obtain ⟨q', hq', h⟩ := oLoop_succ h
    have hc : ∀ s' : Int32, q' = .inl s' → oRun G M_X6_isToldAhead 2 [(0, .ref 43), (1, .int x1), (2, .int s')] [] m r m' := by
      rintro s' rfl
      exact ih (s') b h he
    have hx : ∀ b' : (Unit) ⊕ (Int32), q' = .inr b' → Sum.elim (fun yy => oRun G M_X6_isToldAhead 34 [] [] m r m') (fun zz => r = (some (.int zz)) ∧ m' = m) b' := by
      rintro b' rfl
      have h : b' = b := h
      rw [h]
      exact he
    clear h he ih
    have h := hq'
    clear hq'
    replace h : F_X6_isToldAhead_L2 m x1 x2 = some q' := h
    unfold F_X6_isToldAhead_L2 at h
    refine oRun.iload_n 3 dX6_isToldAhead_2 2 rfl rfl rfl ?_
    refine oRun.iload_n 4 dX6_isToldAhead_3 1 rfl rfl rfl ?_
    by_cases c4 : x1 ≤ x2
    · replace h := oIp c4 h
      refine oRun.icmp_ge_t 34 dX6_isToldAhead_4 c4 rfl ?_
      cases h
      refine oRun.sub [] rfl ?_
      exact hx _ rfl
    · replace h := oIn c4 h
      refine oRun.icmp_ge_f 7 dX6_isToldAhead_4 rfl c4 rfl ?_
      refine oRun.aload_n 8 dX6_isToldAhead_7 0 rfl rfl (Nat.le_of_ble_eq_true rfl) rfl ?_
      refine oRun.getR 11 dX6_isToldAhead_8 fd_RX6_15 rfl rfl (Nat.le_of_ble_eq_true rfl) rfl ?_
      refine oRun.iload_n 12 dX6_isToldAhead_11 2 rfl rfl rfl ?_
      obtain ⟨r12, hr12, h⟩ := oB1 h
      refine oRun.callN (as := [.ref 44, .int x2]) 15 dX6_isToldAhead_12 lk_RX6_19 (oFit_i (Nat.le_of_ble_eq_true rfl) (Nat.le_of_ble_eq_true rfl)) rfl (Nat.le_of_ble_eq_true rfl) (Nat.le_of_ble_eq_true rfl) rfl (E_X8_at (Or.inr ⟨_, rfl⟩) hr12) rfl ?_
      show oRun G _ 15 _ [.int r12] _ _ _
      refine oRun.aload_n 16 dX6_isToldAhead_15 0 rfl rfl (Nat.le_of_ble_eq_true rfl) rfl ?_
      refine oRun.getR 19 dX6_isToldAhead_16 fd_RX6_15 rfl rfl (Nat.le_of_ble_eq_true rfl) rfl ?_
      refine oRun.iload_n 20 dX6_isToldAhead_19 1 rfl rfl rfl ?_
      obtain ⟨r20, hr20, h⟩ := oB1 h
      refine oRun.callN (as := [.ref 44, .int x1]) 23 dX6_isToldAhead_20 lk_RX6_19 (oFit_i (Nat.le_of_ble_eq_true rfl) (Nat.le_of_ble_eq_true rfl)) rfl (Nat.le_of_ble_eq_true rfl) (Nat.le_of_ble_eq_true rfl) rfl (E_X8_at (Or.inr ⟨_, rfl⟩) hr20) rfl ?_
      show oRun G _ 23 _ [.int r20, .int r12] _ _ _
      by_cases c23 : r12 = r20
      · replace h := oIp c23 h
        refine oRun.icmp_ne_f 26 dX6_isToldAhead_23 rfl c23 rfl ?_
        refine oRun.iconst 27 dX6_isToldAhead_26 oc_i1 rfl ?_
        cases h
        obtain ⟨hr1, hr2⟩ := hx _ rfl
        rw [hr1, hr2]
        exact oRun.ret (r := some (.int 1)) dX6_isToldAhead_27
      · replace h := oIn c23 h
        refine oRun.icmp_ne_t 28 dX6_isToldAhead_23 c23 rfl ?_
        refine oRun.iinc 31 dX6_isToldAhead_28 2 rfl (oAddC oc_i1) (Nat.le_of_ble_eq_true rfl) rfl rfl ?_
        refine oRun.goto 2 dX6_isToldAhead_31 rfl ?_
        cases h
        refine oRun.sub [1, 2, 0] rfl ?_
        exact hc _ rfl
set_option maxRecDepth 100000 in
set_option maxHeartbeats 4000000 in
theorem E_X6_isToldAhead {G : oG} {m : oM} {x1 : Int32} {w : Int32} (h : F_X6_isToldAhead m x1 = some w) : oEv G M_X6_isToldAhead [.ref 43, .int x1] m (some (.int w)) m := by
  unfold F_X6_isToldAhead at h
  refine ⟨?_, ?_⟩
  · show oRun G M_X6_isToldAhead 0 [(0, .ref 43), (1, .int x1)] [] m (some (.int w)) m
    refine oRun.iconst 1 dX6_isToldAhead_0 oc_i0 rfl ?_
    refine oRun.istore_n 2 dX6_isToldAhead_1 rfl (Nat.le_of_ble_eq_true rfl) rfl rfl ?_
    obtain ⟨b2, hb2, h⟩ := oB1 h
    refine oRun.sub [1, 2, 0] rfl ?_
    refine E_X6_isToldAhead_L2 _ _ _ hb2 ?_
    rcases b2 with y2 | z2
    · replace h := oSl h
      show oRun G _ _ _ _ _ _ _
      refine oRun.iconst 35 dX6_isToldAhead_34 oc_i0 rfl ?_
      rw [← Option.some.inj h]
      exact oRun.ret (r := some (.int 0)) dX6_isToldAhead_35
    · replace h := oSr h
      exact ⟨by rw [oZ_eq h], rfl⟩
  · show oROK (some .boolean) (some (.int w))
    obtain ⟨b2, hb2, h⟩ := oB1 h
    rcases b2 with y2 | z2
    · replace h := oSl h
      rw [← Option.some.inj h]
      exact Or.inl rfl
    · exact oZ_ok (oSr h)
set_option maxRecDepth 100000 in
set_option maxHeartbeats 4000000 in
theorem E_X6_faultAsTrain_L2 {G : oG} {m : oM} {x1 : Int32} {r : Option Value} {m' : oM} : ∀ (n : Nat) (x2 : Int32) (b : (Unit) ⊕ (Int32)), oLoop (fun s : Int32 => F_X6_faultAsTrain_L2 m x1 s) n x2 = some b → Sum.elim (fun yy => oRun G M_X6_faultAsTrain 46 [(0, .ref 43)] [] m r m') (fun zz => r = (some (.int zz)) ∧ m' = m) b → oRun G M_X6_faultAsTrain 2 [(0, .ref 43), (1, .int x1), (2, .int x2)] [] m r m' := by
  intro n
  induction n with
  | zero => intro x2 b h _; exact (oLoop_zero h).elim
  | succ n ih =>
    intro x2 b h he
    obtain ⟨q', hq', h⟩ := oLoop_succ h
    have hc : ∀ s' : Int32, q' = .inl s' → oRun G M_X6_faultAsTrain 2 [(0, .ref 43), (1, .int x1), (2, .int s')] [] m r m' := by
      rintro s' rfl
      exact ih (s') b h he
    have hx : ∀ b' : (Unit) ⊕ (Int32), q' = .inr b' → Sum.elim (fun yy => oRun G M_X6_faultAsTrain 46 [(0, .ref 43)] [] m r m') (fun zz => r = (some (.int zz)) ∧ m' = m) b' := by
      rintro b' rfl
      have h : b' = b := h
      rw [h]
      exact he
    clear h he ih
    have h := hq'
    clear hq'
    replace h : F_X6_faultAsTrain_L2 m x1 x2 = some q' := h
    unfold F_X6_faultAsTrain_L2 at h
    refine oRun.iload_n 3 dX6_faultAsTrain_2 2 rfl rfl rfl ?_
    refine oRun.aload_n 4 dX6_faultAsTrain_3 0 rfl rfl (Nat.le_of_ble_eq_true rfl) rfl ?_
    refine oRun.getI 7 dX6_faultAsTrain_4 fd_RX6_9 rfl rfl rfl ?_
    by_cases c7 : (m.1 43 0) ≤ x2
    · replace h := oIp c7 h
      refine oRun.icmp_ge_t 46 dX6_faultAsTrain_7 c7 rfl ?_
      cases h
      refine oRun.sub [0] rfl ?_
      exact hx _ rfl
    · replace h := oIn c7 h
      refine oRun.icmp_ge_f 10 dX6_faultAsTrain_7 rfl c7 rfl ?_
      refine oRun.aload_n 11 dX6_faultAsTrain_10 0 rfl rfl (Nat.le_of_ble_eq_true rfl) rfl ?_
      refine oRun.iload_n 12 dX6_faultAsTrain_11 2 rfl rfl rfl ?_
      obtain ⟨r12, hr12, h⟩ := oB1 h
      refine oRun.callV (as := [.int x2]) 15 dX6_faultAsTrain_12 lk_RX6_43 (oFit_i (Nat.le_of_ble_eq_true rfl) (Nat.le_of_ble_eq_true rfl)) rfl rfl rfl rfl (Nat.le_of_ble_eq_true rfl) (Nat.le_of_ble_eq_true rfl) rfl (E_X6_pairTold hr12) rfl ?_
      show oRun G _ 15 _ [.int r12] _ _ _
      refine oRun.istore_n 16 dX6_faultAsTrain_15 rfl (Nat.le_of_ble_eq_true rfl) rfl rfl ?_
      refine oRun.iload_n 17 dX6_faultAsTrain_16 3 rfl rfl rfl ?_
      refine oRun.iconst 18 dX6_faultAsTrain_17 oc_i3 rfl ?_
      by_cases c18 : 3 ≤ x2
      · replace h := oIp c18 h
        refine oRun.icmp_ge_t 38 dX6_faultAsTrain_18 c18 rfl ?_
        refine oRun.iload_n 39 dX6_faultAsTrain_38 3 rfl rfl rfl ?_
        cases h
        obtain ⟨hr1, hr2⟩ := hx _ rfl
        rw [hr1, hr2]
        exact oRun.ret (r := some (.int x2)) dX6_faultAsTrain_39
      · replace h := oIn c18 h
        refine oRun.icmp_ge_f 21 dX6_faultAsTrain_18 rfl c18 rfl ?_
        refine oRun.iload_n 22 dX6_faultAsTrain_21 0 rfl rfl rfl ?_
        by_cases c22 : r12 < 0
        · replace h := oIp c22 h
          refine oRun.if_lt_t 38 dX6_faultAsTrain_22 c22 rfl ?_
          refine oRun.iload_n 39 dX6_faultAsTrain_38 3 rfl rfl rfl ?_
          cases h
          obtain ⟨hr1, hr2⟩ := hx _ rfl
          rw [hr1, hr2]
          exact oRun.ret (r := some (.int x2)) dX6_faultAsTrain_39
        · replace h := oIn c22 h
          refine oRun.if_lt_f 25 dX6_faultAsTrain_22 rfl c22 rfl ?_
          refine oRun.iload_n 26 dX6_faultAsTrain_25 0 rfl rfl rfl ?_
          refine oRun.iload_n 27 dX6_faultAsTrain_26 2 rfl rfl rfl ?_
          by_cases c27 : x1 ≤ r12
          · replace h := oIp c27 h
            refine oRun.icmp_ge_t 38 dX6_faultAsTrain_27 c27 rfl ?_
            refine oRun.iload_n 39 dX6_faultAsTrain_38 3 rfl rfl rfl ?_
            cases h
            obtain ⟨hr1, hr2⟩ := hx _ rfl
            rw [hr1, hr2]
            exact oRun.ret (r := some (.int x2)) dX6_faultAsTrain_39
          · replace h := oIn c27 h
            refine oRun.icmp_ge_f 30 dX6_faultAsTrain_27 rfl c27 rfl ?_
            refine oRun.aload_n 31 dX6_faultAsTrain_30 1 rfl rfl (Nat.le_of_ble_eq_true rfl) rfl ?_
            refine oRun.iload_n 32 dX6_faultAsTrain_31 3 rfl rfl rfl ?_
            obtain ⟨r32, hr32, h⟩ := oB1 h
            refine oRun.callV (as := [.int x2]) 35 dX6_faultAsTrain_32 lk_RX6_46 (oFit_i (Nat.le_of_ble_eq_true rfl) (Nat.le_of_ble_eq_true rfl)) rfl rfl rfl rfl (Nat.le_of_ble_eq_true rfl) (Nat.le_of_ble_eq_true rfl) rfl (E_X6_isToldAhead hr32) rfl ?_
            show oRun G _ 35 _ [.int r32] _ _ _
            by_cases c35 : r32 = 0
            · replace h := oIp c35 h
              refine oRun.if_eq_t 40 dX6_faultAsTrain_35 c35 rfl ?_
              refine oRun.iinc 43 dX6_faultAsTrain_40 3 rfl (oAddC oc_i1) (Nat.le_of_ble_eq_true rfl) rfl rfl ?_
              refine oRun.goto 2 dX6_faultAsTrain_43 rfl ?_
              cases h
              refine oRun.sub [2, 3, 0] rfl ?_
              exact hc _ rfl
            · replace h := oIn c35 h
              refine oRun.if_eq_f 38 dX6_faultAsTrain_35 rfl c35 rfl ?_
              refine oRun.iload_n 39 dX6_faultAsTrain_38 3 rfl rfl rfl ?_
              cases h
              obtain ⟨hr1, hr2⟩ := hx _ rfl
              rw [hr1, hr2]
              exact oRun.ret (r := some (.int x2)) dX6_faultAsTrain_39
set_option maxRecDepth 100000 in
set_option maxHeartbeats 4000000 in
theorem E_X6_faultAsTrain {G : oG} {m : oM} {x1 : Int32} {w : Int32} (h : F_X6_faultAsTrain m x1 = some w) : oEv G M_X6_faultAsTrain [.ref 43, .int x1] m (some (.int w)) m := by
  unfold F_X6_faultAsTrain at h
  refine ⟨?_, ?_⟩
  · show oRun G M_X6_faultAsTrain 0 [(0, .ref 43), (1, .int x1)] [] m (some (.int w)) m
    refine oRun.iconst 1 dX6_faultAsTrain_0 oc_i0 rfl ?_
    refine oRun.istore_n 2 dX6_faultAsTrain_1 rfl (Nat.le_of_ble_eq_true rfl) rfl rfl ?_
    obtain ⟨b2, hb2, h⟩ := oB1 h
    refine oRun.sub [1, 2, 0] rfl ?_
    refine E_X6_faultAsTrain_L2 _ _ _ hb2 ?_
    rcases b2 with y2 | z2
    · replace h := oSl h
      show oRun G _ _ _ _ _ _ _
      refine oRun.aload_n 47 dX6_faultAsTrain_46 0 rfl rfl (Nat.le_of_ble_eq_true rfl) rfl ?_
      refine oRun.getI 50 dX6_faultAsTrain_47 fd_RX6_9 rfl rfl rfl ?_
      by_cases c50 : (m.1 43 0) = 0
      · replace h := oIp c50 h
        refine oRun.if_ne_f 53 dX6_faultAsTrain_50 rfl c50 rfl ?_
        refine oRun.iconst 54 dX6_faultAsTrain_53 oc_i0 rfl ?_
        refine oRun.goto 58 dX6_faultAsTrain_54 rfl ?_
        rw [← Option.some.inj h]
        exact oRun.ret (r := some (.int 0)) dX6_faultAsTrain_58
      · replace h := oIn c50 h
        refine oRun.if_ne_t 57 dX6_faultAsTrain_50 c50 rfl ?_
        refine oRun.iconst 58 dX6_faultAsTrain_57 oc_im1 rfl ?_
        rw [← Option.some.inj h]
        exact oRun.ret (r := some (.int (-1))) dX6_faultAsTrain_58
    · replace h := oSr h
      cases h
      exact ⟨rfl, rfl⟩
  · exact True.intro
set_option maxRecDepth 100000 in
set_option maxHeartbeats 4000000 in
theorem E_X7_cut {G : oG} {o : Nat} (ho : oTb o = true) {m : oM} {x1 : Int32} {x2 : Int32} {w : oM} (h : F_X7_cut o m x1 x2 = some w) : oEv G M_X7_cut [.ref o, .int x1, .int x2] m none w := by
  unfold F_X7_cut at h
  refine ⟨?_, ?_⟩
  · show oRun G M_X7_cut 0 [(0, .ref o), (1, .int x1), (2, .int x2)] [] m none w
    refine oRun.aload_n 1 dX7_cut_0 0 rfl rfl (oLt66 (oT_lt ho)) rfl ?_
    refine oRun.getR 4 dX7_cut_1 fd_RX7_9 (oT_sh ho) rfl (oT_l1 ho) rfl ?_
    refine oRun.iload_n 5 dX7_cut_4 1 rfl rfl rfl ?_
    refine oRun.iload_n 6 dX7_cut_5 2 rfl rfl rfl ?_
    obtain ⟨r6, hr6, h⟩ := oB1 h
    refine oRun.callN (as := [.ref (o + 1), .int x1, .int x2]) 9 dX7_cut_6 lk_RX7_26 (oFit_i (Nat.le_of_ble_eq_true rfl) (Nat.le_of_ble_eq_true rfl)) rfl (Nat.le_of_ble_eq_true rfl) (Nat.le_of_ble_eq_true rfl) rfl (E_X8_set (oWA_i (oT_a1 ho)) hr6) rfl ?_
    show oRun G _ 9 _ [] _ _ _
    rw [← Option.some.inj h]
    exact oRun.ret (r := none) dX7_cut_9
  · exact True.intro
set_option maxRecDepth 100000 in
set_option maxHeartbeats 4000000 in
theorem E_X7_become {G : oG} {o : Nat} (ho : oTb o = true) {m : oM} {x1 : Int32} {x2 : Int32} {x3 : Int32} {w : oM} (h : F_X7_become o m x1 x2 x3 = some w) : oEv G M_X7_become [.ref o, .int x1, .int x2, .int x3] m none w := by
  unfold F_X7_become at h
  refine ⟨?_, ?_⟩
  · show oRun G M_X7_become 0 [(0, .ref o), (1, .int x1), (2, .int x2), (3, .int x3)] [] m none w
    refine oRun.aload_n 1 dX7_become_0 0 rfl rfl (oLt66 (oT_lt ho)) rfl ?_
    refine oRun.getR 4 dX7_become_1 fd_RX7_15 (oT_sh ho) rfl (oT_l2 ho) rfl ?_
    refine oRun.iload_n 5 dX7_become_4 1 rfl rfl rfl ?_
    refine oRun.iconst 6 dX7_become_5 oc_i3 rfl ?_
    refine oRun.imul 7 dX7_become_6 rfl ?_
    refine oRun.iload_n 8 dX7_become_7 2 rfl rfl rfl ?_
    refine oRun.iadd 9 dX7_become_8 rfl ?_
    refine oRun.iload_n 10 dX7_become_9 3 rfl rfl rfl ?_
    obtain ⟨r10, hr10, h⟩ := oB1 h
    refine oRun.callN (as := [.ref (o + 2), .int ((x1 * 3) + x2), .int x3]) 13 dX7_become_10 lk_RX7_26 (oFit_i (Nat.le_of_ble_eq_true rfl) (Nat.le_of_ble_eq_true rfl)) rfl (Nat.le_of_ble_eq_true rfl) (Nat.le_of_ble_eq_true rfl) rfl (E_X8_set (oWA_i (oT_a2 ho)) hr10) rfl ?_
    show oRun G _ 13 _ [] _ _ _
    rw [← Option.some.inj h]
    exact oRun.ret (r := none) dX7_become_13
  · exact True.intro
set_option maxRecDepth 100000 in
set_option maxHeartbeats 4000000 in
theorem E_X8_train_L72 {G : oG} {x1 : Int32} {x3 : Int32} {r : Option Value} {m' : oM} : ∀ (n : Nat) (x4 : Int32) (m : oM) (b : oM), oLoop (fun s : Int32 × oM => F_X8_train_L72 x1 x3 s.1 s.2) n (x4, m) = some b → oRun G M_X8_train 106 [(3, .int x3)] [] b r m' → oRun G M_X8_train 72 [(0, .ref 0), (1, .int x1), (3, .int x3), (4, .int x4)] [] m r m' := by
  intro n
  induction n with
  | zero => intro x4 m b h _; exact (oLoop_zero h).elim
  | succ n ih =>
    intro x4 m b h he
    obtain ⟨q', hq', h⟩ := oLoop_succ h
    have hc : ∀ s' : Int32 × oM, q' = .inl s' → oRun G M_X8_train 72 [(0, .ref 0), (1, .int x1), (3, .int x3), (4, .int s'.1)] [] s'.2 r m' := by
      rintro s' rfl
      exact ih (s'.1) (s'.2) b h he
    have hx : ∀ b' : oM, q' = .inr b' → oRun G M_X8_train 106 [(3, .int x3)] [] b' r m' := by
      rintro b' rfl
      have h : b' = b := h
      rw [h]
      exact he
    clear h he ih
    have h := hq'
    clear hq'
    replace h : F_X8_train_L72 x1 x3 x4 m = some q' := h
    unfold F_X8_train_L72 at h
    refine oRun.iload 74 dX8_train_72 3 rfl rfl ?_
    refine oRun.iload_n 75 dX8_train_74 2 rfl rfl rfl ?_
    by_cases c75 : x3 ≤ x4
    · replace h := oIp c75 h
      refine oRun.icmp_ge_t 106 dX8_train_75 c75 rfl ?_
      cases h
      refine oRun.sub [2] rfl ?_
      exact hx _ rfl
    · replace h := oIn c75 h
      refine oRun.icmp_ge_f 78 dX8_train_75 rfl c75 rfl ?_
      refine oRun.aload_n 79 dX8_train_78 0 rfl rfl (Nat.le_of_ble_eq_true rfl) rfl ?_
      refine oRun.getR 82 dX8_train_79 fd_RX8_12 rfl rfl (Nat.le_of_ble_eq_true rfl) rfl ?_
      refine oRun.getR 85 dX8_train_82 fd_RX8_170 rfl rfl (Nat.le_of_ble_eq_true rfl) rfl ?_
      refine oRun.iload_n 86 dX8_train_85 1 rfl rfl rfl ?_
      refine oRun.iload 88 dX8_train_86 3 rfl rfl ?_
      refine oRun.aload_n 89 dX8_train_88 0 rfl rfl (Nat.le_of_ble_eq_true rfl) rfl ?_
      refine oRun.getR 92 dX8_train_89 fd_RX8_31 rfl rfl (Nat.le_of_ble_eq_true rfl) rfl ?_
      refine oRun.iload 94 dX8_train_92 3 rfl rfl ?_
      obtain ⟨r94, hr94, h⟩ := oB1 h
      refine oRun.callV (as := [.int x4]) 97 dX8_train_94 lk_RX8_186 (oFit_i (Nat.le_of_ble_eq_true rfl) (Nat.le_of_ble_eq_true rfl)) rfl rfl rfl rfl (Nat.le_of_ble_eq_true rfl) (Nat.le_of_ble_eq_true rfl) rfl (E_X6_pairTold hr94) rfl ?_
      show oRun G _ 97 _ [.int r94, .int x4, .int x1, .ref 9] _ _ _
      obtain ⟨r97, hr97, h⟩ := oB1 h
      refine oRun.callV (as := [.int x1, .int x4, .int r94]) 100 dX8_train_97 lk_RX8_189 (oFit_i (Nat.le_of_ble_eq_true rfl) (Nat.le_of_ble_eq_true rfl)) rfl rfl rfl rfl (Nat.le_of_ble_eq_true rfl) (Nat.le_of_ble_eq_true rfl) rfl (E_X7_become rfl hr97) rfl ?_
      show oRun G _ 100 _ [] _ _ _
      refine oRun.iinc 103 dX8_train_100 3 rfl (oAddC oc_i1) (Nat.le_of_ble_eq_true rfl) rfl rfl ?_
      refine oRun.goto 72 dX8_train_103 rfl ?_
      cases h
      refine oRun.sub [1, 2, 3, 0] rfl ?_
      exact hc _ rfl
set_option maxRecDepth 100000 in
set_option maxHeartbeats 4000000 in
theorem E_X8_train {G : oG} {m : oM} {x1 : Int32} {w : Int32 × oM} (h : F_X8_train m x1 = some w) : oEv G M_X8_train [.ref 0, .int x1] m (some (.int w.1)) w.2 := by
  unfold F_X8_train at h
  refine ⟨?_, ?_⟩
  · show oRun G M_X8_train 0 [(0, .ref 0), (1, .int x1)] [] m (some (.int w.1)) w.2
    refine oRun.aload_n 1 dX8_train_0 0 rfl rfl (Nat.le_of_ble_eq_true rfl) rfl ?_
    refine oRun.getR 4 dX8_train_1 fd_RX8_12 rfl rfl (Nat.le_of_ble_eq_true rfl) rfl ?_
    refine oRun.iload_n 5 dX8_train_4 1 rfl rfl rfl ?_
    obtain ⟨r5, hr5, h⟩ := oB1 h
    refine oRun.callV (as := [.int x1]) 8 dX8_train_5 lk_RX8_68 (oFit_i (Nat.le_of_ble_eq_true rfl) (Nat.le_of_ble_eq_true rfl)) rfl rfl rfl rfl (Nat.le_of_ble_eq_true rfl) (Nat.le_of_ble_eq_true rfl) rfl (E_X1_hasBody rfl hr5) rfl ?_
    show oRun G _ 8 _ [.int r5] _ _ _
    by_cases c8 : r5 = 0
    · replace h := oIp c8 h
      refine oRun.if_ne_f 11 dX8_train_8 rfl c8 rfl ?_
      refine oRun.iconst 12 dX8_train_11 oc_im1 rfl ?_
      rw [← Option.some.inj h]
      exact oRun.ret (r := some (.int (-1))) dX8_train_12
    · replace h := oIn c8 h
      refine oRun.if_ne_t 13 dX8_train_8 c8 rfl ?_
      refine oRun.aload_n 14 dX8_train_13 0 rfl rfl (Nat.le_of_ble_eq_true rfl) rfl ?_
      refine oRun.getR 17 dX8_train_14 fd_RX8_31 rfl rfl (Nat.le_of_ble_eq_true rfl) rfl ?_
      refine oRun.aload_n 18 dX8_train_17 0 rfl rfl (Nat.le_of_ble_eq_true rfl) rfl ?_
      refine oRun.getR 21 dX8_train_18 fd_RX8_12 rfl rfl (Nat.le_of_ble_eq_true rfl) rfl ?_
      refine oRun.getR 24 dX8_train_21 fd_RX8_135 rfl rfl (Nat.le_of_ble_eq_true rfl) rfl ?_
      refine oRun.getI 27 dX8_train_24 fd_RX8_139 rfl rfl rfl ?_
      obtain ⟨r27, hr27, h⟩ := oB1 h
      refine oRun.callV (as := [.int (m.1 4 0)]) 30 dX8_train_27 lk_RX8_179 (oFit_i (Nat.le_of_ble_eq_true rfl) (Nat.le_of_ble_eq_true rfl)) rfl rfl rfl rfl (Nat.le_of_ble_eq_true rfl) (Nat.le_of_ble_eq_true rfl) rfl (E_X6_faultAsTrain hr27) rfl ?_
      show oRun G _ 30 _ [.int r27] _ _ _
      refine oRun.istore_n 31 dX8_train_30 rfl (Nat.le_of_ble_eq_true rfl) rfl rfl ?_
      refine oRun.aload_n 32 dX8_train_31 1 rfl rfl (Nat.le_of_ble_eq_true rfl) rfl ?_
      refine oRun.getR 35 dX8_train_32 fd_RX8_31 rfl rfl (Nat.le_of_ble_eq_true rfl) rfl ?_
      refine oRun.getI 38 dX8_train_35 fd_RX8_118 rfl rfl rfl ?_
      obtain ⟨x3_38, hx3_38, h⟩ := oB1 h
      refine oRun.nameI hx3_38 ?_
      refine oRun.istore_n 39 dX8_train_38 rfl (Nat.le_of_ble_eq_true rfl) rfl rfl ?_
      refine oRun.aload_n 40 dX8_train_39 2 rfl rfl (Nat.le_of_ble_eq_true rfl) rfl ?_
      refine oRun.getR 43 dX8_train_40 fd_RX8_31 rfl rfl (Nat.le_of_ble_eq_true rfl) rfl ?_
      refine oRun.iconst 44 dX8_train_43 oc_i0 rfl ?_
      obtain ⟨m44, hm44, h⟩ := oB1 h
      refine oRun.putI 47 dX8_train_44 fp_RX8_118 rfl rfl rfl ?_
      refine oRun.nameM hm44 ?_
      refine oRun.iload_n 48 dX8_train_47 1 rfl rfl rfl ?_
      refine oRun.iconst 49 dX8_train_48 oc_im1 rfl ?_
      by_cases c49 : r27 = (-1)
      · replace h := oIp c49 h
        refine oRun.icmp_eq_t 57 dX8_train_49 c49 rfl ?_
        refine oRun.aload_n 58 dX8_train_57 2 rfl rfl (Nat.le_of_ble_eq_true rfl) rfl ?_
        refine oRun.getR 61 dX8_train_58 fd_RX8_12 rfl rfl (Nat.le_of_ble_eq_true rfl) rfl ?_
        refine oRun.getR 64 dX8_train_61 fd_RX8_170 rfl rfl (Nat.le_of_ble_eq_true rfl) rfl ?_
        refine oRun.iload_n 65 dX8_train_64 3 rfl rfl rfl ?_
        refine oRun.iload_n 66 dX8_train_65 0 rfl rfl rfl ?_
        obtain ⟨r66, hr66, h⟩ := oB1 h
        refine oRun.callV (as := [.int x1, .int x3_38]) 69 dX8_train_66 lk_RX8_182 (oFit_i (Nat.le_of_ble_eq_true rfl) (Nat.le_of_ble_eq_true rfl)) rfl rfl rfl rfl (Nat.le_of_ble_eq_true rfl) (Nat.le_of_ble_eq_true rfl) rfl (E_X7_cut rfl hr66) rfl ?_
        show oRun G _ 69 _ [] _ _ _
        refine oRun.iconst 70 dX8_train_69 oc_i0 rfl ?_
        refine oRun.istore 72 dX8_train_70 (Nat.le_of_ble_eq_true rfl) rfl rfl ?_
        obtain ⟨b72, hb72, h⟩ := oB1 h
        refine oRun.sub [3, 4, 1, 0] rfl ?_
        refine E_X8_train_L72 _ _ _ _ hb72 ?_
        refine oRun.iload_n 107 dX8_train_106 0 rfl rfl rfl ?_
        rw [← Option.some.inj h]
        exact oRun.ret (r := some (.int x3_38)) dX8_train_107
      · replace h := oIn c49 h
        refine oRun.icmp_eq_f 52 dX8_train_49 rfl c49 rfl ?_
        refine oRun.bipush 54 dX8_train_52 oc_bm100 rfl ?_
        refine oRun.iload_n 55 dX8_train_54 1 rfl rfl rfl ?_
        refine oRun.isub 56 dX8_train_55 rfl ?_
        rw [← Option.some.inj h]
        exact oRun.ret (r := some (.int ((-100) - r27))) dX8_train_56
  · exact True.intro
set_option maxRecDepth 100000 in
set_option maxHeartbeats 4000000 in
theorem E_X9_train_L28 {G : oG} {m : oM} {x1 : Int32} {r : Option Value} {m' : oM} : ∀ (n : Nat) (x2 : Int32) (x3 : Int32) (x4 : Int32) (b : Int32), oLoop (fun s : Int32 × Int32 × Int32 => F_X9_train_L28 m x1 s.1 s.2.1 s.2.2) n (x2, x3, x4) = some b → oRun G M_X9_train 98 [(0, .ref 51), (1, .int x1), (3, .int b)] [] m r m' → oRun G M_X9_train 28 [(0, .ref 51), (1, .int x1), (2, .int x2), (3, .int x3), (4, .int x4)] [] m r m' := by
  intro n
  induction n with
  | zero => intro x2 x3 x4 b h _; exact (oLoop_zero h).elim
  | succ n ih =>
    intro x2 x3 x4 b h he
    obtain ⟨q', hq', h⟩ := oLoop_succ h
    have hc : ∀ s' : Int32 × Int32 × Int32, q' = .inl s' → oRun G M_X9_train 28 [(0, .ref 51), (1, .int x1), (2, .int s'.1), (3, .int s'.2.1), (4, .int s'.2.2)] [] m r m' := by
      rintro s' rfl
      exact ih (s'.1) (s'.2.1) (s'.2.2) b h he
    have hx : ∀ b' : Int32, q' = .inr b' → oRun G M_X9_train 98 [(0, .ref 51), (1, .int x1), (3, .int b')] [] m r m' := by
      rintro b' rfl
      have h : b' = b := h
      rw [h]
      exact he
    clear h he ih
    have h := hq'
    clear hq'
    replace h : F_X9_train_L28 m x1 x2 x3 x4 = some q' := h
    unfold F_X9_train_L28 at h
    refine oRun.iload 30 dX9_train_28 4 rfl rfl ?_
    refine oRun.aload_n 31 dX9_train_30 0 rfl rfl (Nat.le_of_ble_eq_true rfl) rfl ?_
    refine oRun.getI 34 dX9_train_31 fd_RX9_92 rfl rfl rfl ?_
    by_cases c34 : (m.1 51 8) ≤ x4
    · replace h := oIp c34 h
      refine oRun.icmp_ge_t 98 dX9_train_34 c34 rfl ?_
      cases h
      refine oRun.sub [0, 1, 3] rfl ?_
      exact hx _ rfl
    · replace h := oIn c34 h
      refine oRun.icmp_ge_f 37 dX9_train_34 rfl c34 rfl ?_
      refine oRun.iload_n 38 dX9_train_37 3 rfl rfl rfl ?_
      refine oRun.iconst 39 dX9_train_38 oc_im1 rfl ?_
      by_cases c39 : x3 = (-1)
      · replace h := oIp c39 h
        refine oRun.icmp_ne_f 42 dX9_train_39 rfl c39 rfl ?_
        refine oRun.aload_n 43 dX9_train_42 0 rfl rfl (Nat.le_of_ble_eq_true rfl) rfl ?_
        refine oRun.getR 46 dX9_train_43 fd_RX9_21 rfl rfl (Nat.le_of_ble_eq_true rfl) rfl ?_
        refine oRun.iload 48 dX9_train_46 4 rfl rfl ?_
        obtain ⟨v48, hv48, h⟩ := oB1 h
        refine oRun.iaload 49 dX9_train_48 (Or.inr ⟨_, rfl⟩) hv48 rfl ?_
        refine oRun.bipush 51 dX9_train_49 oc_b97 rfl ?_
        refine oRun.isub 52 dX9_train_51 rfl ?_
        obtain ⟨x5_52, hx5_52, h⟩ := oB1 h
        refine oRun.nameI hx5_52 ?_
        refine oRun.istore 54 dX9_train_52 (Nat.le_of_ble_eq_true rfl) rfl rfl ?_
        refine oRun.aload_n 55 dX9_train_54 1 rfl rfl (Nat.le_of_ble_eq_true rfl) rfl ?_
        refine oRun.iload 57 dX9_train_55 0 rfl rfl ?_
        obtain ⟨r57, hr57, h⟩ := oB1 h
        refine oRun.callV (as := [.int x5_52]) 60 dX9_train_57 lk_RX9_132 (oFit_i (Nat.le_of_ble_eq_true rfl) (Nat.le_of_ble_eq_true rfl)) rfl rfl rfl rfl (Nat.le_of_ble_eq_true rfl) (Nat.le_of_ble_eq_true rfl) rfl (E_X9_isPair hr57) rfl ?_
        show oRun G _ 60 _ [.int r57] _ _ _
        by_cases c60 : r57 = 0
        · replace h := oIp c60 h
          refine oRun.if_eq_t 79 dX9_train_60 c60 rfl ?_
          refine oRun.iload 81 dX9_train_79 5 rfl rfl ?_
          refine oRun.istore_n 82 dX9_train_81 rfl (Nat.le_of_ble_eq_true rfl) rfl rfl ?_
          refine oRun.goto 92 dX9_train_82 rfl ?_
          refine oRun.iinc 95 dX9_train_92 5 rfl (oAddC oc_i1) (Nat.le_of_ble_eq_true rfl) rfl rfl ?_
          refine oRun.goto 28 dX9_train_95 rfl ?_
          cases h
          refine oRun.sub [3, 4, 5, 1, 0] rfl ?_
          exact hc _ rfl
        · replace h := oIn c60 h
          refine oRun.if_eq_f 63 dX9_train_60 rfl c60 rfl ?_
          refine oRun.iload 65 dX9_train_63 5 rfl rfl ?_
          refine oRun.iconst 66 dX9_train_65 oc_i3 rfl ?_
          by_cases c66 : x4 = 3
          · replace h := oIp c66 h
            refine oRun.icmp_eq_t 79 dX9_train_66 c66 rfl ?_
            refine oRun.iload 81 dX9_train_79 5 rfl rfl ?_
            refine oRun.istore_n 82 dX9_train_81 rfl (Nat.le_of_ble_eq_true rfl) rfl rfl ?_
            refine oRun.goto 92 dX9_train_82 rfl ?_
            refine oRun.iinc 95 dX9_train_92 5 rfl (oAddC oc_i1) (Nat.le_of_ble_eq_true rfl) rfl rfl ?_
            refine oRun.goto 28 dX9_train_95 rfl ?_
            cases h
            refine oRun.sub [3, 4, 5, 1, 0] rfl ?_
            exact hc _ rfl
          · replace h := oIn c66 h
            refine oRun.icmp_eq_f 69 dX9_train_66 rfl c66 rfl ?_
            refine oRun.iload_n 70 dX9_train_69 3 rfl rfl rfl ?_
            refine oRun.iload 72 dX9_train_70 0 rfl rfl ?_
            refine oRun.ishr 73 dX9_train_72 rfl ?_
            refine oRun.iconst 74 dX9_train_73 oc_i1 rfl ?_
            refine oRun.iand 75 dX9_train_74 rfl ?_
            refine oRun.iconst 76 dX9_train_75 oc_i1 rfl ?_
            by_cases c76 : ((x2 >>> (x5_52 &&& 31)) &&& 1) = 1
            · replace h := oIp c76 h
              refine oRun.icmp_ne_f 79 dX9_train_76 rfl c76 rfl ?_
              refine oRun.iload 81 dX9_train_79 5 rfl rfl ?_
              refine oRun.istore_n 82 dX9_train_81 rfl (Nat.le_of_ble_eq_true rfl) rfl rfl ?_
              refine oRun.goto 92 dX9_train_82 rfl ?_
              refine oRun.iinc 95 dX9_train_92 5 rfl (oAddC oc_i1) (Nat.le_of_ble_eq_true rfl) rfl rfl ?_
              refine oRun.goto 28 dX9_train_95 rfl ?_
              cases h
              refine oRun.sub [3, 4, 5, 1, 0] rfl ?_
              exact hc _ rfl
            · replace h := oIn c76 h
              refine oRun.icmp_ne_t 85 dX9_train_76 c76 rfl ?_
              refine oRun.iload_n 86 dX9_train_85 3 rfl rfl rfl ?_
              refine oRun.iconst 87 dX9_train_86 oc_i1 rfl ?_
              refine oRun.iload 89 dX9_train_87 0 rfl rfl ?_
              refine oRun.ishl 90 dX9_train_89 rfl ?_
              refine oRun.ior 91 dX9_train_90 rfl ?_
              obtain ⟨x2_91, hx2_91, h⟩ := oB1 h
              refine oRun.nameI hx2_91 ?_
              refine oRun.istore_n 92 dX9_train_91 rfl (Nat.le_of_ble_eq_true rfl) rfl rfl ?_
              refine oRun.iinc 95 dX9_train_92 5 rfl (oAddC oc_i1) (Nat.le_of_ble_eq_true rfl) rfl rfl ?_
              refine oRun.goto 28 dX9_train_95 rfl ?_
              cases h
              refine oRun.sub [3, 4, 1, 5, 0] rfl ?_
              exact hc _ rfl
      · replace h := oIn c39 h
        refine oRun.icmp_ne_t 98 dX9_train_39 c39 rfl ?_
        cases h
        refine oRun.sub [0, 1, 3] rfl ?_
        exact hx _ rfl
set_option maxRecDepth 100000 in
set_option maxHeartbeats 4000000 in
theorem E_X9_train_L122 {G : oG} {x1 : Int32} {x4 : Int32} {r : Option Value} {m' : oM} : ∀ (n : Nat) (x5 : Int32) (m : oM) (b : oM), oLoop (fun s : Int32 × oM => F_X9_train_L122 x1 x4 s.1 s.2) n (x5, m) = some b → oRun G M_X9_train 159 [(0, .ref 51), (1, .int x1), (4, .int x4)] [] b r m' → oRun G M_X9_train 122 [(0, .ref 51), (1, .int x1), (4, .int x4), (5, .int x5)] [] m r m' := by
  intro n
  induction n with
  | zero => intro x5 m b h _; exact (oLoop_zero h).elim
  | succ n ih =>
    intro x5 m b h he
    obtain ⟨q', hq', h⟩ := oLoop_succ h
    have hc : ∀ s' : Int32 × oM, q' = .inl s' → oRun G M_X9_train 122 [(0, .ref 51), (1, .int x1), (4, .int x4), (5, .int s'.1)] [] s'.2 r m' := by
      rintro s' rfl
      exact ih (s'.1) (s'.2) b h he
    have hx : ∀ b' : oM, q' = .inr b' → oRun G M_X9_train 159 [(0, .ref 51), (1, .int x1), (4, .int x4)] [] b' r m' := by
      rintro b' rfl
      have h : b' = b := h
      rw [h]
      exact he
    clear h he ih
    have h := hq'
    clear hq'
    replace h : F_X9_train_L122 x1 x4 x5 m = some q' := h
    unfold F_X9_train_L122 at h
    refine oRun.iload 124 dX9_train_122 3 rfl rfl ?_
    refine oRun.iload 126 dX9_train_124 2 rfl rfl ?_
    by_cases c126 : x4 ≤ x5
    · replace h := oIp c126 h
      refine oRun.icmp_ge_t 159 dX9_train_126 c126 rfl ?_
      cases h
      refine oRun.sub [0, 1, 2] rfl ?_
      exact hx _ rfl
    · replace h := oIn c126 h
      refine oRun.icmp_ge_f 129 dX9_train_126 rfl c126 rfl ?_
      refine oRun.aload_n 130 dX9_train_129 0 rfl rfl (Nat.le_of_ble_eq_true rfl) rfl ?_
      refine oRun.getR 133 dX9_train_130 fd_RX9_11 rfl rfl (Nat.le_of_ble_eq_true rfl) rfl ?_
      refine oRun.bipush 135 dX9_train_133 oc_b25 rfl ?_
      refine oRun.iconst 136 dX9_train_135 oc_i3 rfl ?_
      refine oRun.iload_n 137 dX9_train_136 1 rfl rfl rfl ?_
      refine oRun.imul 138 dX9_train_137 rfl ?_
      refine oRun.iadd 139 dX9_train_138 rfl ?_
      refine oRun.iload 141 dX9_train_139 3 rfl rfl ?_
      refine oRun.iadd 142 dX9_train_141 rfl ?_
      refine oRun.aload_n 143 dX9_train_142 0 rfl rfl (Nat.le_of_ble_eq_true rfl) rfl ?_
      refine oRun.getR 146 dX9_train_143 fd_RX9_21 rfl rfl (Nat.le_of_ble_eq_true rfl) rfl ?_
      refine oRun.iload 148 dX9_train_146 3 rfl rfl ?_
      obtain ⟨v148, hv148, h⟩ := oB1 h
      refine oRun.iaload 149 dX9_train_148 (Or.inr ⟨_, rfl⟩) hv148 rfl ?_
      refine oRun.bipush 151 dX9_train_149 oc_b97 rfl ?_
      refine oRun.isub 152 dX9_train_151 rfl ?_
      obtain ⟨m152, hm152, h⟩ := oB1 h
      refine oRun.iastore 153 dX9_train_152 rfl hm152 rfl ?_
      refine oRun.iinc 156 dX9_train_153 3 rfl (oAddC oc_i1) (Nat.le_of_ble_eq_true rfl) rfl rfl ?_
      refine oRun.goto 122 dX9_train_156 rfl ?_
      cases h
      refine oRun.sub [1, 2, 3, 0] rfl ?_
      exact hc _ rfl
set_option maxRecDepth 100000 in
set_option maxHeartbeats 4000000 in
theorem E_X9_train_J24 {G : oG} {m : oM} {x1 : Int32} {x2 : Int32} {t0 : Int32} {w : Int32 × oM} (h : F_X9_train_J24 m x1 x2 t0 = some w) : oRun G M_X9_train 24 [(0, .ref 51), (1, .int x1), (2, .int x2)] [.int t0] m (some (.int w.1)) w.2 := by
  unfold F_X9_train_J24 at h
  refine oRun.istore_n 25 dX9_train_24 rfl (Nat.le_of_ble_eq_true rfl) rfl rfl ?_
  refine oRun.iconst 26 dX9_train_25 oc_i0 rfl ?_
  refine oRun.istore 28 dX9_train_26 (Nat.le_of_ble_eq_true rfl) rfl rfl ?_
  obtain ⟨b28, hb28, h⟩ := oB1 h
  refine oRun.sub [2, 3, 4, 1, 0] rfl ?_
  refine E_X9_train_L28 _ _ _ _ _ hb28 ?_
  refine oRun.aload_n 99 dX9_train_98 0 rfl rfl (Nat.le_of_ble_eq_true rfl) rfl ?_
  refine oRun.getI 102 dX9_train_99 fd_RX9_92 rfl rfl rfl ?_
  obtain ⟨x4_102, hx4_102, h⟩ := oB1 h
  refine oRun.nameI hx4_102 ?_
  refine oRun.istore 104 dX9_train_102 (Nat.le_of_ble_eq_true rfl) rfl rfl ?_
  refine oRun.aload_n 105 dX9_train_104 1 rfl rfl (Nat.le_of_ble_eq_true rfl) rfl ?_
  refine oRun.iconst 106 dX9_train_105 oc_i0 rfl ?_
  obtain ⟨m106, hm106, h⟩ := oB1 h
  refine oRun.putI 109 dX9_train_106 fp_RX9_92 rfl rfl rfl ?_
  refine oRun.nameM hm106 ?_
  refine oRun.iload_n 110 dX9_train_109 3 rfl rfl rfl ?_
  refine oRun.iconst 111 dX9_train_110 oc_im1 rfl ?_
  by_cases c111 : b28 = (-1)
  · replace h := oIp c111 h
    refine oRun.icmp_eq_t 119 dX9_train_111 c111 rfl ?_
    refine oRun.iconst 120 dX9_train_119 oc_i0 rfl ?_
    refine oRun.istore 122 dX9_train_120 (Nat.le_of_ble_eq_true rfl) rfl rfl ?_
    obtain ⟨b122, hb122, h⟩ := oB1 h
    refine oRun.sub [2, 3, 1, 0] rfl ?_
    refine E_X9_train_L122 _ _ _ _ hb122 ?_
    refine oRun.aload_n 160 dX9_train_159 0 rfl rfl (Nat.le_of_ble_eq_true rfl) rfl ?_
    refine oRun.getR 163 dX9_train_160 fd_RX9_11 rfl rfl (Nat.le_of_ble_eq_true rfl) rfl ?_
    refine oRun.bipush 165 dX9_train_163 oc_b19 rfl ?_
    refine oRun.iload_n 166 dX9_train_165 1 rfl rfl rfl ?_
    refine oRun.iadd 167 dX9_train_166 rfl ?_
    refine oRun.iload 169 dX9_train_167 2 rfl rfl ?_
    obtain ⟨m169, hm169, h⟩ := oB1 h
    refine oRun.iastore 170 dX9_train_169 rfl hm169 rfl ?_
    refine oRun.iload 172 dX9_train_170 2 rfl rfl ?_
    rw [← Option.some.inj h]
    exact oRun.ret (r := some (.int x4_102)) dX9_train_172
  · replace h := oIn c111 h
    refine oRun.icmp_eq_f 114 dX9_train_111 rfl c111 rfl ?_
    refine oRun.bipush 116 dX9_train_114 oc_bm100 rfl ?_
    refine oRun.iload_n 117 dX9_train_116 3 rfl rfl rfl ?_
    refine oRun.isub 118 dX9_train_117 rfl ?_
    rw [← Option.some.inj h]
    exact oRun.ret (r := some (.int ((-100) - b28))) dX9_train_118
set_option maxRecDepth 100000 in
set_option maxHeartbeats 4000000 in
theorem E_X9_train {G : oG} {m : oM} {x1 : Int32} {w : Int32 × oM} (h : F_X9_train m x1 = some w) : oEv G M_X9_train [.ref 51, .int x1] m (some (.int w.1)) w.2 := by
  unfold F_X9_train at h
  refine ⟨?_, ?_⟩
  · show oRun G M_X9_train 0 [(0, .ref 51), (1, .int x1)] [] m (some (.int w.1)) w.2
    refine oRun.aload_n 1 dX9_train_0 0 rfl rfl (Nat.le_of_ble_eq_true rfl) rfl ?_
    refine oRun.iload_n 2 dX9_train_1 1 rfl rfl rfl ?_
    obtain ⟨r2, hr2, h⟩ := oB1 h
    refine oRun.callV (as := [.int x1]) 5 dX9_train_2 lk_RX9_62 (oFit_i (Nat.le_of_ble_eq_true rfl) (Nat.le_of_ble_eq_true rfl)) rfl rfl rfl rfl (Nat.le_of_ble_eq_true rfl) (Nat.le_of_ble_eq_true rfl) rfl (E_X9_isBody hr2) rfl ?_
    show oRun G _ 5 _ [.int r2] _ _ _
    by_cases c5 : r2 = 0
    · replace h := oIp c5 h
      refine oRun.if_ne_f 8 dX9_train_5 rfl c5 rfl ?_
      refine oRun.iconst 9 dX9_train_8 oc_im1 rfl ?_
      rw [← Option.some.inj h]
      exact oRun.ret (r := some (.int (-1))) dX9_train_9
    · replace h := oIn c5 h
      refine oRun.if_ne_t 10 dX9_train_5 c5 rfl ?_
      refine oRun.iconst 11 dX9_train_10 oc_i0 rfl ?_
      refine oRun.istore_n 12 dX9_train_11 rfl (Nat.le_of_ble_eq_true rfl) rfl rfl ?_
      refine oRun.aload_n 13 dX9_train_12 1 rfl rfl (Nat.le_of_ble_eq_true rfl) rfl ?_
      refine oRun.getI 16 dX9_train_13 fd_RX9_92 rfl rfl rfl ?_
      by_cases c16 : (m.1 51 8) = 0
      · replace h := oIp c16 h
        refine oRun.if_ne_f 19 dX9_train_16 rfl c16 rfl ?_
        refine oRun.iconst 20 dX9_train_19 oc_i0 rfl ?_
        refine oRun.goto 24 dX9_train_20 rfl ?_
        refine oRun.sub [1, 2, 0] rfl ?_
        exact E_X9_train_J24 h
      · replace h := oIn c16 h
        refine oRun.if_ne_t 23 dX9_train_16 c16 rfl ?_
        refine oRun.iconst 24 dX9_train_23 oc_im1 rfl ?_
        refine oRun.sub [1, 2, 0] rfl ?_
        exact E_X9_train_J24 h
  · exact True.intro
set_option maxRecDepth 100000 in
set_option maxHeartbeats 4000000 in
theorem E_X1_hasTrain {G : oG} {o : Nat} (ho : oOb o = true) {m : oM} {x1 : Int32} {w : Int32} (h : F_X1_hasTrain o m x1 = some w) : oEv G M_X1_hasTrain [.ref o, .int x1] m (some (.int w)) m := by
  unfold F_X1_hasTrain at h
  refine ⟨?_, ?_⟩
  · show oRun G M_X1_hasTrain 0 [(0, .ref o), (1, .int x1)] [] m (some (.int w)) m
    refine oRun.aload_n 1 dX1_hasTrain_0 0 rfl rfl (oLt66 (oO_lt ho)) rfl ?_
    refine oRun.iload_n 2 dX1_hasTrain_1 1 rfl rfl rfl ?_
    obtain ⟨r2, hr2, h⟩ := oB1 h
    refine oRun.callV (as := [.int x1]) 5 dX1_hasTrain_2 lk_RX1_70 (oFit_i (Nat.le_of_ble_eq_true rfl) (Nat.le_of_ble_eq_true rfl)) (oO_sh ho) rfl rfl rfl (Nat.le_of_ble_eq_true rfl) (Nat.le_of_ble_eq_true rfl) rfl (E_X1_hasBody ho hr2) rfl ?_
    show oRun G _ 5 _ [.int r2] _ _ _
    by_cases c5 : r2 = 0
    · replace h := oIp c5 h
      refine oRun.if_eq_t 23 dX1_hasTrain_5 c5 rfl ?_
      refine oRun.iconst 24 dX1_hasTrain_23 oc_i0 rfl ?_
      rw [← Option.some.inj h]
      exact oRun.ret (r := some (.int 0)) dX1_hasTrain_24
    · replace h := oIn c5 h
      refine oRun.if_eq_f 8 dX1_hasTrain_5 rfl c5 rfl ?_
      refine oRun.aload_n 9 dX1_hasTrain_8 0 rfl rfl (oLt66 (oO_lt ho)) rfl ?_
      refine oRun.getR 12 dX1_hasTrain_9 fd_RX1_38 (oO_sh ho) rfl (oO_l8 ho) rfl ?_
      refine oRun.iload_n 13 dX1_hasTrain_12 1 rfl rfl rfl ?_
      obtain ⟨r13, hr13, h⟩ := oB1 h
      refine oRun.callV (as := [.int x1]) 16 dX1_hasTrain_13 lk_RX1_74 (oFit_i (Nat.le_of_ble_eq_true rfl) (Nat.le_of_ble_eq_true rfl)) (oT_sh (oO_T ho)) rfl rfl rfl (Nat.le_of_ble_eq_true rfl) (Nat.le_of_ble_eq_true rfl) rfl (E_X7_length (oO_T ho) hr13) rfl ?_
      show oRun G _ 16 _ [.int r13] _ _ _
      by_cases c16 : r13 ≤ 0
      · replace h := oIp c16 h
        refine oRun.if_le_t 23 dX1_hasTrain_16 c16 rfl ?_
        refine oRun.iconst 24 dX1_hasTrain_23 oc_i0 rfl ?_
        rw [← Option.some.inj h]
        exact oRun.ret (r := some (.int 0)) dX1_hasTrain_24
      · replace h := oIn c16 h
        refine oRun.if_le_f 19 dX1_hasTrain_16 rfl c16 rfl ?_
        refine oRun.iconst 20 dX1_hasTrain_19 oc_i1 rfl ?_
        refine oRun.goto 24 dX1_hasTrain_20 rfl ?_
        rw [← Option.some.inj h]
        exact oRun.ret (r := some (.int 1)) dX1_hasTrain_24
  · show oROK (some .boolean) (some (.int w))
    obtain ⟨r2, hr2, h⟩ := oB1 h
    by_cases c5 : r2 = 0
    · replace h := oIp c5 h
      rw [← Option.some.inj h]
      exact Or.inl rfl
    · replace h := oIn c5 h
      obtain ⟨r13, hr13, h⟩ := oB1 h
      by_cases c16 : r13 ≤ 0
      · replace h := oIp c16 h
        rw [← Option.some.inj h]
        exact Or.inl rfl
      · replace h := oIn c16 h
        rw [← Option.some.inj h]
        exact Or.inr rfl
set_option maxRecDepth 100000 in
set_option maxHeartbeats 4000000 in
theorem E_X8_drop {G : oG} {m : oM} {x1 : Int32} {w : Int32 × oM} (h : F_X8_drop m x1 = some w) : oEv G M_X8_drop [.ref 0, .int x1] m (some (.int w.1)) w.2 := by
  unfold F_X8_drop at h
  refine ⟨?_, ?_⟩
  · show oRun G M_X8_drop 0 [(0, .ref 0), (1, .int x1)] [] m (some (.int w.1)) w.2
    refine oRun.aload_n 1 dX8_drop_0 0 rfl rfl (Nat.le_of_ble_eq_true rfl) rfl ?_
    refine oRun.getR 4 dX8_drop_1 fd_RX8_12 rfl rfl (Nat.le_of_ble_eq_true rfl) rfl ?_
    refine oRun.iload_n 5 dX8_drop_4 1 rfl rfl rfl ?_
    obtain ⟨r5, hr5, h⟩ := oB1 h
    refine oRun.callV (as := [.int x1]) 8 dX8_drop_5 lk_RX8_68 (oFit_i (Nat.le_of_ble_eq_true rfl) (Nat.le_of_ble_eq_true rfl)) rfl rfl rfl rfl (Nat.le_of_ble_eq_true rfl) (Nat.le_of_ble_eq_true rfl) rfl (E_X1_hasBody rfl hr5) rfl ?_
    show oRun G _ 8 _ [.int r5] _ _ _
    by_cases c8 : r5 = 0
    · replace h := oIp c8 h
      refine oRun.if_ne_f 11 dX8_drop_8 rfl c8 rfl ?_
      refine oRun.iconst 12 dX8_drop_11 oc_im1 rfl ?_
      rw [← Option.some.inj h]
      exact oRun.ret (r := some (.int (-1))) dX8_drop_12
    · replace h := oIn c8 h
      refine oRun.if_ne_t 13 dX8_drop_8 c8 rfl ?_
      refine oRun.aload_n 14 dX8_drop_13 0 rfl rfl (Nat.le_of_ble_eq_true rfl) rfl ?_
      refine oRun.getR 17 dX8_drop_14 fd_RX8_12 rfl rfl (Nat.le_of_ble_eq_true rfl) rfl ?_
      refine oRun.iload_n 18 dX8_drop_17 1 rfl rfl rfl ?_
      obtain ⟨r18, hr18, h⟩ := oB1 h
      refine oRun.callV (as := [.int x1]) 21 dX8_drop_18 lk_RX8_192 (oFit_i (Nat.le_of_ble_eq_true rfl) (Nat.le_of_ble_eq_true rfl)) rfl rfl rfl rfl (Nat.le_of_ble_eq_true rfl) (Nat.le_of_ble_eq_true rfl) rfl (E_X1_hasTrain rfl hr18) rfl ?_
      show oRun G _ 21 _ [.int r18] _ _ _
      by_cases c21 : r18 = 0
      · replace h := oIp c21 h
        refine oRun.if_ne_f 24 dX8_drop_21 rfl c21 rfl ?_
        refine oRun.bipush 26 dX8_drop_24 oc_bm3 rfl ?_
        rw [← Option.some.inj h]
        exact oRun.ret (r := some (.int (-3))) dX8_drop_26
      · replace h := oIn c21 h
        refine oRun.if_ne_t 27 dX8_drop_21 c21 rfl ?_
        refine oRun.aload_n 28 dX8_drop_27 0 rfl rfl (Nat.le_of_ble_eq_true rfl) rfl ?_
        refine oRun.getR 31 dX8_drop_28 fd_RX8_12 rfl rfl (Nat.le_of_ble_eq_true rfl) rfl ?_
        refine oRun.getR 34 dX8_drop_31 fd_RX8_170 rfl rfl (Nat.le_of_ble_eq_true rfl) rfl ?_
        refine oRun.iload_n 35 dX8_drop_34 1 rfl rfl rfl ?_
        obtain ⟨r35, hr35, h⟩ := oB1 h
        refine oRun.callV (as := [.int x1]) 38 dX8_drop_35 lk_RX8_195 (oFit_i (Nat.le_of_ble_eq_true rfl) (Nat.le_of_ble_eq_true rfl)) rfl rfl rfl rfl (Nat.le_of_ble_eq_true rfl) (Nat.le_of_ble_eq_true rfl) rfl (E_X7_length rfl hr35) rfl ?_
        show oRun G _ 38 _ [.int r35] _ _ _
        refine oRun.istore_n 39 dX8_drop_38 rfl (Nat.le_of_ble_eq_true rfl) rfl rfl ?_
        refine oRun.aload_n 40 dX8_drop_39 1 rfl rfl (Nat.le_of_ble_eq_true rfl) rfl ?_
        refine oRun.getR 43 dX8_drop_40 fd_RX8_12 rfl rfl (Nat.le_of_ble_eq_true rfl) rfl ?_
        refine oRun.getR 46 dX8_drop_43 fd_RX8_170 rfl rfl (Nat.le_of_ble_eq_true rfl) rfl ?_
        refine oRun.iload_n 47 dX8_drop_46 2 rfl rfl rfl ?_
        refine oRun.iconst 48 dX8_drop_47 oc_i0 rfl ?_
        obtain ⟨r48, hr48, h⟩ := oB1 h
        refine oRun.callV (as := [.int x1, .int 0]) 51 dX8_drop_48 lk_RX8_182 (oFit_i (Nat.le_of_ble_eq_true rfl) (Nat.le_of_ble_eq_true rfl)) rfl rfl rfl rfl (Nat.le_of_ble_eq_true rfl) (Nat.le_of_ble_eq_true rfl) rfl (E_X7_cut rfl hr48) rfl ?_
        show oRun G _ 51 _ [] _ _ _
        refine oRun.iload_n 52 dX8_drop_51 0 rfl rfl rfl ?_
        rw [← Option.some.inj h]
        exact oRun.ret (r := some (.int r35)) dX8_drop_52
  · exact True.intro
set_option maxRecDepth 100000 in
set_option maxHeartbeats 4000000 in
theorem E_X9_drop {G : oG} {m : oM} {x1 : Int32} {w : Int32 × oM} (h : F_X9_drop m x1 = some w) : oEv G M_X9_drop [.ref 51, .int x1] m (some (.int w.1)) w.2 := by
  unfold F_X9_drop at h
  refine ⟨?_, ?_⟩
  · show oRun G M_X9_drop 0 [(0, .ref 51), (1, .int x1)] [] m (some (.int w.1)) w.2
    refine oRun.aload_n 1 dX9_drop_0 0 rfl rfl (Nat.le_of_ble_eq_true rfl) rfl ?_
    refine oRun.iload_n 2 dX9_drop_1 1 rfl rfl rfl ?_
    obtain ⟨r2, hr2, h⟩ := oB1 h
    refine oRun.callV (as := [.int x1]) 5 dX9_drop_2 lk_RX9_62 (oFit_i (Nat.le_of_ble_eq_true rfl) (Nat.le_of_ble_eq_true rfl)) rfl rfl rfl rfl (Nat.le_of_ble_eq_true rfl) (Nat.le_of_ble_eq_true rfl) rfl (E_X9_isBody hr2) rfl ?_
    show oRun G _ 5 _ [.int r2] _ _ _
    by_cases c5 : r2 = 0
    · replace h := oIp c5 h
      refine oRun.if_ne_f 8 dX9_drop_5 rfl c5 rfl ?_
      refine oRun.iconst 9 dX9_drop_8 oc_im1 rfl ?_
      rw [← Option.some.inj h]
      exact oRun.ret (r := some (.int (-1))) dX9_drop_9
    · replace h := oIn c5 h
      refine oRun.if_ne_t 10 dX9_drop_5 c5 rfl ?_
      refine oRun.aload_n 11 dX9_drop_10 0 rfl rfl (Nat.le_of_ble_eq_true rfl) rfl ?_
      refine oRun.getR 14 dX9_drop_11 fd_RX9_11 rfl rfl (Nat.le_of_ble_eq_true rfl) rfl ?_
      refine oRun.bipush 16 dX9_drop_14 oc_b19 rfl ?_
      refine oRun.iload_n 17 dX9_drop_16 1 rfl rfl rfl ?_
      refine oRun.iadd 18 dX9_drop_17 rfl ?_
      obtain ⟨v18, hv18, h⟩ := oB1 h
      refine oRun.iaload 19 dX9_drop_18 (Or.inr ⟨_, rfl⟩) hv18 rfl ?_
      refine oRun.istore_n 20 dX9_drop_19 rfl (Nat.le_of_ble_eq_true rfl) rfl rfl ?_
      refine oRun.iload_n 21 dX9_drop_20 0 rfl rfl rfl ?_
      by_cases c21 : v18 = 0
      · replace h := oIp c21 h
        refine oRun.if_ne_f 24 dX9_drop_21 rfl c21 rfl ?_
        refine oRun.bipush 26 dX9_drop_24 oc_bm3 rfl ?_
        rw [← Option.some.inj h]
        exact oRun.ret (r := some (.int (-3))) dX9_drop_26
      · replace h := oIn c21 h
        refine oRun.if_ne_t 27 dX9_drop_21 c21 rfl ?_
        refine oRun.aload_n 28 dX9_drop_27 1 rfl rfl (Nat.le_of_ble_eq_true rfl) rfl ?_
        refine oRun.getR 31 dX9_drop_28 fd_RX9_11 rfl rfl (Nat.le_of_ble_eq_true rfl) rfl ?_
        refine oRun.bipush 33 dX9_drop_31 oc_b19 rfl ?_
        refine oRun.iload_n 34 dX9_drop_33 2 rfl rfl rfl ?_
        refine oRun.iadd 35 dX9_drop_34 rfl ?_
        refine oRun.iconst 36 dX9_drop_35 oc_i0 rfl ?_
        obtain ⟨m36, hm36, h⟩ := oB1 h
        refine oRun.iastore 37 dX9_drop_36 rfl hm36 rfl ?_
        refine oRun.iload_n 38 dX9_drop_37 0 rfl rfl rfl ?_
        rw [← Option.some.inj h]
        exact oRun.ret (r := some (.int v18)) dX9_drop_38
  · exact True.intro
set_option maxRecDepth 100000 in
set_option maxHeartbeats 4000000 in
theorem E_X8_asksPlace {G : oG} {m : oM} {x0 : Int32} {w : Int32} (h : F_X8_asksPlace x0 = some w) : oEv G M_X8_asksPlace [.int x0] m (some (.int w)) m := by
  unfold F_X8_asksPlace at h
  refine ⟨?_, ?_⟩
  · show oRun G M_X8_asksPlace 0 [(0, .int x0)] [] m (some (.int w)) m
    refine oRun.iload_n 1 dX8_asksPlace_0 0 rfl rfl rfl ?_
    refine oRun.bipush 3 dX8_asksPlace_1 oc_b10 rfl ?_
    by_cases c3 : x0 < 10
    · replace h := oIp c3 h
      refine oRun.icmp_lt_t 16 dX8_asksPlace_3 c3 rfl ?_
      refine oRun.iconst 17 dX8_asksPlace_16 oc_i0 rfl ?_
      rw [← Option.some.inj h]
      exact oRun.ret (r := some (.int 0)) dX8_asksPlace_17
    · replace h := oIn c3 h
      refine oRun.icmp_lt_f 6 dX8_asksPlace_3 rfl c3 rfl ?_
      refine oRun.iload_n 7 dX8_asksPlace_6 0 rfl rfl rfl ?_
      refine oRun.bipush 9 dX8_asksPlace_7 oc_b13 rfl ?_
      by_cases c9 : 13 ≤ x0
      · replace h := oIp c9 h
        refine oRun.icmp_ge_t 16 dX8_asksPlace_9 c9 rfl ?_
        refine oRun.iconst 17 dX8_asksPlace_16 oc_i0 rfl ?_
        rw [← Option.some.inj h]
        exact oRun.ret (r := some (.int 0)) dX8_asksPlace_17
      · replace h := oIn c9 h
        refine oRun.icmp_ge_f 12 dX8_asksPlace_9 rfl c9 rfl ?_
        refine oRun.iconst 13 dX8_asksPlace_12 oc_i1 rfl ?_
        refine oRun.goto 17 dX8_asksPlace_13 rfl ?_
        rw [← Option.some.inj h]
        exact oRun.ret (r := some (.int 1)) dX8_asksPlace_17
  · show oROK (some .boolean) (some (.int w))
    by_cases c3 : x0 < 10
    · replace h := oIp c3 h
      rw [← Option.some.inj h]
      exact Or.inl rfl
    · replace h := oIn c3 h
      by_cases c9 : 13 ≤ x0
      · replace h := oIp c9 h
        rw [← Option.some.inj h]
        exact Or.inl rfl
      · replace h := oIn c9 h
        rw [← Option.some.inj h]
        exact Or.inr rfl
set_option maxRecDepth 100000 in
set_option maxHeartbeats 4000000 in
theorem E_X1_isRound_L4 {G : oG} {o : Nat} (ho : oOb o = true) {m : oM} {x1 : Int32} {r : Option Value} {m' : oM} : ∀ (n : Nat) (x2 : Int32) (x3 : Int32) (b : Int32), oLoop (fun s : Int32 × Int32 => F_X1_isRound_L4 o m x1 s.1 s.2) n (x2, x3) = some b → oRun G M_X1_isRound 51 [(2, .int b)] [] m r m' → oRun G M_X1_isRound 4 [(0, .ref o), (1, .int x1), (2, .int x2), (3, .int x3)] [] m r m' := by
  intro n
  induction n with
  | zero => intro x2 x3 b h _; exact (oLoop_zero h).elim
  | succ n ih =>
    intro x2 x3 b h he
    obtain ⟨q', hq', h⟩ := oLoop_succ h
    have hc : ∀ s' : Int32 × Int32, q' = .inl s' → oRun G M_X1_isRound 4 [(0, .ref o), (1, .int x1), (2, .int s'.1), (3, .int s'.2)] [] m r m' := by
      rintro s' rfl
      exact ih (s'.1) (s'.2) b h he
    have hx : ∀ b' : Int32, q' = .inr b' → oRun G M_X1_isRound 51 [(2, .int b')] [] m r m' := by
      rintro b' rfl
      have h : b' = b := h
      rw [h]
      exact he
    clear h he ih
    have h := hq'
    clear hq'
    replace h : F_X1_isRound_L4 o m x1 x2 x3 = some q' := h
    unfold F_X1_isRound_L4 at h
    refine oRun.iload_n 5 dX1_isRound_4 3 rfl rfl rfl ?_
    refine oRun.aload_n 6 dX1_isRound_5 0 rfl rfl (oLt66 (oO_lt ho)) rfl ?_
    refine oRun.getR 9 dX1_isRound_6 fd_RX1_38 (oO_sh ho) rfl (oO_l8 ho) rfl ?_
    refine oRun.iload_n 10 dX1_isRound_9 1 rfl rfl rfl ?_
    obtain ⟨r10, hr10, h⟩ := oB1 h
    refine oRun.callV (as := [.int x1]) 13 dX1_isRound_10 lk_RX1_74 (oFit_i (Nat.le_of_ble_eq_true rfl) (Nat.le_of_ble_eq_true rfl)) (oT_sh (oO_T ho)) rfl rfl rfl (Nat.le_of_ble_eq_true rfl) (Nat.le_of_ble_eq_true rfl) rfl (E_X7_length (oO_T ho) hr10) rfl ?_
    show oRun G _ 13 _ [.int r10, .int x3] _ _ _
    by_cases c13 : r10 ≤ x3
    · replace h := oIp c13 h
      refine oRun.icmp_ge_t 51 dX1_isRound_13 c13 rfl ?_
      cases h
      refine oRun.sub [2] rfl ?_
      exact hx _ rfl
    · replace h := oIn c13 h
      refine oRun.icmp_ge_f 16 dX1_isRound_13 rfl c13 rfl ?_
      refine oRun.aload_n 17 dX1_isRound_16 0 rfl rfl (oLt66 (oO_lt ho)) rfl ?_
      refine oRun.getR 20 dX1_isRound_17 fd_RX1_31 (oO_sh ho) rfl (oO_l3 ho) rfl ?_
      refine oRun.aload_n 21 dX1_isRound_20 0 rfl rfl (oLt66 (oO_lt ho)) rfl ?_
      refine oRun.getR 24 dX1_isRound_21 fd_RX1_38 (oO_sh ho) rfl (oO_l8 ho) rfl ?_
      refine oRun.iload_n 25 dX1_isRound_24 1 rfl rfl rfl ?_
      refine oRun.iload_n 26 dX1_isRound_25 3 rfl rfl rfl ?_
      obtain ⟨r26, hr26, h⟩ := oB1 h
      refine oRun.callV (as := [.int x1, .int x3]) 29 dX1_isRound_26 lk_RX1_89 (oFit_i (Nat.le_of_ble_eq_true rfl) (Nat.le_of_ble_eq_true rfl)) (oT_sh (oO_T ho)) rfl rfl rfl (Nat.le_of_ble_eq_true rfl) (Nat.le_of_ble_eq_true rfl) rfl (E_X7_pairAt (oO_T ho) hr26) rfl ?_
      show oRun G _ 29 _ [.int r26, .ref (o + 3)] _ _ _
      obtain ⟨r29, hr29, h⟩ := oB1 h
      refine oRun.callV (as := [.int r26]) 32 dX1_isRound_29 lk_RX1_105 (oFit_i (Nat.le_of_ble_eq_true rfl) (Nat.le_of_ble_eq_true rfl)) (oP_sh (oO_P ho)) rfl rfl rfl (Nat.le_of_ble_eq_true rfl) (Nat.le_of_ble_eq_true rfl) rfl (E_X2_goesRound (oO_P ho) hr29) rfl ?_
      show oRun G _ 32 _ [.int r29] _ _ _
      by_cases c32 : r29 = 0
      · replace h := oIp c32 h
        refine oRun.if_eq_t 45 dX1_isRound_32 c32 rfl ?_
        refine oRun.iinc 48 dX1_isRound_45 3 rfl (oAddC oc_i1) (Nat.le_of_ble_eq_true rfl) rfl rfl ?_
        refine oRun.goto 4 dX1_isRound_48 rfl ?_
        cases h
        refine oRun.sub [1, 2, 3, 0] rfl ?_
        exact hc _ rfl
      · replace h := oIn c32 h
        refine oRun.if_eq_f 35 dX1_isRound_32 rfl c32 rfl ?_
        refine oRun.iload_n 36 dX1_isRound_35 2 rfl rfl rfl ?_
        by_cases c36 : x2 = 0
        · replace h := oIp c36 h
          refine oRun.if_ne_f 39 dX1_isRound_36 rfl c36 rfl ?_
          refine oRun.iconst 40 dX1_isRound_39 oc_i1 rfl ?_
          refine oRun.goto 44 dX1_isRound_40 rfl ?_
          refine oRun.istore_n 45 dX1_isRound_44 rfl (Nat.le_of_ble_eq_true rfl) rfl rfl ?_
          refine oRun.iinc 48 dX1_isRound_45 3 rfl (oAddC oc_i1) (Nat.le_of_ble_eq_true rfl) rfl rfl ?_
          refine oRun.goto 4 dX1_isRound_48 rfl ?_
          cases h
          refine oRun.sub [2, 3, 1, 0] rfl ?_
          exact hc _ rfl
        · replace h := oIn c36 h
          refine oRun.if_ne_t 43 dX1_isRound_36 c36 rfl ?_
          refine oRun.iconst 44 dX1_isRound_43 oc_i0 rfl ?_
          refine oRun.istore_n 45 dX1_isRound_44 rfl (Nat.le_of_ble_eq_true rfl) rfl rfl ?_
          refine oRun.iinc 48 dX1_isRound_45 3 rfl (oAddC oc_i1) (Nat.le_of_ble_eq_true rfl) rfl rfl ?_
          refine oRun.goto 4 dX1_isRound_48 rfl ?_
          cases h
          refine oRun.sub [2, 3, 1, 0] rfl ?_
          exact hc _ rfl
set_option maxRecDepth 100000 in
set_option maxHeartbeats 4000000 in
theorem E_X1_isRound {G : oG} {o : Nat} (ho : oOb o = true) {m : oM} {x1 : Int32} {w : Int32} (h : F_X1_isRound o m x1 = some w) : oEv G M_X1_isRound [.ref o, .int x1] m (some (.int w)) m := by
  unfold F_X1_isRound at h
  refine ⟨?_, ?_⟩
  · show oRun G M_X1_isRound 0 [(0, .ref o), (1, .int x1)] [] m (some (.int w)) m
    refine oRun.iconst 1 dX1_isRound_0 oc_i0 rfl ?_
    refine oRun.istore_n 2 dX1_isRound_1 rfl (Nat.le_of_ble_eq_true rfl) rfl rfl ?_
    refine oRun.iconst 3 dX1_isRound_2 oc_i0 rfl ?_
    refine oRun.istore_n 4 dX1_isRound_3 rfl (Nat.le_of_ble_eq_true rfl) rfl rfl ?_
    obtain ⟨b4, hb4, h⟩ := oB1 h
    refine oRun.sub [2, 3, 1, 0] rfl ?_
    refine E_X1_isRound_L4 ho _ _ _ _ hb4 ?_
    refine oRun.iload_n 52 dX1_isRound_51 0 rfl rfl rfl ?_
    rw [oZ_eq h]
    exact oRun.ret (r := some (.int b4)) dX1_isRound_52
  · show oROK (some .boolean) (some (.int w))
    obtain ⟨b4, hb4, h⟩ := oB1 h
    exact oZ_ok h
set_option maxRecDepth 100000 in
set_option maxHeartbeats 4000000 in
theorem E_X8_of_J29 {G : oG} {m : oM} {x1 : Int32} {x2 : Int32} {w : Int32} (h : F_X8_of_J29 m x1 x2 = some w) : oRun G M_X8_of 29 [(0, .ref 0), (1, .int x1), (2, .int x2)] [] m (some (.int w)) m := by
  unfold F_X8_of_J29 at h
  refine oRun.iload_n 30 dX8_of_29 2 rfl rfl rfl ?_
  by_cases c30 : x2 = 0
  · replace h := oIp c30 h
    refine oRun.if_ne_f 33 dX8_of_30 rfl c30 rfl ?_
    refine oRun.aload_n 34 dX8_of_33 0 rfl rfl (Nat.le_of_ble_eq_true rfl) rfl ?_
    refine oRun.getR 37 dX8_of_34 fd_RX8_12 rfl rfl (Nat.le_of_ble_eq_true rfl) rfl ?_
    refine oRun.getR 40 dX8_of_37 fd_RX8_170 rfl rfl (Nat.le_of_ble_eq_true rfl) rfl ?_
    refine oRun.iload_n 41 dX8_of_40 1 rfl rfl rfl ?_
    obtain ⟨r41, hr41, h⟩ := oB1 h
    refine oRun.callV (as := [.int x1]) 44 dX8_of_41 lk_RX8_195 (oFit_i (Nat.le_of_ble_eq_true rfl) (Nat.le_of_ble_eq_true rfl)) rfl rfl rfl rfl (Nat.le_of_ble_eq_true rfl) (Nat.le_of_ble_eq_true rfl) rfl (E_X7_length rfl hr41) rfl ?_
    show oRun G _ 44 _ [.int r41] _ _ _
    rw [← Option.some.inj h]
    exact oRun.ret (r := some (.int r41)) dX8_of_44
  · replace h := oIn c30 h
    refine oRun.if_ne_t 45 dX8_of_30 c30 rfl ?_
    refine oRun.iload_n 46 dX8_of_45 2 rfl rfl rfl ?_
    refine oRun.iconst 47 dX8_of_46 oc_i1 rfl ?_
    by_cases c47 : x2 = 1
    · replace h := oIp c47 h
      refine oRun.icmp_ne_f 50 dX8_of_47 rfl c47 rfl ?_
      refine oRun.aload_n 51 dX8_of_50 0 rfl rfl (Nat.le_of_ble_eq_true rfl) rfl ?_
      refine oRun.getR 54 dX8_of_51 fd_RX8_12 rfl rfl (Nat.le_of_ble_eq_true rfl) rfl ?_
      refine oRun.iload_n 55 dX8_of_54 1 rfl rfl rfl ?_
      obtain ⟨r55, hr55, h⟩ := oB1 h
      refine oRun.callV (as := [.int x1]) 58 dX8_of_55 lk_RX8_200 (oFit_i (Nat.le_of_ble_eq_true rfl) (Nat.le_of_ble_eq_true rfl)) rfl rfl rfl rfl (Nat.le_of_ble_eq_true rfl) (Nat.le_of_ble_eq_true rfl) rfl (E_X1_isRound rfl hr55) rfl ?_
      show oRun G _ 58 _ [.int r55] _ _ _
      by_cases c58 : r55 = 0
      · replace h := oIp c58 h
        refine oRun.if_eq_t 65 dX8_of_58 c58 rfl ?_
        refine oRun.iconst 66 dX8_of_65 oc_i0 rfl ?_
        rw [← Option.some.inj h]
        exact oRun.ret (r := some (.int 0)) dX8_of_66
      · replace h := oIn c58 h
        refine oRun.if_eq_f 61 dX8_of_58 rfl c58 rfl ?_
        refine oRun.iconst 62 dX8_of_61 oc_i1 rfl ?_
        refine oRun.goto 66 dX8_of_62 rfl ?_
        rw [← Option.some.inj h]
        exact oRun.ret (r := some (.int 1)) dX8_of_66
    · replace h := oIn c47 h
      refine oRun.icmp_ne_t 67 dX8_of_47 c47 rfl ?_
      refine oRun.iload_n 68 dX8_of_67 2 rfl rfl rfl ?_
      refine oRun.bipush 70 dX8_of_68 oc_b10 rfl ?_
      refine oRun.isub 71 dX8_of_70 rfl ?_
      refine oRun.aload_n 72 dX8_of_71 0 rfl rfl (Nat.le_of_ble_eq_true rfl) rfl ?_
      refine oRun.getR 75 dX8_of_72 fd_RX8_12 rfl rfl (Nat.le_of_ble_eq_true rfl) rfl ?_
      refine oRun.getR 78 dX8_of_75 fd_RX8_170 rfl rfl (Nat.le_of_ble_eq_true rfl) rfl ?_
      refine oRun.iload_n 79 dX8_of_78 1 rfl rfl rfl ?_
      obtain ⟨r79, hr79, h⟩ := oB1 h
      refine oRun.callV (as := [.int x1]) 82 dX8_of_79 lk_RX8_195 (oFit_i (Nat.le_of_ble_eq_true rfl) (Nat.le_of_ble_eq_true rfl)) rfl rfl rfl rfl (Nat.le_of_ble_eq_true rfl) (Nat.le_of_ble_eq_true rfl) rfl (E_X7_length rfl hr79) rfl ?_
      show oRun G _ 82 _ [.int r79, .int (x2 - 10)] _ _ _
      by_cases c82 : r79 ≤ (x2 - 10)
      · replace h := oIp c82 h
        refine oRun.icmp_ge_t 103 dX8_of_82 c82 rfl ?_
        refine oRun.bipush 105 dX8_of_103 oc_bm5 rfl ?_
        rw [← Option.some.inj h]
        exact oRun.ret (r := some (.int (-5))) dX8_of_105
      · replace h := oIn c82 h
        refine oRun.icmp_ge_f 85 dX8_of_82 rfl c82 rfl ?_
        refine oRun.aload_n 86 dX8_of_85 0 rfl rfl (Nat.le_of_ble_eq_true rfl) rfl ?_
        refine oRun.getR 89 dX8_of_86 fd_RX8_12 rfl rfl (Nat.le_of_ble_eq_true rfl) rfl ?_
        refine oRun.getR 92 dX8_of_89 fd_RX8_170 rfl rfl (Nat.le_of_ble_eq_true rfl) rfl ?_
        refine oRun.iload_n 93 dX8_of_92 1 rfl rfl rfl ?_
        refine oRun.iload_n 94 dX8_of_93 2 rfl rfl rfl ?_
        refine oRun.bipush 96 dX8_of_94 oc_b10 rfl ?_
        refine oRun.isub 97 dX8_of_96 rfl ?_
        obtain ⟨r97, hr97, h⟩ := oB1 h
        refine oRun.callV (as := [.int x1, .int (x2 - 10)]) 100 dX8_of_97 lk_RX8_203 (oFit_i (Nat.le_of_ble_eq_true rfl) (Nat.le_of_ble_eq_true rfl)) rfl rfl rfl rfl (Nat.le_of_ble_eq_true rfl) (Nat.le_of_ble_eq_true rfl) rfl (E_X7_pairAt rfl hr97) rfl ?_
        show oRun G _ 100 _ [.int r97] _ _ _
        refine oRun.goto 105 dX8_of_100 rfl ?_
        rw [← Option.some.inj h]
        exact oRun.ret (r := some (.int r97)) dX8_of_105
set_option maxRecDepth 100000 in
set_option maxHeartbeats 4000000 in
theorem E_X8_of {G : oG} {m : oM} {x1 : Int32} {x2 : Int32} {w : Int32} (h : F_X8_of m x1 x2 = some w) : oEv G M_X8_of [.ref 0, .int x1, .int x2] m (some (.int w)) m := by
  unfold F_X8_of at h
  refine ⟨?_, ?_⟩
  · show oRun G M_X8_of 0 [(0, .ref 0), (1, .int x1), (2, .int x2)] [] m (some (.int w)) m
    refine oRun.aload_n 1 dX8_of_0 0 rfl rfl (Nat.le_of_ble_eq_true rfl) rfl ?_
    refine oRun.getR 4 dX8_of_1 fd_RX8_12 rfl rfl (Nat.le_of_ble_eq_true rfl) rfl ?_
    refine oRun.iload_n 5 dX8_of_4 1 rfl rfl rfl ?_
    obtain ⟨r5, hr5, h⟩ := oB1 h
    refine oRun.callV (as := [.int x1]) 8 dX8_of_5 lk_RX8_68 (oFit_i (Nat.le_of_ble_eq_true rfl) (Nat.le_of_ble_eq_true rfl)) rfl rfl rfl rfl (Nat.le_of_ble_eq_true rfl) (Nat.le_of_ble_eq_true rfl) rfl (E_X1_hasBody rfl hr5) rfl ?_
    show oRun G _ 8 _ [.int r5] _ _ _
    by_cases c8 : r5 = 0
    · replace h := oIp c8 h
      refine oRun.if_eq_t 27 dX8_of_8 c8 rfl ?_
      refine oRun.iconst 28 dX8_of_27 oc_im1 rfl ?_
      rw [← Option.some.inj h]
      exact oRun.ret (r := some (.int (-1))) dX8_of_28
    · replace h := oIn c8 h
      refine oRun.if_eq_f 11 dX8_of_8 rfl c8 rfl ?_
      refine oRun.iload_n 12 dX8_of_11 2 rfl rfl rfl ?_
      by_cases c12 : x2 = 0
      · replace h := oIp c12 h
        refine oRun.if_eq_t 29 dX8_of_12 c12 rfl ?_
        refine oRun.sub [0, 1, 2] rfl ?_
        exact E_X8_of_J29 h
      · replace h := oIn c12 h
        refine oRun.if_eq_f 15 dX8_of_12 rfl c12 rfl ?_
        refine oRun.iload_n 16 dX8_of_15 2 rfl rfl rfl ?_
        refine oRun.iconst 17 dX8_of_16 oc_i1 rfl ?_
        by_cases c17 : x2 = 1
        · replace h := oIp c17 h
          refine oRun.icmp_eq_t 29 dX8_of_17 c17 rfl ?_
          refine oRun.sub [0, 1, 2] rfl ?_
          exact E_X8_of_J29 h
        · replace h := oIn c17 h
          refine oRun.icmp_eq_f 20 dX8_of_17 rfl c17 rfl ?_
          refine oRun.iload_n 21 dX8_of_20 2 rfl rfl rfl ?_
          obtain ⟨r21, hr21, h⟩ := oB1 h
          refine oRun.callS (as := [.int x2]) 24 dX8_of_21 lk_RX8_197 (oFit_i (Nat.le_of_ble_eq_true rfl) (Nat.le_of_ble_eq_true rfl)) rfl (Nat.le_of_ble_eq_true rfl) (Nat.le_of_ble_eq_true rfl) rfl (E_X8_asksPlace hr21) rfl ?_
          show oRun G _ 24 _ [.int r21] _ _ _
          by_cases c24 : r21 = 0
          · replace h := oIp c24 h
            refine oRun.if_ne_f 27 dX8_of_24 rfl c24 rfl ?_
            refine oRun.iconst 28 dX8_of_27 oc_im1 rfl ?_
            rw [← Option.some.inj h]
            exact oRun.ret (r := some (.int (-1))) dX8_of_28
          · replace h := oIn c24 h
            refine oRun.if_ne_t 29 dX8_of_24 c24 rfl ?_
            refine oRun.sub [0, 1, 2] rfl ?_
            exact E_X8_of_J29 h
  · exact True.intro
set_option maxRecDepth 100000 in
set_option maxHeartbeats 4000000 in
theorem E_X9_isRound_L4 {G : oG} {m : oM} {x1 : Int32} {r : Option Value} {m' : oM} : ∀ (n : Nat) (x2 : Int32) (x3 : Int32) (b : Int32), oLoop (fun s : Int32 × Int32 => F_X9_isRound_L4 m x1 s.1 s.2) n (x2, x3) = some b → oRun G M_X9_isRound 49 [(2, .int b)] [] m r m' → oRun G M_X9_isRound 4 [(0, .ref 51), (1, .int x1), (2, .int x2), (3, .int x3)] [] m r m' := by
  intro n
  induction n with
  | zero => intro x2 x3 b h _; exact (oLoop_zero h).elim
  | succ n ih =>
    intro x2 x3 b h he
    obtain ⟨q', hq', h⟩ := oLoop_succ h
    have hc : ∀ s' : Int32 × Int32, q' = .inl s' → oRun G M_X9_isRound 4 [(0, .ref 51), (1, .int x1), (2, .int s'.1), (3, .int s'.2)] [] m r m' := by
      rintro s' rfl
      exact ih (s'.1) (s'.2) b h he
    have hx : ∀ b' : Int32, q' = .inr b' → oRun G M_X9_isRound 49 [(2, .int b')] [] m r m' := by
      rintro b' rfl
      have h : b' = b := h
      rw [h]
      exact he
    clear h he ih
    have h := hq'
    clear hq'
    replace h : F_X9_isRound_L4 m x1 x2 x3 = some q' := h
    unfold F_X9_isRound_L4 at h
    refine oRun.iload_n 5 dX9_isRound_4 3 rfl rfl rfl ?_
    refine oRun.aload_n 6 dX9_isRound_5 0 rfl rfl (Nat.le_of_ble_eq_true rfl) rfl ?_
    refine oRun.getR 9 dX9_isRound_6 fd_RX9_11 rfl rfl (Nat.le_of_ble_eq_true rfl) rfl ?_
    refine oRun.bipush 11 dX9_isRound_9 oc_b19 rfl ?_
    refine oRun.iload_n 12 dX9_isRound_11 1 rfl rfl rfl ?_
    refine oRun.iadd 13 dX9_isRound_12 rfl ?_
    obtain ⟨v13, hv13, h⟩ := oB1 h
    refine oRun.iaload 14 dX9_isRound_13 (Or.inr ⟨_, rfl⟩) hv13 rfl ?_
    by_cases c14 : v13 ≤ x3
    · replace h := oIp c14 h
      refine oRun.icmp_ge_t 49 dX9_isRound_14 c14 rfl ?_
      cases h
      refine oRun.sub [2] rfl ?_
      exact hx _ rfl
    · replace h := oIn c14 h
      refine oRun.icmp_ge_f 17 dX9_isRound_14 rfl c14 rfl ?_
      refine oRun.iload_n 18 dX9_isRound_17 2 rfl rfl rfl ?_
      refine oRun.aload_n 19 dX9_isRound_18 0 rfl rfl (Nat.le_of_ble_eq_true rfl) rfl ?_
      refine oRun.getR 22 dX9_isRound_19 fd_RX9_11 rfl rfl (Nat.le_of_ble_eq_true rfl) rfl ?_
      refine oRun.bipush 24 dX9_isRound_22 oc_b43 rfl ?_
      refine oRun.aload_n 25 dX9_isRound_24 0 rfl rfl (Nat.le_of_ble_eq_true rfl) rfl ?_
      refine oRun.iload_n 26 dX9_isRound_25 1 rfl rfl rfl ?_
      refine oRun.iload_n 27 dX9_isRound_26 3 rfl rfl rfl ?_
      obtain ⟨r27, hr27, h⟩ := oB1 h
      refine oRun.callV (as := [.int x1, .int x3]) 30 dX9_isRound_27 lk_RX9_86 (oFit_i (Nat.le_of_ble_eq_true rfl) (Nat.le_of_ble_eq_true rfl)) rfl rfl rfl rfl (Nat.le_of_ble_eq_true rfl) (Nat.le_of_ble_eq_true rfl) rfl (E_X9_pairAt hr27) rfl ?_
      show oRun G _ 30 _ [.int r27, .int 43, .ref 52, .int x2] _ _ _
      refine oRun.iadd 31 dX9_isRound_30 rfl ?_
      obtain ⟨v31, hv31, h⟩ := oB1 h
      refine oRun.iaload 32 dX9_isRound_31 (Or.inr ⟨_, rfl⟩) hv31 rfl ?_
      refine oRun.iconst 33 dX9_isRound_32 oc_i5 rfl ?_
      by_cases c33 : v31 = 5
      · replace h := oIp c33 h
        refine oRun.icmp_ne_f 36 dX9_isRound_33 rfl c33 rfl ?_
        refine oRun.iconst 37 dX9_isRound_36 oc_i0 rfl ?_
        refine oRun.goto 41 dX9_isRound_37 rfl ?_
        refine oRun.iadd 42 dX9_isRound_41 rfl ?_
        obtain ⟨x2_42, hx2_42, h⟩ := oB1 h
        refine oRun.nameI hx2_42 ?_
        refine oRun.istore_n 43 dX9_isRound_42 rfl (Nat.le_of_ble_eq_true rfl) rfl rfl ?_
        refine oRun.iinc 46 dX9_isRound_43 3 rfl (oAddC oc_i1) (Nat.le_of_ble_eq_true rfl) rfl rfl ?_
        refine oRun.goto 4 dX9_isRound_46 rfl ?_
        cases h
        refine oRun.sub [2, 3, 1, 0] rfl ?_
        exact hc _ rfl
      · replace h := oIn c33 h
        refine oRun.icmp_ne_t 40 dX9_isRound_33 c33 rfl ?_
        refine oRun.iconst 41 dX9_isRound_40 oc_i1 rfl ?_
        refine oRun.iadd 42 dX9_isRound_41 rfl ?_
        obtain ⟨x2_42, hx2_42, h⟩ := oB1 h
        refine oRun.nameI hx2_42 ?_
        refine oRun.istore_n 43 dX9_isRound_42 rfl (Nat.le_of_ble_eq_true rfl) rfl rfl ?_
        refine oRun.iinc 46 dX9_isRound_43 3 rfl (oAddC oc_i1) (Nat.le_of_ble_eq_true rfl) rfl rfl ?_
        refine oRun.goto 4 dX9_isRound_46 rfl ?_
        cases h
        refine oRun.sub [2, 3, 1, 0] rfl ?_
        exact hc _ rfl
set_option maxRecDepth 100000 in
set_option maxHeartbeats 4000000 in
theorem E_X9_isRound {G : oG} {m : oM} {x1 : Int32} {w : Int32} (h : F_X9_isRound m x1 = some w) : oEv G M_X9_isRound [.ref 51, .int x1] m (some (.int w)) m := by
  unfold F_X9_isRound at h
  refine ⟨?_, ?_⟩
  · show oRun G M_X9_isRound 0 [(0, .ref 51), (1, .int x1)] [] m (some (.int w)) m
    refine oRun.iconst 1 dX9_isRound_0 oc_i0 rfl ?_
    refine oRun.istore_n 2 dX9_isRound_1 rfl (Nat.le_of_ble_eq_true rfl) rfl rfl ?_
    refine oRun.iconst 3 dX9_isRound_2 oc_i0 rfl ?_
    refine oRun.istore_n 4 dX9_isRound_3 rfl (Nat.le_of_ble_eq_true rfl) rfl rfl ?_
    obtain ⟨b4, hb4, h⟩ := oB1 h
    refine oRun.sub [2, 3, 1, 0] rfl ?_
    refine E_X9_isRound_L4 _ _ _ _ hb4 ?_
    refine oRun.iload_n 50 dX9_isRound_49 0 rfl rfl rfl ?_
    refine oRun.iconst 51 dX9_isRound_50 oc_i2 rfl ?_
    refine oRun.irem 52 dX9_isRound_51 (by decide) rfl ?_
    refine oRun.iconst 53 dX9_isRound_52 oc_i1 rfl ?_
    by_cases c53 : (oRI b4 2) = 1
    · replace h := oIp c53 h
      refine oRun.icmp_ne_f 56 dX9_isRound_53 rfl c53 rfl ?_
      refine oRun.iconst 57 dX9_isRound_56 oc_i1 rfl ?_
      refine oRun.goto 61 dX9_isRound_57 rfl ?_
      rw [← Option.some.inj h]
      exact oRun.ret (r := some (.int 1)) dX9_isRound_61
    · replace h := oIn c53 h
      refine oRun.icmp_ne_t 60 dX9_isRound_53 c53 rfl ?_
      refine oRun.iconst 61 dX9_isRound_60 oc_i0 rfl ?_
      rw [← Option.some.inj h]
      exact oRun.ret (r := some (.int 0)) dX9_isRound_61
  · show oROK (some .boolean) (some (.int w))
    obtain ⟨b4, hb4, h⟩ := oB1 h
    by_cases c53 : (oRI b4 2) = 1
    · replace h := oIp c53 h
      rw [← Option.some.inj h]
      exact Or.inr rfl
    · replace h := oIn c53 h
      rw [← Option.some.inj h]
      exact Or.inl rfl
