/-! found, foundWrong: the calls -/
section FOUND6
variable {m : oM} {V : oV}
theorem fd_both (h : Inv m) (hw : WF V) (hc : VC 1 m V) (hr : VR 52 m V) {b : Nat} (hb : b < vnb V) :
    ∃ A B le mo c m1 m2, fRng A B le mo ∧ fCand le mo c ∧ (vab V b = nI A ∧ vbe V b = nI B) ∧ F_X0_seek m (vab V b) (vbe V b) (vle V) (vmo V) = some m1 ∧ F_X9_finds m1 (nI b) = some m2 ∧ fHead A B le mo m1 ∧ fShow A B c m1 ∧ rShow A B c m2 ∧ oAg (fun p _ => p = 50) m m1 ∧ oAg S14 m1 m2 ∧ Inv m2 := by
  have h1 := hw.1
  obtain ⟨hA, hB⟩ := hw.2.2.2.1 b hb
  have hle := hw.2.2.2.2.2.2.2.2.1
  have hmo1 := hw.2.2.2.2.2.2.2.2.2.1
  have hmo2 := hw.2.2.2.2.2.2.2.2.2.2.1
  unfold iB at hA hB hle
  obtain ⟨A, a1, a2⟩ := i_of (x := vab V b) (n := 10000) (by omega) (by omega)
  obtain ⟨B, b1, b2⟩ := i_of (x := vbe V b) (n := 10000) (by omega) (by omega)
  obtain ⟨le, l1, l2⟩ := i_of (x := vle V) (n := 100) (by omega) (by omega)
  obtain ⟨mo, o1, o2⟩ := i_of (x := vmo V) (n := 100) (by omega) (by omega)
  have tA := nI_toInt (n := A) (by omega)
  have tB := nI_toInt (n := B) (by omega)
  have tl := nI_toInt (n := le) (by omega)
  have to := nI_toInt (n := mo) (by omega)
  rw [a2] at hA
  rw [b2] at hB
  rw [l2] at hle hmo1
  rw [o2] at hmo1 hmo2
  have hR : fRng A B le mo := by
    unfold fRng
    omega
  have hF : IFd m := h.2.2.2.2.2
  obtain ⟨m1, c, e1, f1, hh, s1, g1⟩ := c_seek hR hF
  have hr1 : VR 52 m1 V := hr.ag g1 (by omega)
  have hH : rH b A B le mo m1 := ⟨hr1.le.trans l2, hr1.mo.trans o2, (hr1.2.2.2.1 b hb).1.trans a2, (hr1.2.2.2.1 b hb).2.trans b2⟩
  obtain ⟨m2, c', e2, f2, s2, g2⟩ := r_finds hR (by omega) hH
  have cc := fBest_uq f2 f1
  subst cc
  refine ⟨A, B, le, mo, c', m1, m2, hR, f1.1, ⟨a2, b2⟩, by rw [a2, b2, l2, o2]; exact e1, e2, hh, s1, s2, g1, g2, ?_⟩
  have ag : oAg (fun p k => p = 50 ∨ (p = 51 ∧ 14 ≤ k)) m m2 := (g1.wk (by omega)).tr (g2.wk (by unfold S14; omega))
  have e50 : ∀ k, m2.1 50 k = m1.1 50 k ∧ m2.2 50 k = m1.2 50 k := fun k => g2 50 k (by unfold S14; omega)
  obtain ⟨-, hk, ht, hp, hl, -⟩ := h
  refine ⟨⟨V, hw, hc.ag ag (by omega), hr.ag ag (by omega)⟩, hk.ag ag (by omega) (by omega) (by omega) (by omega), ht.ag ag (by omega) (by omega) (by omega) (by omega), hp.ag ag (by omega) (by omega) (by omega) (by omega), hl.ag ag (by omega) (by omega) (by omega) (by omega), Or.inr ⟨A, B, le, mo, c', ?_⟩⟩
  obtain ⟨y0, y1, y2, y3⟩ := hh
  obtain ⟨s4, s5, s6, s7, s8, s9⟩ := s1
  have hR' := hR
  unfold fRng at hR'
  exact ⟨hR'.1, hR'.2.1, hR'.2.2.1, hR'.2.2.2.1, hR'.2.2.2.2.1, hR'.2.2.2.2.2.1, hR'.2.2.2.2.2.2, (e50 0).2.trans y0, (e50 1).2.trans y1, (e50 2).1.trans y2, (e50 3).1.trans y3, f1, (e50 4).1.trans s4, (e50 5).1.trans s5, (e50 6).1.trans s6, (e50 7).1.trans s7, by rw [(e50 8).2]; exact s8, (e50 9).2.trans s9⟩
/-- what is asked of FOUND -/
def fdY (y : Int32) : Prop := y = 0 ∨ y = 1 ∨ y = 10 ∨ y = 11 ∨ y = 12 ∨ y = 13
theorem fd_ans (h : Inv m) (hw : WF V) (hc : VC 1 m V) (hr : VR 52 m V) {b : Nat} (hb : b < vnb V) {y : Int32} (hy : fdY y) : ∃ v m1 m2, F_X8_found_J44 m (nI b) y = some (v, m1) ∧ F_X9_found_J34 m1 (nI b) y = some (v, m2) ∧ Inv m2 ∧ oAg (fun p _ => p = 50) m m1 := by
  obtain ⟨A, B, le, mo, c, m1, m2, hR, cand, ⟨eA, eB⟩, e1, e2, hh, s1, s2, g1, g2, inv⟩ := fd_both h hw hc hr hb
  obtain ⟨s4, s5, s6, s7, s8, s9⟩ := s1
  obtain ⟨r14, r15, r16, r17, r18, r19, r20, r21⟩ := s2
  obtain ⟨cb1, cb2, cb3, cb4⟩ := cand_b hR cand
  have kz : (c.2.1 = 0 ∧ c.2.2.2 = 0) ∨ (c.2.1 ≠ 0 ∧ c.2.2.2 ≠ 0) := by
    unfold fCand at cand
    unfold fRng at hR
    omega
  have sk : F_X8_found_J44 m (nI b) y = if y = 0 then (F_X0_isOnePair m1).bind fun r95 => if r95 = 0 then some (2, m1) else some (1, m1) else if y = 1 then (F_X0_allTeeth m1).bind fun r116 => some (r116, m1) else if y < 12 then (F_X0_wheel m1 (y - 10)).bind fun r147 => some (r147, m1) else (F_X0_isOnePair m1).bind fun r130 => if r130 = 0 then (F_X0_wheel m1 (y - 10)).bind fun r147 => some (r147, m1) else some (-5, m1) := by
    unfold F_X8_found_J44
    rw [c1_ab hc hw hb, o_b, c1_be hc hw hb, o_b, hc.le, hc.mo, e1, o_b]
  have one : F_X0_isOnePair m1 = some (if c.2.1 = 0 then 1 else 0) := by
    unfold F_X0_isOnePair
    rw [s5]
    by_cases z : c.2.1 = 0
    · rw [if_pos (by rw [z]; rfl), if_pos z]
    · rw [if_neg (nI_ne0 (by omega) (by omega)), if_neg z]
  have all : F_X0_allTeeth m1 = some (nI (fTee c)) := by
    unfold F_X0_allTeeth
    rw [s4, s5, s6, s7, nI_add, nI_add, nI_add]
    rfl
  have w0 : F_X0_wheel m1 (10 - 10) = some (nI c.1) := by
    unfold F_X0_wheel
    rw [if_pos (by decide), s4]
  have w1 : F_X0_wheel m1 (11 - 10) = some (nI c.2.2.1) := by
    unfold F_X0_wheel
    rw [if_neg (by decide), if_pos (by decide), s6]
  have w2 : F_X0_wheel m1 (12 - 10) = some (nI c.2.1) := by
    unfold F_X0_wheel
    rw [if_neg (by decide), if_neg (by decide), if_pos (by decide), s5]
  have w3 : F_X0_wheel m1 (13 - 10) = some (nI c.2.2.2) := by
    unfold F_X0_wheel
    rw [if_neg (by decide), if_neg (by decide), if_neg (by decide), s7]
  have rk : F_X9_found_J34 m1 (nI b) y = if y = 0 then some (m2.1 51 14, m2) else if y = 1 then some (m2.1 51 15, m2) else if y = 10 then some (m2.1 51 16, m2) else if y = 11 then some (m2.1 51 18, m2) else if y = 12 then (if m2.1 51 14 = 2 then some (m2.1 51 17, m2) else some (-5, m2)) else (if m2.1 51 14 = 2 then some (m2.1 51 19, m2) else some (-5, m2)) := by
    unfold F_X9_found_J34
    rw [e2, o_b]
  have done : ∀ v, F_X8_found_J44 m (nI b) y = some (v, m1) → F_X9_found_J34 m1 (nI b) y = some (v, m2) → ∃ v m1 m2, F_X8_found_J44 m (nI b) y = some (v, m1) ∧ F_X9_found_J34 m1 (nI b) y = some (v, m2) ∧ Inv m2 ∧ oAg (fun p _ => p = 50) m m1 := fun v a b => ⟨v, m1, m2, a, b, inv, g1⟩
  have n11 : nI 1 = 1 := rfl
  have n22 : nI 2 = 2 := rfl
  have d12 : ¬ (1 : Int32) = 2 := by decide
  rcases hy with rfl | rfl | rfl | rfl | rfl | rfl
  · rw [if_pos rfl, one, o_b] at sk
    rw [if_pos rfl, r14] at rk
    by_cases z : c.2.1 = 0
    · rw [if_pos z, if_neg i10] at sk
      rw [if_pos z] at rk
      exact done _ sk rk
    · rw [if_neg z, if_pos rfl] at sk
      rw [if_neg z] at rk
      exact done _ sk rk
  · rw [if_neg (by decide), if_pos rfl, all, o_b] at sk
    rw [if_neg (by decide), if_pos rfl, r15] at rk
    exact done _ sk rk
  · rw [if_neg (by decide), if_neg (by decide), if_pos (by decide), w0, o_b] at sk
    rw [if_neg (by decide), if_neg (by decide), if_pos rfl, r16] at rk
    exact done _ sk rk
  · rw [if_neg (by decide), if_neg (by decide), if_pos (by decide), w1, o_b] at sk
    rw [if_neg (by decide), if_neg (by decide), if_neg (by decide), if_pos rfl, r18] at rk
    exact done _ sk rk
  · rw [if_neg (by decide), if_neg (by decide), if_neg (by decide), one, o_b, w2, o_b] at sk
    rw [if_neg (by decide), if_neg (by decide), if_neg (by decide), if_neg (by decide), if_pos rfl, r14, r17] at rk
    by_cases z : c.2.1 = 0
    · rw [if_pos z, if_neg i10] at sk
      rw [if_pos z, if_pos z, n11, if_neg d12] at rk
      exact done _ sk rk
    · rw [if_neg z, if_pos rfl] at sk
      rw [if_neg z, if_neg z, n22, if_pos rfl] at rk
      exact done _ sk rk
  · rw [if_neg (by decide), if_neg (by decide), if_neg (by decide), one, o_b, w3, o_b] at sk
    rw [if_neg (by decide), if_neg (by decide), if_neg (by decide), if_neg (by decide), if_neg (by decide), r14, r19] at rk
    by_cases z : c.2.1 = 0
    · rw [if_pos z, if_neg i10] at sk
      rw [if_pos z, if_pos z, n11, if_neg d12] at rk
      exact done _ sk rk
    · rw [if_neg z, if_pos rfl] at sk
      rw [if_neg z, if_neg z, n22, if_pos rfl] at rk
      exact done _ sk rk
theorem fdY_of {y : Int32} (h : (0 ≤ y.toInt ∧ y.toInt ≤ 1) ∨ (10 ≤ y.toInt ∧ y.toInt ≤ 13)) : fdY y := by
  have a0 : (0 : Int32).toInt = 0 := by decide
  have a1 : (1 : Int32).toInt = 1 := by decide
  have a2 : (10 : Int32).toInt = 10 := by decide
  have a3 : (11 : Int32).toInt = 11 := by decide
  have a4 : (12 : Int32).toInt = 12 := by decide
  have a5 : (13 : Int32).toInt = 13 := by decide
  unfold fdY
  rw [i_eq, i_eq, i_eq, i_eq, i_eq, i_eq, a0, a1, a2, a3, a4, a5]
  omega
theorem p_found (h : Inv m) (x y : Int32) : Wr (F_X8_found m x y) (fun m => F_X9_found m x y) := by
  have hI := h
  obtain ⟨⟨V, hw, hc, hr⟩, -⟩ := h
  have a0 : (0 : Int32).toInt = 0 := by decide
  have a1 : (1 : Int32).toInt = 1 := by decide
  have a2 : (10 : Int32).toInt = 10 := by decide
  have a5 : (13 : Int32).toInt = 13 := by decide
  by_cases hB : isB V x
  · obtain ⟨b, hb, rfl⟩ := isB_of hB
    by_cases y01 : 0 ≤ y.toInt ∧ y.toInt ≤ 1
    · obtain ⟨v, m1, m2, e1, e2, e3, g⟩ := fd_ans hI hw hc hr hb (fdY_of (Or.inl y01))
      have hr1 : VR 52 m1 V := hr.ag g (by omega)
      have yy : y = 0 ∨ y = 1 := by
        rw [i_eq, i_eq, a0, a1]
        omega
      refine ⟨v, m1, m2, ?_, ?_, e3⟩
      · unfold F_X8_found F_X8_found_J16 F_X8_found_J17
        rw [if_pos (show y < 10 by rw [i_lt, a2]; omega), c_hasBody1 hc hw hB, o_b, if_neg i10]
        by_cases y0 : y = 0
        · rw [if_pos y0, e1]
        · rw [if_neg y0, if_pos (show y = 1 by rcases yy with z | z; exact absurd z y0; exact z), e1]
      · show F_X9_found m1 (nI b) y = _
        unfold F_X9_found
        rw [r_isBody1 hr1 hw hB, o_b, if_neg i10, isIn1 (p := 0) (q := 1) (by decide) (by decide) (by rw [i_long]; exact y01), o_b, if_neg i10, e2]
    · have y0 : ¬ y = 0 := by
        rw [i_eq, a0]
        omega
      have y1 : ¬ y = 1 := by
        rw [i_eq, a1]
        omega
      by_cases yt : 10 ≤ y.toInt ∧ y.toInt ≤ 13
      · obtain ⟨v, m1, m2, e1, e2, e3, g⟩ := fd_ans hI hw hc hr hb (fdY_of (Or.inr yt))
        have hr1 : VR 52 m1 V := hr.ag g (by omega)
        refine ⟨v, m1, m2, ?_, ?_, e3⟩
        · unfold F_X8_found F_X8_found_J17
          rw [if_neg (show ¬ y < 10 by rw [i_lt, a2]; omega), if_neg (show ¬ 13 < y by rw [i_lt, a5]; omega), c_hasBody1 hc hw hB, o_b, if_neg i10, if_neg y0, if_neg y1, if_neg i10, e1]
        · show F_X9_found m1 (nI b) y = _
          unfold F_X9_found
          rw [r_isBody1 hr1 hw hB, o_b, if_neg i10, isIn0 (p := 0) (q := 1) (by decide) (by decide) (by rw [i_long]; exact y01), o_b, if_pos rfl, isIn1 (p := 10) (q := 13) (by decide) (by decide) (by rw [i_long]; exact yt), o_b, if_neg i10, e2]
      · have j0 : F_X8_found_J16 m (nI b) y = some (-1, m) := by
          unfold F_X8_found_J16 F_X8_found_J17
          rw [c_hasBody1 hc hw hB, o_b, if_neg i10, if_neg y0, if_neg y1, if_pos rfl]
        refine Wr.no (v := -1) hI ?_ ?_
        · unfold F_X8_found
          by_cases k : y < 10
          · rw [if_pos k, j0]
          · rw [if_neg k, if_pos (show 13 < y by rw [i_lt, a5]; rw [i_lt, a2] at k; omega), j0]
        · show F_X9_found m (nI b) y = _
          unfold F_X9_found
          rw [r_isBody1 hr hw hB, o_b, if_neg i10, isIn0 (p := 0) (q := 1) (by decide) (by decide) (by rw [i_long]; exact y01), o_b, if_pos rfl, isIn0 (p := 10) (q := 13) (by decide) (by decide) (by rw [i_long]; exact yt), o_b, if_pos rfl]
  · have jj : ∀ t, F_X8_found_J17 m x y t = some (-1, m) := fun t => by
      unfold F_X8_found_J17
      rw [c_hasBody0 hc hw hB, o_b, if_pos rfl]
    refine Wr.no (v := -1) hI ?_ ?_
    · unfold F_X8_found F_X8_found_J16
      rw [jj, jj]
      split
      · rfl
      · split <;> rfl
    · show F_X9_found m x y = _
      unfold F_X9_found
      rw [r_isBody0 hr hw hB, o_b, if_pos rfl]
theorem p_foundWrong (h : Inv m) (x y : Int32) : Wr (F_X8_foundWrong m x y) (fun m => F_X9_foundWrong m x y) := by
  have hI := h
  obtain ⟨⟨V, hw, hc, hr⟩, -⟩ := h
  by_cases hB : isB V x
  · obtain ⟨b, hb, rfl⟩ := isB_of hB
    by_cases hp : sPart y = 0
    · refine Wr.no (v := -9223372036854775808) hI ?_ ?_
      · unfold F_X8_foundWrong
        rw [c_hasBody1 hc hw hB, o_b, if_neg i10, c_isPart, o_b, if_pos hp]
      · show F_X9_foundWrong m (nI b) y = _
        unfold F_X9_foundWrong
        rw [r_isBody1 hr hw hB, o_b, if_neg i10, r_isPart, o_b, if_pos hp]
    · obtain ⟨A, B, le, mo, c, m1, m2, hR, cand, ⟨eA, eB⟩, e1, e2, hh, s1, s2, g1, g2, inv⟩ := fd_both hI hw hc hr hb
      obtain ⟨y0, y1, y2, y3⟩ := hh
      obtain ⟨s4, s5, s6, s7, s8, s9⟩ := s1
      obtain ⟨r14, r15, r16, r17, r18, r19, r20, r21⟩ := s2
      obtain ⟨cb1, cb2, cb3, cb4⟩ := cand_b hR cand
      have q := cand_q hR cand
      obtain ⟨o1, o2, o3, o4, o5⟩ := cand_o hR cand
      have hR' := hR
      unfold fRng at hR'
      have kz : (c.2.1 = 0 ∧ c.2.2.2 = 0) ∨ (c.2.1 ≠ 0 ∧ c.2.2.2 ≠ 0) := by
        unfold fCand at cand
        omega
      have hr1 : VR 52 m1 V := hr.ag g1 (by omega)
      have hr2 : VR 52 m2 V := hr1.ag g2 (by unfold S14; omega)
      have bQ : fQ c * B ≤ 9801 * 9999 := Nat.mul_le_mul q.2 (by omega)
      have bQ1 : 1 * 1 ≤ fQ c * B := Nat.mul_le_mul q.1 (by omega)
      have tQ := lN_t (n := fQ c * B) (by omega)
      -- the off, in both
      have p1 : (m2.1 51 16).toInt64 * (m2.1 51 17).toInt64 = lN (fP c.1 c.2.1) := by
        rw [r16, r17]
        unfold fP
        rcases kz with ⟨z, -⟩ | ⟨z, -⟩
        · rw [if_pos z, if_pos z, nI_l (by omega), nI_l (by omega), lN_mul, Nat.mul_one]
        · rw [if_neg z, if_neg z, nI_l (by omega), nI_l (by omega), lN_mul]
      have p2 : (m2.1 51 18).toInt64 * (m2.1 51 19).toInt64 = lN (fQ c) := by
        rw [r18, r19]
        unfold fQ fP
        rcases kz with ⟨z, w⟩ | ⟨z, w⟩
        · rw [if_pos z, if_pos w, nI_l (by omega), nI_l (by omega), lN_mul, Nat.mul_one]
        · rw [if_neg z, if_neg w, nI_l (by omega), nI_l (by omega), lN_mul]
      have off : F_X9_off m2 (nI b) (lN (fP c.1 c.2.1)) (lN (fQ c)) = some (m1.2 50 8) := by
        unfold F_X9_off
        rw [r_be hr2 hw hb, o_b, r_ab hr2 hw hb, o_b, eA, eB, nI_l (by omega), nI_l (by omega), lN_mul, lN_mul]
        congr 1
        have t1 := lN_t (n := fP c.1 c.2.1 * B) (by omega)
        have t2 := lN_t (n := A * fQ c) (by omega)
        rw [l_eq, s8, Nat.mul_comm (fQ c) A, l_sub] <;> rw [t1, t2]
        · rfl
        · omega
        · omega
      refine ⟨sTold (m1.2 50 8) (lN (fQ c * B)) y, m1, m2, ?_, ?_, inv⟩
      · unfold F_X8_foundWrong
        rw [c_hasBody1 hc hw hB, o_b, if_neg i10, c_isPart, o_b, if_neg hp, c1_ab hc hw hb, o_b, c1_be hc hw hb, o_b, hc.le, hc.mo, e1, o_b]
        unfold F_X0_wrongAbove F_X0_wrongBelow
        rw [o_b, o_b, s9, y1, lN_mul, c_lowest y (by rw [s8]; omega) (by rw [tQ]; omega) (by rw [tQ]; omega), o_b]
      · show F_X9_foundWrong m1 (nI b) y = _
        unfold F_X9_foundWrong
        rw [r_isBody1 hr1 hw hB, o_b, if_neg i10, r_isPart, o_b, if_neg hp, e2, o_b, p1, o_b, p2, o_b, off, o_b, r_be hr2 hw hb, o_b, eB, nI_l (by omega), lN_mul, r_told y (by rw [s8]; omega) (by rw [tQ]; omega) (by rw [tQ]; omega), o_b]
  · refine Wr.no (v := -9223372036854775808) hI ?_ ?_
    · unfold F_X8_foundWrong
      rw [c_hasBody0 hc hw hB, o_b, if_pos rfl]
    · show F_X9_foundWrong m x y = _
      unfold F_X9_foundWrong
      rw [r_isBody0 hr hw hB, o_b, if_pos rfl]
end FOUND6
