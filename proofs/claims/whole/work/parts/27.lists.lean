/-! list, put, get, judge -/
theorem a_ldl {m : oM} {p k : Nat} (h : oLn p = 48) (hk : k < 48) : oALL m p (nI k) = some (m.2 p k) := by
  unfold oALL
  rw [h, if_neg (nI_in hk (by omega)), nI_clamp (by omega)]
theorem a_stl {m : oM} {p k : Nat} {x : Int64} (h : oLn p = 48) (hk : k < 48) : oASL m p (nI k) x = some (oSL m p k x) := by
  unfold oASL
  rw [h, if_neg (nI_in hk (by omega)), nI_clamp (by omega)]
theorem ix_l (l i : Nat) : nI l * 12 + nI i = nI (12 * l + i) := by
  rw [show (12 : Int32) = nI 12 from rfl, nI_mul, nI_add, Nat.mul_comm]
theorem ix_r (l i : Nat) : 12 * nI l + nI i = nI (12 * l + i) := by
  rw [show (12 : Int32) = nI 12 from rfl, nI_mul, nI_add]
theorem SL_eq {m : oM} {p k : Nat} {x : Int64} : (oSL m p k x).2 p k = x := if_pos ⟨rfl, rfl⟩
theorem SL_ne {m : oM} {p k q j : Nat} {x : Int64} (h : ¬ (q = p ∧ j = k)) : (oSL m p k x).2 q j = m.2 q j := if_neg h
/-- a stretch of zeroes -/
def fZ (p o : Nat) (m : oM) : Nat → oM
  | 0 => m
  | i + 1 => oSL (fZ p o m i) p (o + i) 0
theorem fZ_ag (p o : Nat) (m : oM) : ∀ i, oAg (fun q k => q = p ∧ o ≤ k ∧ k < o + i) m (fZ p o m i)
  | 0 => oAg.rf
  | i + 1 => ((fZ_ag p o m i).wk (fun q k h => ⟨h.1, h.2.1, by omega⟩)).tr (oAg.SL ⟨rfl, by omega, by omega⟩)
theorem fZ_at (p o : Nat) (m : oM) (j : Nat) : ∀ i, j < i → (fZ p o m i).2 p (o + j) = 0
  | 0, h => absurd h (by omega)
  | i + 1, h => by
    by_cases e : j = i
    · rw [e]
      exact SL_eq
    · exact (SL_ne (fun z => e (by omega))).trans (fZ_at p o m j i (by omega))
def isL (x : Int32) : Prop := 0 ≤ x.toInt ∧ x.toInt ≤ 3
section LISTS
variable {m : oM} {V : oV}
theorem c_hasL1 {x : Int32} (h : isL x) : F_X4_has x = some 1 := by
  obtain ⟨h1, h2⟩ := h
  unfold F_X4_has
  rw [if_neg (show ¬ x < 0 by rw [i_lt, Int32.toInt_zero]; omega), if_neg (show ¬ 4 ≤ x by rw [i_le, show (4 : Int32).toInt = 4 by decide]; omega)]
theorem c_hasL0 {x : Int32} (h : ¬ isL x) : F_X4_has x = some 0 := by
  unfold F_X4_has
  by_cases h1 : x < 0
  · rw [if_pos h1]
  · rw [if_neg h1, if_pos]
    rw [i_lt, Int32.toInt_zero] at h1
    rw [i_le, show (4 : Int32).toInt = 4 by decide]
    rcases Int.lt_or_le x.toInt 4 with z | z
    · exact absurd ⟨by omega, by omega⟩ h
    · exact z
theorem r_isList1 {x : Int32} (h : isL x) : F_X9_isList x = some 1 := by
  unfold F_X9_isList
  rw [isIn1 (p := 0) (q := 3) (by decide) (by decide) (by rw [i_long]; exact h), o_b]
theorem r_isList0 {x : Int32} (h : ¬ isL x) : F_X9_isList x = some 0 := by
  unfold F_X9_isList
  rw [isIn0 (p := 0) (q := 3) (by decide) (by decide) (by rw [i_long]; exact h), o_b]
theorem isL_of {x : Int32} (h : isL x) : ∃ l, l < 4 ∧ x = nI l := i_of h.1 (by have := h.2; omega)
theorem c_fill {l i : Nat} (hl : l < 4) (hi : i < 12) (v : Int64) : F_X4_fill m (nI l) (nI i) v = some (oSL m 49 (12 * l + i) v) := by
  unfold F_X4_fill
  rw [o_b, ix_l, if_neg (nI_pos (by omega)), if_neg (show ¬ (48 : Int32) ≤ nI (12 * l + i) from nI_ge (b := 48) (by omega) (by omega)), a_stl rfl (by omega), o_b]
theorem c_cell {l i : Nat} (hl : l < 4) (hi : i < 12) : F_X4_cell m (nI l) (nI i) = some (m.2 49 (12 * l + i)) := by
  unfold F_X4_cell
  rw [o_b, ix_l, if_neg (nI_pos (by omega)), if_neg (show ¬ (48 : Int32) ≤ nI (12 * l + i) from nI_ge (b := 48) (by omega) (by omega)), a_ldl rfl (by omega), o_b]
theorem c_held0 {l : Nat} (hl : l < 4) (h : m.1 48 l = 0) : F_X4_isHeld m (nI l) = some 0 := by
  unfold F_X4_isHeld
  rw [f_at (n := 4) rfl hl (by omega), o_b, h, if_pos (by decide)]
theorem c_held1 {l n : Nat} (hl : l < 4) (hn : n ≤ 12) (h : m.1 48 l = nI (n + 1)) : F_X4_isHeld m (nI l) = some 1 := by
  unfold F_X4_isHeld
  rw [f_at (n := 4) rfl hl (by omega), o_b, h, if_neg (nI_nle (by omega) (by omega))]
theorem c_size0 {l : Nat} (hl : l < 4) (h : m.1 48 l = 0) : F_X4_size m (nI l) = some 0 := by
  unfold F_X4_size
  rw [c_held0 hl h, o_b, if_pos rfl]
theorem c_size1 {l n : Nat} (hl : l < 4) (hn : n ≤ 12) (h : m.1 48 l = nI (n + 1)) : F_X4_size m (nI l) = some (nI n) := by
  unfold F_X4_size
  rw [c_held1 hl hn h, o_b, if_neg i10, f_at (n := 4) rfl hl (by omega), o_b, h, nI_pred]
theorem c_hold {l n : Nat} (hl : l < 4) (hn : n ≤ 12) : F_X4_hold m (nI l) (nI n) = some (fZ 49 (12 * l) (oSI m 48 l (nI (n + 1))) n) := by
  unfold F_X4_hold
  rw [f_set (n := 4) rfl hl (by omega), o_b, nI_1]
  have L := for_run (f := fun s : Int32 × oM => F_X4_hold_L13 (nI l) (nI n) s.1 s.2) (fun i => (nI i, fZ 49 (12 * l) (oSI m 48 l (nI (n + 1))) i)) n (b := fZ 49 (12 * l) (oSI m 48 l (nI (n + 1))) n) ?_ ?_ (by omega)
  · have L' : oLoop (fun s : Int32 × oM => F_X4_hold_L13 (nI l) (nI n) s.1 s.2) oFuel (0, oSI m 48 l (nI (n + 1))) = _ := L
    rw [L', o_b]
  · intro i hi
    show F_X4_hold_L13 (nI l) (nI n) (nI i) (fZ 49 (12 * l) (oSI m 48 l (nI (n + 1))) i) = _
    unfold F_X4_hold_L13
    rw [if_neg (nI_ge hi (by omega)), c_fill hl (by omega), o_b, nI_1]
    rfl
  · show F_X4_hold_L13 (nI l) (nI n) (nI n) _ = _
    unfold F_X4_hold_L13
    rw [if_pos (nI_le (Nat.le_refl _) (by omega))]
theorem p_list (h : Inv m) (x y : Int32) : Wr (F_X8_list m x y) (fun m => F_X9_list m x y) := by
  have hI := h
  obtain ⟨⟨V, hw, hc, hr⟩, hk, ht, hp, hl, hf⟩ := h
  have c12 : y ≤ 12 ↔ y.toInt ≤ 12 := by rw [i_le, show (12 : Int32).toInt = 12 by decide]
  have c0 : 0 ≤ y ↔ 0 ≤ y.toInt := by rw [i_le, Int32.toInt_zero]
  by_cases hL : isL x
  · by_cases h1 : y ≤ 12
    · by_cases h0 : 0 ≤ y
      · obtain ⟨l, hl4, rfl⟩ := isL_of hL
        obtain ⟨n, hn, rfl⟩ := i_of (x := y) (n := 13) (c0.mp h0) (by have := c12.mp h1; omega)
        refine ⟨1, fZ 49 (12 * l) (oSI m 48 l (nI (n + 1))) n, fZ 58 (12 * l) (oSI (fZ 49 (12 * l) (oSI m 48 l (nI (n + 1))) n) 57 l (nI n)) 12, ?_, ?_, ?_⟩
        · unfold F_X8_list
          rw [c_hasL1 hL, o_b, if_neg i10, if_pos h1, if_pos h0, c_hold hl4 (by omega), o_b]
        · show F_X9_list (fZ 49 (12 * l) (oSI m 48 l (nI (n + 1))) n) (nI l) (nI n) = _
          generalize fZ 49 (12 * l) (oSI m 48 l (nI (n + 1))) n = m1
          unfold F_X9_list
          rw [r_isList1 hL, o_b, if_neg i10, if_pos h1, if_pos h0, a_st (n := 4) rfl hl4 (by omega), o_b]
          have L := for_run (f := fun s : Int32 × oM => F_X9_list_L34 (nI l) s.1 s.2) (fun i => (nI i, fZ 58 (12 * l) (oSI m1 57 l (nI n)) i)) 12 (b := fZ 58 (12 * l) (oSI m1 57 l (nI n)) 12) ?_ ?_ (by omega)
          · have L' : oLoop (fun s : Int32 × oM => F_X9_list_L34 (nI l) s.1 s.2) oFuel (0, oSI m1 57 l (nI n)) = _ := L
            rw [L', o_b]
          · intro i hi
            show F_X9_list_L34 (nI l) (nI i) (fZ 58 (12 * l) (oSI m1 57 l (nI n)) i) = _
            unfold F_X9_list_L34
            rw [if_neg (show ¬ (12 : Int32) ≤ nI i from nI_ge (b := 12) hi (by omega)), ix_r, a_stl rfl (by omega), o_b, nI_1]
            rfl
          · show F_X9_list_L34 (nI l) (nI 12) _ = _
            unfold F_X9_list_L34
            rw [if_pos (by decide)]
        · generalize hm1 : fZ 49 (12 * l) (oSI m 48 l (nI (n + 1))) n = m1
          generalize hm2 : fZ 58 (12 * l) (oSI m1 57 l (nI n)) 12 = m2
          have g1 := fZ_ag 49 (12 * l) (oSI m 48 l (nI (n + 1))) n
          have z1 := fun j => fZ_at 49 (12 * l) (oSI m 48 l (nI (n + 1))) j n
          have g2 := fZ_ag 58 (12 * l) (oSI m1 57 l (nI n)) 12
          have z2 := fun j => fZ_at 58 (12 * l) (oSI m1 57 l (nI n)) j 12
          rw [hm1] at g1 z1
          rw [hm2] at g2 z2
          have ag : oAg (fun p k => (p = 48 ∧ k = l) ∨ (p = 49 ∧ 12 * l ≤ k ∧ k < 12 * l + n) ∨ (p = 57 ∧ k = l) ∨ (p = 58 ∧ 12 * l ≤ k ∧ k < 12 * l + 12)) m m2 :=
            (((oAg.SI (by omega)).tr (g1.wk (by omega))).tr (oAg.SI (by omega))).tr (g2.wk (by omega))
          refine ⟨⟨V, hw, hc.ag ag (by omega), hr.ag ag (by omega)⟩, hk.ag ag (by omega) (by omega) (by omega) (by omega), ht.ag ag (by omega) (by omega) (by omega) (by omega), hp.ag ag (by omega) (by omega) (by omega) (by omega), ?_, hf.ag ag (by omega)⟩
          intro i hi
          by_cases e : i = l
          · subst e
            refine Or.inr ⟨n, by omega, ?_, ?_, fun j hj => ?_⟩
            · rw [(g2 48 i (by omega)).1, SI_ne (by omega), (g1 48 i (by omega)).1, SI_eq]
            · rw [(g2 57 i (by omega)).1, SI_eq]
            · rw [z2 j (by omega), (g2 49 _ (by omega)).2, SI_2, z1 j hj]
          · rw [(ag 48 i (by omega)).1, (ag 57 i (by omega)).1]
            rcases hl i hi with k | ⟨k, k1, k2, k3, k4⟩
            · exact Or.inl k
            · refine Or.inr ⟨k, k1, k2, k3, fun j hj => ?_⟩
              rw [(ag 58 _ (by omega)).2, (ag 49 _ (by omega)).2]
              exact k4 j hj
      · refine Wr.no (v := -14) hI ?_ ?_
        · unfold F_X8_list
          rw [c_hasL1 hL, o_b, if_neg i10, if_pos h1, if_neg h0]
        · show F_X9_list m x y = _
          unfold F_X9_list
          rw [r_isList1 hL, o_b, if_neg i10, if_pos h1, if_neg h0]
    · refine Wr.no (v := -2) hI ?_ ?_
      · unfold F_X8_list
        rw [c_hasL1 hL, o_b, if_neg i10, if_neg h1]
      · show F_X9_list m x y = _
        unfold F_X9_list
        rw [r_isList1 hL, o_b, if_neg i10, if_neg h1]
  · refine Wr.no (v := -1) hI ?_ ?_
    · unfold F_X8_list
      rw [c_hasL0 hL, o_b, if_pos rfl]
    · show F_X9_list m x y = _
      unfold F_X9_list
      rw [r_isList0 hL, o_b, if_pos rfl]
theorem p_put (h : Inv m) (x y : Int32) (v : Int64) : Wr (F_X8_put m x y v) (fun m => F_X9_put m x y v) := by
  have hI := h
  obtain ⟨⟨V, hw, hc, hr⟩, hk, ht, hp, hl, hf⟩ := h
  by_cases hL : isL x
  · obtain ⟨l, hl4, rfl⟩ := isL_of hL
    rcases hl l hl4 with ⟨k1, k2⟩ | ⟨n, n1, k1, k2, k3⟩
    · refine Wr.no (v := -11) hI ?_ ?_
      · unfold F_X8_put
        rw [c_hasL1 hL, o_b, if_neg i10, c_held0 hl4 k1, o_b, if_pos rfl]
      · show F_X9_put m (nI l) y v = _
        unfold F_X9_put
        rw [r_isList1 hL, o_b, if_neg i10, a_ld (n := 4) rfl hl4 (by omega), o_b, k2, if_pos rfl]
    · have nm : ¬ nI n = -1 := by
        rw [i_eq, nI_toInt (by omega), show (-1 : Int32).toInt = -1 by decide]
        omega
      have c0 : y < 0 ↔ y.toInt < 0 := by rw [i_lt, Int32.toInt_zero]
      have c1 : y < nI n ↔ y.toInt < n := by rw [i_lt, nI_toInt (by omega)]
      by_cases hy : 0 ≤ y.toInt ∧ y.toInt < n
      · obtain ⟨i, hi, rfl⟩ := i_of hy.1 hy.2
        refine ⟨1, oSL m 49 (12 * l + i) v, oSL (oSL m 49 (12 * l + i) v) 58 (12 * l + i) v, ?_, ?_, ?_⟩
        · unfold F_X8_put
          rw [c_hasL1 hL, o_b, if_neg i10, c_held1 hl4 n1 k1, o_b, if_neg i10, if_neg (nI_pos (by omega)), c_size1 hl4 n1 k1, o_b, if_pos (nI_lt hi (by omega)), c_fill hl4 (by omega), o_b]
        · show F_X9_put (oSL m 49 (12 * l + i) v) (nI l) (nI i) v = _
          unfold F_X9_put
          rw [r_isList1 hL, o_b, if_neg i10, a_ld (n := 4) rfl hl4 (by omega), o_b, SL_1, k2, if_neg nm, o_b, isIn1 (p := 0) (q := (n : Int) - 1) (by decide) (by rw [i_long, nI_pre (by omega)]) (by rw [i_long, nI_toInt (by omega)]; omega), o_b, if_neg i10, ix_r, a_stl rfl (by omega), o_b]
        · have ag : oAg (fun p k => (p = 49 ∧ k = 12 * l + i) ∨ (p = 58 ∧ k = 12 * l + i)) m (oSL (oSL m 49 (12 * l + i) v) 58 (12 * l + i) v) := (oAg.SL (by omega)).tr (oAg.SL (by omega))
          refine ⟨⟨V, hw, hc.ag ag (by omega), hr.ag ag (by omega)⟩, hk.ag ag (by omega) (by omega) (by omega) (by omega), ht.ag ag (by omega) (by omega) (by omega) (by omega), hp.ag ag (by omega) (by omega) (by omega) (by omega), ?_, hf.ag ag (by omega)⟩
          intro q hq
          rw [(ag 48 q (by omega)).1, (ag 57 q (by omega)).1]
          rcases hl q hq with k | ⟨k, j1, j2, j3, j4⟩
          · exact Or.inl k
          · refine Or.inr ⟨k, j1, j2, j3, fun j hj => ?_⟩
            by_cases e : 12 * q + j = 12 * l + i
            · rw [e, SL_eq, SL_ne (by omega), SL_eq]
            · rw [(ag 58 _ (by omega)).2, (ag 49 _ (by omega)).2]
              exact j4 j hj
      · refine Wr.no (v := -13) hI ?_ ?_
        · unfold F_X8_put
          rw [c_hasL1 hL, o_b, if_neg i10, c_held1 hl4 n1 k1, o_b, if_neg i10]
          by_cases d : y < 0
          · rw [if_pos d]
          · have d' : ¬ y.toInt < 0 := fun z => d (c0.mpr z)
            rw [if_neg d, c_size1 hl4 n1 k1, o_b, if_neg (fun z => by have := c1.mp z; omega)]
        · show F_X9_put m (nI l) y v = _
          unfold F_X9_put
          rw [r_isList1 hL, o_b, if_neg i10, a_ld (n := 4) rfl hl4 (by omega), o_b, k2, if_neg nm, o_b, isIn0 (p := 0) (q := (n : Int) - 1) (by decide) (by rw [i_long, nI_pre (by omega)]) (by rw [i_long]; omega), o_b, if_pos rfl]
  · refine Wr.no (v := -1) hI ?_ ?_
    · unfold F_X8_put
      rw [c_hasL0 hL, o_b, if_pos rfl]
    · show F_X9_put m x y v = _
      unfold F_X9_put
      rw [r_isList0 hL, o_b, if_pos rfl]
theorem p_get (h : Inv m) (x y : Int32) : Same (F_X8_get m x y) (F_X9_get m x y) := by
  obtain ⟨⟨V, hw, hc, hr⟩, hk, ht, hp, hl, hf⟩ := h
  unfold F_X8_get F_X9_get
  by_cases hL : isL x
  · obtain ⟨l, hl4, rfl⟩ := isL_of hL
    have c0 : y < 0 ↔ y.toInt < 0 := by rw [i_lt, Int32.toInt_zero]
    rw [c_hasL1 hL, r_isList1 hL, o_b, o_b, if_neg i10, if_neg i10, a_ld (n := 4) rfl hl4 (by omega), o_b]
    rcases hl l hl4 with ⟨k1, k2⟩ | ⟨n, n1, k1, k2, k3⟩
    · rw [k2, isIn0 (p := 0) (q := -2) (by decide) (by decide) (by omega), o_b, if_pos rfl]
      by_cases d : y < 0
      · rw [if_pos d]
        exact ⟨_, rfl, rfl⟩
      · rw [if_neg d, c_size0 hl4 k1, o_b, if_neg d]
        exact ⟨_, rfl, rfl⟩
    · have c1 : y < nI n ↔ y.toInt < n := by rw [i_lt, nI_toInt (by omega)]
      rw [k2]
      by_cases hy : 0 ≤ y.toInt ∧ y.toInt < n
      · obtain ⟨i, hi, rfl⟩ := i_of hy.1 hy.2
        rw [if_neg (nI_pos (by omega)), c_size1 hl4 n1 k1, o_b, if_pos (nI_lt hi (by omega)), c_cell hl4 (by omega), o_b, isIn1 (p := 0) (q := (n : Int) - 1) (by decide) (by rw [i_long, nI_pre (by omega)]) (by rw [i_long, nI_toInt (by omega)]; omega), o_b, if_neg i10, ix_r, a_ldl rfl (by omega), o_b, k3 i hi]
        exact ⟨_, rfl, rfl⟩
      · rw [isIn0 (p := 0) (q := (n : Int) - 1) (by decide) (by rw [i_long, nI_pre (by omega)]) (by rw [i_long]; omega), o_b, if_pos rfl]
        by_cases d : y < 0
        · rw [if_pos d]
          exact ⟨_, rfl, rfl⟩
        · have d' : ¬ y.toInt < 0 := fun z => d (c0.mpr z)
          rw [if_neg d, c_size1 hl4 n1 k1, o_b, if_neg (fun z => by have := c1.mp z; omega)]
          exact ⟨_, rfl, rfl⟩
  · rw [c_hasL0 hL, r_isList0 hL]
    exact ⟨_, rfl, rfl⟩
theorem p_jgK {V : oV} (hw : WF V) (hc : VC 1 m V) (hr : VR 52 m V) {l n : Nat} (hl4 : l < 4) (n1 : n ≤ 12) (k1 : m.1 48 l = nI (n + 1)) (k2 : m.1 57 l = nI n) (k3 : ∀ i, i < n → m.2 58 (12 * l + i) = m.2 49 (12 * l + i)) :
    ∀ r i, i + r = n → ∃ q, oTo (fun s : Int32 => F_X8_judge_L29 m (nI l) s) (nI i) q r ∧ oTo (fun s : Int32 => F_X9_judge_L24 m (nI l) s) (nI i) q r
  | 0, i, e => by
    refine ⟨.inl (), oTo.done _ ?_, oTo.done _ ?_⟩
    · show F_X8_judge_L29 m (nI l) (nI i) = _
      unfold F_X8_judge_L29
      rw [c_size1 hl4 n1 k1, o_b, if_pos (nI_le (by omega) (by omega))]
    · show F_X9_judge_L24 m (nI l) (nI i) = _
      unfold F_X9_judge_L24
      rw [a_ld (n := 4) rfl hl4 (by omega), o_b, k2, if_pos (nI_le (by omega) (by omega))]
  | r + 1, i, e => by
    have hi : i < n := by omega
    have C : ∃ t : Int64, F_X8_judge_L29 m (nI l) (nI i) = (if m.2 49 (12 * l + i) = t then some (.inl (nI (i + 1))) else some (.inr (.inr (nI i)))) ∧ F_X9_judge_L24 m (nI l) (nI i) = (if m.2 49 (12 * l + i) = t then some (.inl (nI (i + 1))) else some (.inr (.inr (nI i)))) := by
      by_cases ht : hT V (nI i)
      · obtain ⟨b, hb, e1, hbl⟩ := ht
        refine ⟨sStand V b, ?_, ?_⟩
        · unfold F_X8_judge_L29
          rw [c_size1 hl4 n1 k1, o_b, if_neg (nI_ge hi (by omega)), c_cell hl4 (by omega), nI_1]
          rw [e1, c_hasTrain1 hc hw rfl hb hbl, o_b, if_neg i10, c_standing (o := 1) hc hw rfl hb, o_b, o_b]
        · unfold F_X9_judge_L24
          rw [a_ld (n := 4) rfl hl4 (by omega), o_b, k2, if_neg (nI_ge hi (by omega)), ix_r, a_ldl rfl (by omega), o_b, k3 i hi, nI_1]
          rw [e1, r_hasTrain1 hr hw hb hbl, o_b, if_neg i10, r_standsAt hr hw hb, o_b]
      · refine ⟨0, ?_, ?_⟩
        · unfold F_X8_judge_L29
          rw [c_size1 hl4 n1 k1, o_b, if_neg (nI_ge hi (by omega)), c_cell hl4 (by omega), nI_1, c_hasTrain0 hc hw rfl ht, o_b, if_pos rfl, o_b]
        · unfold F_X9_judge_L24
          rw [a_ld (n := 4) rfl hl4 (by omega), o_b, k2, if_neg (nI_ge hi (by omega)), ix_r, a_ldl rfl (by omega), o_b, k3 i hi, nI_1, r_hasTrain0 hr hw ht, o_b, if_pos rfl]
    obtain ⟨t, C1, C2⟩ := C
    by_cases et : m.2 49 (12 * l + i) = t
    · rw [if_pos et] at C1 C2
      obtain ⟨q, h1, h2⟩ := p_jgK hw hc hr hl4 n1 k1 k2 k3 r (i + 1) (by omega)
      exact ⟨q, oTo.step C1 h1, oTo.step C2 h2⟩
    · rw [if_neg et] at C1 C2
      exact ⟨_, oTo.done _ C1, oTo.done _ C2⟩
theorem p_judge (h : Inv m) (x : Int32) : Same (F_X8_judge m x) (F_X9_judge m x) := by
  obtain ⟨⟨V, hw, hc, hr⟩, hk, ht, hp, hl, hf⟩ := h
  unfold F_X8_judge F_X9_judge
  by_cases hL : isL x
  · obtain ⟨l, hl4, rfl⟩ := isL_of hL
    rw [c_hasL1 hL, r_isList1 hL, o_b, o_b, if_neg i10, if_neg i10, a_ld (n := 4) rfl hl4 (by omega), o_b]
    rcases hl l hl4 with ⟨k1, k2⟩ | ⟨n, n1, k1, k2, k3⟩
    · rw [c_held0 hl4 k1, o_b, if_pos rfl, k2, if_pos rfl]
      exact ⟨_, rfl, rfl⟩
    · have nm : ¬ nI n = -1 := by
        rw [i_eq, nI_toInt (by omega), show (-1 : Int32).toInt = -1 by decide]
        omega
      obtain ⟨q, h1, h2⟩ := p_jgK hw hc hr hl4 n1 k1 k2 k3 n 0 (by omega)
      have A : oLoop (fun s : Int32 => F_X8_judge_L29 m (nI l) s) oFuel 0 = some q := h1.run (by omega)
      have B : oLoop (fun s : Int32 => F_X9_judge_L24 m (nI l) s) oFuel 0 = some q := h2.run (by omega)
      rw [c_held1 hl4 n1 k1, o_b, if_neg i10, k2, if_neg nm, A, B, o_b]
      rcases q with q | q
      · exact ⟨_, rfl, rfl⟩
      · exact ⟨_, rfl, rfl⟩
  · rw [c_hasL0 hL, r_isList0 hL]
    exact ⟨_, rfl, rfl⟩
end LISTS
