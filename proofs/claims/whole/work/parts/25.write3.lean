/-! feed, ratio, body -/
section WRITE3
variable {m : oM} {V : oV}
theorem p_feed (h : Inv m) (x : Int32) : Wr (F_X8_feed m x) (fun m => F_X9_feed m x) := by
  have hI := h
  obtain ⟨⟨V, hw, hc, hr⟩, hk, ⟨n, hn, t1, t2, t3⟩, hp, hl, hf⟩ := h
  by_cases hx : 1 ≤ x.toInt ∧ x.toInt ≤ 127
  · obtain ⟨x1, x2, x3⟩ := i_in (p := 1) (q := 127) (by decide) (by decide) hx
    have e1 := isIn1 (x := x.toInt64) (a := 1) (b := 127) (p := 1) (q := 127) (by decide) (by decide) (by rw [i_long]; exact hx)
    by_cases h60 : n = 60
    · refine Wr.no (v := -4) hI ?_ ?_
      · unfold F_X8_feed
        rw [if_neg x1, if_pos x3, t1, h60, if_neg (by decide)]
      · show F_X9_feed m x = _
        unfold F_X9_feed
        rw [e1, o_b, if_neg i10, t2, h60, if_pos (by decide)]
    · refine ⟨nI (n + 1), oSI (oSI m 44 n x) 43 0 (nI (n + 1)), oSI (oSI (oSI (oSI m 44 n x) 43 0 (nI (n + 1))) 55 n x) 51 8 (nI (n + 1)), ?_, ?_, ?_⟩
      · have s1 : (oSI m 44 n x).1 43 0 = nI n := t1
        unfold F_X8_feed
        rw [if_neg x1, if_pos x3, t1, if_pos (show nI n < 60 from nI_lt (b := 60) (by omega) (by omega)), f_set (n := 60) rfl (by omega) (by omega), o_b, o_b, s1, nI_1]
        rfl
      · have s1 : (oSI (oSI m 44 n x) 43 0 (nI (n + 1))).1 51 8 = nI n := t2
        have s2 : (oSI (oSI (oSI m 44 n x) 43 0 (nI (n + 1))) 55 n x).1 51 8 = nI n := t2
        show F_X9_feed (oSI (oSI m 44 n x) 43 0 (nI (n + 1))) x = _
        unfold F_X9_feed
        rw [e1, o_b, if_neg i10, s1, if_neg (show ¬ nI n = 60 from fun z => h60 ((nI_eq (b := 60) (by omega) (by omega)).mp z)), a_st (n := 60) rfl (by omega) (by omega), o_b, o_b, s2, nI_1]
        rfl
      · have ag : oAg (fun p k => p = 43 ∨ p = 44 ∨ p = 55 ∨ (p = 51 ∧ k = 8)) m (oSI (oSI (oSI (oSI m 44 n x) 43 0 (nI (n + 1))) 55 n x) 51 8 (nI (n + 1))) :=
          (((oAg.SI (by omega)).tr (oAg.SI (by omega))).tr (oAg.SI (by omega))).tr (oAg.SI (by omega))
        refine ⟨⟨V, hw, hc.ag ag (by omega), hr.ag ag (by omega)⟩, hk.ag ag (by omega) (by omega) (by omega) (by omega), ⟨n + 1, by omega, rfl, rfl, ?_⟩, hp.ag ag (by omega) (by omega) (by omega) (by omega), hl.ag ag (by omega) (by omega) (by omega) (by omega), hf.ag ag (by omega)⟩
        intro i hi
        have q1 : (oSI (oSI (oSI (oSI m 44 n x) 43 0 (nI (n + 1))) 55 n x) 51 8 (nI (n + 1))).1 55 i = if 55 = 55 ∧ i = n then x else m.1 55 i := rfl
        have q2 : (oSI (oSI (oSI (oSI m 44 n x) 43 0 (nI (n + 1))) 55 n x) 51 8 (nI (n + 1))).1 44 i = if 44 = 44 ∧ i = n then x else m.1 44 i := rfl
        rw [q1, q2]
        by_cases e : i = n
        · rw [if_pos ⟨rfl, e⟩, if_pos ⟨rfl, e⟩]
          exact ⟨rfl, hx⟩
        · rw [if_neg (fun z => e z.2), if_neg (fun z => e z.2)]
          exact t3 i (by omega)
  · refine Wr.no (v := -2) hI ?_ ?_
    · unfold F_X8_feed
      rcases i_out (p := 1) (q := 127) (by decide) (by decide) hx with k | ⟨k1, k2, k3⟩
      · rw [if_pos k]
      · rw [if_neg k1, if_neg k3]
    · show F_X9_feed m x = _
      unfold F_X9_feed
      rw [isIn0 (x := x.toInt64) (a := 1) (b := 127) (p := 1) (q := 127) (by decide) (by decide) (by rw [i_long]; exact hx), o_b, if_pos rfl]
-- ratios
def isR (x y : Int32) : Prop := iB x 1 9999 ∧ iB y 1 9999
theorem c_isRatio1 {x y : Int32} (h : isR x y) : F_X8_isRatio x y = some 1 := by
  obtain ⟨x1, x2, x3⟩ := i_in (p := 1) (q := 9999) (by decide) (by decide) h.1
  obtain ⟨y1, y2, y3⟩ := i_in (p := 1) (q := 9999) (by decide) (by decide) h.2
  unfold F_X8_isRatio
  rw [if_neg x1, if_neg x2, if_neg y1, if_neg y2]
theorem c_isRatio0 {x y : Int32} (h : ¬ isR x y) : F_X8_isRatio x y = some 0 := by
  unfold F_X8_isRatio
  by_cases hx : iB x 1 9999
  · obtain ⟨x1, x2, x3⟩ := i_in (p := 1) (q := 9999) (by decide) (by decide) hx
    rw [if_neg x1, if_neg x2]
    rcases i_out (x := y) (p := 1) (q := 9999) (by decide) (by decide) (fun z => h ⟨hx, z⟩) with k | ⟨k1, k2, k3⟩
    · rw [if_pos k]
    · rw [if_neg k1, if_pos k2]
  · rcases i_out (x := x) (p := 1) (q := 9999) (by decide) (by decide) hx with k | ⟨k1, k2, k3⟩
    · rw [if_pos k]
    · rw [if_neg k1, if_pos k2]
theorem r_isRatio1 {x y : Int32} (h : isR x y) : F_X9_isRatio x y = some 1 := by
  unfold F_X9_isRatio
  rw [isIn1 (x := x.toInt64) (a := 1) (b := 9999) (p := 1) (q := 9999) (by decide) (by decide) (by rw [i_long]; exact h.1), o_b, if_neg i10, isIn1 (x := y.toInt64) (a := 1) (b := 9999) (p := 1) (q := 9999) (by decide) (by decide) (by rw [i_long]; exact h.2), o_b, if_neg i10]
theorem r_isRatio0 {x y : Int32} (h : ¬ isR x y) : F_X9_isRatio x y = some 0 := by
  unfold F_X9_isRatio
  by_cases hx : iB x 1 9999
  · rw [isIn1 (x := x.toInt64) (a := 1) (b := 9999) (p := 1) (q := 9999) (by decide) (by decide) (by rw [i_long]; exact hx), o_b, if_neg i10, isIn0 (x := y.toInt64) (a := 1) (b := 9999) (p := 1) (q := 9999) (by decide) (by decide) (by rw [i_long]; exact fun z => h ⟨hx, z⟩), o_b, if_pos rfl]
  · rw [isIn0 (x := x.toInt64) (a := 1) (b := 9999) (p := 1) (q := 9999) (by decide) (by decide) (by rw [i_long]; exact hx), o_b, if_pos rfl]
/-- lowest terms, as ints -/
def sLo (x y p : Int32) : Int32 := (sTold x.toInt64 y.toInt64 p).toInt32
theorem i_cut {x : Int64} (h1 : -2147483648 ≤ x.toInt) (h2 : x.toInt ≤ 2147483647) : x.toInt32.toInt = x.toInt := by
  rw [Int64.toInt_toInt32]
  exact Int.bmod_eq_of_le (by omega) (by omega)
theorem sLo_b {x y : Int32} (h : isR x y) : iB (sLo x y 0) 1 9999 ∧ iB (sLo x y 1) 1 9999 := by
  obtain ⟨⟨x1, x2⟩, ⟨y1, y2⟩⟩ := h
  have hy : 0 < y.toInt64.toInt := by rw [i_long]; omega
  obtain ⟨g, g0, -, g1, g2⟩ := sG_cut (x := x.toInt64) hy
  rw [i_long] at g1 g2
  have key : ∀ q z : Int, q * g = z → 1 ≤ z → z ≤ 9999 → 1 ≤ q ∧ q ≤ 9999 := by
    intro q z e h1 h2
    have q0 : 0 < q := by
      rcases Int.lt_or_le 0 q with k | k
      · exact k
      · have := Int.mul_nonpos_of_nonpos_of_nonneg k (Int.le_of_lt g0)
        omega
    have := Int.mul_le_mul_of_nonneg_left (show 1 ≤ g by omega) (Int.le_of_lt q0)
    omega
  have k1 := key _ _ g1 x1 x2
  have k2 := key _ _ g2 y1 y2
  have e0 : sTold x.toInt64 y.toInt64 0 = x.toInt64 / sG x.toInt64 y.toInt64 := if_pos rfl
  have e1 : sTold x.toInt64 y.toInt64 1 = y.toInt64 / sG x.toInt64 y.toInt64 := if_neg (by decide)
  unfold sLo iB
  rw [e0, e1, i_cut (by omega) (by omega), i_cut (by omega) (by omega)]
  exact ⟨k1, k2⟩
theorem c_wish {x y : Int32} (h : isR x y) {b : Nat} (hb : b < 6) : F_X1_wish 1 m (nI b) x y = some (oSI (oSI m 2 b (sLo x y 0)) 3 b (sLo x y 1)) := by
  obtain ⟨⟨x1, x2⟩, ⟨y1, y2⟩⟩ := h
  have a1 := i_long x
  have a2 := i_long y
  unfold F_X1_wish
  rw [c_lowest 0 (by omega) (by omega) (by omega), o_b, show (1 + 1 : Nat) = 2 from rfl, f_set (n := 6) rfl hb (by omega), o_b, c_lowest 1 (by omega) (by omega) (by omega), o_b, show (1 + 2 : Nat) = 3 from rfl, f_set (n := 6) rfl hb (by omega), o_b]
  rfl
theorem r_becomesRatio {x y : Int32} (h : isR x y) {b : Nat} (hb : b < 6) : F_X9_becomesRatio m (nI b) x y = some (oSI (oSI m 52 (7 + b) (sLo x y 0)) 52 (13 + b) (sLo x y 1)) := by
  obtain ⟨⟨x1, x2⟩, ⟨y1, y2⟩⟩ := h
  have a1 := i_long x
  have a2 := i_long y
  unfold F_X9_becomesRatio
  rw [r_told 0 (by omega) (by omega) (by omega), o_b, ix (c := 7) (n := 7) rfl, a_st sh52 (by omega) (by omega), o_b, r_told 1 (by omega) (by omega) (by omega), o_b, ix (c := 13) (n := 13) rfl, a_st sh52 (by omega) (by omega), o_b]
  rfl
theorem p_ratio (h : Inv m) (x y z : Int32) : Wr (F_X8_ratio m x y z) (fun m => F_X9_ratio m x y z) := by
  have hI := h
  obtain ⟨⟨V, hw, hc, hr⟩, -⟩ := h
  by_cases hB : isB V x
  · obtain ⟨b, hb, rfl⟩ := isB_of hB
    by_cases hR : isR y z
    · have h1 := hw.1
      have lo := sLo_b hR
      refine ⟨10000 * vab V b + vbe V b, oSI (oSI m 2 b (sLo y z 0)) 3 b (sLo y z 1), oSI (oSI (oSI (oSI m 2 b (sLo y z 0)) 3 b (sLo y z 1)) 52 (7 + b) (sLo y z 0)) 52 (13 + b) (sLo y z 1), ?_, ?_, ?_⟩
      · unfold F_X8_ratio
        rw [c_hasBody1 hc hw hB, o_b, if_neg i10, c_isRatio1 hR, o_b, if_neg i10, c1_ab hc hw hb, o_b, c1_be hc hw hb, o_b, o_b, c_wish hR (by omega), o_b]
      · have hr1 : VR 52 (oSI (oSI m 2 b (sLo y z 0)) 3 b (sLo y z 1)) V := hr
        show F_X9_ratio (oSI (oSI m 2 b (sLo y z 0)) 3 b (sLo y z 1)) (nI b) y z = _
        unfold F_X9_ratio
        rw [r_isBody1 hr1 hw hB, o_b, if_neg i10, r_isRatio1 hR, o_b, if_neg i10, r_ab hr1 hw hb, o_b, r_be hr1 hw hb, o_b, o_b, r_becomesRatio hR (by omega), o_b]
      · obtain ⟨a1, a2, a3, a4, a5⟩ := hw
        obtain ⟨c1, c2, c3, c4, c5⟩ := hc
        obtain ⟨r1, r2, r3, r4, r5, r6, r7, r8, r9, r10, r11, r12⟩ := hr
        refine hI.now (V' := (V.1, (sUp (vab V) b (sLo y z 0), sUp (vbe V) b (sLo y z 1)), V.2.2)) ((((agN (by omega) (by omega)).tr (agN (by omega) (by omega))).tr ag52).tr ag52) ⟨a1, a2, a3, fun c (hcb : c < vnb V) => ⟨sUp_b lo.1 (a4 c hcb).1, sUp_b lo.2 (a4 c hcb).2⟩, a5⟩ ?_ ?_
        · exact ⟨c1, c2, c3, fun c (hcb : c < vnb V) => ⟨SI_up (p := 2) (c4 c hcb).1, SI_up (p := 3) (c4 c hcb).2⟩, c5⟩
        · exact ⟨SI_n2 r1 (by omega) (by omega), SI_n2 r2 (by omega) (by omega), SI_n2 r3 (by omega) (by omega), fun c (hcb : c < vnb V) => ⟨SI_n1 (SI_up' (r4 c hcb).1) (by omega), SI_up' (SI_n1 (r4 c hcb).2 (by omega))⟩, fun c (hcb : c < vnb V) => SI_n2 (r5 c hcb) (by omega) (by omega), fun c k (hcb : c < vnb V) (hk : k < vln V c) => SI_n2 (r6 c k hcb hk) (by omega) (by omega),
            fun p (hp : p < vnp V) => ⟨SI_n2 (r7 p hp).1 (by omega) (by omega), SI_n2 (r7 p hp).2.1 (by omega) (by omega), SI_n2 (r7 p hp).2.2.1 (by omega) (by omega), SI_n2 (r7 p hp).2.2.2 (by omega) (by omega)⟩, SI_n2 r8 (by omega) (by omega), SI_n2 r9 (by omega) (by omega), SI_n2 r10 (by omega) (by omega), SI_n2 r11 (by omega) (by omega),
            fun i (hi : i < vps V) => ⟨SI_n2 (r12 i hi).1 (by omega) (by omega), SI_n2 (r12 i hi).2 (by omega) (by omega)⟩⟩
    · refine Wr.no (v := -2) hI ?_ ?_
      · unfold F_X8_ratio
        rw [c_hasBody1 hc hw hB, o_b, if_neg i10, c_isRatio0 hR, o_b, if_pos rfl]
      · show F_X9_ratio m (nI b) y z = _
        unfold F_X9_ratio
        rw [r_isBody1 hr hw hB, o_b, if_neg i10, r_isRatio0 hR, o_b, if_pos rfl]
  · refine Wr.no (v := -1) hI ?_ ?_
    · unfold F_X8_ratio
      rw [c_hasBody0 hc hw hB, o_b, if_pos rfl]
    · show F_X9_ratio m x y z = _
      unfold F_X9_ratio
      rw [r_isBody0 hr hw hB, o_b, if_pos rfl]
theorem p_body (h : Inv m) (y z : Int32) : Wr (F_X8_body m y z) (fun m => F_X9_body m y z) := by
  have hI := h
  obtain ⟨⟨V, hw, hc, hr⟩, -⟩ := h
  by_cases hR : isR y z
  · by_cases h6 : vnb V = 6
    · refine Wr.no (v := -4) hI ?_ ?_
      · unfold F_X8_body
        rw [c_isRatio1 hR, o_b, if_neg i10, hc.nb, h6, if_neg (by decide)]
      · show F_X9_body m y z = _
        unfold F_X9_body
        rw [r_isRatio1 hR, o_b, if_neg i10, hr.nb, h6, if_pos (by decide)]
    · have h1 := hw.1
      have lo := sLo_b hR
      generalize hb : vnb V = b at *
      have p1 : ∀ k : oM, k.1 1 0 = nI (b + 1) → k.1 1 0 - 1 = nI b := fun k e => by rw [e, nI_pred]
      have m1e : (oSI (oSI (oSI m 1 0 (nI (b + 1))) 2 b (sLo y z 0)) 3 b (sLo y z 1)).1 52 0 = nI b := by rw [← hb]; exact hr.nb
      refine ⟨nI b, oSI (oSI (oSI m 1 0 (nI (b + 1))) 2 b (sLo y z 0)) 3 b (sLo y z 1), oSI (oSI (oSI (oSI (oSI (oSI (oSI m 1 0 (nI (b + 1))) 2 b (sLo y z 0)) 3 b (sLo y z 1)) 52 (7 + b) (sLo y z 0)) 52 (13 + b) (sLo y z 1)) 52 (19 + b) 0) 52 0 (nI (b + 1)), ?_, ?_, ?_⟩
      · unfold F_X8_body
        rw [c_isRatio1 hR, o_b, if_neg i10, hc.nb, hb, if_pos (show nI b < 6 from nI_lt (b := 6) (by omega) (by omega)), o_b, nI_1, p1 (oSI m 1 0 (nI (b + 1))) rfl, c_wish hR (by omega), o_b, p1 (oSI (oSI (oSI m 1 0 (nI (b + 1))) 2 b (sLo y z 0)) 3 b (sLo y z 1)) rfl]
      · show F_X9_body (oSI (oSI (oSI m 1 0 (nI (b + 1))) 2 b (sLo y z 0)) 3 b (sLo y z 1)) y z = _
        generalize hm1 : oSI (oSI (oSI m 1 0 (nI (b + 1))) 2 b (sLo y z 0)) 3 b (sLo y z 1) = m1 at m1e ⊢
        have m2e : (oSI (oSI m1 52 (7 + b) (sLo y z 0)) 52 (13 + b) (sLo y z 1)).1 52 0 = nI b := SI_n2 m1e (by omega) (by omega)
        have m3e : (oSI (oSI (oSI m1 52 (7 + b) (sLo y z 0)) 52 (13 + b) (sLo y z 1)) 52 (19 + b) 0).1 52 0 = nI b := SI_n1 m2e (by omega)
        unfold F_X9_body
        rw [r_isRatio1 hR, o_b, if_neg i10, m1e, if_neg (show ¬ nI b = 6 from fun k => h6 ((nI_eq (b := 6) (by omega) (by omega)).mp k)), r_becomesRatio hR (by omega), o_b, m2e, ix (c := 19) (n := 19) rfl, a_st sh52 (by omega) (by omega), o_b, o_b, m3e, nI_1, SI_eq, nI_pred]
      · obtain ⟨a1, a2, a3, a4, a5, a6, a7, a8⟩ := hw
        obtain ⟨c1, c2, c3, c4, c5, c6, c7⟩ := hc
        obtain ⟨r1, r2, r3, r4, r5, r6, r7, r8, r9, r10, r11, r12⟩ := hr
        have lt : ∀ c, c < b + 1 → c ≠ b → c < vnb V := fun c h1 h2 => by omega
        have l0 : vln V b = 0 := a6 b (by omega)
        have lk : ∀ c k, c < b + 1 → k < vln V c → c < vnb V := fun c k h1 h2 => lt c h1 (fun e => by rw [e, l0] at h2; omega)
        refine hI.now (V' := ((b + 1, vnp V, vps V), (sUp (vab V) b (sLo y z 0), sUp (vbe V) b (sLo y z 1)), V.2.2)) ((((((((agN (by omega) (by omega)).tr (agN (by omega) (by omega))).tr (agN (by omega) (by omega))).tr ag52).tr ag52).tr ag52)).tr ag52) ⟨by show b + 1 ≤ 6; omega, a2, a3, fun c (hcb : c < b + 1) => ?_, a5, fun c (hcb : b + 1 ≤ c) => a6 c (by omega), fun c k (hcb : c < b + 1) hk => a7 c k (lk c k hcb hk) hk, a8⟩ ?_ ?_
        · by_cases e : c = b
          · show iB (sUp (vab V) b (sLo y z 0) c) 1 9999 ∧ iB (sUp (vbe V) b (sLo y z 1) c) 1 9999
            rw [e, sUp_eq, sUp_eq]
            exact lo
          · exact ⟨sUp_b lo.1 (a4 c (lt c hcb e)).1, sUp_b lo.2 (a4 c (lt c hcb e)).2⟩
        · refine ⟨rfl, c2, c3, fun c (hcb : c < b + 1) => ?_, c5, fun c k (hcb : c < b + 1) hk => c6 c k (lk c k hcb hk) hk, c7⟩
          by_cases e : c = b
          · show (if 2 = 2 ∧ c = b then sLo y z 0 else _) = sUp (vab V) b (sLo y z 0) c ∧ (if 3 = 3 ∧ c = b then sLo y z 1 else _) = sUp (vbe V) b (sLo y z 1) c
            rw [if_pos ⟨rfl, e⟩, if_pos ⟨rfl, e⟩, e, sUp_eq, sUp_eq]
            exact ⟨rfl, rfl⟩
          · exact ⟨SI_up (p := 2) (c4 c (lt c hcb e)).1, SI_up (p := 3) (c4 c (lt c hcb e)).2⟩
        · have n4 : ∀ {k : Nat} {v : Int32}, m.1 52 k = v → k ≠ 7 + b → k ≠ 13 + b → k ≠ 19 + b → k ≠ 0 → (oSI (oSI (oSI (oSI (oSI (oSI (oSI m 1 0 (nI (b + 1))) 2 b (sLo y z 0)) 3 b (sLo y z 1)) 52 (7 + b) (sLo y z 0)) 52 (13 + b) (sLo y z 1)) 52 (19 + b) 0) 52 0 (nI (b + 1))).1 52 k = v := fun e d1 d2 d3 d4 => SI_n2 (SI_n2 e d1 d2) d3 d4
          refine ⟨rfl, n4 r2 (by omega) (by omega) (by omega) (by omega), n4 r3 (by omega) (by omega) (by omega) (by omega), fun c (hcb : c < b + 1) => ?_, fun c (hcb : c < b + 1) => ?_, fun c k (hcb : c < b + 1) (hk : k < vln V c) => n4 (r6 c k (lk c k hcb hk) hk) (by omega) (by omega) (by omega) (by omega),
            fun p (hp : p < vnp V) => ⟨n4 (r7 p hp).1 (by omega) (by omega) (by omega) (by omega), n4 (r7 p hp).2.1 (by omega) (by omega) (by omega) (by omega), n4 (r7 p hp).2.2.1 (by omega) (by omega) (by omega) (by omega), n4 (r7 p hp).2.2.2 (by omega) (by omega) (by omega) (by omega)⟩, n4 r8 (by omega) (by omega) (by omega) (by omega), n4 r9 (by omega) (by omega) (by omega) (by omega), n4 r10 (by omega) (by omega) (by omega) (by omega), n4 r11 (by omega) (by omega) (by omega) (by omega),
            fun i (hi : i < vps V) => ⟨n4 (r12 i hi).1 (by omega) (by omega) (by omega) (by omega), n4 (r12 i hi).2 (by omega) (by omega) (by omega) (by omega)⟩⟩
          · by_cases e : c = b
            · refine ⟨SI_n2 (SI_n1 ?_ (by omega)) (by omega) (by omega), SI_n2 ?_ (by omega) (by omega)⟩ <;> rw [e, SI_eq] <;> exact sUp_eq.symm
            · refine ⟨?_, ?_⟩
              · rw [show vab ((b + 1, vnp V, vps V), (sUp (vab V) b (sLo y z 0), sUp (vbe V) b (sLo y z 1)), V.2.2) c = vab V c from sUp_ne e]
                exact n4 (r4 c (lt c hcb e)).1 (by omega) (by omega) (by omega) (by omega)
              · rw [show vbe ((b + 1, vnp V, vps V), (sUp (vab V) b (sLo y z 0), sUp (vbe V) b (sLo y z 1)), V.2.2) c = vbe V c from sUp_ne e]
                exact n4 (r4 c (lt c hcb e)).2 (by omega) (by omega) (by omega) (by omega)
          · by_cases e : c = b
            · refine SI_n1 ?_ (by omega)
              rw [e, SI_eq]
              show (0 : Int32) = nI (vln V b)
              rw [l0]
              rfl
            · exact n4 (r5 c (lt c hcb e)) (by omega) (by omega) (by omega) (by omega)
  · refine Wr.no (v := -2) hI ?_ ?_
    · unfold F_X8_body
      rw [c_isRatio0 hR, o_b, if_pos rfl]
    · show F_X9_body m y z = _
      unfold F_X9_body
      rw [r_isRatio0 hR, o_b, if_pos rfl]
end WRITE3
