/-! becomes, teeth, drop, feed -/
section WRITE2
variable {m : oM} {V : oV}
theorem i_in {x : Int32} {a b : Int} {p q : Int32} (hp : p.toInt = a) (hq : q.toInt = b) (h : a ≤ x.toInt ∧ x.toInt ≤ b) : ¬ x < p ∧ ¬ q < x ∧ x ≤ q := by
  rw [i_lt, i_lt, i_le]
  omega
theorem i_out {x : Int32} {a b : Int} {p q : Int32} (hp : p.toInt = a) (hq : q.toInt = b) (h : ¬ (a ≤ x.toInt ∧ x.toInt ≤ b)) : x < p ∨ (¬ x < p ∧ q < x ∧ ¬ x ≤ q) := by
  rw [i_lt, i_lt, i_le]
  omega
def sUp (f : Nat → Int32) (q : Nat) (x : Int32) : Nat → Int32 := fun i => if i = q then x else f i
theorem sUp_eq {f : Nat → Int32} {q : Nat} {x : Int32} : sUp f q x q = x := if_pos rfl
theorem sUp_ne {f : Nat → Int32} {q i : Nat} {x : Int32} (h : i ≠ q) : sUp f q x i = f i := if_neg h
theorem SI_up {m : oM} {p q : Nat} {x : Int32} {f : Nat → Int32} {i : Nat} (h : m.1 p i = f i) : (oSI m p q x).1 p i = sUp f q x i := by
  by_cases e : i = q
  · rw [e, sUp_eq, SI_eq]
  · rw [sUp_ne e]
    exact SI_n1 h e
theorem SI_up' {m : oM} {p o q : Nat} {x : Int32} {f : Nat → Int32} {i : Nat} (h : m.1 p (o + i) = f i) : (oSI m p (o + q) x).1 p (o + i) = sUp f q x i := by
  by_cases e : i = q
  · rw [e, sUp_eq, SI_eq]
  · rw [sUp_ne e]
    exact SI_n1 h (by omega)
theorem sUp_b {f : Nat → Int32} {q i : Nat} {x : Int32} {a b : Int} (hx : iB x a b) (h : iB (f i) a b) : iB (sUp f q x i) a b := by
  unfold sUp
  split
  · exact hx
  · exact h
theorem p_becomes (h : Inv m) (x y z : Int32) : Wr (F_X8_becomes m x y z) (fun m => F_X9_becomes m x y z) := by
  have hI := h
  obtain ⟨⟨V, hw, hc, hr⟩, -⟩ := h
  by_cases hQ : isQ V x
  · obtain ⟨q, hq, rfl⟩ := isQ_of hQ
    have e1 := c1_has1 hc hw hQ
    have e2 := fun (m1 : oM) (hr1 : VR 52 m1 V) => r_isPair1 hr1 hw hQ
    by_cases hy : 0 ≤ y.toInt ∧ y.toInt ≤ 5
    · obtain ⟨y1, y2, y3⟩ := i_in (p := 0) (q := 5) (by decide) (by decide) hy
      have y6 : y < 6 := by rw [i_lt, show (6 : Int32).toInt = 6 by decide]; omega
      have e3 := isIn1 (x := y.toInt64) (a := 0) (b := 5) (p := 0) (q := 5) (by decide) (by decide) (by rw [i_long]; exact hy)
      by_cases hz : 0 ≤ z.toInt ∧ z.toInt ≤ 9
      · obtain ⟨z1, z2, z3⟩ := i_in (p := 0) (q := 9) (by decide) (by decide) hz
        have e4 := isIn1 (x := z.toInt64) (a := 0) (b := 9) (p := 0) (q := 9) (by decide) (by decide) (by rw [i_long]; exact hz)
        have hn := hw.2.1
        refine ⟨10 * vkd V q + vfg V q, oSI (oSI m 5 q y) 6 q z, oSI (oSI (oSI (oSI m 5 q y) 6 q z) 52 (43 + q) y) 52 (53 + q) z, ?_, ?_, ?_⟩
        · unfold F_X8_becomes
          rw [e1, o_b, if_neg i10, if_neg y1, if_pos y6, if_neg z1, if_pos z3, c1_kd hc hw hq, o_b, c1_fg hc hw hq, o_b, o_b, f_set (n := 10) rfl (by omega) (by omega), o_b, f_set (n := 10) rfl (by omega) (by omega)]
          rfl
        · show F_X9_becomes (oSI (oSI m 5 q y) 6 q z) (nI q) y z = _
          have hr1 : VR 52 (oSI (oSI m 5 q y) 6 q z) V := hr
          unfold F_X9_becomes
          rw [e2 _ hr1, o_b, if_neg i10, e3, o_b, if_neg i10, e4, o_b, if_neg i10, r_kd hr1 hw hq, o_b, r_fg hr1 hw hq, o_b, o_b, ix (c := 43) (n := 43) rfl, a_st sh52 (by omega) (by omega), o_b, ix (c := 53) (n := 53) rfl, a_st sh52 (by omega) (by omega), o_b]
        · obtain ⟨a1, a2, a3, a4, a5, a6, a7, a8, a9⟩ := hw
          obtain ⟨c1, c2, c3, c4, c5, c6, c7, c8⟩ := hc
          obtain ⟨r1, r2, r3, r4, r5, r6, r7, r8, r9, r10, r11, r12⟩ := hr
          refine hI.now (V' := (V.1, V.2.1, V.2.2.1, (sUp (vkd V) q y, sUp (vfg V) q z, vdr V, vdn V), V.2.2.2.2)) ?_ ⟨a1, a2, a3, a4, a5, a6, a7, fun p hp => ⟨sUp_b hy (a8 p hp).1, sUp_b hz (a8 p hp).2.1, (a8 p hp).2.2.1, (a8 p hp).2.2.2⟩, a9⟩ ?_ ?_
          · exact (((agN (by omega) (by omega)).tr (agN (by omega) (by omega))).tr ag52).tr ag52
          · exact ⟨c1, c2, c3, c4, c5, c6, fun p (hp : p < vnp V) => ⟨SI_up (p := 5) (c7 p hp).1, SI_up (p := 6) (c7 p hp).2.1, (c7 p hp).2.2.1, (c7 p hp).2.2.2⟩, c8⟩
          · refine ⟨SI_n2 r1 (by omega) (by omega), SI_n2 r2 (by omega) (by omega), SI_n2 r3 (by omega) (by omega), fun b (hb : b < vnb V) => ⟨SI_n2 (r4 b hb).1 (by omega) (by omega), SI_n2 (r4 b hb).2 (by omega) (by omega)⟩, fun b (hb : b < vnb V) => SI_n2 (r5 b hb) (by omega) (by omega), fun b k (hb : b < vnb V) (hk : k < vln V b) => SI_n2 (r6 b k hb hk) (by have := a5 b; omega) (by have := a5 b; omega),
              fun p (hp : p < vnp V) => ⟨SI_n1 (SI_up' (r7 p hp).1) (by omega), SI_up' (SI_n1 (r7 p hp).2.1 (by omega)), SI_n2 (r7 p hp).2.2.1 (by omega) (by omega), SI_n2 (r7 p hp).2.2.2 (by omega) (by omega)⟩, SI_n2 r8 (by omega) (by omega), SI_n2 r9 (by omega) (by omega), SI_n2 r10 (by omega) (by omega), SI_n2 r11 (by omega) (by omega),
              fun i (hi : i < vps V) => ⟨SI_n2 (r12 i hi).1 (by omega) (by omega), SI_n2 (r12 i hi).2 (by omega) (by omega)⟩⟩
      · have e4 := isIn0 (x := z.toInt64) (a := 0) (b := 9) (p := 0) (q := 9) (by decide) (by decide) (by rw [i_long]; exact hz)
        refine Wr.no (v := -2) hI ?_ ?_
        · unfold F_X8_becomes
          rw [e1, o_b, if_neg i10, if_neg y1, if_pos y6]
          rcases i_out (p := 0) (q := 9) (by decide) (by decide) hz with k | ⟨k1, k2, k3⟩
          · rw [if_pos k]
          · rw [if_neg k1, if_neg k3]
        · show F_X9_becomes m (nI q) y z = _
          unfold F_X9_becomes
          rw [e2 _ hr, o_b, if_neg i10, e3, o_b, if_neg i10, e4, o_b, if_pos rfl]
    · have e3 := isIn0 (x := y.toInt64) (a := 0) (b := 5) (p := 0) (q := 5) (by decide) (by decide) (by rw [i_long]; exact hy)
      refine Wr.no (v := -1) hI ?_ ?_
      · unfold F_X8_becomes
        rw [e1, o_b, if_neg i10]
        rcases i_out (p := 0) (q := 5) (by decide) (by decide) hy with k | ⟨k1, k2, k3⟩
        · rw [if_pos k]
        · rw [if_neg k1, if_neg (show ¬ y < 6 by rw [i_lt, show (6 : Int32).toInt = 6 by decide]; rw [i_lt, show (5 : Int32).toInt = 5 by decide] at k2; omega)]
      · show F_X9_becomes m (nI q) y z = _
        unfold F_X9_becomes
        rw [e2 _ hr, o_b, if_neg i10, e3, o_b, if_pos rfl]
  · refine Wr.no (v := -1) hI ?_ ?_
    · unfold F_X8_becomes
      rw [c1_has0 hc hw hQ, o_b, if_pos rfl]
    · show F_X9_becomes m x y z = _
      unfold F_X9_becomes
      rw [r_isPair0 hr hw hQ, o_b, if_pos rfl]
theorem p_teeth (h : Inv m) (x y z : Int32) : Wr (F_X8_teeth m x y z) (fun m => F_X9_teeth m x y z) := by
  have hI := h
  obtain ⟨⟨V, hw, hc, hr⟩, -⟩ := h
  by_cases hQ : isQ V x
  · obtain ⟨q, hq, rfl⟩ := isQ_of hQ
    have e1 := c1_has1 hc hw hQ
    have e2 := fun (m1 : oM) (hr1 : VR 52 m1 V) => r_isPair1 hr1 hw hQ
    by_cases hy : 0 ≤ y.toInt ∧ y.toInt ≤ 1
    · obtain ⟨y1, y2, y3⟩ := i_in (p := 0) (q := 1) (by decide) (by decide) hy
      have e3 := isIn1 (x := y.toInt64) (a := 0) (b := 1) (p := 0) (q := 1) (by decide) (by decide) (by rw [i_long]; exact hy)
      by_cases hz : 10 ≤ z.toInt ∧ z.toInt ≤ 99
      · have e4 := isIn1 (x := z.toInt64) (a := 10) (b := 99) (p := 10) (q := 99) (by decide) (by decide) (by rw [i_long]; exact hz)
        have hn := hw.2.1
        by_cases y0 : y = 0
        · refine ⟨vdr V q, oSI m 7 q z, oSI (oSI m 7 q z) 52 (63 + q) z, ?_, ?_, ?_⟩
          · unfold F_X8_teeth
            rw [e1, o_b, if_neg i10, if_neg y1, if_pos y3, c_isTeeth1 hz, o_b, if_neg i10, if_pos y0, c1_dr hc hw hq, o_b, f_set (n := 10) rfl (by omega) (by omega), o_b]
          · show F_X9_teeth (oSI m 7 q z) (nI q) y z = _
            have hr1 : VR 52 (oSI m 7 q z) V := hr
            unfold F_X9_teeth
            rw [e2 _ hr1, o_b, if_neg i10, e3, o_b, if_neg i10, e4, o_b, if_neg i10, if_pos y0, o_b, r_dr hr1 hw hq, o_b, ix (c := 63) (n := 63) rfl, a_st sh52 (by omega) (by omega), o_b]
          · obtain ⟨a1, a2, a3, a4, a5, a6, a7, a8, a9⟩ := hw
            obtain ⟨c1, c2, c3, c4, c5, c6, c7, c8⟩ := hc
            obtain ⟨r1, r2, r3, r4, r5, r6, r7, r8, r9, r10, r11, r12⟩ := hr
            refine hI.now (V' := (V.1, V.2.1, V.2.2.1, (vkd V, vfg V, sUp (vdr V) q z, vdn V), V.2.2.2.2)) ((agN (by omega) (by omega)).tr ag52) ⟨a1, a2, a3, a4, a5, a6, a7, fun p hp => ⟨(a8 p hp).1, (a8 p hp).2.1, sUp_b hz (a8 p hp).2.2.1, (a8 p hp).2.2.2⟩, a9⟩ ?_ ?_
            · exact ⟨c1, c2, c3, c4, c5, c6, fun p hp => ⟨(c7 p hp).1, (c7 p hp).2.1, SI_up (p := 7) (c7 p hp).2.2.1, (c7 p hp).2.2.2⟩, c8⟩
            · exact ⟨SI_n1 r1 (by omega), SI_n1 r2 (by omega), SI_n1 r3 (by omega), fun b (hb : b < vnb V) => ⟨SI_n1 (r4 b hb).1 (by omega), SI_n1 (r4 b hb).2 (by omega)⟩, fun b (hb : b < vnb V) => SI_n1 (r5 b hb) (by omega), fun b k (hb : b < vnb V) (hk : k < vln V b) => SI_n1 (r6 b k hb hk) (by have := a5 b; omega),
                fun p (hp : p < vnp V) => ⟨SI_n1 (r7 p hp).1 (by omega), SI_n1 (r7 p hp).2.1 (by omega), SI_up' (r7 p hp).2.2.1, SI_n1 (r7 p hp).2.2.2 (by omega)⟩, SI_n1 r8 (by omega), SI_n1 r9 (by omega), SI_n1 r10 (by omega), SI_n1 r11 (by omega),
                fun i (hi : i < vps V) => ⟨SI_n1 (r12 i hi).1 (by omega), SI_n1 (r12 i hi).2 (by omega)⟩⟩
        · refine ⟨vdn V q, oSI m 8 q z, oSI (oSI m 8 q z) 52 (73 + q) z, ?_, ?_, ?_⟩
          · unfold F_X8_teeth
            rw [e1, o_b, if_neg i10, if_neg y1, if_pos y3, c_isTeeth1 hz, o_b, if_neg i10, if_neg y0, c1_dn hc hw hq, o_b, f_set (n := 10) rfl (by omega) (by omega), o_b]
          · show F_X9_teeth (oSI m 8 q z) (nI q) y z = _
            have hr1 : VR 52 (oSI m 8 q z) V := hr
            unfold F_X9_teeth
            rw [e2 _ hr1, o_b, if_neg i10, e3, o_b, if_neg i10, e4, o_b, if_neg i10, if_neg y0, o_b, r_dn hr1 hw hq, o_b, ix (c := 73) (n := 73) rfl, a_st sh52 (by omega) (by omega), o_b]
          · obtain ⟨a1, a2, a3, a4, a5, a6, a7, a8, a9⟩ := hw
            obtain ⟨c1, c2, c3, c4, c5, c6, c7, c8⟩ := hc
            obtain ⟨r1, r2, r3, r4, r5, r6, r7, r8, r9, r10, r11, r12⟩ := hr
            refine hI.now (V' := (V.1, V.2.1, V.2.2.1, (vkd V, vfg V, vdr V, sUp (vdn V) q z), V.2.2.2.2)) ((agN (by omega) (by omega)).tr ag52) ⟨a1, a2, a3, a4, a5, a6, a7, fun p hp => ⟨(a8 p hp).1, (a8 p hp).2.1, (a8 p hp).2.2.1, sUp_b hz (a8 p hp).2.2.2⟩, a9⟩ ?_ ?_
            · exact ⟨c1, c2, c3, c4, c5, c6, fun p hp => ⟨(c7 p hp).1, (c7 p hp).2.1, (c7 p hp).2.2.1, SI_up (p := 8) (c7 p hp).2.2.2⟩, c8⟩
            · exact ⟨SI_n1 r1 (by omega), SI_n1 r2 (by omega), SI_n1 r3 (by omega), fun b (hb : b < vnb V) => ⟨SI_n1 (r4 b hb).1 (by omega), SI_n1 (r4 b hb).2 (by omega)⟩, fun b (hb : b < vnb V) => SI_n1 (r5 b hb) (by omega), fun b k (hb : b < vnb V) (hk : k < vln V b) => SI_n1 (r6 b k hb hk) (by have := a5 b; omega),
                fun p (hp : p < vnp V) => ⟨SI_n1 (r7 p hp).1 (by omega), SI_n1 (r7 p hp).2.1 (by omega), SI_n1 (r7 p hp).2.2.1 (by omega), SI_up' (r7 p hp).2.2.2⟩, SI_n1 r8 (by omega), SI_n1 r9 (by omega), SI_n1 r10 (by omega), SI_n1 r11 (by omega),
                fun i (hi : i < vps V) => ⟨SI_n1 (r12 i hi).1 (by omega), SI_n1 (r12 i hi).2 (by omega)⟩⟩
      · have e4 := isIn0 (x := z.toInt64) (a := 10) (b := 99) (p := 10) (q := 99) (by decide) (by decide) (by rw [i_long]; exact hz)
        refine Wr.no (v := -2) hI ?_ ?_
        · unfold F_X8_teeth
          rw [e1, o_b, if_neg i10, if_neg y1, if_pos y3, c_isTeeth0 hz, o_b, if_pos rfl]
        · show F_X9_teeth m (nI q) y z = _
          unfold F_X9_teeth
          rw [e2 _ hr, o_b, if_neg i10, e3, o_b, if_neg i10, e4, o_b, if_pos rfl]
    · have e3 := isIn0 (x := y.toInt64) (a := 0) (b := 1) (p := 0) (q := 1) (by decide) (by decide) (by rw [i_long]; exact hy)
      refine Wr.no (v := -1) hI ?_ ?_
      · unfold F_X8_teeth
        rw [e1, o_b, if_neg i10]
        rcases i_out (p := 0) (q := 1) (by decide) (by decide) hy with k | ⟨k1, k2, k3⟩
        · rw [if_pos k]
        · rw [if_neg k1, if_neg k3]
      · show F_X9_teeth m (nI q) y z = _
        unfold F_X9_teeth
        rw [e2 _ hr, o_b, if_neg i10, e3, o_b, if_pos rfl]
  · refine Wr.no (v := -1) hI ?_ ?_
    · unfold F_X8_teeth
      rw [c1_has0 hc hw hQ, o_b, if_pos rfl]
    · show F_X9_teeth m x y z = _
      unfold F_X9_teeth
      rw [r_isPair0 hr hw hQ, o_b, if_pos rfl]
theorem p_drop (h : Inv m) (x : Int32) : Wr (F_X8_drop m x) (fun m => F_X9_drop m x) := by
  have hI := h
  obtain ⟨⟨V, hw, hc, hr⟩, -⟩ := h
  by_cases hB : isB V x
  · obtain ⟨b, hb, rfl⟩ := isB_of hB
    have h1 := hw.1
    have h3 := hw.2.2.2.2.1 b
    by_cases h0 : vln V b = 0
    · refine Wr.no (v := -3) hI ?_ ?_
      · unfold F_X8_drop
        rw [c_hasBody1 hc hw hB, o_b, if_neg i10, c_hasTrain0 hc hw rfl, o_b, if_pos rfl]
        rintro ⟨c, hcb, he, hl⟩
        have := (nI_eq (by omega) (by omega)).mp he
        subst this
        omega
      · show F_X9_drop m (nI b) = _
        unfold F_X9_drop
        rw [r_isBody1 hr hw hB, o_b, if_neg i10, r_ln hr hw hb, o_b, if_pos (by rw [h0]; rfl)]
    · refine ⟨nI (vln V b), oSI m 10 b 0, oSI (oSI m 10 b 0) 52 (19 + b) 0, ?_, ?_, ?_⟩
      · unfold F_X8_drop F_X7_cut
        rw [c_hasBody1 hc hw hB, o_b, if_neg i10, c_hasTrain1 hc hw rfl hb (by omega), o_b, if_neg i10, c1_len hc (by omega), o_b, show (9 + 1 : Nat) = 10 from rfl, f_set (n := 6) rfl (by omega) (by omega)]
        rfl
      · have hr1 : VR 52 (oSI m 10 b 0) V := hr
        show F_X9_drop (oSI m 10 b 0) (nI b) = _
        unfold F_X9_drop
        rw [r_isBody1 hr1 hw hB, o_b, if_neg i10, r_ln hr1 hw hb, o_b, if_neg (nI_ne0 (by omega) (by omega)), ix (c := 19) (n := 19) rfl, a_st sh52 (by omega) (by omega), o_b]
      · obtain ⟨a1, a2, a3, a4, a5, a6, a7, a8⟩ := hw
        obtain ⟨c1, c2, c3, c4, c5, c6, c7⟩ := hc
        obtain ⟨r1, r2, r3, r4, r5, r6, r7, r8, r9, r10, r11, r12⟩ := hr
        have le : ∀ c, (if c = b then 0 else vln V c) ≤ vln V c := fun c => by split <;> omega
        refine hI.now (V' := (V.1, V.2.1, (fun c => if c = b then 0 else vln V c, vpl V), V.2.2.2)) ((agN (by omega) (by omega)).tr ag52) ⟨a1, a2, a3, a4, fun c => Nat.le_trans (le c) (a5 c), fun c hcb => Nat.le_zero.mp (Nat.le_trans (le c) (Nat.le_of_eq (a6 c hcb))), fun c k hcb hk => a7 c k hcb (Nat.lt_of_lt_of_le hk (le c)), a8⟩ ?_ ?_
        · refine ⟨c1, c2, c3, c4, fun c hcb => ?_, fun c k hcb hk => c6 c k hcb (Nat.lt_of_lt_of_le hk (le c)), c7⟩
          show (if (10 = 10 ∧ c = b) then (0 : Int32) else m.1 10 c) = nI (if c = b then 0 else vln V c)
          by_cases e : c = b
          · rw [if_pos ⟨rfl, e⟩, if_pos e]
            rfl
          · rw [if_neg (fun z => e z.2), if_neg e]
            exact c5 c hcb
        · refine ⟨SI_n1 r1 (by omega), SI_n1 r2 (by omega), SI_n1 r3 (by omega), fun c (hcb : c < vnb V) => ⟨SI_n1 (r4 c hcb).1 (by omega), SI_n1 (r4 c hcb).2 (by omega)⟩, fun c (hcb : c < vnb V) => ?_, fun c k hcb hk => SI_n1 (r6 c k hcb (Nat.lt_of_lt_of_le hk (le c))) (by omega),
            fun p (hp : p < vnp V) => ⟨SI_n1 (r7 p hp).1 (by omega), SI_n1 (r7 p hp).2.1 (by omega), SI_n1 (r7 p hp).2.2.1 (by omega), SI_n1 (r7 p hp).2.2.2 (by omega)⟩, SI_n1 r8 (by omega), SI_n1 r9 (by omega), SI_n1 r10 (by omega), SI_n1 r11 (by omega),
            fun i (hi : i < vps V) => ⟨SI_n1 (r12 i hi).1 (by omega), SI_n1 (r12 i hi).2 (by omega)⟩⟩
          show (oSI (oSI m 10 b 0) 52 (19 + b) 0).1 52 (19 + c) = nI (if c = b then 0 else vln V c)
          by_cases e : c = b
          · rw [if_pos e, e, SI_eq]
            rfl
          · rw [if_neg e]
            exact SI_n1 (r5 c hcb) (by omega)
  · refine Wr.no (v := -1) hI ?_ ?_
    · unfold F_X8_drop
      rw [c_hasBody0 hc hw hB, o_b, if_pos rfl]
    · show F_X9_drop m x = _
      unfold F_X9_drop
      rw [r_isBody0 hr hw hB, o_b, if_pos rfl]
end WRITE2
