/-! were -/
def vDr (V : oV) (q : Nat) (t : Int32) : oV := (V.1, V.2.1, V.2.2.1, (vkd V, vfg V, sUp (vdr V) q t, vdn V), V.2.2.2.2)
theorem WF.dr {V : oV} (hw : WF V) (q : Nat) {t : Int32} (ht : iB t 10 99) : WF (vDr V q t) := by
  obtain ⟨a1, a2, a3, a4, a5, a6, a7, a8, a9⟩ := hw
  exact ⟨a1, a2, a3, a4, a5, a6, a7, fun p hp => ⟨(a8 p hp).1, (a8 p hp).2.1, sUp_b ht (a8 p hp).2.2.1, (a8 p hp).2.2.2⟩, a9⟩
theorem VC.dr {o : Nat} {m m' : oM} {V : oV} (h : VC o m V) {q : Nat} {t : Int32} (ag : oAg (fun p k => p = o + 6 ∧ k = q) m m') (ht : m'.1 (o + 6) q = t) : VC o m' (vDr V q t) := by
  obtain ⟨c1, c2, c3, c4, c5, c6, c7, c8, c9, c10, c11, c12⟩ := h
  have e : ∀ {p k : Nat} {v : Int32}, m.1 p k = v → ¬ (p = o + 6 ∧ k = q) → m'.1 p k = v := fun a b => (ag _ _ b).1.trans a
  refine ⟨e c1 (by omega), e c2 (by omega), e c3 (by omega), fun b hb => ⟨e (c4 b hb).1 (by omega), e (c4 b hb).2 (by omega)⟩, fun b hb => e (c5 b hb) (by omega), fun b k hb hk => e (c6 b k hb hk) (by omega), fun p hp => ⟨e (c7 p hp).1 (by omega), e (c7 p hp).2.1 (by omega), ?_, e (c7 p hp).2.2.2 (by omega)⟩, e c8 (by omega), e c9 (by omega), e c10 (by omega), e c11 (by omega), fun i hi => ⟨e (c12 i hi).1 (by omega), e (c12 i hi).2 (by omega)⟩⟩
  show m'.1 (o + 6) p = sUp (vdr V) q t p
  by_cases c : p = q
  · rw [c, sUp_eq, ht]
  · rw [sUp_ne c]
    exact e (c7 p hp).2.2.1 (by omega)
theorem VR.dr {m m' : oM} {V : oV} (hw : WF V) (h : VR 52 m V) {q : Nat} (hq : q < vnp V) {t : Int32} (ag : oAg (fun p k => p = 52 ∧ k = 63 + q) m m') (ht : m'.1 52 (63 + q) = t) : VR 52 m' (vDr V q t) := by
  obtain ⟨w1, w2, w3, -, w5, -⟩ := hw
  obtain ⟨r1, r2, r3, r4, r5, r6, r7, r8, r9, r10, r11, r12⟩ := h
  have e : ∀ {k : Nat} {v : Int32}, m.1 52 k = v → k ≠ 63 + q → m'.1 52 k = v := fun a b => (ag _ _ (fun z => b z.2)).1.trans a
  refine ⟨e r1 (by omega), e r2 (by omega), e r3 (by omega), fun b (hb : b < vnb V) => ⟨e (r4 b hb).1 (by omega), e (r4 b hb).2 (by omega)⟩, fun b (hb : b < vnb V) => e (r5 b hb) (by omega), fun b k (hb : b < vnb V) (hk : k < vln V b) => e (r6 b k hb hk) (by have := w5 b; omega), fun p (hp : p < vnp V) => ⟨e (r7 p hp).1 (by omega), e (r7 p hp).2.1 (by omega), ?_, e (r7 p hp).2.2.2 (by omega)⟩, e r8 (by omega), e r9 (by omega), e r10 (by omega), e r11 (by omega), fun i (hi : i < vps V) => ⟨e (r12 i hi).1 (by omega), e (r12 i hi).2 (by omega)⟩⟩
  show m'.1 52 (63 + p) = sUp (vdr V) q t p
  by_cases c : p = q
  · rw [c, sUp_eq, ht]
  · rw [sUp_ne c]
    exact e (r7 p hp).2.2.1 (by omega)
def fD (p k : Nat) (m : oM) : Nat → oM
  | 0 => m
  | i + 1 => oSI (fD p k m i) p k (nI (99 - i))
theorem fD_ag (p k : Nat) (m : oM) : ∀ i, oAg (fun q j => q = p ∧ j = k) m (fD p k m i)
  | 0 => oAg.rf
  | i + 1 => (fD_ag p k m i).tr (oAg.SI ⟨rfl, rfl⟩)
theorem fD_2 (p k : Nat) (m : oM) : ∀ i, (fD p k m i).2 = m.2
  | 0 => rfl
  | i + 1 => fD_2 p k m i
def sWe (V : oV) (b q : Nat) (x : Int64) : Nat → Int32 × Int32
  | 0 => (0, -5)
  | i + 1 => if sStand (vDr V q (nI (99 - i))) b = x then ((sWe V b q x i).1 + 1, nI (99 - i)) else sWe V b q x i
section WERE
variable {m : oM} {V : oV}
theorem dn_1 {i : Nat} (hi : i < 90) : nI (99 - i) + -1 = nI (99 - (i + 1)) := by
  rw [show 99 - i = (99 - (i + 1)) + 1 by omega, ← nI_1]
  grind
theorem p_were (h : Inv m) (x y : Int32) (z : Int64) (w : Int32) : Wr (F_X8_were m x y z w) (fun m => F_X9_were m x y z w) := by
  have hI := h
  obtain ⟨⟨V, hw, hc, hr⟩, -⟩ := h
  by_cases hB : isB V x
  · obtain ⟨b, hb, rfl⟩ := isB_of hB
    have h3 := hw.2.2.2.2.1 b
    have h1 := hw.1
    by_cases hy : 0 ≤ y.toInt ∧ y.toInt ≤ 2
    · obtain ⟨y1, y2, y3⟩ := i_in (p := 0) (q := 2) (by decide) (by decide) hy
      have y4 : ¬ 3 ≤ y := by rw [i_le, show (3 : Int32).toInt = 3 by decide]; omega
      have e3 := isIn1 (x := y.toInt64) (a := 0) (b := 2) (p := 0) (q := 2) (by decide) (by decide) (by rw [i_long]; exact hy)
      by_cases hv : 0 ≤ w.toInt ∧ w.toInt ≤ 1
      · obtain ⟨v1, v2, v3⟩ := i_in (p := 0) (q := 1) (by decide) (by decide) hv
        have e4 := isIn1 (x := w.toInt64) (a := 0) (b := 1) (p := 0) (q := 1) (by decide) (by decide) (by rw [i_long]; exact hv)
        obtain ⟨k, hk3, rfl⟩ := i_of (x := y) (n := 3) (by omega) (by omega)
        by_cases hk : k < vln V b
        · have hq := hw.2.2.2.2.2.2.1 b k hb hk
          have hn := hw.2.1
          obtain ⟨r, e5, g5, c5⟩ := c_copyFrom (o := 29) (q := 1) (Or.inl (by omega)) shapes29 shapes1 hw hc
          have hc1 : VC 1 r V := hc.ag g5 (by omega)
          generalize hqq : vpl V b k = q at *
          have ep : F_X7_pairAt 9 r (nI b) (nI k) = some (nI q) := by rw [← hqq]; exact c1_pl hc1 hw hb hk
          have tb : ∀ i, i < 90 → iB (nI (99 - i)) 10 99 := fun i hi => by
            unfold iB
            rw [nI_toInt (by omega)]
            omega
          -- the class
          have L := for_run (f := fun s : Int32 × Int32 × Int32 × oM => F_X8_were_L87 (nI b) z w (nI q) s.1 s.2.1 s.2.2.1 s.2.2.2) (fun i => ((sWe V b q z i).1, (sWe V b q z i).2, nI (99 - i), fD 35 q r i)) 90 (b := ((sWe V b q z 90).1, (sWe V b q z 90).2, fD 35 q r 90)) (by
            intro i hi
            have hci : VC 29 (oSI (fD 35 q r i) 35 q (nI (99 - i))) (vDr V q (nI (99 - i))) := c5.dr (((fD_ag 35 q r i)).tr (oAg.SI ⟨rfl, rfl⟩)) SI_eq
            show F_X8_were_L87 (nI b) z w (nI q) (sWe V b q z i).1 (sWe V b q z i).2 (nI (99 - i)) (fD 35 q r i) = some (Sum.inl ((if sStand (vDr V q (nI (99 - i))) b = z then ((sWe V b q z i).1 + 1, nI (99 - i)) else sWe V b q z i).1, (if sStand (vDr V q (nI (99 - i))) b = z then ((sWe V b q z i).1 + 1, nI (99 - i)) else sWe V b q z i).2, nI (99 - (i + 1)), fD 35 q r (i + 1)))
            unfold F_X8_were_L87
            rw [if_neg (show ¬ nI (99 - i) < 10 from nI_nlt (b := 10) (by omega) (by omega)), f_set (n := 10) rfl (by omega) (by omega), o_b, c_standing (o := 29) hci (hw.dr q (tb i hi)) rfl hb, o_b, dn_1 hi]
            split <;> rfl) (by
            show F_X8_were_L87 (nI b) z w (nI q) _ _ (nI 9) _ = _
            unfold F_X8_were_L87
            rw [if_pos (by decide)]) (by omega)
          have L' : oLoop (fun s : Int32 × Int32 × Int32 × oM => F_X8_were_L87 (nI b) z w (nI q) s.1 s.2.1 s.2.2.1 s.2.2.2) oFuel (0, -5, 99, r) = _ := L
          generalize hm1 : fD 35 q r 90 = m1 at L'
          have g1 : oAg (fun p _ => 29 ≤ p ∧ p ≤ 42) m m1 := by
            rw [← hm1]
            exact (g5.wk (by omega)).tr ((fD_ag 35 q r 90).wk (by omega))
          have hr1 : VR 52 m1 V := hr.ag g1 (by omega)
          have K := for_run (f := fun s : Int32 × Int32 × Int32 × oM => F_X9_were_L80 (nI b) z w (nI (63 + q)) (vdr V q) s.1 s.2.1 s.2.2.1 s.2.2.2) (fun i => ((sWe V b q z i).1, (sWe V b q z i).2, nI (99 - i), fD 52 (63 + q) m1 i)) 90 (b := ((sWe V b q z 90).1, (sWe V b q z 90).2, fD 52 (63 + q) m1 90)) (by
            intro i hi
            have hri : VR 52 (oSI (fD 52 (63 + q) m1 i) 52 (63 + q) (nI (99 - i))) (vDr V q (nI (99 - i))) := VR.dr hw hr1 hq (((fD_ag 52 (63 + q) m1 i)).tr (oAg.SI ⟨rfl, rfl⟩)) SI_eq
            show F_X9_were_L80 (nI b) z w (nI (63 + q)) (vdr V q) (sWe V b q z i).1 (sWe V b q z i).2 (nI (99 - i)) (fD 52 (63 + q) m1 i) = some (Sum.inl ((if sStand (vDr V q (nI (99 - i))) b = z then ((sWe V b q z i).1 + 1, nI (99 - i)) else sWe V b q z i).1, (if sStand (vDr V q (nI (99 - i))) b = z then ((sWe V b q z i).1 + 1, nI (99 - i)) else sWe V b q z i).2, nI (99 - (i + 1)), fD 52 (63 + q) m1 (i + 1)))
            unfold F_X9_were_L80
            rw [if_neg (show ¬ nI (99 - i) < 10 from nI_nlt (b := 10) (by omega) (by omega)), a_st sh52 (by omega) (by omega), o_b, r_standsAt hri (hw.dr q (tb i hi)) hb, o_b, dn_1 hi]
            split <;> rfl) (by
            show F_X9_were_L80 (nI b) z w (nI (63 + q)) (vdr V q) _ _ (nI 9) _ = _
            unfold F_X9_were_L80
            rw [if_pos (by decide)]) (by omega)
          have K' : oLoop (fun s : Int32 × Int32 × Int32 × oM => F_X9_were_L80 (nI b) z w (nI (63 + q)) (vdr V q) s.1 s.2.1 s.2.2.1 s.2.2.2) oFuel (0, -5, 99, m1) = _ := K
          have g2 := fD_ag 52 (63 + q) m1 90
          have g2l := fD_2 52 (63 + q) m1 90
          generalize hm2 : fD 52 (63 + q) m1 90 = m2 at K' g2 g2l
          have ag : oAg (fun p _ => 29 ≤ p ∧ p ≤ 42) m (oSI m2 52 (63 + q) (vdr V q)) := by
            intro p j hn
            by_cases c : p = 52 ∧ j = 63 + q
            · rw [c.1, c.2, SI_eq]
              exact ⟨((hr.2.2.2.2.2.2.1 q hq).2.2.1).symm, (congrFun (congrFun g2l 52) (63 + q)).trans (g1 52 _ (by omega)).2⟩
            · rw [SI_ne c, SI_2, (g2 p j c).1, (g2 p j c).2]
              exact g1 p j hn
          refine ⟨if w = 0 then (sWe V b q z 90).1 else (sWe V b q z 90).2, m1, oSI m2 52 (63 + q) (vdr V q), ?_, ?_, hI.scr (ag.wk (fun p k z => Or.inl z))⟩
          · unfold F_X8_were
            rw [c_hasBody1 hc hw hB, o_b, if_neg i10, if_neg y1, if_neg y4, if_neg v1, if_pos v3, c1_len hc (by omega), o_b, if_pos (nI_lt hk (by omega)), e5, o_b, ep, o_b, L', o_b]
            split <;> rfl
          · show F_X9_were m1 (nI b) (nI k) z w = _
            unfold F_X9_were
            rw [r_isBody1 hr1 hw hB, o_b, if_neg i10, e3, o_b, if_neg i10, e4, o_b, if_neg i10, r_ln hr1 hw hb, o_b, if_pos (nI_lt hk (by omega)), r_pl hr1 hw hb hk, hqq, o_b, o_b, r_dr hr1 hw hq, o_b, ix (c := 63) (n := 63) rfl, K', o_b, a_st sh52 (by omega) (by omega), o_b]
            split <;> rfl
        · refine Wr.no (v := -3) hI ?_ ?_
          · unfold F_X8_were
            rw [c_hasBody1 hc hw hB, o_b, if_neg i10, if_neg y1, if_neg y4, if_neg v1, if_pos v3, c1_len hc (by omega), o_b, if_neg (nI_nlt (by omega) (by omega))]
          · show F_X9_were m (nI b) (nI k) z w = _
            unfold F_X9_were
            rw [r_isBody1 hr hw hB, o_b, if_neg i10, e3, o_b, if_neg i10, e4, o_b, if_neg i10, r_ln hr hw hb, o_b, if_neg (nI_nlt (by omega) (by omega))]
      · have e4 := isIn0 (x := w.toInt64) (a := 0) (b := 1) (p := 0) (q := 1) (by decide) (by decide) (by rw [i_long]; exact hv)
        refine Wr.no (v := -1) hI ?_ ?_
        · unfold F_X8_were
          rw [c_hasBody1 hc hw hB, o_b, if_neg i10, if_neg y1, if_neg y4]
          rcases i_out (p := 0) (q := 1) (by decide) (by decide) hv with k | ⟨k1, k2, k3⟩
          · rw [if_pos k]
          · rw [if_neg k1, if_neg k3]
        · show F_X9_were m (nI b) y z w = _
          unfold F_X9_were
          rw [r_isBody1 hr hw hB, o_b, if_neg i10, e3, o_b, if_neg i10, e4, o_b, if_pos rfl]
    · have e3 := isIn0 (x := y.toInt64) (a := 0) (b := 2) (p := 0) (q := 2) (by decide) (by decide) (by rw [i_long]; exact hy)
      refine Wr.no (v := -1) hI ?_ ?_
      · unfold F_X8_were
        rw [c_hasBody1 hc hw hB, o_b, if_neg i10]
        rcases i_out (p := 0) (q := 2) (by decide) (by decide) hy with k | ⟨k1, k2, k3⟩
        · rw [if_pos k]
        · rw [if_neg k1, if_pos (show 3 ≤ y by rw [i_le, show (3 : Int32).toInt = 3 by decide]; rw [i_lt, show (2 : Int32).toInt = 2 by decide] at k2; omega)]
      · show F_X9_were m (nI b) y z w = _
        unfold F_X9_were
        rw [r_isBody1 hr hw hB, o_b, if_neg i10, e3, o_b, if_pos rfl]
  · refine Wr.no (v := -1) hI ?_ ?_
    · unfold F_X8_were
      rw [c_hasBody0 hc hw hB, o_b, if_pos rfl]
    · show F_X9_were m x y z w = _
      unfold F_X9_were
      rw [r_isBody0 hr hw hB, o_b, if_pos rfl]
end WERE
