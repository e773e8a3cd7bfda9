/-! ends: what a row of the plan does -/
def vTu (V : oV) (t b : Int32) : oV := (V.1, V.2.1, V.2.2.1, V.2.2.2.1, (vle V, vmo V, t, b), V.2.2.2.2.2)
def vSw (V : oV) (q : Nat) : oV := (V.1, V.2.1, V.2.2.1, (vkd V, vfg V, sUp (vdr V) q (vdn V q), sUp (vdn V) q (vdr V q)), V.2.2.2.2)
def taP (V : oV) (b k : Nat) : Int32 := nI (if k = 0 then vpl V b (vln V b - 1) else if k = vln V b - 1 then vpl V b 0 else vpl V b k)
def vTa (V : oV) (b : Nat) : oV := vTr V b (vln V b) (taP V b)
def sDo (V : oV) (w v : Int32) : oV := if w = 0 then vTu V (sClamp (vtu V + v)) (sBk v) else if w = 1 then (if v.toInt.toNat < vnb V ∧ 0 < vln V v.toInt.toNat then vTa V v.toInt.toNat else V) else (if v.toInt.toNat < vnp V then vSw V v.toInt.toNat else V)
section ENDS1
variable {m : oM} {V : oV}
theorem toN_nI {b : Nat} (h : b < 1000) : (nI b).toInt.toNat = b := by
  rw [nI_toInt (by omega)]
  omega
theorem taP_q (hw : WF V) {b : Nat} (hb : b < vnb V) : ∀ k, k < vln V b → isQ V (taP V b k) := by
  intro k hk
  refine isQ_in hw ?_
  have h7 := hw.2.2.2.2.2.2.1
  split
  · exact h7 b _ hb (by omega)
  · split
    · exact h7 b _ hb (by omega)
    · exact h7 b k hb hk
theorem WF.tu (hw : WF V) {t b : Int32} (ht : iB t (-9999) 9999) (hb : b = 0 ∨ b = 1) : WF (vTu V t b) := by
  obtain ⟨a1, a2, a3, a4, a5, a6, a7, a8, a9, a10, a11, a12, a13, a14, a15⟩ := hw
  exact ⟨a1, a2, a3, a4, a5, a6, a7, a8, a9, a10, a11, a12, ht, hb, a15⟩
theorem WF.sw (hw : WF V) {q : Nat} (hq : q < vnp V) : WF (vSw V q) := by
  obtain ⟨a1, a2, a3, a4, a5, a6, a7, a8, a9⟩ := hw
  exact ⟨a1, a2, a3, a4, a5, a6, a7, fun p hp => ⟨(a8 p hp).1, (a8 p hp).2.1, sUp_b (a8 q hq).2.2.2 (a8 p hp).2.2.1, sUp_b (a8 q hq).2.2.1 (a8 p hp).2.2.2⟩, a9⟩
theorem WF.do (hw : WF V) (w v : Int32) : WF (sDo V w v) := by
  unfold sDo
  split
  · exact hw.tu (sClamp_b _) (sBk_01 _)
  · split
    · split
      · rename_i h
        exact vTr_wf hw h.1 (taP_q hw h.1) (hw.2.2.2.2.1 _)
      · exact hw
    · split
      · rename_i h
        exact hw.sw h
      · exact hw
theorem sDo_same (w v : Int32) : vps (sDo V w v) = vps V ∧ vwh (sDo V w v) = vwh V ∧ vvl (sDo V w v) = vvl V ∧ vnb (sDo V w v) = vnb V := by
  unfold sDo
  split
  · exact ⟨rfl, rfl, rfl, rfl⟩
  · split
    · split <;> exact ⟨rfl, rfl, rfl, rfl⟩
    · split <;> exact ⟨rfl, rfl, rfl, rfl⟩
theorem VC.tuT {m' : oM} (h : VC 29 m V) {t b : Int32} (ag : oAg (fun p k => p = 29 ∧ (k = 7 ∨ k = 8)) m m') (h7 : m'.1 29 7 = t) (h8 : m'.1 29 8 = b) : VC 29 m' (vTu V t b) := by
  obtain ⟨c1, c2, c3, c4, c5, c6, c7, c8, c9, c10, c11, c12⟩ := h
  have e : ∀ {p k : Nat} {v : Int32}, m.1 p k = v → ¬ (p = 29 ∧ (k = 7 ∨ k = 8)) → m'.1 p k = v := fun a b => (ag _ _ b).1.trans a
  exact ⟨e c1 (by omega), e c2 (by omega), e c3 (by omega), fun b hb => ⟨e (c4 b hb).1 (by omega), e (c4 b hb).2 (by omega)⟩, fun b hb => e (c5 b hb) (by omega), fun b k hb hk => e (c6 b k hb hk) (by omega), fun p hp => ⟨e (c7 p hp).1 (by omega), e (c7 p hp).2.1 (by omega), e (c7 p hp).2.2.1 (by omega), e (c7 p hp).2.2.2 (by omega)⟩, e c8 (by omega), e c9 (by omega), h7, h8, fun i hi => ⟨e (c12 i hi).1 (by omega), e (c12 i hi).2 (by omega)⟩⟩
theorem VR.tuT {m' : oM} (hw : WF V) (h : VR 52 m V) {t b : Int32} (ag : oAg (fun p k => p = 52 ∧ (k = 4 ∨ k = 5)) m m') (h7 : m'.1 52 4 = t) (h8 : m'.1 52 5 = b) : VR 52 m' (vTu V t b) := by
  obtain ⟨r1, r2, r3, r4, r5, r6, r7, r8, r9, r10, r11, r12⟩ := h
  have e : ∀ {p k : Nat} {v : Int32}, m.1 p k = v → ¬ (p = 52 ∧ (k = 4 ∨ k = 5)) → m'.1 p k = v := fun a b => (ag _ _ b).1.trans a
  exact ⟨e r1 (by omega), e r2 (by omega), e r3 (by omega), fun b hb => ⟨e (r4 b hb).1 (by omega), e (r4 b hb).2 (by omega)⟩, fun b hb => e (r5 b hb) (by omega), fun b k hb hk => e (r6 b k hb hk) (by omega), fun p hp => ⟨e (r7 p hp).1 (by omega), e (r7 p hp).2.1 (by omega), e (r7 p hp).2.2.1 (by omega), e (r7 p hp).2.2.2 (by omega)⟩, e r8 (by omega), e r9 (by omega), h7, h8, fun i hi => ⟨e (r12 i hi).1 (by omega), e (r12 i hi).2 (by omega)⟩⟩
theorem VC.swT {m' : oM} (h : VC 29 m V) {q : Nat} (ag : oAg (fun p k => (p = 35 ∨ p = 36) ∧ k = q) m m') (h6 : m'.1 35 q = vdn V q) (h7 : m'.1 36 q = vdr V q) : VC 29 m' (vSw V q) := by
  obtain ⟨c1, c2, c3, c4, c5, c6, c7, c8, c9, c10, c11, c12⟩ := h
  have e : ∀ {p k : Nat} {v : Int32}, m.1 p k = v → ¬ ((p = 35 ∨ p = 36) ∧ k = q) → m'.1 p k = v := fun a b => (ag _ _ b).1.trans a
  refine ⟨e c1 (by omega), e c2 (by omega), e c3 (by omega), fun b hb => ⟨e (c4 b hb).1 (by omega), e (c4 b hb).2 (by omega)⟩, fun b hb => e (c5 b hb) (by omega), fun b k hb hk => e (c6 b k hb hk) (by omega), fun p hp => ⟨e (c7 p hp).1 (by omega), e (c7 p hp).2.1 (by omega), ?_, ?_⟩, e c8 (by omega), e c9 (by omega), e c10 (by omega), e c11 (by omega), fun i hi => ⟨e (c12 i hi).1 (by omega), e (c12 i hi).2 (by omega)⟩⟩
  · show m'.1 35 p = sUp (vdr V) q (vdn V q) p
    by_cases z : p = q
    · rw [z, sUp_eq, h6]
    · rw [sUp_ne z]
      exact e (c7 p hp).2.2.1 (by omega)
  · show m'.1 36 p = sUp (vdn V) q (vdr V q) p
    by_cases z : p = q
    · rw [z, sUp_eq, h7]
    · rw [sUp_ne z]
      exact e (c7 p hp).2.2.2 (by omega)
theorem VR.swT {m' : oM} (hw : WF V) (h : VR 52 m V) {q : Nat} (hq : q < vnp V) (ag : oAg (fun p k => p = 52 ∧ (k = 63 + q ∨ k = 73 + q)) m m') (h6 : m'.1 52 (63 + q) = vdn V q) (h7 : m'.1 52 (73 + q) = vdr V q) : VR 52 m' (vSw V q) := by
  obtain ⟨w1, w2, w3, -, w5, -⟩ := hw
  obtain ⟨r1, r2, r3, r4, r5, r6, r7, r8, r9, r10, r11, r12⟩ := h
  have e : ∀ {k : Nat} {v : Int32}, m.1 52 k = v → k ≠ 63 + q → k ≠ 73 + q → m'.1 52 k = v := fun a b c => (ag _ _ (fun z => by omega)).1.trans a
  refine ⟨e r1 (by omega) (by omega), e r2 (by omega) (by omega), e r3 (by omega) (by omega), fun b (hb : b < vnb V) => ⟨e (r4 b hb).1 (by omega) (by omega), e (r4 b hb).2 (by omega) (by omega)⟩, fun b (hb : b < vnb V) => e (r5 b hb) (by omega) (by omega), fun b k (hb : b < vnb V) (hk : k < vln V b) => e (r6 b k hb hk) (by have := w5 b; omega) (by have := w5 b; omega), fun p (hp : p < vnp V) => ⟨e (r7 p hp).1 (by omega) (by omega), e (r7 p hp).2.1 (by omega) (by omega), ?_, ?_⟩, e r8 (by omega) (by omega), e r9 (by omega) (by omega), e r10 (by omega) (by omega), e r11 (by omega) (by omega), fun i (hi : i < vps V) => ⟨e (r12 i hi).1 (by omega) (by omega), e (r12 i hi).2 (by omega) (by omega)⟩⟩
  · show m'.1 52 (63 + p) = sUp (vdr V) q (vdn V q) p
    by_cases z : p = q
    · rw [z, sUp_eq, h6]
    · rw [sUp_ne z]
      exact e (r7 p hp).2.2.1 (by omega) (by omega)
  · show m'.1 52 (73 + p) = sUp (vdn V) q (vdr V q) p
    by_cases z : p = q
    · rw [z, sUp_eq, h7]
    · rw [sUp_ne z]
      exact e (r7 p hp).2.2.2 (by omega) (by omega)
theorem c_has1 (h : VC 29 m V) (hw : WF V) {q : Nat} (hq : q < vnp V) : F_X2_has (29 + 3) m (nI q) = some 1 := by
  have h1 := hw.2.1
  unfold F_X2_has
  rw [if_neg (nI_pos (by omega)), h.np, if_neg (nI_ge hq (by omega))]
theorem c_has0 (h : VC 29 m V) (hw : WF V) {q : Nat} (hq : ¬ q < vnp V) (h10 : q < 10) : F_X2_has (29 + 3) m (nI q) = some 0 := by
  have h1 := hw.2.1
  unfold F_X2_has
  rw [if_neg (nI_pos (by omega)), h.np, if_pos (nI_le (by omega) (by omega))]
theorem c_about (h : VC 29 m V) (hw : WF V) {b : Nat} (hb : b < vnb V) (hl : 0 < vln V b) : ∃ m', F_X7_turnAbout (29 + 8) m (nI b) = some m' ∧ VC 29 m' (vTa V b) ∧ oAg (fun p _ => 29 ≤ p ∧ p ≤ 42) m m' := by
  have h1 := hw.1
  have h3 := hw.2.2.2.2.1 b
  have p0 := c_pl h hw (o := 29) rfl hb (k := 0) hl
  have p1 := c_pl h hw (o := 29) rfl hb (k := vln V b - 1) (by omega)
  have y : nI (vln V b) - 1 = nI (vln V b - 1) := by
    rw [show (1 : Int32) = nI 1 from rfl, nI_sub (by omega)]
  have i0 : nI b * 3 + 0 = nI (3 * b + 0) := ix_3 b 0
  have p0' : F_X7_pairAt (29 + 8) m (nI b) 0 = some (nI (vpl V b 0)) := p0
  have ag : oAg (fun p k => p = 39 ∧ 3 * b ≤ k ∧ k < 3 * b + vln V b) m (oSI (oSI m 39 (3 * b + 0) (nI (vpl V b (vln V b - 1)))) 39 (3 * b + (vln V b - 1)) (nI (vpl V b 0))) := (oAg.SI (by omega)).tr (oAg.SI (by omega))
  refine ⟨oSI (oSI m 39 (3 * b + 0) (nI (vpl V b (vln V b - 1)))) 39 (3 * b + (vln V b - 1)) (nI (vpl V b 0)), ?_, ?_, ag.wk (by omega)⟩
  · unfold F_X7_turnAbout F_X7_become
    rw [c_len h rfl (by omega), o_b, o_b, p0', o_b, y, p1, o_b, i0, f_set (n := 18) rfl (by omega) (by omega), o_b, o_b, ix_3, f_set (n := 18) rfl (by omega) (by omega), o_b, o_b]
  · refine vTr_c (o := 29) hw h hb h3 (taP_q hw hb) (ag.wk (by omega)) ?_ ?_
    · exact (ag 38 b (by omega)).1.trans (h.2.2.2.2.1 b (by omega))
    · intro k hk
      show (oSI (oSI m 39 (3 * b + 0) (nI (vpl V b (vln V b - 1)))) 39 (3 * b + (vln V b - 1)) (nI (vpl V b 0))).1 39 (3 * b + k) = nI (if k = 0 then vpl V b (vln V b - 1) else if k = vln V b - 1 then vpl V b 0 else vpl V b k)
      by_cases z : k = vln V b - 1
      · rw [← z, SI_eq]
        by_cases z0 : k = 0
        · rw [if_pos z0, z0]
        · rw [if_neg z0, if_pos rfl]
      · rw [SI_ne (by omega)]
        by_cases z0 : k = 0
        · rw [if_pos z0, z0, SI_eq]
        · rw [if_neg z0, if_neg z, SI_ne (by omega)]
          exact h.2.2.2.2.2.1 b k hb hk
theorem c_swap (h : VC 29 m V) (hw : WF V) {q : Nat} (hq : q < vnp V) : ∃ m', F_X2_changeWheels (29 + 3) m (nI q) = some m' ∧ VC 29 m' (vSw V q) ∧ oAg (fun p _ => 29 ≤ p ∧ p ≤ 42) m m' := by
  have h1 := hw.2.1
  have ag : oAg (fun p k => (p = 35 ∨ p = 36) ∧ k = q) m (oSI (oSI m 35 q (vdn V q)) 36 q (vdr V q)) := (oAg.SI (by omega)).tr (oAg.SI (by omega))
  refine ⟨oSI (oSI m 35 q (vdn V q)) 36 q (vdr V q), ?_, h.swT ag ((SI_ne (by omega)).trans SI_eq) SI_eq, ag.wk (by omega)⟩
  have d1 : F_X8_at (29 + 3 + 3) m (nI q) = some (vdr V q) := c_dr (o := 29) h hw rfl hq
  have d2 : F_X8_at (29 + 3 + 4) m (nI q) = some (vdn V q) := c_dn (o := 29) h hw rfl hq
  unfold F_X2_changeWheels
  rw [d1, o_b, d2, o_b, f_set (n := 10) rfl (by omega) (by omega), o_b, f_set (n := 10) rfl (by omega) (by omega), o_b]
theorem r_changes {i j : Nat} (hi : i < 99) (hj : j < 99) : F_X9_changes m (nI i) (nI j) = some (oSI (oSI m 52 i (m.1 52 j)) 52 j (m.1 52 i)) := by
  unfold F_X9_changes
  rw [a_ld sh52 hi (by omega), o_b, a_ld sh52 hj (by omega), o_b, a_st sh52 hi (by omega), o_b, a_st sh52 hj (by omega), o_b]
theorem c_do (hw : WF V) (hc : VC 29 m V) {i : Nat} (hi : i < vps V) : ∃ m', F_X1_followPlan_L2 29 (nI i) m = some (.inl (nI (i + 1), m')) ∧ VC 29 m' (sDo V (vwh V i) (vvl V i)) ∧ oAg (fun p _ => 29 ≤ p ∧ p ≤ 42) m m' := by
  have h8 := hw.2.2.1
  have hr := hw.2.2.2.2.2.2.2.2.2.2.2.2.2.2 i hi
  obtain ⟨d1, d2⟩ := hc.2.2.2.2.2.2.2.2.2.2.2 i hi
  have hp := hw.2.1
  have hb6 := hw.1
  unfold F_X1_followPlan_L2
  rw [hc.ps, if_neg (nI_ge hi (by omega)), f_at (n := 8) rfl (by omega) (by omega), o_b, d1, f_at (n := 8) rfl (by omega) (by omega), o_b, d2, nI_1]
  rcases hr with ⟨z, -⟩ | ⟨z, hv⟩ | ⟨z, hv⟩
  · have s : sDo V (vwh V i) (vvl V i) = vTu V (sClamp (vtu V + vvl V i)) (sBk (vvl V i)) := by
      unfold sDo
      rw [if_pos z]
    rw [s, if_pos z, c_crankBy, o_b, hc.tu]
    have ag : oAg (fun p k => p = 29 ∧ (k = 7 ∨ k = 8)) m (oSI (oSI m 29 7 (sClamp (vtu V + vvl V i))) 29 8 (sBk (vvl V i))) := (oAg.SI (by omega)).tr (oAg.SI (by omega))
    exact ⟨_, rfl, hc.tuT ag ((SI_ne (by omega)).trans SI_eq) SI_eq, ag.wk (by omega)⟩
  · have n0 : ¬ vwh V i = 0 := by rw [z]; decide
    have n2 : ¬ vwh V i = 2 := by rw [z]; decide
    obtain ⟨b, hb, e⟩ := i_of (x := vvl V i) (n := 6) hv.1 (by have := hv.2; omega)
    have s : sDo V (vwh V i) (vvl V i) = if b < vnb V ∧ 0 < vln V b then vTa V b else V := by
      unfold sDo
      rw [if_neg n0, if_pos z, e, toN_nI (by omega)]
    rw [s, if_neg n0, if_pos z, e]
    by_cases ht : b < vnb V ∧ 0 < vln V b
    · obtain ⟨m', q1, q2, q3⟩ := c_about hc hw ht.1 ht.2
      rw [if_pos ht, c_hasTrain1 (o := 29) hc hw rfl ht.1 ht.2, o_b, if_neg i10, q1, o_b]
      exact ⟨m', rfl, q2, q3⟩
    · rw [if_neg ht, c_hasTrain0 (o := 29) hc hw rfl, o_b, if_pos rfl]
      · unfold F_X1_followPlan_J73
        rw [if_neg n2, nI_1]
        exact ⟨m, rfl, hc, oAg.rf⟩
      · rintro ⟨c, c1, c2, c3⟩
        have := (nI_eq (by omega) (by omega)).mp c2
        subst this
        exact ht ⟨c1, c3⟩
  · have n0 : ¬ vwh V i = 0 := by rw [z]; decide
    have n1 : ¬ vwh V i = 1 := by rw [z]; decide
    obtain ⟨q, hq, e⟩ := i_of (x := vvl V i) (n := 10) hv.1 (by have := hv.2; omega)
    have s : sDo V (vwh V i) (vvl V i) = if q < vnp V then vSw V q else V := by
      unfold sDo
      rw [if_neg n0, if_neg n1, e, toN_nI (by omega)]
    rw [s, if_neg n0, if_neg n1, e]
    unfold F_X1_followPlan_J73
    rw [if_pos z, nI_1]
    by_cases ht : q < vnp V
    · obtain ⟨m', q1, q2, q3⟩ := c_swap hc hw ht
      rw [if_pos ht, c_has1 hc hw ht, o_b, if_neg i10, q1, o_b]
      exact ⟨m', rfl, q2, q3⟩
    · rw [if_neg ht, c_has0 hc hw ht hq, o_b, if_pos rfl]
      exact ⟨m, rfl, hc, oAg.rf⟩
theorem r_do (hw : WF V) (hr : VR 52 m V) {w v : Int32} (hr2 : (w = 0 ∧ iB v (-99) 99 ∧ v ≠ 0) ∨ (w = 1 ∧ iB v 0 5) ∨ (w = 2 ∧ iB v 0 9)) : ∃ m', F_X9_done m w v = some m' ∧ VR 52 m' (sDo V w v) ∧ oAg (fun p _ => p = 52) m m' := by
  have hp := hw.2.1
  have hb6 := hw.1
  unfold F_X9_done
  rcases hr2 with ⟨z, -⟩ | ⟨z, hv⟩ | ⟨z, hv⟩
  · have s : sDo V w v = vTu V (sClamp (vtu V + v)) (sBk v) := by
      unfold sDo
      rw [if_pos z]
    rw [s, if_pos z, r_goes, o_b, hr.tu]
    have ag : oAg (fun p k => p = 52 ∧ (k = 4 ∨ k = 5)) m (oSI (oSI m 52 4 (sClamp (vtu V + v))) 52 5 (sBk v)) := (oAg.SI (by omega)).tr (oAg.SI (by omega))
    exact ⟨_, rfl, hr.tuT hw ag ((SI_ne (by omega)).trans SI_eq) SI_eq, ag.wk (by omega)⟩
  · have n0 : ¬ w = 0 := by rw [z]; decide
    have n2 : ¬ w = 2 := by rw [z]; decide
    obtain ⟨b, hb, e⟩ := i_of (x := v) (n := 6) hv.1 (by have := hv.2; omega)
    have s : sDo V w v = if b < vnb V ∧ 0 < vln V b then vTa V b else V := by
      unfold sDo
      rw [if_neg n0, if_pos z, e, toN_nI (by omega)]
    rw [s, if_neg n0, if_pos z, e]
    by_cases ht : b < vnb V ∧ 0 < vln V b
    · have h3 := hw.2.2.2.2.1 b
      have x1 : 25 + 3 * nI b = nI (25 + 3 * b) := by rw [show (3 : Int32) = nI 3 from rfl, nI_mul, show (25 : Int32) = nI 25 from rfl, nI_add]
      have x2 : nI (25 + 3 * b) + nI (vln V b) - 1 = nI (25 + 3 * b + (vln V b - 1)) := by
        rw [nI_add, show (1 : Int32) = nI 1 from rfl, nI_sub (by omega), show 25 + 3 * b + vln V b - 1 = 25 + 3 * b + (vln V b - 1) by omega]
      have v0 : m.1 52 (25 + 3 * b) = nI (vpl V b 0) := hr.2.2.2.2.2.1 b 0 ht.1 ht.2
      have v1 : m.1 52 (25 + 3 * b + (vln V b - 1)) = nI (vpl V b (vln V b - 1)) := hr.2.2.2.2.2.1 b _ ht.1 (by omega)
      rw [if_pos ht, r_hasTrain1 hr hw ht.1 ht.2, o_b, if_neg i10, r_ln hr hw ht.1, o_b, x1, x2, r_changes (by omega) (by omega), o_b, v0, v1]
      have ag : oAg (fun p k => p = 52 ∧ 25 + 3 * b ≤ k ∧ k < 25 + 3 * b + vln V b) m (oSI (oSI m 52 (25 + 3 * b) (nI (vpl V b (vln V b - 1)))) 52 (25 + 3 * b + (vln V b - 1)) (nI (vpl V b 0))) := (oAg.SI (by omega)).tr (oAg.SI (by omega))
      refine ⟨_, rfl, vTr_r hw hr ht.1 h3 (taP_q hw ht.1) (fun k hk => (ag 52 k (by omega)).1) ((ag 52 _ (by omega)).1.trans (hr.2.2.2.2.1 b ht.1)) (fun k hk => ?_), ag.wk (by omega)⟩
      show (oSI (oSI m 52 (25 + 3 * b) (nI (vpl V b (vln V b - 1)))) 52 (25 + 3 * b + (vln V b - 1)) (nI (vpl V b 0))).1 52 (25 + 3 * b + k) = nI (if k = 0 then vpl V b (vln V b - 1) else if k = vln V b - 1 then vpl V b 0 else vpl V b k)
      by_cases z : k = vln V b - 1
      · rw [← z, SI_eq]
        by_cases z0 : k = 0
        · rw [if_pos z0, z0]
        · rw [if_neg z0, if_pos rfl]
      · rw [SI_ne (by omega)]
        by_cases z0 : k = 0
        · rw [if_pos z0, z0]
          exact SI_eq
        · rw [if_neg z0, if_neg z, SI_ne (by omega)]
          exact hr.2.2.2.2.2.1 b k ht.1 hk
    · rw [if_neg ht, r_hasTrain0 hr hw, o_b, if_pos rfl]
      · unfold F_X9_done_J56
        rw [if_neg n2]
        exact ⟨m, rfl, hr, oAg.rf⟩
      · rintro ⟨c, c1, c2, c3⟩
        have := (nI_eq (by omega) (by omega)).mp c2
        subst this
        exact ht ⟨c1, c3⟩
  · have n0 : ¬ w = 0 := by rw [z]; decide
    have n1 : ¬ w = 1 := by rw [z]; decide
    obtain ⟨q, hq, e⟩ := i_of (x := v) (n := 10) hv.1 (by have := hv.2; omega)
    have s : sDo V w v = if q < vnp V then vSw V q else V := by
      unfold sDo
      rw [if_neg n0, if_neg n1, e, toN_nI (by omega)]
    rw [s, if_neg n0, if_neg n1, e]
    unfold F_X9_done_J56
    rw [if_pos z]
    by_cases ht : q < vnp V
    · obtain ⟨-, -, d3, d4⟩ := hr.2.2.2.2.2.2.1 q ht
      rw [if_pos ht, r_isPair1 hr hw (isQ_in hw ht), o_b, if_neg i10, ix (c := 63) (n := 63) rfl, ix (c := 73) (n := 73) rfl, r_changes (by omega) (by omega), o_b, d3, d4]
      have ag : oAg (fun p k => p = 52 ∧ (k = 63 + q ∨ k = 73 + q)) m (oSI (oSI m 52 (63 + q) (vdn V q)) 52 (73 + q) (vdr V q)) := (oAg.SI (by omega)).tr (oAg.SI (by omega))
      exact ⟨_, rfl, hr.swT hw ht ag ((SI_ne (by omega)).trans SI_eq) SI_eq, ag.wk (by omega)⟩
    · rw [if_neg ht, r_isPair0 hr hw, o_b, if_pos rfl]
      · exact ⟨m, rfl, hr, oAg.rf⟩
      · intro y
        have := y.2
        rw [nI_toInt (by omega)] at this
        omega
end ENDS1
