/-! found: the class's seeking -/
theorem lp_K {mo a : Nat} {f : Int32 × oM → Option ((Int32 × oM) ⊕ oM)} {P : Nat → oM → Prop} (hs : ∀ v m, a ≤ v → v ≤ mo → P v m → ∃ m', f (nI v, m) = some (.inl (nI (v + 1), m')) ∧ P (v + 1) m') (he : ∀ m, P (mo + 1) m → f (nI (mo + 1), m) = some (.inr m)) :
    ∀ r v m, a ≤ v → v + r = mo + 1 → P v m → ∃ m', oTo f (nI v, m) m' r ∧ P (mo + 1) m'
  | 0, v, m, ha, e, h => by
    have ev : v = mo + 1 := by omega
    subst ev
    exact ⟨m, oTo.done _ (he m h), h⟩
  | r + 1, v, m, ha, e, h => by
    obtain ⟨m1, q1, q2⟩ := hs v m ha (by omega) h
    obtain ⟨m2, y1, y2⟩ := lp_K hs he r (v + 1) m1 (by omega) (by omega) q2
    exact ⟨m2, oTo.step q1 y1, y2⟩
theorem lp_run {mo a : Nat} {f : Int32 × oM → Option ((Int32 × oM) ⊕ oM)} {P : Nat → oM → Prop} (ha : a ≤ mo + 1) (hmo : mo < 1000) {m : oM} (h : P a m) (hs : ∀ v m, a ≤ v → v ≤ mo → P v m → ∃ m', f (nI v, m) = some (.inl (nI (v + 1), m')) ∧ P (v + 1) m') (he : ∀ m, P (mo + 1) m → f (nI (mo + 1), m) = some (.inr m)) :
    ∃ m', oLoop f oFuel (nI a, m) = some m' ∧ P (mo + 1) m' := by
  obtain ⟨m', q1, q2⟩ := lp_K hs he (mo + 1 - a) a m (Nat.le_refl _) (by omega) h
  exact ⟨m', q1.run (by omega), q2⟩
def fOne (le mo : Nat) (y : oQ4) : Prop := y.2.1 = 0 ∧ y.2.2.2 = 0 ∧ le ≤ y.1 ∧ y.1 ≤ mo ∧ le ≤ y.2.2.1 ∧ y.2.2.1 ≤ mo
def fTwo (le mo : Nat) (y : oQ4) : Prop := le ≤ y.1 ∧ y.1 ≤ y.2.1 ∧ y.2.1 ≤ mo ∧ le ≤ y.2.2.1 ∧ y.2.2.1 ≤ y.2.2.2 ∧ y.2.2.2 ≤ mo
def fD1 (le mo d v : Nat) (y : oQ4) : Prop := fOne le mo y ∧ (y.1 < d ∨ (y.1 = d ∧ y.2.2.1 < v))
def fD2 (le mo d f g : Nat) (y : oQ4) : Prop := fOne le mo y ∨ (fTwo le mo y ∧ (y.1 < d ∨ (y.1 = d ∧ (y.2.2.1 < f ∨ (y.2.2.1 = f ∧ y.2.2.2 < g)))))
section FOUND3
variable {m : oM} {A B le mo : Nat}
theorem one_cand {y : oQ4} (h : fOne le mo y) : fCand le mo y := by
  unfold fOne at h
  unfold fCand
  omega
theorem two_cand {y : oQ4} (h : fTwo le mo y) : fCand le mo y := by
  unfold fTwo at h
  unfold fCand
  omega
theorem cand_12 {y : oQ4} (h : fCand le mo y) : fOne le mo y ∨ fTwo le mo y := by
  unfold fCand at h
  unfold fOne fTwo
  omega
theorem one_q (hR : fRng A B le mo) {y : oQ4} (h : fOne le mo y) : 0 < fQ y := (cand_q hR (one_cand h)).1
theorem two_q (hR : fRng A B le mo) {y : oQ4} (h : fTwo le mo y) : 0 < fQ y := (cand_q hR (two_cand h)).1
theorem c_seek1 (hR : fRng A B le mo) (h : FI A B le mo (fD1 le mo le le) m) : ∃ m', F_X0_seekOnePair m = some m' ∧ FI A B le mo (fOne le mo) m' ∧ oAg (fun p _ => p = 50) m m' := by
  have hR' := hR
  unfold fRng at hR'
  have inner : ∀ d m1, le ≤ d → d ≤ mo → FI A B le mo (fD1 le mo d le) m1 → ∃ m', oLoop (fun s : Int32 × oM => F_X0_seekOnePair_L18 (nI d) s.1 s.2) oFuel (nI le, m1) = some m' ∧ (FI A B le mo (fD1 le mo d (mo + 1)) m' ∧ oAg (fun p _ => p = 50) m1 m') := by
    intro d m1 d1 d2 h1
    refine lp_run (P := fun v m' => FI A B le mo (fD1 le mo d v) m' ∧ oAg (fun p _ => p = 50) m1 m') (by omega) (by omega) ⟨h1, oAg.rf⟩ ?_ ?_
    · rintro v m2 v1 v2 ⟨f2, g2⟩
      have cx : fCand le mo (d, 0, v, 0) := ⟨d1, d2, v1, v2, Or.inl ⟨rfl, rfl⟩⟩
      obtain ⟨m3, e3, f3, g3⟩ := c_offer (D' := fD1 le mo d (v + 1)) hR f2 cx (fun y z => one_q hR z.1) (fun y z => by
        refine ⟨?_, one_q hR z.1⟩
        obtain ⟨z1, z2⟩ := z
        by_cases k : y.1 = d ∧ y.2.2.1 = v
        · right
          left
          exact Prod.ext k.1 (Prod.ext z1.1 (Prod.ext k.2 z1.2.1))
        · left
          exact ⟨z1, by omega⟩)
      have e3' : F_X0_offer m2 (nI d) 0 (nI v) 0 = some m3 := e3
      refine ⟨m3, ?_, f3, g2.tr g3⟩
      show F_X0_seekOnePair_L18 (nI d) (nI v) m2 = _
      unfold F_X0_seekOnePair_L18
      rw [f2.1.2.2.2, if_neg (nI_nlt (by omega) (by omega)), e3', o_b, nI_1]
    · rintro m2 ⟨f2, -⟩
      show F_X0_seekOnePair_L18 (nI d) (nI (mo + 1)) m2 = _
      unfold F_X0_seekOnePair_L18
      rw [f2.1.2.2.2, if_pos (nI_lt (by omega) (by omega))]
  obtain ⟨m', q1, q2, q3⟩ := lp_run (f := fun s : Int32 × oM => F_X0_seekOnePair_L5 s.1 s.2) (P := fun d m' => FI A B le mo (fD1 le mo d le) m' ∧ oAg (fun p _ => p = 50) m m') (a := le) (mo := mo) (m := m) (by omega) (by omega) ⟨h, oAg.rf⟩ (by
    rintro d m1 d1 d2 ⟨f1, g1⟩
    obtain ⟨m2, e2, f2, g2⟩ := inner d m1 d1 d2 f1
    refine ⟨m2, ?_, f2.mono (fun y z => ?_), g1.tr g2⟩
    · show F_X0_seekOnePair_L5 (nI d) m1 = _
      unfold F_X0_seekOnePair_L5
      rw [f1.1.2.2.2, if_neg (nI_nlt (by omega) (by omega)), f1.1.2.2.1, o_b, e2, o_b, nI_1]
    · refine ⟨z.1, ?_⟩
      obtain ⟨z1, z2⟩ := z
      unfold fOne at z1
      omega) (by
    rintro m1 ⟨f1, -⟩
    show F_X0_seekOnePair_L5 (nI (mo + 1)) m1 = _
    unfold F_X0_seekOnePair_L5
    rw [f1.1.2.2.2, if_pos (nI_lt (by omega) (by omega))])
  refine ⟨m', ?_, q2.mono (fun y z => ⟨z, ?_⟩), q3⟩
  · unfold F_X0_seekOnePair
    rw [h.1.2.2.1, o_b, q1, o_b]
  · unfold fOne at z
    omega
theorem c_seek2 (hR : fRng A B le mo) (h : FI A B le mo (fOne le mo) m) : ∃ m', F_X0_seekTwoPairs m = some m' ∧ FI A B le mo (fCand le mo) m' ∧ oAg (fun p _ => p = 50) m m' := by
  have hR' := hR
  unfold fRng at hR'
  have posq : ∀ d f g y, fD2 le mo d f g y → 0 < fQ y := by
    rintro d f g y (z | ⟨z, -⟩)
    · exact one_q hR z
    · exact two_q hR z
  have inner : ∀ d f m1, le ≤ d → d ≤ mo → le ≤ f → f ≤ mo → FI A B le mo (fD2 le mo d f f) m1 → ∃ m', oLoop (fun s : Int32 × oM => F_X0_seekTwoPairs_L28 (nI d) (nI f) s.1 s.2) oFuel (nI f, m1) = some m' ∧ (FI A B le mo (fD2 le mo d f (mo + 1)) m' ∧ oAg (fun p _ => p = 50) m1 m') := by
    intro d f m1 d1 d2 f1 f2 h1
    refine lp_run (P := fun v m' => FI A B le mo (fD2 le mo d f v) m' ∧ oAg (fun p _ => p = 50) m1 m') (by omega) (by omega) ⟨h1, oAg.rf⟩ ?_ ?_
    · rintro v m2 v1 v2 ⟨i2, g2⟩
      obtain ⟨m3, e3, i3, g3⟩ := c_off4 (D' := fD2 le mo d f (v + 1)) hR i2 ⟨d1, d2⟩ ⟨f1, v1⟩ v2 (posq d f v) (fun y z => by
        rcases z with z | ⟨z1, z2⟩
        · exact Or.inl (Or.inl z)
        · by_cases k : y.1 = d ∧ y.2.2.1 = f ∧ y.2.2.2 = v
          · right
            unfold fTwo at z1
            omega
          · left
            right
            exact ⟨z1, by omega⟩)
      refine ⟨m3, ?_, i3, g2.tr g3⟩
      show F_X0_seekTwoPairs_L28 (nI d) (nI f) (nI v) m2 = _
      unfold F_X0_seekTwoPairs_L28
      rw [i2.1.2.2.2, if_neg (nI_nlt (by omega) (by omega)), e3, o_b, nI_1]
    · rintro m2 ⟨i2, -⟩
      show F_X0_seekTwoPairs_L28 (nI d) (nI f) (nI (mo + 1)) m2 = _
      unfold F_X0_seekTwoPairs_L28
      rw [i2.1.2.2.2, if_pos (nI_lt (by omega) (by omega))]
  have middle : ∀ d m1, le ≤ d → d ≤ mo → FI A B le mo (fD2 le mo d le le) m1 → ∃ m', oLoop (fun s : Int32 × oM => F_X0_seekTwoPairs_L18 (nI d) s.1 s.2) oFuel (nI le, m1) = some m' ∧ (FI A B le mo (fD2 le mo d (mo + 1) (mo + 1)) m' ∧ oAg (fun p _ => p = 50) m1 m') := by
    intro d m1 d1 d2 h1
    refine lp_run (P := fun f m' => FI A B le mo (fD2 le mo d f f) m' ∧ oAg (fun p _ => p = 50) m1 m') (by omega) (by omega) ⟨h1, oAg.rf⟩ ?_ ?_
    · rintro f m2 f1 f2 ⟨i2, g2⟩
      obtain ⟨m3, e3, i3, g3⟩ := inner d f m2 d1 d2 f1 f2 i2
      refine ⟨m3, ?_, i3.mono (fun y z => ?_), g2.tr g3⟩
      · show F_X0_seekTwoPairs_L18 (nI d) (nI f) m2 = _
        unfold F_X0_seekTwoPairs_L18
        rw [i2.1.2.2.2, if_neg (nI_nlt (by omega) (by omega)), e3, o_b, nI_1]
      · rcases z with z | ⟨z1, z2⟩
        · exact Or.inl z
        · refine Or.inr ⟨z1, ?_⟩
          unfold fTwo at z1
          omega
    · rintro m2 ⟨i2, -⟩
      show F_X0_seekTwoPairs_L18 (nI d) (nI (mo + 1)) m2 = _
      unfold F_X0_seekTwoPairs_L18
      rw [i2.1.2.2.2, if_pos (nI_lt (by omega) (by omega))]
  have h0 : FI A B le mo (fD2 le mo le le le) m := h.mono (fun y z => by
    rcases z with z | ⟨z1, z2⟩
    · exact z
    · unfold fTwo at z1
      omega)
  obtain ⟨m', q1, q2, q3⟩ := lp_run (f := fun s : Int32 × oM => F_X0_seekTwoPairs_L5 s.1 s.2) (P := fun d m' => FI A B le mo (fD2 le mo d le le) m' ∧ oAg (fun p _ => p = 50) m m') (a := le) (mo := mo) (m := m) (by omega) (by omega) ⟨h0, oAg.rf⟩ (by
    rintro d m1 d1 d2 ⟨f1, g1⟩
    obtain ⟨m2, e2, f2, g2⟩ := middle d m1 d1 d2 f1
    refine ⟨m2, ?_, f2.mono (fun y z => ?_), g1.tr g2⟩
    · show F_X0_seekTwoPairs_L5 (nI d) m1 = _
      unfold F_X0_seekTwoPairs_L5
      rw [f1.1.2.2.2, if_neg (nI_nlt (by omega) (by omega)), f1.1.2.2.1, o_b, e2, o_b, nI_1]
    · rcases z with z | ⟨z1, z2⟩
      · exact Or.inl z
      · refine Or.inr ⟨z1, ?_⟩
        unfold fTwo at z1
        omega) (by
    rintro m1 ⟨f1, -⟩
    show F_X0_seekTwoPairs_L5 (nI (mo + 1)) m1 = _
    unfold F_X0_seekTwoPairs_L5
    rw [f1.1.2.2.2, if_pos (nI_lt (by omega) (by omega))])
  refine ⟨m', ?_, q2.mono (fun y z => ?_), q3⟩
  · unfold F_X0_seekTwoPairs
    rw [h.1.2.2.1, o_b, q1, o_b]
  · rcases cand_12 z with w | w
    · exact Or.inl w
    · refine Or.inr ⟨w, ?_⟩
      unfold fTwo at w
      omega
theorem c_seekJ (hR : fRng A B le mo) (m : oM) : ∃ m' c, F_X0_seek_J38 m (nI A) (nI B) (nI le) (nI mo) = some m' ∧ fBest A B le mo c ∧ fHead A B le mo m' ∧ fShow A B c m' ∧ oAg (fun p _ => p = 50) m m' := by
  have hR' := hR
  unfold fRng at hR'
  generalize hm0 : oSL (oSL (oSI (oSI (oSL (oSL m 50 0 (lN A)) 50 1 (lN B)) 50 2 (nI le)) 50 3 (nI mo)) 50 8 1) 50 9 0 = m0
  have a : ∀ {n : oM} {k : Nat} {y : Int32}, oAg (fun p _ => p = 50) n (oSI n 50 k y) := fun {n k y} => oAg.SI (S := fun p _ => p = 50) rfl
  have b : ∀ {n : oM} {k : Nat} {y : Int64}, oAg (fun p _ => p = 50) n (oSL n 50 k y) := fun {n k y} => oAg.SL (S := fun p _ => p = 50) rfl
  have g0 : oAg (fun p _ => p = 50) m m0 := by
    rw [← hm0]
    exact ((((b.tr b).tr a).tr a).tr b).tr b
  have f0 : FI A B le mo (fD1 le mo le le) m0 := by
    rw [← hm0]
    refine ⟨⟨rfl, rfl, rfl, rfl⟩, Or.inl ⟨fun d z => ?_, rfl, rfl⟩⟩
    obtain ⟨z1, z2⟩ := z
    unfold fOne at z1
    omega
  obtain ⟨m1, e1, f1, g1⟩ := c_seek1 hR f0
  obtain ⟨m2, e2, f2, g2⟩ := c_seek2 hR f1
  obtain ⟨hh, hc⟩ := f2
  rcases hc with ⟨n1, -⟩ | ⟨c, c1, c2, c3⟩
  · exact absurd (show fCand le mo (le, 0, le, 0) from ⟨Nat.le_refl _, by show le ≤ mo; omega, Nat.le_refl _, by show le ≤ mo; omega, Or.inl ⟨rfl, rfl⟩⟩) (n1 _)
  · refine ⟨m2, c, ?_, ⟨c1, fun d hd hne => ?_⟩, hh, c2, (g0.tr g1).tr g2⟩
    · unfold F_X0_seek_J38
      rw [nI_l (by omega), nI_l (by omega), o_b, o_b, o_b, o_b, o_b, o_b, hm0, e1, o_b, e2, o_b]
    · rcases c3 d hd with z | z
      · exact absurd z hne
      · exact z
theorem c_seek (hR : fRng A B le mo) (h : IFd m) : ∃ m' c, F_X0_seek m (nI A) (nI B) (nI le) (nI mo) = some m' ∧ fBest A B le mo c ∧ fHead A B le mo m' ∧ fShow A B c m' ∧ oAg (fun p _ => p = 50) m m' := by
  have hR' := hR
  unfold fRng at hR'
  have hJ := c_seekJ hR m
  have eA : (nI A).toInt64 = lN A := nI_l (by omega)
  have eB : (nI B).toInt64 = lN B := nI_l (by omega)
  by_cases c : lN A = m.2 50 0 ∧ lN B = m.2 50 1 ∧ nI le = m.1 50 2 ∧ nI mo = m.1 50 3
  · obtain ⟨k0, k1, k2, k3⟩ := c
    rcases h with z | ⟨A', B', le', mo', c, a1, a2, a3, a4, a5, a6, a7, y0, y1, y2, y3, yb, s4, s5, s6, s7, s8, s9⟩
    · rw [z] at k0
      have := congrArg Int64.toInt k0
      rw [lN_t (by omega), Int64.toInt_zero] at this
      omega
    · rw [y0] at k0
      rw [y1] at k1
      rw [y2] at k2
      rw [y3] at k3
      have q0 := (lN_eq (by omega) (by omega)).mp k0
      have q1 := (lN_eq (by omega) (by omega)).mp k1
      have q2 := (nI_eq (by omega) (by omega)).mp k2
      have q3 := (nI_eq (by omega) (by omega)).mp k3
      subst q0 q1 q2 q3
      refine ⟨m, c, ?_, yb, ⟨y0, y1, y2, y3⟩, ⟨s4, s5, s6, s7, s8, s9⟩, oAg.rf⟩
      unfold F_X0_seek
      rw [eA, eB, y0, if_pos rfl, y1, if_pos rfl, y2, if_pos rfl, y3, if_pos rfl]
  · have e : F_X0_seek m (nI A) (nI B) (nI le) (nI mo) = F_X0_seek_J38 m (nI A) (nI B) (nI le) (nI mo) := by
      unfold F_X0_seek
      rw [eA, eB]
      by_cases k0 : lN A = m.2 50 0
      · rw [if_pos k0]
        by_cases k1 : lN B = m.2 50 1
        · rw [if_pos k1]
          by_cases k2 : nI le = m.1 50 2
          · rw [if_pos k2, if_neg (fun k3 => c ⟨k0, k1, k2, k3⟩)]
          · rw [if_neg k2]
        · rw [if_neg k1]
      · rw [if_neg k0]
    rw [e]
    exact hJ
end FOUND3
