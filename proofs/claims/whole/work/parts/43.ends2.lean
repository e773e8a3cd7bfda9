/-! ends, the call -/
def sAll (V : oV) : Nat → oV
  | 0 => V
  | i + 1 => sDo (sAll V i) (vwh V i) (vvl V i)
section ENDS2
variable {m : oM} {V : oV}
theorem sAll_same (V : oV) : ∀ i, vps (sAll V i) = vps V ∧ vwh (sAll V i) = vwh V ∧ vvl (sAll V i) = vvl V ∧ vnb (sAll V i) = vnb V
  | 0 => ⟨rfl, rfl, rfl, rfl⟩
  | i + 1 => by
    obtain ⟨h1, h2, h3, h4⟩ := sAll_same V i
    obtain ⟨k1, k2, k3, k4⟩ := sDo_same (V := sAll V i) (vwh V i) (vvl V i)
    exact ⟨k1.trans h1, k2.trans h2, k3.trans h3, k4.trans h4⟩
theorem sAll_wf (hw : WF V) : ∀ i, WF (sAll V i)
  | 0 => hw
  | i + 1 => (sAll_wf hw i).do _ _
theorem c_fol (hw : WF V) : ∀ r i m, i + r = vps V → VC 29 m (sAll V i) → ∃ m', oTo (fun s : Int32 × oM => F_X1_followPlan_L2 29 s.1 s.2) (nI i, m) m' r ∧ VC 29 m' (sAll V (vps V)) ∧ oAg (fun p _ => 29 ≤ p ∧ p ≤ 42) m m'
  | 0, i, m, e, h => by
    have h8 := hw.2.2.1
    refine ⟨m, oTo.done _ ?_, by rwa [show i = vps V by omega] at h, oAg.rf⟩
    show F_X1_followPlan_L2 29 (nI i) m = _
    unfold F_X1_followPlan_L2
    rw [h.ps, (sAll_same V i).1, if_pos (nI_le (by omega) (by omega))]
  | r + 1, i, m, e, h => by
    obtain ⟨s1, s2, s3, -⟩ := sAll_same V i
    obtain ⟨m1, q1, q2, q3⟩ := c_do (sAll_wf hw i) h (i := i) (by omega)
    rw [s2, s3] at q2
    obtain ⟨m2, y1, y2, y3⟩ := c_fol hw r (i + 1) m1 (by omega) q2
    exact ⟨m2, oTo.step q1 y1, y2, q3.tr y3⟩
theorem r_fol (x : Int32) (hw : WF V) : ∀ r i m, i + r = vps V → VR 52 m (sAll V i) → ∃ m', oTo (fun s : Int32 × oM => F_X9_ends_L32 x s.1 s.2) (nI i, m) m' r ∧ VR 52 m' (sAll V (vps V)) ∧ oAg (fun p _ => p = 52) m m'
  | 0, i, m, e, h => by
    have h8 := hw.2.2.1
    refine ⟨m, oTo.done _ ?_, by rwa [show i = vps V by omega] at h, oAg.rf⟩
    show F_X9_ends_L32 x (nI i) m = _
    unfold F_X9_ends_L32
    rw [h.ps, (sAll_same V i).1, if_pos (nI_le (by omega) (by omega))]
  | r + 1, i, m, e, h => by
    have h8 := hw.2.2.1
    obtain ⟨s1, s2, s3, -⟩ := sAll_same V i
    have hwi := sAll_wf hw i
    have h15 := hwi.2.2.2.2.2.2.2.2.2.2.2.2.2.2 i (by omega)
    obtain ⟨d1, d2⟩ := h.2.2.2.2.2.2.2.2.2.2.2 i (by omega)
    obtain ⟨m1, q1, q2, q3⟩ := r_do hwi h h15
    have st : F_X9_ends_L32 x (nI i) m = some (.inl (nI (i + 1), m1)) := by
      unfold F_X9_ends_L32
      rw [h.ps, s1, if_neg (nI_ge (by omega) (by omega)), ix (c := 83) (n := 83) rfl, a_ld sh52 (by omega) (by omega), o_b, ix (c := 91) (n := 91) rfl, a_ld sh52 (by omega) (by omega), o_b, d1, d2, q1, o_b, nI_1]
    rw [s2, s3] at q2
    obtain ⟨m2, y1, y2, y3⟩ := r_fol x hw r (i + 1) m1 (by omega) q2
    exact ⟨m2, oTo.step st y1, y2, q3.tr y3⟩
/-- what both do from where they know that they must answer -/
theorem p_endsJ (h : Inv m) {V : oV} (hw : WF V) (hc : VC 1 m V) (hr : VR 52 m V) (x : Int32) (hx : x = 0 ∨ ∃ b, b < vnb V ∧ x - 10 = nI b) : Wr (F_X8_ends_J44 m x) (fun m => F_X9_ends_J19 m x) := by
  obtain ⟨m1, e1, g1, c1⟩ := c_copyFrom (o := 29) (q := 1) (Or.inl (by omega)) shapes29 shapes1 hw hc
  obtain ⟨m2, q1, q2, q3⟩ := c_fol hw (vps V) 0 m1 (by omega) c1
  have h8 := hw.2.2.1
  have L : oLoop (fun s : Int32 × oM => F_X1_followPlan_L2 29 s.1 s.2) oFuel (0, m1) = some m2 := q1.run (by omega)
  have g2 : oAg (fun p _ => 29 ≤ p ∧ p ≤ 42) m m2 := (g1.wk (by omega)).tr q3
  have hr2 : VR 52 m2 V := hr.ag g2 (by omega)
  obtain ⟨m3, e3, g3, v3⟩ := r_copies (p0 := 52) (p1 := 54) rfl rfl (by omega) m2
  have hr3 : VR 52 m3 V := hr2.ag g3 (by omega)
  have hr54 : VR 54 m3 V := VR.cp hw hr2 v3
  obtain ⟨m4, y1, y2, y3⟩ := r_fol x hw (vps V) 0 m3 (by omega) hr3
  have K : oLoop (fun s : Int32 × oM => F_X9_ends_L32 x s.1 s.2) oFuel (0, m3) = some m4 := y1.run (by omega)
  have hr54' : VR 54 m4 V := hr54.ag y3 (by omega)
  obtain ⟨m5, e5, g5, v5⟩ := r_copies (p0 := 54) (p1 := 52) rfl rfl (by omega) m4
  have hr5 : VR 52 m5 V := VR.cp hw hr54' v5
  have hwA := sAll_wf hw (vps V)
  have nbA := (sAll_same V (vps V)).2.2.2
  have ag : oAg (fun p _ => (29 ≤ p ∧ p ≤ 42) ∨ p = 54 ∨ p = 52) m m5 := (((g2.wk (by omega)).tr (g3.wk (by omega))).tr (y3.wk (by omega))).tr (g5.wk (by omega))
  have fin : Inv m5 := h.now (ag.wk (fun p k z => by unfold Now Scr; omega)) hw (hc.ag ag (by omega)) hr5
  have fp : F_X1_followPlan 29 m1 = some m2 := by
    unfold F_X1_followPlan
    rw [L, o_b]
  rcases hx with x0 | ⟨b, hb, xb⟩
  · refine ⟨(vtu (sAll V (vps V))).toInt64, m2, m5, ?_, ?_, fin⟩
    · unfold F_X8_ends_J44
      rw [e1, o_b, fp, o_b, if_pos x0, q2.tu]
    · show F_X9_ends_J19 m2 x = _
      unfold F_X9_ends_J19
      rw [e3, o_b, K, o_b, if_pos x0, y2.tu, o_b, e5, o_b]
  · by_cases x0 : x = 0
    · exfalso
      rw [x0] at xb
      have := hw.1
      have e := congrArg Int32.toInt xb
      rw [nI_toInt (by omega), show ((0 : Int32) - 10).toInt = -10 by decide] at e
      omega
    · have hbA : b < vnb (sAll V (vps V)) := by omega
      refine ⟨sStand (sAll V (vps V)) b, m2, m5, ?_, ?_, fin⟩
      · unfold F_X8_ends_J44
        rw [e1, o_b, fp, o_b, if_neg x0, xb, c_standing (o := 29) q2 hwA rfl hbA, o_b]
      · show F_X9_ends_J19 m2 x = _
        unfold F_X9_ends_J19
        rw [e3, o_b, K, o_b, if_neg x0, xb, r_standsAt y2 hwA hbA, o_b, e5, o_b]
theorem Wr.cg {α : Type} {a a' : Option (α × oM)} {b b' : oM → Option (α × oM)} (h : Wr a b) (ha : a' = a) (hb : ∀ m1, oAg (fun p _ => (1 ≤ p ∧ p ≤ 14) ∨ (29 ≤ p ∧ p ≤ 42) ∨ p = 50) m m1 → b' m1 = b m1) (hg : ∀ v m1, a = some (v, m1) → oAg (fun p _ => (1 ≤ p ∧ p ≤ 14) ∨ (29 ≤ p ∧ p ≤ 42) ∨ p = 50) m m1) : Wr a' b' := by
  obtain ⟨v, m1, m2, e1, e2, e3⟩ := h
  exact ⟨v, m1, m2, ha.trans e1, (hb m1 (hg v m1 e1)).trans e2, e3⟩
theorem c_endsG {V : oV} (hw : WF V) (hc : VC 1 m V) (x : Int32) {v : Int64} {m' : oM} (e : F_X8_ends_J44 m x = some (v, m')) : oAg (fun p _ => (1 ≤ p ∧ p ≤ 14) ∨ (29 ≤ p ∧ p ≤ 42) ∨ p = 50) m m' := by
  obtain ⟨m1, e1, g1, c1⟩ := c_copyFrom (o := 29) (q := 1) (Or.inl (by omega)) shapes29 shapes1 hw hc
  obtain ⟨m2, q1, q2, q3⟩ := c_fol hw (vps V) 0 m1 (by omega) c1
  have h8 := hw.2.2.1
  have L : oLoop (fun s : Int32 × oM => F_X1_followPlan_L2 29 s.1 s.2) oFuel (0, m1) = some m2 := q1.run (by omega)
  have g2 : oAg (fun p _ => 29 ≤ p ∧ p ≤ 42) m m2 := (g1.wk (by omega)).tr q3
  have fp : F_X1_followPlan 29 m1 = some m2 := by
    unfold F_X1_followPlan
    rw [L, o_b]
  have em : m' = m2 := by
    unfold F_X8_ends_J44 at e
    rw [e1, o_b, fp, o_b] at e
    by_cases x0 : x = 0
    · rw [if_pos x0] at e
      exact (congrArg Prod.snd (Option.some.inj e)).symm
    · rw [if_neg x0] at e
      cases hs : F_X1_standing 29 m2 (x - 10) with
      | none =>
        rw [hs] at e
        cases e
      | some w =>
        rw [hs, o_b] at e
        exact (congrArg Prod.snd (Option.some.inj e)).symm
  rw [em]
  exact g2.wk (by omega)
theorem p_ends (h : Inv m) (x : Int32) : Wr (F_X8_ends m x) (fun m => F_X9_ends m x) := by
  have hI := h
  obtain ⟨⟨V, hw, hc, hr⟩, -⟩ := h
  have hb6 := hw.1
  have a10 : (10 : Int32).toInt = 10 := by decide
  have a16 : (16 : Int32).toInt = 16 := by decide
  have r52 : ∀ m1, oAg (fun p _ => (1 ≤ p ∧ p ≤ 14) ∨ (29 ≤ p ∧ p ≤ 42) ∨ p = 50) m m1 → VR 52 m1 V := fun m1 g => hr.ag g (by omega)
  by_cases x0 : x = 0
  · refine (p_endsJ hI hw hc hr x (Or.inl x0)).cg (m := m) ?_ (fun m1 g => ?_) (fun v m1 e => c_endsG hw hc x e)
    · unfold F_X8_ends F_X8_ends_J16 F_X8_ends_J17
      rw [if_pos (show x < 10 by rw [x0]; decide), if_pos x0]
    · unfold F_X9_ends
      rw [if_pos x0]
  · by_cases ht : hT V (x - 10)
    · obtain ⟨b, hb, eb, hl⟩ := ht
      have ex : x = nI (b + 10) := by
        have : x = (x - 10) + 10 := by grind
        rw [this, eb, show (10 : Int32) = nI 10 from rfl, nI_add]
      have n1 : ¬ x < 10 := by
        rw [ex, i_lt, nI_toInt (by omega), a10]
        omega
      have n2 : ¬ 16 ≤ x := by
        rw [ex, i_le, nI_toInt (by omega), a16]
        omega
      refine (p_endsJ hI hw hc hr x (Or.inr ⟨b, hb, eb⟩)).cg (m := m) ?_ (fun m1 g => ?_) (fun v m1 e => c_endsG hw hc x e)
      · unfold F_X8_ends F_X8_ends_J17
        rw [if_neg n1, if_neg n2, if_neg x0, if_neg i10, eb, c_hasTrain1 hc hw rfl hb hl, o_b, if_neg i10]
      · unfold F_X9_ends
        rw [if_neg x0, eb, r_hasTrain1 (r52 m1 g) hw hb hl, o_b, if_neg i10]
    · refine Wr.no (v := -9223372036854775808) hI ?_ ?_
      · have j0 : F_X8_ends_J17 m x 0 = some (-9223372036854775808, m) := by
          unfold F_X8_ends_J17
          rw [if_neg x0, if_pos rfl]
        have j1 : F_X8_ends_J17 m x 1 = some (-9223372036854775808, m) := by
          unfold F_X8_ends_J17
          rw [if_neg x0, if_neg i10, c_hasTrain0 hc hw rfl ht, o_b, if_pos rfl]
        unfold F_X8_ends F_X8_ends_J16
        rw [j0, j1]
        split
        · rfl
        · split <;> rfl
      · show F_X9_ends m x = _
        unfold F_X9_ends
        rw [if_neg x0, r_hasTrain0 hr hw ht, o_b, if_pos rfl]
end ENDS2
