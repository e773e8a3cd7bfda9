/-! order, the call -/
section ORDER3
variable {m : oM} {V : oV}
theorem r_raw {b k : Nat} (hb : b < 6) (hk : k < 3) : F_X9_pairAt m (nI b) (nI k) = some (m.1 52 (25 + 3 * b + k)) := by
  unfold F_X9_pairAt
  rw [ix_p, a_ld sh52 (by omega) (by omega), o_b]
theorem r_J60 (hw : WF V) (hr : VR 52 m V) {b : Nat} (hb : b < vnb V) (hl : 0 < vln V b) {y : Int32} {isF : Nat → Int32} (hI : oIS V b y isF) : ∃ m2, F_X9_order_J60 m (nI b) y (nI (vln V b)) = some (if y = 0 then nI (sW V b (sel V b 5)) else isF (sel V b 5), m2) ∧ oAg (fun p _ => p = 52) m m2 ∧ VR 52 m2 V := by
  have h1 := hw.1
  obtain ⟨mem, q1, q2⟩ := r_ordK hw hr hb hl hI (R := fun k => m.1 52 (25 + 3 * b + k)) (fun k => rfl) 27 0 m (-1) 0 (by omega) oAg.rf (Or.inl ⟨rfl, rfl, rfl⟩)
  have L : oLoop (fun s : Int32 × Int32 × Int32 × oM => F_X9_order_L93 (nI b) y (nI (vln V b)) (m.1 52 (25 + 3 * b + 0)) (m.1 52 (25 + 3 * b + 1)) (m.1 52 (25 + 3 * b + 2)) s.1 s.2.1 s.2.2.1 s.2.2.2) oFuel (-1, 0, 0, m) = some (nI (sW V b (sel V b 5)), isF (sel V b 5), mem) := q1.run (by omega)
  have p0 : F_X9_pairAt m (nI b) 0 = some (m.1 52 (25 + 3 * b + 0)) := r_raw (k := 0) (by omega) (by omega)
  have p1 : F_X9_pairAt m (nI b) 1 = some (m.1 52 (25 + 3 * b + 1)) := r_raw (k := 1) (by omega) (by omega)
  have p2 : F_X9_pairAt m (nI b) 2 = some (m.1 52 (25 + 3 * b + 2)) := r_raw (k := 2) (by omega) (by omega)
  have x1 : 25 + 3 * nI b = nI (25 + 3 * b) := by rw [show (3 : Int32) = nI 3 from rfl, nI_mul, show (25 : Int32) = nI 25 from rfl, nI_add]
  have x11 : nI (25 + 3 * b) + 1 = nI (25 + 3 * b + 1) := nI_add _ 1
  have x12 : nI (25 + 3 * b) + 2 = nI (25 + 3 * b + 2) := nI_add _ 2
  generalize hme : oSI (oSI (oSI mem 52 (25 + 3 * b) (m.1 52 (25 + 3 * b + 0))) 52 (25 + 3 * b + 1) (m.1 52 (25 + 3 * b + 1))) 52 (25 + 3 * b + 2) (m.1 52 (25 + 3 * b + 2)) = me
  have v : ∀ k, me.1 52 k = m.1 52 k := by
    intro k
    rw [← hme]
    by_cases z2 : k = 25 + 3 * b + 2
    · rw [z2, SI_eq]
    · rw [SI_ne (by omega)]
      by_cases z1 : k = 25 + 3 * b + 1
      · rw [z1, SI_eq]
      · rw [SI_ne (by omega)]
        by_cases z0 : k = 25 + 3 * b
        · rw [z0, SI_eq]
          rfl
        · rw [SI_ne (by omega)]
          exact (q2 52 k (by omega)).1
  refine ⟨me, ?_, ?_, VR.cp (p0 := 52) (p1 := 52) hw hr (fun i _ => v i)⟩
  · unfold F_X9_order_J60
    rw [p0, o_b, p1, o_b, p2, o_b, L, o_b]
    show ((oAS mem 52 (25 + 3 * nI b) (m.1 52 (25 + 3 * b + 0))).bind _) = _
    rw [x1, x11, x12, a_st sh52 (by omega) (by omega), o_b, a_st sh52 (by omega) (by omega), o_b, a_st sh52 (by omega) (by omega), o_b, hme]
    by_cases y0 : y = 0
    · rw [if_pos y0, if_pos y0]
    · rw [if_neg y0, if_neg y0]
  · rw [← hme]
    exact (((q2.wk (fun _ _ z => z.1)).tr (oAg.SI rfl)).tr (oAg.SI rfl)).tr (oAg.SI rfl)
theorem p_ordJ (h : Inv m) (hw : WF V) (hc : VC 1 m V) (hr : VR 52 m V) {b : Nat} (hb : b < vnb V) {y : Int32} (hy : y = 0 ∨ ∃ k, k < 3 ∧ y = nI (k + 10)) : ∃ v m1 m2, F_X8_order_J24 m (nI b) y = some (v, m1) ∧ F_X9_order_J28 m1 (nI b) y = some (v, m2) ∧ Inv m2 ∧ oAg (fun p _ => 29 ≤ p ∧ p ≤ 42) m m1 := by
  have h1 := hw.1
  have h3 := hw.2.2.2.2.1 b
  by_cases hl : 0 < vln V b
  · obtain ⟨m1, e1, g1⟩ := c_bestOrder hw hc hb hl
    have hc1 : VC 1 m1 V := hc.ag g1 (by omega)
    have ok := sel_ok V b (okD_0 _ (by omega) hl) 5
    have sl := sel_le V b 5
    have okn := okD_n _ (by omega) _ (by omega) ok
    have nz : ¬ nI (vln V b) = 0 := nI_ne0 hl (by omega)
    have inv : ∀ {ma mb : oM}, oAg (fun p _ => 29 ≤ p ∧ p ≤ 42) m ma → oAg (fun p _ => p = 52) ma mb → VR 52 mb V → Inv mb := fun ga gb vb => h.now ((ga.wk (fun p k z => by unfold Now Scr; omega)).tr (gb.wk (fun p k z => by unfold Now Scr; omega))) hw ((hc.ag ga (by omega)).ag gb (by omega)) vb
    rcases hy with y0 | ⟨k, hk, yk⟩
    · obtain ⟨m1', e1', g1'⟩ := c_wheelsBy hw hc1 hb (j := sel V b 5) (by omega) okn
      have g := g1.tr g1'
      have hr1 : VR 52 m1' V := hr.ag g (by omega)
      obtain ⟨m2, q1, q2, q3⟩ := r_J60 hw hr1 hb hl (y := y) (isF := fun _ => 0) (Or.inl ⟨y0, fun _ => rfl⟩)
      refine ⟨nI (sW V b (sel V b 5)), m1', m2, ?_, ?_, inv g q2 q3, g⟩
      · unfold F_X8_order_J24
        rw [c_hasTrain1 hc hw rfl hb hl, o_b, if_neg i10, e1, o_b, if_pos y0, e1', o_b]
      · unfold F_X9_order_J28
        rw [r_ln hr1 hw hb, o_b, if_neg nz, if_pos (show y ≤ 0 by rw [y0]; decide), q1, if_pos y0]
    · have hr1 : VR 52 m1 V := hr.ag g1 (by omega)
      have yn : ¬ y = 0 := by
        rw [yk]
        exact nI_ne0 (by omega) (by omega)
      have yl : ¬ y ≤ 0 := by
        rw [yk]
        exact nI_nle (by omega) (by omega)
      have ye : y - 10 = nI k := by
        rw [yk, show (10 : Int32) = nI 10 from rfl, nI_sub (by omega), Nat.add_sub_cancel]
      by_cases c : k < vln V b
      · obtain ⟨m2, q1, q2, q3⟩ := r_J60 hw hr1 hb hl (y := y) (isF := fun j => nI (vpl V b (pm j k))) (Or.inr ⟨k, c, yk, fun _ => rfl⟩)
        refine ⟨nI (vpl V b (pm (sel V b 5) k)), m1, m2, ?_, ?_, inv g1 q2 q3, g1⟩
        · unfold F_X8_order_J24
          rw [c_hasTrain1 hc hw rfl hb hl, o_b, if_neg i10, e1, o_b, if_neg yn, c1_len hc1 (by omega), o_b, ye, if_pos (nI_lt c (by omega)), c_place (by omega) hk, o_b, c1_pl hc1 hw hb (okn k c), o_b]
        · unfold F_X9_order_J28
          rw [r_ln hr1 hw hb, o_b, if_neg nz, if_neg yl, ye, if_pos (nI_lt c (by omega)), q1, if_neg yn]
      · refine ⟨-5, m1, m1, ?_, ?_, inv g1 oAg.rf hr1, g1⟩
        · unfold F_X8_order_J24
          rw [c_hasTrain1 hc hw rfl hb hl, o_b, if_neg i10, e1, o_b, if_neg yn, c1_len hc1 (by omega), o_b, ye, if_neg (nI_nlt (by omega) (by omega))]
        · unfold F_X9_order_J28
          rw [r_ln hr1 hw hb, o_b, if_neg nz, if_neg yl, ye, if_neg (nI_nlt (by omega) (by omega))]
  · have l0 : vln V b = 0 := by omega
    refine ⟨-3, m, m, ?_, ?_, h, oAg.rf⟩
    · unfold F_X8_order_J24
      rw [c_hasTrain0 hc hw rfl, o_b, if_pos rfl]
      rintro ⟨c, hcb, he, hl'⟩
      have := (nI_eq (by omega) (by omega)).mp he
      subst this
      omega
    · unfold F_X9_order_J28
      rw [r_ln hr hw hb, o_b, if_pos (by rw [l0]; rfl)]
theorem p_order (h : Inv m) (x y : Int32) : Wr (F_X8_order m x y) (fun m => F_X9_order m x y) := by
  have hI := h
  obtain ⟨⟨V, hw, hc, hr⟩, -⟩ := h
  by_cases hB : isB V x
  · obtain ⟨b, hb, rfl⟩ := isB_of hB
    by_cases y0 : y = 0
    · obtain ⟨v, m1, m2, e1, e2, e3, g⟩ := p_ordJ hI hw hc hr hb (y := y) (Or.inl y0)
      have hr1 : VR 52 m1 V := hr.ag g (by omega)
      refine ⟨v, m1, m2, ?_, ?_, e3⟩
      · unfold F_X8_order
        rw [c_hasBody1 hc hw hB, o_b, if_neg i10, if_pos y0, e1]
      · show F_X9_order m1 (nI b) y = _
        unfold F_X9_order
        rw [r_isBody1 hr1 hw hB, o_b, if_neg i10, if_pos y0, e2]
    · by_cases hy : 10 ≤ y.toInt ∧ y.toInt ≤ 12
      · obtain ⟨y1, y2, y3⟩ := i_in (p := 10) (q := 12) (by decide) (by decide) hy
        have y4 : ¬ 13 ≤ y := by
          rw [i_le, show (13 : Int32).toInt = 13 by decide]
          omega
        have yk : ∃ k, k < 3 ∧ y = nI (k + 10) := by
          refine ⟨y.toInt.toNat - 10, by omega, ?_⟩
          rw [i_eq, nI_toInt (by omega)]
          omega
        obtain ⟨v, m1, m2, e1, e2, e3, g⟩ := p_ordJ hI hw hc hr hb (y := y) (Or.inr yk)
        have hr1 : VR 52 m1 V := hr.ag g (by omega)
        have ap : F_X8_asksPlace y = some 1 := by
          unfold F_X8_asksPlace
          rw [if_neg y1, if_neg y4]
        refine ⟨v, m1, m2, ?_, ?_, e3⟩
        · unfold F_X8_order
          rw [c_hasBody1 hc hw hB, o_b, if_neg i10, if_neg y0, ap, o_b, if_neg i10, e1]
        · show F_X9_order m1 (nI b) y = _
          unfold F_X9_order
          rw [r_isBody1 hr1 hw hB, o_b, if_neg i10, if_neg y0, isIn1 (p := 10) (q := 12) (by decide) (by decide) (by rw [i_long]; exact hy), o_b, if_neg i10, e2]
      · have ap : F_X8_asksPlace y = some 0 := by
          unfold F_X8_asksPlace
          rcases i_out (p := 10) (q := 12) (by decide) (by decide) hy with k | ⟨k1, k2, k3⟩
          · rw [if_pos k]
          · rw [if_neg k1, if_pos (show 13 ≤ y by rw [i_le, show (13 : Int32).toInt = 13 by decide]; rw [i_lt, show (12 : Int32).toInt = 12 by decide] at k2; omega)]
        refine Wr.no (v := -1) hI ?_ ?_
        · unfold F_X8_order
          rw [c_hasBody1 hc hw hB, o_b, if_neg i10, if_neg y0, ap, o_b, if_pos rfl]
        · show F_X9_order m (nI b) y = _
          unfold F_X9_order
          rw [r_isBody1 hr hw hB, o_b, if_neg i10, if_neg y0, isIn0 (p := 10) (q := 12) (by decide) (by decide) (by rw [i_long]; exact hy), o_b, if_pos rfl]
  · refine Wr.no (v := -1) hI ?_ ?_
    · unfold F_X8_order
      rw [c_hasBody0 hc hw hB, o_b, if_pos rfl]
    · show F_X9_order m x y = _
      unfold F_X9_order
      rw [r_isBody0 hr hw hB, o_b, if_pos rfl]
end ORDER3
