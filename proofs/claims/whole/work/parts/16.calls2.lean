/-! drift, meet, share, of, odds -/
theorem l_tdiv {x y : Int64} (hy : 0 < y.toInt) : (x / y).toInt = x.toInt.tdiv y.toInt := by
  have hr := l_rng x
  rw [Int64.toInt_div]
  have h1 : (x.toInt.tdiv y.toInt).natAbs = x.toInt.natAbs / y.toInt.natAbs := Int.natAbs_tdiv _ _
  have h2 : x.toInt.natAbs / y.toInt.natAbs ≤ x.toInt.natAbs := Nat.div_le_self _ _
  by_cases h3 : x.toInt = -9223372036854775808
  · by_cases h4 : y.toInt = 1
    · rw [h4, Int.tdiv_one]
      exact Int.bmod_eq_of_le (by omega) (by omega)
    · have h5 : x.toInt.natAbs / y.toInt.natAbs ≤ x.toInt.natAbs / 2 := Nat.div_le_div_left (by omega) (by decide)
      exact Int.bmod_eq_of_le (by omega) (by omega)
  · exact Int.bmod_eq_of_le (by omega) (by omega)
/-- lowest terms, times what was taken out -/
theorem sG_cut {x y : Int64} (hy : 0 < y.toInt) : ∃ g : Int, 0 < g ∧ (sG x y).toInt = g ∧ (x / sG x y).toInt * g = x.toInt ∧ (y / sG x y).toInt * g = y.toInt := by
  have hr := l_rng y
  have h3 : Nat.gcd x.toInt.natAbs y.toInt.toNat ≤ y.toInt.toNat := Nat.gcd_le_right _ (by omega)
  have hp := (sG_pos (x := x) hy).1
  have e : (sG x y).toInt = (Nat.gcd x.toInt.natAbs y.toInt.toNat : Nat) := lN_t (by omega)
  refine ⟨_, hp, rfl, ?_, ?_⟩
  · rw [l_tdiv hp, e]
    exact Int.tdiv_mul_cancel (Int.ofNat_dvd_left.mpr (Nat.gcd_dvd_left _ _))
  · rw [l_tdiv hp, e]
    refine Int.tdiv_mul_cancel (Int.ofNat_dvd_left.mpr ?_)
    rw [show y.toInt.natAbs = y.toInt.toNat by omega]
    exact Nat.gcd_dvd_right _ _
theorem i10 : ¬ (1 : Int32) = 0 := by decide
section CALLS2
variable {m : oM} {V : oV}
theorem p_drift (h : Inv m) (x n : Int32) : Same (F_X8_drift m x n) (F_X9_drift m x n) := by
  obtain ⟨⟨V, hw, hc, hr⟩, -⟩ := h
  unfold F_X8_drift F_X9_drift
  by_cases ht : hT V x
  · obtain ⟨b, hb, rfl, hl⟩ := ht
    have h1 := sW_b hw hb
    rw [c_hasTrain1 hc hw rfl hb hl, r_hasTrain1 hr hw hb hl, o_b, o_b, if_neg i10, if_neg i10, f_isIn, o_b, i_long, Int64.toInt_zero, show (9999 : Int64).toInt = 9999 by decide]
    by_cases hn : 0 ≤ n.toInt ∧ n.toInt ≤ 9999
    · rw [if_pos hn, if_neg (show ¬ n < 0 by rw [i_lt, Int32.toInt_zero]; omega), if_pos (show n ≤ 9999 by rw [i_le, show (9999 : Int32).toInt = 9999 by decide]; omega), if_neg i10]
      rw [c_wA hc hw rfl hb, o_b, c_wB hc hw rfl hb, o_b, r_wrong1 hr hw hb hl, r_wrong1 hr hw hb hl, o_b, o_b]
      have hB : ¬ sWB V b = 0 := l_ne0 (by omega)
      rw [c_quot hB, o_b]
      obtain ⟨g, g0, eg, ga, gb⟩ := sG_cut (x := sWA V b) (y := sWB V b) (by omega)
      have hq : 0 < (sWB V b / sG (sWA V b) (sWB V b)).toInt := by
        rcases Int.lt_or_le 0 (sWB V b / sG (sWA V b) (sWB V b)).toInt with q | q
        · exact q
        · exfalso
          have := Int.mul_nonpos_of_nonpos_of_nonneg q (Int.le_of_lt g0)
          omega
      have e0 : (if sPart 0 = 0 then (-9223372036854775808 : Int64) else sTold (sWA V b) (sWB V b) 0) = sWA V b / sG (sWA V b) (sWB V b) := rfl
      have e1 : (if sPart 1 = 0 then (-9223372036854775808 : Int64) else sTold (sWA V b) (sWB V b) 1) = sWB V b / sG (sWA V b) (sWB V b) := rfl
      rw [e0, e1, if_neg (l_ne0 hq), o_b]
      refine ⟨_, rfl, congrArg some ?_⟩
      generalize hu : sWA V b / sG (sWA V b) (sWB V b) = u at ga
      generalize hv : sWB V b / sG (sWA V b) (sWB V b) = v at gb hq
      have k1 : (1000 * n.toInt64 : Int64).toInt = 1000 * n.toInt := by
        rw [l_mul] <;> rw [i_long, show (1000 : Int64).toInt = 1000 by decide] <;> omega
      have pA := prod_b (a := 1000 * n.toInt) (b := (sWA V b).toInt + 9702019701) (A := 9999000) (B := 19404039402) (by omega) (by omega) (by omega) (by omega)
      rw [Int.mul_add] at pA
      have pA2 := prod_b (a := 1000 * n.toInt) (b := 9702019701) (A := 9999000) (B := 9702019701) (by omega) (by omega) (by omega) (by omega)
      have k2 : ((1000 * n.toInt64) * sWA V b : Int64).toInt = (1000 * n.toInt) * (sWA V b).toInt := by
        rw [l_mul] <;> rw [k1] <;> omega
      have hub : u.toInt.natAbs ≤ 9702019701 := by
        have e : u.toInt.natAbs * g.natAbs = (sWA V b).toInt.natAbs := by rw [← Int.natAbs_mul, ga]
        have : u.toInt.natAbs * 1 ≤ u.toInt.natAbs * g.natAbs := Nat.mul_le_mul_left _ (by omega)
        omega
      have pu := prod_b (a := 1000 * n.toInt) (b := u.toInt + 9702019701) (A := 9999000) (B := 19404039402) (by omega) (by omega) (by omega) (by omega)
      rw [Int.mul_add] at pu
      have k3 : ((1000 * n.toInt64) * u : Int64).toInt = (1000 * n.toInt) * u.toInt := by
        rw [l_mul] <;> rw [k1] <;> omega
      rw [l_eq, l_tdiv hq, l_tdiv (by omega), k2, k3, ← ga, ← gb, ← Int.mul_assoc, Int.mul_tdiv_mul_of_pos_left _ _ g0]
    · rw [if_neg hn, if_pos rfl]
      by_cases h0 : n < 0
      · rw [if_pos h0]
        exact ⟨_, rfl, rfl⟩
      · rw [if_neg h0, if_neg]
        · exact ⟨_, rfl, rfl⟩
        · rw [i_lt, Int32.toInt_zero] at h0
          rw [i_le, show (9999 : Int32).toInt = 9999 by decide]
          omega
  · rw [c_hasTrain0 hc hw rfl ht, r_hasTrain0 hr hw ht]
    exact ⟨_, rfl, rfl⟩
-- two bodies
def sTwo (V : oV) (x y : Int32) : Prop := isB V x ∧ isB V y ∧ x ≠ y
theorem c_areTwo1 (h : VC 1 m V) (hw : WF V) {x y : Int32} (hx : sTwo V x y) : F_X8_areTwo m x y = some 1 := by
  unfold F_X8_areTwo
  rw [c_hasBody1 h hw hx.1, c_hasBody1 h hw hx.2.1, o_b, if_neg i10, o_b, if_neg i10, if_neg hx.2.2]
theorem c_areTwo0 (h : VC 1 m V) (hw : WF V) {x y : Int32} (hx : ¬ sTwo V x y) : F_X8_areTwo m x y = some 0 := by
  unfold F_X8_areTwo
  by_cases h1 : isB V x
  · by_cases h2 : isB V y
    · rw [c_hasBody1 h hw h1, c_hasBody1 h hw h2, o_b, if_neg i10, o_b, if_neg i10, if_pos]
      exact Classical.byContradiction fun q => hx ⟨h1, h2, q⟩
    · rw [c_hasBody1 h hw h1, c_hasBody0 h hw h2, o_b, if_neg i10, o_b, if_pos rfl]
  · rw [c_hasBody0 h hw h1, o_b, if_pos rfl]
theorem r_areTwo1 (h : VR 52 m V) (hw : WF V) {x y : Int32} (hx : sTwo V x y) : F_X9_areTwo m x y = some 1 := by
  unfold F_X9_areTwo
  rw [r_isBody1 h hw hx.1, r_isBody1 h hw hx.2.1, o_b, if_neg i10, o_b, if_neg i10, if_neg hx.2.2]
theorem r_areTwo0 (h : VR 52 m V) (hw : WF V) {x y : Int32} (hx : ¬ sTwo V x y) : F_X9_areTwo m x y = some 0 := by
  unfold F_X9_areTwo
  by_cases h1 : isB V x
  · by_cases h2 : isB V y
    · rw [r_isBody1 h hw h1, r_isBody1 h hw h2, o_b, if_neg i10, o_b, if_neg i10, if_pos]
      exact Classical.byContradiction fun q => hx ⟨h1, h2, q⟩
    · rw [r_isBody1 h hw h1, r_isBody0 h hw h2, o_b, if_neg i10, o_b, if_pos rfl]
  · rw [r_isBody0 h hw h1, o_b, if_pos rfl]
theorem sTold1_b (hw : WF V) {b : Nat} (hb : b < vnb V) : 1 ≤ (sTold (sDr V b) (sDn V b) 1).toInt ∧ (sTold (sDr V b) (sDn V b) 1).toInt ≤ 970299 := by
  have h2 := sDn_b hw hb
  obtain ⟨g, g0, eg, ga, gb⟩ := sG_cut (x := sDr V b) (y := sDn V b) (by omega)
  have e : sTold (sDr V b) (sDn V b) 1 = sDn V b / sG (sDr V b) (sDn V b) := rfl
  rw [e]
  generalize (sDn V b / sG (sDr V b) (sDn V b)).toInt = u at gb
  constructor
  · rcases Int.lt_or_le 0 u with q | q
    · omega
    · exfalso
      have := Int.mul_nonpos_of_nonpos_of_nonneg q (Int.le_of_lt g0)
      omega
  · rcases Int.lt_or_le 970299 u with q | q
    · exfalso
      have : u * 1 ≤ u * g := Int.mul_le_mul_of_nonneg_left (by omega) (by omega)
      omega
    · exact q
theorem r_turns1 (h : VR 52 m V) (hw : WF V) {b : Nat} (hb : b < vnb V) (hl : 0 < vln V b) : F_X9_turns m (nI b) 1 = some (sTold (sDr V b) (sDn V b) 1) := by
  have h1 := sDr_b hw hb
  have h2 := sDn_b hw hb
  unfold F_X9_turns
  rw [r_hasTrain1 h hw hb hl, o_b, if_neg i10, r_isPart, o_b, if_neg (show ¬ sPart 1 = 0 by decide), r_drivers h hw hb, r_drivens h hw hb, o_b, o_b, r_told 1 (by omega) (by omega) (by omega), o_b]
theorem p_meet (h : Inv m) (x y : Int32) : Same (F_X8_meet m x y) (F_X9_meet m x y) := by
  obtain ⟨⟨V, hw, hc, hr⟩, -⟩ := h
  unfold F_X8_meet F_X9_meet
  by_cases h2 : sTwo V x y
  · rw [c_areTwo1 hc hw h2, r_areTwo1 hr hw h2, o_b, o_b, if_neg i10, if_neg i10]
    by_cases ht : hT V x
    · obtain ⟨b, hb, rfl, hl⟩ := ht
      rw [c_hasTrain1 hc hw rfl hb hl, r_hasTrain1 hr hw hb hl, o_b, o_b, if_neg i10, if_neg i10]
      by_cases hu : hT V y
      · obtain ⟨c, hcb, rfl, hcl⟩ := hu
        rw [c_hasTrain1 hc hw rfl hcb hcl, r_hasTrain1 hr hw hcb hcl, o_b, o_b, if_neg i10, if_neg i10]
        have d1 := sDr_b hw hb
        have d2 := sDn_b hw hb
        have d3 := sDr_b hw hcb
        have d4 := sDn_b hw hcb
        rw [c_drivers hc hw rfl hb, c_drivens hc hw rfl hb, c_drivers hc hw rfl hcb, c_drivens hc hw rfl hcb, o_b, o_b, c_lowest 1 (by omega) (by omega) (by omega), o_b, o_b, o_b, c_lowest 1 (by omega) (by omega) (by omega), o_b, r_turns1 hr hw hb hl, r_turns1 hr hw hcb hcl, o_b, o_b]
        have q1 := sTold1_b hw hb
        have q2 := sTold1_b hw hcb
        generalize sTold (sDr V b) (sDn V b) 1 = u at q1
        generalize sTold (sDr V c) (sDn V c) 1 = v at q2
        obtain ⟨g, g0, eg, ga, gb⟩ := sG_cut (x := u) (y := v) (by omega)
        have hg : ¬ sG u v = 0 := l_ne0 (by omega)
        rw [c_gc (by omega) (by omega) (by omega), r_gc (by omega) (by omega) (by omega), o_b, o_b, c_quot hg, o_b, if_neg hg, o_b]
        refine ⟨_, rfl, congrArg some ?_⟩
        have b1 : ∀ z w : Int64, 1 ≤ w.toInt → w.toInt ≤ 970299 → z.toInt * g = w.toInt → 0 ≤ z.toInt ∧ z.toInt ≤ 970299 := by
          intro z w w1 w2 hz
          constructor
          · rcases Int.lt_or_le z.toInt 0 with q | q
            · exfalso
              have := Int.mul_nonpos_of_nonpos_of_nonneg (Int.le_of_lt q) (Int.le_of_lt g0)
              omega
            · exact q
          · rcases Int.lt_or_le 970299 z.toInt with q | q
            · exfalso
              have : z.toInt * 1 ≤ z.toInt * g := Int.mul_le_mul_of_nonneg_left (by omega) (by omega)
              omega
            · exact q
        have b2 := b1 _ u q1.1 q1.2 ga
        have b3 := b1 _ v q2.1 q2.2 gb
        have p1 := prod_b (a := (u / sG u v).toInt) (b := v.toInt) b2.1 b2.2 (by omega) q2.2
        have p2 := prod_b (a := u.toInt) (b := (v / sG u v).toInt) (by omega) q1.2 b3.1 b3.2
        rw [l_eq, l_mul (by omega) (by omega), l_mul (by omega) (by omega)]
        generalize (u / sG u v).toInt = a at ga
        generalize (v / sG u v).toInt = d at gb
        rw [← ga, ← gb]
        grind
      · rw [c_hasTrain0 hc hw rfl hu, r_hasTrain0 hr hw hu]
        exact ⟨_, rfl, rfl⟩
    · rw [c_hasTrain0 hc hw rfl ht, r_hasTrain0 hr hw ht]
      exact ⟨_, rfl, rfl⟩
  · rw [c_areTwo0 hc hw h2, r_areTwo0 hr hw h2]
    exact ⟨_, rfl, rfl⟩
-- what trains share
def sSh (V : oV) (b c : Nat) : Nat → Nat → Nat
  | k, 0 => k
  | k, r + 1 => if vpl V b k = vpl V c k then sSh V b c (k + 1) r else k
def sShr (V : oV) (b c : Nat) : Nat := sSh V b c 0 (min (vln V b) (vln V c))
theorem sSh_le (V : oV) (b c : Nat) : ∀ r k, sSh V b c k r ≤ k + r
  | 0, k => Nat.le_refl _
  | r + 1, k => by
    have := sSh_le V b c r (k + 1)
    unfold sSh
    split <;> omega
theorem c_min (a b : Nat) (ha : a < 2 ^ 31) (hb : b < 2 ^ 31) : F_J9_min_7cf53 (nI a) (nI b) = some (nI (min a b)) := by
  unfold F_J9_min_7cf53
  by_cases h : b < a
  · rw [if_pos (nI_lt h ha), Nat.min_eq_right (by omega)]
  · rw [if_neg (nI_nlt (by omega) hb), Nat.min_eq_left (by omega)]
theorem c_max (a b : Nat) (ha : a < 2 ^ 31) (hb : b < 2 ^ 31) : F_J9_max_7cf53 (nI a) (nI b) = some (nI (max a b)) := by
  unfold F_J9_max_7cf53
  by_cases h : a < b
  · rw [if_pos (nI_lt h hb), Nat.max_eq_right (by omega)]
  · rw [if_neg (nI_nlt (by omega) ha), Nat.max_eq_left (by omega)]
theorem c_shK {o : Nat} (h : VC o m V) (hw : WF V) (ho : oOb o = true) {b c : Nat} (hb : b < vnb V) (hc : c < vnb V) : ∀ r k, k + r = min (vln V b) (vln V c) →
    ∃ q, oTo (fun s : Int32 => F_X7_shared_L17 (o + 8) m (nI b) (nI c) (nI (k + r)) s) (nI k) q r ∧ Sum.elim (fun _ : Unit => some (nI (k + r))) (fun z => some z) q = some (nI (sSh V b c k r))
  | 0, k, e => by
    have h3 := hw.2.2.2.2.1 b
    refine ⟨.inl (), oTo.done 0 ?_, rfl⟩
    show F_X7_shared_L17 (o + 8) m (nI b) (nI c) (nI (k + 0)) (nI k) = _
    unfold F_X7_shared_L17
    rw [Nat.add_zero, if_pos (nI_le (Nat.le_refl _) (by omega))]
  | r + 1, k, e => by
    have h3 := hw.2.2.2.2.1 b
    have hn := hw.2.1
    have q1 := hw.2.2.2.2.2.2.1 b k hb (by omega)
    have q2 := hw.2.2.2.2.2.2.1 c k hc (by omega)
    have body : F_X7_shared_L17 (o + 8) m (nI b) (nI c) (nI (k + (r + 1))) (nI k) = if vpl V b k = vpl V c k then some (.inl (nI (k + 1))) else some (.inr (.inr (nI k))) := by
      unfold F_X7_shared_L17
      rw [if_neg (nI_ge (by omega) (by omega)), c_pl h hw ho hb (by omega), c_pl h hw ho hc (by omega), o_b, o_b, nI_1]
      by_cases hq : vpl V b k = vpl V c k
      · rw [if_pos hq, if_pos (by rw [hq])]
      · rw [if_neg hq, if_neg (fun z => hq ((nI_eq (by omega) (by omega)).mp z))]
    by_cases hq : vpl V b k = vpl V c k
    · obtain ⟨q, hto, he⟩ := c_shK h hw ho hb hc r (k + 1) (by omega)
      rw [show k + 1 + r = k + (r + 1) by omega] at hto he
      refine ⟨q, oTo.step (s' := nI (k + 1)) (by rw [body, if_pos hq]) hto, ?_⟩
      rw [he]
      show _ = some (nI (if vpl V b k = vpl V c k then sSh V b c (k + 1) r else k))
      rw [if_pos hq]
    · refine ⟨.inr (nI k), oTo.done _ (by rw [body, if_neg hq]), ?_⟩
      show _ = some (nI (if vpl V b k = vpl V c k then sSh V b c (k + 1) r else k))
      rw [if_neg hq]
      rfl
theorem c_shared {o : Nat} (h : VC o m V) (hw : WF V) (ho : oOb o = true) {b c : Nat} (hb : b < vnb V) (hc : c < vnb V) : F_X7_shared (o + 8) m (nI b) (nI c) = some (nI (sShr V b c)) := by
  have h1 := hw.1
  have h2 := hw.2.2.2.2.1 b
  have h3 := hw.2.2.2.2.1 c
  obtain ⟨q, hto, he⟩ := c_shK h hw ho hb hc (min (vln V b) (vln V c)) 0 (by omega)
  rw [Nat.zero_add] at hto he
  unfold F_X7_shared
  rw [c_len h ho (by omega), c_len h ho (by omega), o_b, o_b, c_min _ _ (by omega) (by omega), o_b]
  have L := hto.run (by omega)
  rw [show (nI 0 : Int32) = 0 from rfl] at L
  rw [L, o_b]
  exact he
/-- also where one has no train -/
theorem c_shared0 {o : Nat} (h : VC o m V) (ho : oOb o = true) {b c : Nat} (hb : b < 6) (hc : c < 6) (h0 : vln V b = 0 ∨ vln V c = 0) (h3 : vln V b < 100 ∧ vln V c < 100) : F_X7_shared (o + 8) m (nI b) (nI c) = some (nI 0) := by
  have hm : min (vln V b) (vln V c) = 0 := by omega
  unfold F_X7_shared
  rw [c_len h ho hb, c_len h ho hc, o_b, o_b, c_min _ _ (by omega) (by omega), o_b, hm]
  have L : oLoop (fun s : Int32 => F_X7_shared_L17 (o + 8) m (nI b) (nI c) (nI 0) s) oFuel 0 = some (.inl ()) := (oTo.done 0 (by
    show F_X7_shared_L17 (o + 8) m (nI b) (nI c) (nI 0) 0 = _
    unfold F_X7_shared_L17
    rw [if_pos (by decide)])).run (by omega)
  rw [L, o_b]
  rfl
theorem r_shK (h : VR 52 m V) (hw : WF V) {b c : Nat} (hb : b < vnb V) (hc : c < vnb V) : ∀ r k, k + r = min (vln V b) (vln V c) →
    oTo (fun s : Int32 => F_X9_shared_L2 m (nI b) (nI c) s) (nI k) (nI (sSh V b c k r)) r
  | 0, k, e => by
    have h3 := hw.2.2.2.2.1 b
    have h4 := hw.2.2.2.2.1 c
    apply oTo.done
    show F_X9_shared_L2 m (nI b) (nI c) (nI k) = some (.inr (nI k))
    unfold F_X9_shared_L2
    rw [r_ln h hw hb, o_b, r_ln h hw hc, o_b]
    by_cases hk : vln V b ≤ k
    · rw [if_pos (nI_le hk (by omega))]
    · rw [if_neg (nI_ge (by omega) (by omega)), if_pos (nI_le (by omega) (by omega))]
  | r + 1, k, e => by
    have h3 := hw.2.2.2.2.1 b
    have h4 := hw.2.2.2.2.1 c
    have hn := hw.2.1
    have q1 := hw.2.2.2.2.2.2.1 b k hb (by omega)
    have q2 := hw.2.2.2.2.2.2.1 c k hc (by omega)
    have body : F_X9_shared_L2 m (nI b) (nI c) (nI k) = if vpl V b k = vpl V c k then some (.inl (nI (k + 1))) else some (.inr (nI k)) := by
      unfold F_X9_shared_L2
      rw [r_ln h hw hb, o_b, r_ln h hw hc, o_b, if_neg (nI_ge (by omega) (by omega)), if_neg (nI_ge (by omega) (by omega)), r_pl h hw hb (by omega), r_pl h hw hc (by omega), o_b, o_b, nI_1]
      by_cases hq : vpl V b k = vpl V c k
      · rw [if_pos hq, if_pos (by rw [hq])]
      · rw [if_neg hq, if_neg (fun z => hq ((nI_eq (by omega) (by omega)).mp z))]
    unfold sSh
    by_cases hq : vpl V b k = vpl V c k
    · rw [if_pos hq]
      exact oTo.step (s' := nI (k + 1)) (by rw [body, if_pos hq]) (r_shK h hw hb hc r (k + 1) (by omega))
    · rw [if_neg hq]
      exact oTo.done _ (by rw [body, if_neg hq])
theorem r_shared (h : VR 52 m V) (hw : WF V) {b c : Nat} (hb : b < vnb V) (hc : c < vnb V) : F_X9_shared m (nI b) (nI c) = some (nI (sShr V b c)) := by
  have h2 := hw.2.2.2.2.1 b
  unfold F_X9_shared
  have L := (r_shK h hw hb hc (min (vln V b) (vln V c)) 0 (by omega)).run (by omega)
  rw [show (nI 0 : Int32) = 0 from rfl] at L
  rw [L, o_b]
  rfl
theorem p_share (h : Inv m) (x y : Int32) : Same (F_X8_share m x y) (F_X9_share m x y) := by
  obtain ⟨⟨V, hw, hc, hr⟩, -⟩ := h
  unfold F_X8_share F_X9_share
  by_cases h2 : sTwo V x y
  · rw [c_areTwo1 hc hw h2, r_areTwo1 hr hw h2, o_b, o_b, if_neg i10, if_neg i10]
    by_cases ht : hT V x
    · obtain ⟨b, hb, rfl, hl⟩ := ht
      rw [c_hasTrain1 hc hw rfl hb hl, r_hasTrain1 hr hw hb hl, o_b, o_b, if_neg i10, if_neg i10]
      by_cases hu : hT V y
      · obtain ⟨c, hcb, rfl, hcl⟩ := hu
        rw [c_hasTrain1 hc hw rfl hcb hcl, r_hasTrain1 hr hw hcb hcl, o_b, o_b, if_neg i10, if_neg i10]
        have e : F_X7_shared 9 m (nI b) (nI c) = some (nI (sShr V b c)) := c_shared (o := 1) hc hw rfl hb hcb
        rw [e, r_shared hr hw hb hcb]
        exact ⟨_, rfl, rfl⟩
      · rw [c_hasTrain0 hc hw rfl hu, r_hasTrain0 hr hw hu]
        exact ⟨_, rfl, rfl⟩
    · rw [c_hasTrain0 hc hw rfl ht, r_hasTrain0 hr hw ht]
      exact ⟨_, rfl, rfl⟩
  · rw [c_areTwo0 hc hw h2, r_areTwo0 hr hw h2]
    exact ⟨_, rfl, rfl⟩
end CALLS2
