/-! CALLS THAT CHANGE NOTHING: both answer the same -/
section CALLS
variable {m : oM} {V : oV}
theorem c1_len (h : VC 1 m V) {b : Nat} (hb : b < 6) : F_X7_length 9 m (nI b) = some (nI (vln V b)) := c_len (o := 1) h rfl hb
theorem c1_pl (h : VC 1 m V) (hw : WF V) {b k : Nat} (hb : b < vnb V) (hk : k < vln V b) : F_X7_pairAt 9 m (nI b) (nI k) = some (nI (vpl V b k)) := c_pl (o := 1) h hw rfl hb hk
theorem c1_kd (h : VC 1 m V) (hw : WF V) {q : Nat} (hq : q < vnp V) : F_X8_at 5 m (nI q) = some (vkd V q) := c_kd (o := 1) h hw rfl hq
theorem c1_fg (h : VC 1 m V) (hw : WF V) {q : Nat} (hq : q < vnp V) : F_X8_at 6 m (nI q) = some (vfg V q) := c_fg (o := 1) h hw rfl hq
theorem c1_dr (h : VC 1 m V) (hw : WF V) {q : Nat} (hq : q < vnp V) : F_X8_at 7 m (nI q) = some (vdr V q) := c_dr (o := 1) h hw rfl hq
theorem c1_dn (h : VC 1 m V) (hw : WF V) {q : Nat} (hq : q < vnp V) : F_X8_at 8 m (nI q) = some (vdn V q) := c_dn (o := 1) h hw rfl hq
theorem c1_ab (h : VC 1 m V) (hw : WF V) {b : Nat} (hb : b < vnb V) : F_X8_at 2 m (nI b) = some (vab V b) := c_ab (o := 1) h hw rfl hb
theorem c1_be (h : VC 1 m V) (hw : WF V) {b : Nat} (hb : b < vnb V) : F_X8_at 3 m (nI b) = some (vbe V b) := c_be (o := 1) h hw rfl hb
theorem c1_play (h : VC 1 m V) (hw : WF V) {q : Nat} (hq : q < vnp V) : F_X2_play 4 m (nI q) = some (sPlay V q) := c_play (o := 1) h hw rfl hq
theorem c1_goes (h : VC 1 m V) (hw : WF V) {q : Nat} (hq : q < vnp V) : F_X2_goesRound 4 m (nI q) = some (if vkd V q = 5 then 0 else 1) := c_goes (o := 1) h hw rfl hq
theorem c1_has1 (h : VC 1 m V) (hw : WF V) {x : Int32} (hx : isQ V x) : F_X2_has 4 m x = some 1 := by
  have h1 := hw.2.1
  have e : m.1 4 0 = nI (vnp V) := h.2.1
  unfold F_X2_has
  rw [if_neg (by rw [i_lt, Int32.toInt_zero]; exact Int.not_lt.mpr hx.1), if_neg]
  rw [e, i_le, nI_toInt (by omega)]
  have := hx.2
  omega
theorem c1_has0 (h : VC 1 m V) (hw : WF V) {x : Int32} (hx : ¬ isQ V x) : F_X2_has 4 m x = some 0 := by
  have h1 := hw.2.1
  have e : m.1 4 0 = nI (vnp V) := h.2.1
  unfold F_X2_has
  by_cases h2 : x < 0
  · rw [if_pos h2]
  · rw [if_neg h2, if_pos]
    rw [i_lt, Int32.toInt_zero] at h2
    rw [e, i_le, nI_toInt (by omega)]
    unfold isQ at hx
    omega
def sPart (x : Int32) : Int32 := if x = 0 then 1 else if x = 1 then 1 else 0
theorem c_isPart (x : Int32) : F_X8_isPart x = some (sPart x) := by
  unfold F_X8_isPart
  simp only [o_if]
  rfl
theorem r_isPart (x : Int32) : F_X9_isPart x = some (sPart x) := by
  unfold F_X9_isPart sPart
  rw [f_isIn, o_b, i_long, Int64.toInt_zero, show (1 : Int64).toInt = 1 by decide]
  by_cases h0 : x = 0
  · subst h0
    rfl
  · rw [if_neg h0]
    by_cases h1 : x = 1
    · subst h1
      rfl
    · rw [if_neg h1, if_neg]
      rw [i_eq, Int32.toInt_zero] at h0
      rw [i_eq, Int32.toInt_one] at h1
      omega
/-- a body that has a train -/
def hT (V : oV) (x : Int32) : Prop := ∃ b : Nat, b < vnb V ∧ x = nI b ∧ 0 < vln V b
theorem p_stands (h : Inv m) (x : Int32) : Same (F_X8_stands m x) (F_X9_stands m x) := by
  obtain ⟨⟨V, hw, hc, hr⟩, -⟩ := h
  unfold F_X8_stands F_X9_stands
  by_cases ht : hT V x
  · obtain ⟨b, hb, rfl, hl⟩ := ht
    rw [c_hasTrain1 hc hw rfl hb hl, r_hasTrain1 hr hw hb hl, o_b, o_b, if_neg (by decide), if_neg (by decide), c_standing hc hw rfl hb, r_standsAt hr hw hb]
    exact ⟨_, rfl, rfl⟩
  · rw [c_hasTrain0 hc hw rfl ht, r_hasTrain0 hr hw ht]
    exact ⟨_, rfl, rfl⟩
theorem l_bd {x : Int64} {a b : Int} (h1 : a ≤ x.toInt) (h2 : x.toInt ≤ b) : a ≤ x.toInt ∧ x.toInt ≤ b := ⟨h1, h2⟩
theorem p_turns (h : Inv m) (x p : Int32) : Same (F_X8_turns m x p) (F_X9_turns m x p) := by
  obtain ⟨⟨V, hw, hc, hr⟩, -⟩ := h
  unfold F_X8_turns F_X9_turns
  by_cases ht : hT V x
  · obtain ⟨b, hb, rfl, hl⟩ := ht
    have h1 := sDr_b hw hb
    have h2 := sDn_b hw hb
    rw [c_hasTrain1 hc hw rfl hb hl, r_hasTrain1 hr hw hb hl, o_b, o_b, if_neg (by decide), if_neg (by decide), c_isPart, r_isPart, o_b, o_b]
    by_cases hp : sPart p = 0
    · rw [if_pos hp, if_pos hp]
      exact ⟨_, rfl, rfl⟩
    · rw [if_neg hp, if_neg hp, c_drivers hc hw rfl hb, c_drivens hc hw rfl hb, r_drivers hr hw hb, r_drivens hr hw hb, o_b, o_b, o_b, o_b, c_lowest p (by omega) (by omega) (by omega), r_told p (by omega) (by omega) (by omega)]
      exact ⟨_, rfl, rfl⟩
  · rw [c_hasTrain0 hc hw rfl ht, r_hasTrain0 hr hw ht]
    exact ⟨_, rfl, rfl⟩
-- wrong
def sWA (V : oV) (b : Nat) : Int64 := sDr V b * (vbe V b).toInt64 - (vab V b).toInt64 * sDn V b
def sWB (V : oV) (b : Nat) : Int64 := sDn V b * (vbe V b).toInt64
theorem prod_b {a b : Int} {A B : Int} (h1 : 0 ≤ a) (h2 : a ≤ A) (h3 : 0 ≤ b) (h4 : b ≤ B) : 0 ≤ a * b ∧ a * b ≤ A * B := ⟨Int.mul_nonneg h1 h3, Int.mul_le_mul h2 h4 h3 (Int.le_trans h1 h2)⟩
theorem sW_b (hw : WF V) {b : Nat} (hb : b < vnb V) : (sWA V b).toInt = (sDr V b).toInt * (vbe V b).toInt - (vab V b).toInt * (sDn V b).toInt ∧ (sWB V b).toInt = (sDn V b).toInt * (vbe V b).toInt ∧ -9702019701 ≤ (sWA V b).toInt ∧ (sWA V b).toInt ≤ 9702019701 ∧ 1 ≤ (sWB V b).toInt ∧ (sWB V b).toInt ≤ 9702019701 := by
  have h1 := sDr_b hw hb
  have h2 := sDn_b hw hb
  have h3 := (hw.2.2.2.1 b hb).1
  have h4 := (hw.2.2.2.1 b hb).2
  unfold iB at h3 h4
  have p1 := prod_b (a := (sDr V b).toInt) (b := (vbe V b).toInt) (by omega) h1.2 (by omega) h4.2
  have p2 := prod_b (a := (vab V b).toInt) (b := (sDn V b).toInt) (by omega) h3.2 (by omega) h2.2
  have p3 := prod_b (a := (sDn V b).toInt) (b := (vbe V b).toInt) (by omega) h2.2 (by omega) h4.2
  have p4 : 1 * 1 ≤ (sDn V b).toInt * (vbe V b).toInt := Int.mul_le_mul h2.1 h4.1 (by decide) (by omega)
  have e1 : (sDr V b * (vbe V b).toInt64).toInt = (sDr V b).toInt * (vbe V b).toInt := by
    rw [l_mul] <;> rw [i_long] <;> omega
  have e2 : ((vab V b).toInt64 * sDn V b).toInt = (vab V b).toInt * (sDn V b).toInt := by
    rw [l_mul] <;> rw [i_long] <;> omega
  have e3 : (sDn V b * (vbe V b).toInt64).toInt = (sDn V b).toInt * (vbe V b).toInt := by
    rw [l_mul] <;> rw [i_long] <;> omega
  have e4 : (sWA V b).toInt = (sDr V b).toInt * (vbe V b).toInt - (vab V b).toInt * (sDn V b).toInt := by
    unfold sWA
    rw [l_sub] <;> rw [e1, e2] <;> omega
  have e5 : (sWB V b).toInt = (sDn V b).toInt * (vbe V b).toInt := e3
  rw [e4, e5]
  omega
theorem c_wA {o : Nat} (h : VC o m V) (hw : WF V) (ho : oOb o = true) {b : Nat} (hb : b < vnb V) : F_X1_wrongAbove o m (nI b) = some (sWA V b) := by
  unfold F_X1_wrongAbove
  rw [c_drivers h hw ho hb, o_b, c_be h hw ho hb, o_b, c_ab h hw ho hb, o_b, c_drivens h hw ho hb, o_b]
  rfl
theorem c_wB {o : Nat} (h : VC o m V) (hw : WF V) (ho : oOb o = true) {b : Nat} (hb : b < vnb V) : F_X1_wrongBelow o m (nI b) = some (sWB V b) := by
  unfold F_X1_wrongBelow
  rw [c_drivens h hw ho hb, o_b, c_be h hw ho hb, o_b]
  rfl
theorem r_off (h : VR 52 m V) (hw : WF V) {b : Nat} (hb : b < vnb V) (p q : Int64) : F_X9_off m (nI b) p q = some (p * (vbe V b).toInt64 - (vab V b).toInt64 * q) := by
  unfold F_X9_off
  rw [r_be h hw hb, o_b, r_ab h hw hb, o_b, Int64.mul_comm q]
theorem r_wrong1 (h : VR 52 m V) (hw : WF V) {b : Nat} (hb : b < vnb V) (hl : 0 < vln V b) (p : Int32) : F_X9_wrong m (nI b) p = some (if sPart p = 0 then -9223372036854775808 else sTold (sWA V b) (sWB V b) p) := by
  have h1 := sW_b hw hb
  unfold F_X9_wrong
  rw [r_hasTrain1 h hw hb hl, o_b, if_neg (by decide), r_isPart, o_b, r_drivens h hw hb, o_b, r_drivers h hw hb, o_b, r_off h hw hb, o_b, r_be h hw hb, o_b]
  have e := r_told (x := sWA V b) (y := sWB V b) p (by omega) (by omega) (by omega)
  unfold sWA sWB at e
  rw [e, o_b, o_if]
  rfl
theorem p_wrong (h : Inv m) (x p : Int32) : Same (F_X8_wrong m x p) (F_X9_wrong m x p) := by
  obtain ⟨⟨V, hw, hc, hr⟩, -⟩ := h
  by_cases ht : hT V x
  · obtain ⟨b, hb, rfl, hl⟩ := ht
    have h1 := sW_b hw hb
    rw [r_wrong1 hr hw hb hl]
    unfold F_X8_wrong
    rw [c_hasTrain1 hc hw rfl hb hl, o_b, if_neg (by decide), c_isPart, o_b, c_wA hc hw rfl hb, o_b, c_wB hc hw rfl hb, o_b, c_lowest p (by omega) (by omega) (by omega), o_b, o_if]
    exact ⟨_, rfl, rfl⟩
  · unfold F_X8_wrong F_X9_wrong
    rw [c_hasTrain0 hc hw rfl ht, r_hasTrain0 hr hw ht]
    exact ⟨_, rfl, rfl⟩
-- play's bounds, backlash
theorem fig_play : ∀ j : Nat, j < 10 → (0 ≤ (nI j + 3).toInt ∧ (nI j + 3).toInt ≤ 24) ∧ (0 ≤ (nI j / 2).toInt ∧ (nI j / 2).toInt ≤ 24) ∧ (0 ≤ (2 * (nI j + 3)).toInt ∧ (2 * (nI j + 3)).toInt ≤ 24) ∧ (0 ≤ (nI j).toInt ∧ (nI j).toInt ≤ 24) := by decide
theorem sPlay_b (hw : WF V) {q : Nat} (hq : q < vnp V) : 0 ≤ (sPlay V q).toInt ∧ (sPlay V q).toInt ≤ 24 := by
  have h1 := (hw.2.2.2.2.2.2.2.1 q hq).2.1
  unfold iB at h1
  obtain ⟨j, hj, e⟩ := i_of (n := 10) h1.1 (by omega)
  have h2 := fig_play j hj
  unfold sPlay
  rw [e]
  split
  · exact h2.1
  · split
    · exact h2.2.1
    · split
      · exact h2.2.2.1
      · split
        · split
          · decide
          · exact h2.2.1
        · exact h2.2.2.2
theorem sSlk_b (hw : WF V) {b : Nat} (hb : b < vnb V) : ∀ n, n ≤ vln V b → 0 ≤ (sSlk V b n).toInt ∧ (sSlk V b n).toInt ≤ 24 * n * 99 ^ n
  | 0, _ => by
    show 0 ≤ (0 : Int64).toInt ∧ (0 : Int64).toInt ≤ 24 * ((0 : Nat) : Int) * 99 ^ 0
    rw [Int64.toInt_zero]
    decide
  | n + 1, hn => by
    have h3 := hw.2.2.2.2.1 b
    have ih := sSlk_b hw hb n (by omega)
    have hq := hw.2.2.2.2.2.2.1 b n hb (by omega)
    have hp := sPlay_b hw hq
    have hd := (hw.2.2.2.2.2.2.2.1 _ hq).2.2.1
    unfold iB at hd
    have hm := sMul_b (fun k => vdn V (vpl V b k)) 0 n (by omega) (fun k hk => by
      rw [Nat.zero_add]
      exact (hw.2.2.2.2.2.2.2.1 _ (hw.2.2.2.2.2.2.1 b k hb (by omega))).2.2.2)
    have hpw : (1 : Int) ≤ 99 ^ n ∧ (99 : Int) ^ n ≤ 9801 ∧ (n : Int) ≤ 2 := by
      have h4 : n = 0 ∨ n = 1 ∨ n = 2 := by omega
      rcases h4 with rfl | rfl | rfl <;> decide
    have hB : 24 * (n : Int) * 99 ^ n ≤ 470448 := by
      have h4 : n = 0 ∨ n = 1 ∨ n = 2 := by omega
      rcases h4 with rfl | rfl | rfl <;> decide
    have p1 := prod_b (a := (sSlk V b n).toInt) (b := (vdr V (vpl V b n)).toInt) ih.1 ih.2 (by omega) hd.2
    have p2 := prod_b (a := (sPlay V (vpl V b n)).toInt) (b := (sMul (fun k => vdn V (vpl V b k)) 0 n).toInt) hp.1 hp.2 (by omega) hm.2
    have e1 : (sSlk V b n * (vdr V (vpl V b n)).toInt64).toInt = (sSlk V b n).toInt * (vdr V (vpl V b n)).toInt := by
      rw [l_mul] <;> rw [i_long] <;> omega
    have e2 : ((sPlay V (vpl V b n)).toInt64 * sMul (fun k => vdn V (vpl V b k)) 0 n).toInt = (sPlay V (vpl V b n)).toInt * (sMul (fun k => vdn V (vpl V b k)) 0 n).toInt := by
      rw [l_mul] <;> rw [i_long] <;> omega
    have e3 : (sSlk V b (n + 1)).toInt = (sSlk V b n).toInt * (vdr V (vpl V b n)).toInt + (sPlay V (vpl V b n)).toInt * (sMul (fun k => vdn V (vpl V b k)) 0 n).toInt := by
      show (sSlk V b n * (vdr V (vpl V b n)).toInt64 + (sPlay V (vpl V b n)).toInt64 * sMul (fun k => vdn V (vpl V b k)) 0 n).toInt = _
      rw [l_add] <;> rw [e1, e2] <;> omega
    rw [e3]
    have e4 : 24 * ((n + 1 : Nat) : Int) * 99 ^ (n + 1) = 24 * (n : Int) * 99 ^ n * 99 + 24 * 99 ^ n * 99 := by
      rw [Int.pow_succ]
      push_cast
      grind
    rw [e4]
    omega
theorem sSlk_b3 (hw : WF V) {b : Nat} (hb : b < vnb V) : 0 ≤ (sSlk V b (vln V b)).toInt ∧ (sSlk V b (vln V b)).toInt ≤ 69861528 := by
  have h := sSlk_b hw hb (vln V b) (Nat.le_refl _)
  have h3 := hw.2.2.2.2.1 b
  have h4 : vln V b = 0 ∨ vln V b = 1 ∨ vln V b = 2 ∨ vln V b = 3 := by omega
  have hp : 24 * ((vln V b : Nat) : Int) * 99 ^ (vln V b) ≤ 69861528 := by
    rcases h4 with e | e | e | e <;> rw [e] <;> decide
  omega
theorem p_backlash (h : Inv m) (x p : Int32) : Same (F_X8_backlash m x p) (F_X9_backlash m x p) := by
  obtain ⟨⟨V, hw, hc, hr⟩, -⟩ := h
  unfold F_X8_backlash F_X9_backlash
  by_cases ht : hT V x
  · obtain ⟨b, hb, rfl, hl⟩ := ht
    have h1 := sSlk_b3 hw hb
    have h2 := sDn_b hw hb
    have h3 := sDn_100 hw hb
    rw [c_hasTrain1 hc hw rfl hb hl, r_hasTrain1 hr hw hb hl, o_b, o_b, if_neg (by decide), if_neg (by decide), c_isPart, r_isPart, o_b, o_b]
    by_cases hp : sPart p = 0
    · rw [if_pos hp, if_pos hp]
      exact ⟨_, rfl, rfl⟩
    · rw [if_neg hp, if_neg hp, c_slackAbove hc hw rfl hb, c_slackBelow hc hw rfl hb, r_lag hr hw hb, r_drivens hr hw hb, o_b, o_b, o_b, o_b, c_lowest p (by omega) (by omega) (by omega), r_told p (by omega) (by omega) (by omega)]
      exact ⟨_, rfl, rfl⟩
  · rw [c_hasTrain0 hc hw rfl ht, r_hasTrain0 hr hw ht]
    exact ⟨_, rfl, rfl⟩
theorem p_crank (h : Inv m) (x : Int32) : Same (F_X8_crank m x) (F_X9_crank m x) := by
  obtain ⟨⟨V, hw, hc, hr⟩, -⟩ := h
  unfold F_X8_crank F_X9_crank
  rw [f_isIn, o_b, i_long, Int64.toInt_zero, show (1 : Int64).toInt = 1 by decide, hc.2.2.2.2.2.2.2.2.2.1, hc.2.2.2.2.2.2.2.2.2.2.1, hr.2.2.2.2.2.2.2.2.2.1, hr.2.2.2.2.2.2.2.2.2.2.1]
  by_cases h0 : x = 0
  · subst h0
    exact ⟨_, rfl, rfl⟩
  · by_cases h1 : x = 1
    · subst h1
      rcases hw.2.2.2.2.2.2.2.2.2.2.2.2.2.1 with hb | hb <;> rw [hb] <;> exact ⟨_, rfl, rfl⟩
    · rw [if_neg h0, if_neg h1, if_neg (c := (0 : Int) ≤ x.toInt ∧ x.toInt ≤ 1)]
      · exact ⟨_, rfl, rfl⟩
      · rw [i_eq, Int32.toInt_zero] at h0
        rw [i_eq, Int32.toInt_one] at h1
        omega
end CALLS
