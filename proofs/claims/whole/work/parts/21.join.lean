/-! join -/
theorem l_rem {x y : Int64} (hy : 0 < y.toInt) : (oRG x y).toInt = x.toInt.tmod y.toInt := by
  have hr := l_rng x
  have hd := l_tdiv (x := x) hy
  have ht : x.toInt.tmod y.toInt + y.toInt * x.toInt.tdiv y.toInt = x.toInt := Int.tmod_add_mul_tdiv _ _
  have hb : (x.toInt ≤ y.toInt * x.toInt.tdiv y.toInt ∧ y.toInt * x.toInt.tdiv y.toInt ≤ 0 ∧ x.toInt ≤ x.toInt.tmod y.toInt) ∨ (0 ≤ y.toInt * x.toInt.tdiv y.toInt ∧ y.toInt * x.toInt.tdiv y.toInt ≤ x.toInt) := by
    by_cases h0 : 0 ≤ x.toInt
    · have h1 := Int.tmod_nonneg y.toInt h0
      have h2 := Int.mul_nonneg (Int.le_of_lt hy) (Int.tdiv_nonneg h0 (Int.le_of_lt hy))
      exact Or.inr ⟨h2, by omega⟩
    · have h1 := Int.tmod_nonneg y.toInt (show 0 ≤ -x.toInt by omega)
      have h2 := Int.mul_nonneg (Int.le_of_lt hy) (Int.tdiv_nonneg (show 0 ≤ -x.toInt by omega) (Int.le_of_lt hy))
      rw [Int.neg_tmod] at h1
      rw [Int.neg_tdiv, Int.mul_neg] at h2
      exact Or.inl ⟨by omega, by omega, by omega⟩
  have hm : (x / y * y).toInt = y.toInt * x.toInt.tdiv y.toInt := by
    rw [l_mul] <;> rw [hd, Int.mul_comm] <;> omega
  unfold oRG
  rw [l_sub] <;> rw [hm] <;> omega
theorem l_ofInt {z : Int} (h1 : -9223372036854775808 ≤ z) (h2 : z ≤ 9223372036854775807) : (Int64.ofInt z).toInt = z := by
  rw [Int64.toInt_ofInt, show Int64.size = 18446744073709551616 from rfl]
  exact Int.bmod_eq_of_le (by omega) (by omega)
/-- what is left over, from 0 up -/
def sMd (x y : Int64) : Int64 := Int64.ofInt (x.toInt % y.toInt)
theorem sMd_b {x y : Int64} (hy : 0 < y.toInt) : (sMd x y).toInt = x.toInt % y.toInt ∧ 0 ≤ x.toInt % y.toInt ∧ x.toInt % y.toInt < y.toInt := by
  have hr := l_rng y
  have h1 := Int.emod_nonneg x.toInt (show y.toInt ≠ 0 by omega)
  have h2 := Int.emod_lt_of_pos x.toInt hy
  exact ⟨l_ofInt (by omega) (by omega), h1, h2⟩
theorem tmod_emod (x : Int) {y : Int} (hy : 0 < y) : x % y = if 0 ≤ x.tmod y then x.tmod y else x.tmod y + y := by
  have ht : x.tmod y + y * x.tdiv y = x := Int.tmod_add_mul_tdiv _ _
  have h1 := Int.tmod_lt_of_pos x hy
  have h2 := Int.lt_tmod_of_pos x hy
  have e : x % y = x.tmod y % y := by
    conv => lhs; rw [← ht]
    exact Int.add_mul_emod_self_left _ _ _
  rw [e]
  by_cases h : 0 ≤ x.tmod y
  · rw [if_pos h, Int.emod_eq_of_lt h h1]
  · rw [if_neg h, ← Int.add_emod_right, Int.emod_eq_of_lt (by omega) (by omega)]
theorem l_xor0 (x y : Int64) : 0 ≤ x ^^^ y ↔ (0 ≤ x.toInt ↔ 0 ≤ y.toInt) := by
  have hs : ∀ z : Int64, z.toBitVec.msb = decide (z.toInt < 0) := fun z => BitVec.msb_eq_toInt
  have hx := hs (x ^^^ y)
  rw [Int64.toBitVec_xor, BitVec.msb_xor, hs x, hs y] at hx
  rw [l_le, Int64.toInt_zero]
  by_cases a : x.toInt < 0 <;> by_cases b : y.toInt < 0 <;> by_cases c : (x ^^^ y).toInt < 0 <;> simp [a, b, c] at hx <;> omega
theorem c_floorMod {x y : Int64} (hy : 0 < y.toInt) : F_J9_floorMod_f86c9 x y = some (sMd x y) := by
  have hr := l_rng y
  have hb := sMd_b (x := x) hy
  have ht := l_rem (x := x) hy
  have he := tmod_emod x.toInt hy
  have h1 := Int.tmod_lt_of_pos x.toInt hy
  have h2 := Int.lt_tmod_of_pos x.toInt hy
  unfold F_J9_floorMod_f86c9
  rw [if_neg (l_ne0 hy), o_b]
  by_cases h0 : 0 ≤ x.toInt
  · have h3 := Int.tmod_nonneg y.toInt h0
    rw [if_pos h3] at he
    rw [if_pos ((l_xor0 x y).mpr ⟨fun _ => by omega, fun _ => h0⟩)]
    congr 1
    rw [l_eq, ht, hb.1, he]
  · have h3 := Int.tmod_nonneg y.toInt (show 0 ≤ -x.toInt by omega)
    rw [Int.neg_tmod] at h3
    rw [if_neg (fun z => h0 (((l_xor0 x y).mp z).mpr (by omega)))]
    by_cases h4 : x.toInt.tmod y.toInt = 0
    · rw [if_pos (show oRG x y = 0 by rw [l_eq, ht, h4]; rfl)]
      rw [if_pos (by omega)] at he
      congr 1
      rw [l_eq, ht, hb.1, he]
    · rw [if_neg (show ¬ oRG x y = 0 by rw [l_eq, ht]; exact h4)]
      rw [if_neg (by omega)] at he
      congr 1
      rw [l_eq, hb.1, he, l_add, ht] <;> rw [ht] <;> omega
/-- the reference's own way -/
theorem r_left {x y : Int64} (hy : 0 < y.toInt) : (if 0 ≤ oRG x y then some (oRG x y) else some (oRG x y + y)) = some (sMd x y) := by
  have hr := l_rng y
  have hb := sMd_b (x := x) hy
  have ht := l_rem (x := x) hy
  have he := tmod_emod x.toInt hy
  have h1 := Int.tmod_lt_of_pos x.toInt hy
  have h2 := Int.lt_tmod_of_pos x.toInt hy
  by_cases h0 : 0 ≤ x.toInt.tmod y.toInt
  · rw [if_pos h0] at he
    rw [if_pos (by rw [l_le, Int64.toInt_zero, ht]; exact h0)]
    congr 1
    rw [l_eq, ht, hb.1, he]
  · rw [if_neg h0] at he
    rw [if_neg (by rw [l_le, Int64.toInt_zero, ht]; exact h0)]
    congr 1
    rw [l_eq, hb.1, he, l_add, ht] <;> rw [ht] <;> omega
theorem oRG_neg {x y : Int64} (hy : 0 < y.toInt) (hx : -9223372036854775807 ≤ x.toInt) : -oRG x y = oRG (-x) y := by
  have hr := l_rng y
  have h1 := Int.tmod_lt_of_pos x.toInt hy
  have h2 := Int.lt_tmod_of_pos x.toInt hy
  have ht := l_rem (x := x) hy
  rw [l_eq, l_neg (by rw [ht]; omega), l_rem hy, l_rem hy, l_neg hx, Int.neg_tmod]
/-- what a train does to its body: backward if it goes round the other way -/
def sSg (V : oV) (b : Nat) : Int64 := if sRnd V b = 0 then sDr V b else -sDr V b
def sAt (V : oV) (b : Nat) (y : Int32) : Int64 := sMd (y.toInt64 * sSg V b) (sDn V b)
/-- a loop that goes up, and ends -/
theorem loop_up {β : Type} {f : Int32 → Option (Int32 ⊕ β)} (N : Nat) (h : ∀ n, n < N → f (nI n) = some (.inl (nI (n + 1))) ∨ ∃ q, f (nI n) = some (.inr q)) (hN : ∃ q, f (nI N) = some (.inr q)) : ∀ r n, n + r = N → ∃ q, oTo f (nI n) q r
  | 0, n, e => by
    obtain ⟨q, hq⟩ := hN
    exact ⟨q, oTo.done _ (by rw [show n = N by omega]; exact hq)⟩
  | r + 1, n, e => by
    rcases h n (by omega) with h1 | ⟨q, h1⟩
    · obtain ⟨q, hq⟩ := loop_up N h hN r (n + 1) (by omega)
      exact ⟨q, oTo.step h1 hq⟩
    · exact ⟨q, oTo.done _ h1⟩
section JOIN
variable {m : oM} {V : oV}
theorem r_partOf (h : VR 52 m V) (hw : WF V) {b : Nat} (hb : b < vnb V) (y : Int32) : F_X9_partOf m (nI b) y = some (sAt V b y) := by
  have hd := sDr_b hw hb
  have hn := sDn_b hw hb
  have hr := i_rng y
  have hy0 : 0 < (sDn V b).toInt := by omega
  have hp : (y.toInt64 * sDr V b).toInt = y.toInt * (sDr V b).toInt ∧ -2147483648 * 970299 ≤ y.toInt * (sDr V b).toInt := by
    have e1 : y.toInt * (sDr V b).toInt ≤ 2147483647 * 970299 ∧ -2147483648 * 970299 ≤ y.toInt * (sDr V b).toInt := by
      by_cases h0 : 0 ≤ y.toInt
      · have := prod_b h0 hr.2 (show 0 ≤ (sDr V b).toInt by omega) hd.2
        omega
      · have := prod_b (show 0 ≤ -y.toInt by omega) (show -y.toInt ≤ 2147483648 by omega) (show 0 ≤ (sDr V b).toInt by omega) hd.2
        rw [Int.neg_mul] at this
        omega
    refine ⟨?_, e1.2⟩
    rw [l_mul] <;> rw [i_long] <;> omega
  unfold F_X9_partOf
  rw [r_drivens h hw hb, r_drivers h hw hb, r_isRound h hw hb]
  simp only [o_b]
  rw [if_neg (l_ne0 hy0), o_b]
  unfold sAt sSg
  by_cases h0 : sRnd V b = 0
  · rw [if_pos h0, if_pos h0]
    exact r_left hy0
  · rw [if_neg h0, if_neg h0, oRG_neg hy0 (by rw [hp.1]; omega), show y.toInt64 * -sDr V b = -(y.toInt64 * sDr V b) by grind]
    exact r_left hy0
def sGap (V : oV) (b c : Nat) (y : Int32) : Int64 := sAbs (sAt V b y * sDn V c - sAt V c y * sDn V b)
theorem c_jnB (h : VC 1 m V) (hw : WF V) {b c : Nat} (hb : b < vnb V) (hc : c < vnb V) (w n : Int32) :
    F_X8_turnsUntilJoined_L113 m w (sDn V b) (sDn V c) (sSg V b) (sSg V c) (sDn V b * sDn V c) n = if 999 < n then some (.inr (.inl ())) else
      if w.toInt64 * (sDn V b * sDn V c) < (if sDn V b * sDn V c - sGap V b c (vtu V + n) < sGap V b c (vtu V + n) then sDn V b * sDn V c - sGap V b c (vtu V + n) else sGap V b c (vtu V + n)) * 1000 then some (.inl (n + 1)) else some (.inr (.inr n)) := by
  have hnb := sDn_b hw hb
  have hnc := sDn_b hw hc
  unfold F_X8_turnsUntilJoined_L113
  rw [h.tu, c_floorMod (by omega), c_floorMod (by omega)]
  simp only [o_b, c_abs]
  show (if 999 < n then _ else (F_J9_min_f86c9 (sGap V b c (vtu V + n)) (sDn V b * sDn V c - sGap V b c (vtu V + n))).bind _) = _
  by_cases h1 : 999 < n
  · rw [if_pos h1, if_pos h1]
  · rw [if_neg h1, if_neg h1]
    unfold F_J9_min_f86c9
    by_cases h2 : sDn V b * sDn V c - sGap V b c (vtu V + n) < sGap V b c (vtu V + n)
    · rw [if_pos h2, if_pos h2, o_b]
    · rw [if_neg h2, if_neg h2, o_b]
theorem r_jnB (h : VR 52 m V) (hw : WF V) {b c : Nat} (hb : b < vnb V) (hc : c < vnb V) (w n : Int32) :
    F_X9_join_L62 m (nI b) (nI c) w (sDn V b) (sDn V c) n = if 999 < n then some (.inr (.inl ())) else
      if w.toInt64 * (sDn V b * sDn V c) < (if sDn V b * sDn V c - sGap V b c (vtu V + n) < sGap V b c (vtu V + n) then sDn V b * sDn V c - sGap V b c (vtu V + n) else sGap V b c (vtu V + n)) * 1000 then some (.inl (n + 1)) else some (.inr (.inr n)) := by
  unfold F_X9_join_L62
  rw [h.tu, r_partOf h hw hb, r_partOf h hw hc]
  simp only [o_b]
  have J : ∀ g, F_X9_join_J119 m (nI b) (nI c) w (sDn V b) (sDn V c) n g = if w.toInt64 * (sDn V b * sDn V c) < (if sDn V b * sDn V c - g < g then sDn V b * sDn V c - g else g) * 1000 then some (.inl (n + 1)) else some (.inr (.inr n)) := by
    intro g
    unfold F_X9_join_J119 F_X9_join_J143
    by_cases h2 : g ≤ sDn V b * sDn V c - g
    · rw [if_pos h2, if_neg (fun z => (l_nle _ _).mpr z h2), Int64.mul_comm 1000 g]
    · rw [if_neg h2, if_pos ((l_nle _ _).mp h2), o_b, Int64.mul_comm 1000]
  rw [J, J]
  unfold sGap sAbs
  split
  · rfl
  · split <;> rfl
theorem p_join (h : Inv m) (x y w : Int32) : Same (F_X8_join m x y w) (F_X9_join m x y w) := by
  obtain ⟨⟨V, hw, hc, hr⟩, -⟩ := h
  unfold F_X8_join F_X9_join
  by_cases h2 : sTwo V x y
  · rw [c_areTwo1 hc hw h2, r_areTwo1 hr hw h2, o_b, o_b, if_neg i10, if_neg i10, f_isIn, o_b, i_long, Int64.toInt_zero, show (499 : Int64).toInt = 499 by decide]
    have c1 : w < 0 ↔ w.toInt < 0 := by rw [i_lt, Int32.toInt_zero]
    have c2 : w ≤ 499 ↔ w.toInt ≤ 499 := by rw [i_le, show (499 : Int32).toInt = 499 by decide]
    by_cases hx : 0 ≤ w.toInt ∧ w.toInt ≤ 499
    · rw [if_pos hx, if_neg i10, if_neg (fun z => by have := c1.mp z; omega), if_pos (c2.mpr hx.2)]
      by_cases ht : hT V x
      · obtain ⟨b, hb, rfl, hl⟩ := ht
        rw [c_hasTrain1 hc hw rfl hb hl, r_hasTrain1 hr hw hb hl, o_b, o_b, if_neg i10, if_neg i10]
        by_cases hu : hT V y
        · obtain ⟨c, hcb, rfl, hcl⟩ := hu
          rw [c_hasTrain1 hc hw rfl hcb hcl, r_hasTrain1 hr hw hcb hcl, o_b, o_b, if_neg i10, if_neg i10]
          have hnb := sDn_b hw hb
          have hnc := sDn_b hw hcb
          have n1 : ¬ sDn V b < 1 := by rw [l_lt, Int64.toInt_one]; omega
          have n2 : 1 ≤ sDn V c := by rw [l_le, Int64.toInt_one]; omega
          have e1 : F_X8_turnsUntilJoined m (nI b) (nI c) w = F_X8_turnsUntilJoined_J101 m w (sDn V b) (sDn V c) (sSg V b) (sSg V c) := by
            unfold F_X8_turnsUntilJoined
            rw [c_drivens (o := 1) hc hw rfl hb, c_drivens (o := 1) hc hw rfl hcb, o_b, o_b, if_neg n1, if_pos n2, c_isRound (o := 1) hc hw rfl hb, o_b, c_drivers (o := 1) hc hw rfl hb, o_b, o_b]
            have J : ∀ t, F_X8_turnsUntilJoined_J68 m (nI c) w (sDn V b) (sDn V c) t = F_X8_turnsUntilJoined_J101 m w (sDn V b) (sDn V c) t (sSg V c) := by
              intro t
              unfold F_X8_turnsUntilJoined_J68
              rw [c_isRound (o := 1) hc hw rfl hcb, o_b, c_drivers (o := 1) hc hw rfl hcb, o_b, o_b]
              unfold sSg
              split <;> rfl
            rw [J, J]
            show _ = F_X8_turnsUntilJoined_J101 m w (sDn V b) (sDn V c) (if sRnd V b = 0 then sDr V b else -sDr V b) (sSg V c)
            split <;> rfl
          have e2 : (fun s : Int32 => F_X8_turnsUntilJoined_L113 m w (sDn V b) (sDn V c) (sSg V b) (sSg V c) (sDn V b * sDn V c) s) = (fun s : Int32 => F_X9_join_L62 m (nI b) (nI c) w (sDn V b) (sDn V c) s) := by
            funext s
            rw [c_jnB hc hw hb hcb, r_jnB hr hw hb hcb]
          obtain ⟨q, hq⟩ := loop_up (f := fun s : Int32 => F_X9_join_L62 m (nI b) (nI c) w (sDn V b) (sDn V c) s) 1000 (by
            intro n hn
            show F_X9_join_L62 m (nI b) (nI c) w (sDn V b) (sDn V c) (nI n) = _ ∨ ∃ q, F_X9_join_L62 m (nI b) (nI c) w (sDn V b) (sDn V c) (nI n) = _
            rw [r_jnB hr hw hb hcb, if_neg (show ¬ (999 : Int32) < nI n from nI_nlt (a := 999) (by omega) (by omega)), nI_1]
            generalize (if sDn V b * sDn V c - sGap V b c (vtu V + nI n) < sGap V b c (vtu V + nI n) then sDn V b * sDn V c - sGap V b c (vtu V + nI n) else sGap V b c (vtu V + nI n)) = g
            split
            · exact Or.inl rfl
            · exact Or.inr ⟨_, rfl⟩) (by
            show ∃ q, F_X9_join_L62 m (nI b) (nI c) w (sDn V b) (sDn V c) (nI 1000) = _
            rw [r_jnB hr hw hb hcb, if_pos (by decide)]
            exact ⟨_, rfl⟩) 999 1 (by omega)
          have L : oLoop (fun s : Int32 => F_X9_join_L62 m (nI b) (nI c) w (sDn V b) (sDn V c) s) oFuel 1 = some q := hq.run (by omega)
          rw [e1, r_drivens hr hw hb, r_drivens hr hw hcb]
          unfold F_X8_turnsUntilJoined_J101
          simp only [o_b]
          rw [e2, L, o_b]
          rcases q with q | q
          · exact ⟨_, rfl, rfl⟩
          · exact ⟨_, rfl, rfl⟩
        · rw [c_hasTrain0 hc hw rfl hu, r_hasTrain0 hr hw hu]
          exact ⟨_, rfl, rfl⟩
      · rw [c_hasTrain0 hc hw rfl ht, r_hasTrain0 hr hw ht]
        exact ⟨_, rfl, rfl⟩
    · rw [if_neg hx, if_pos rfl]
      by_cases d1 : w < 0
      · rw [if_pos d1]
        exact ⟨_, rfl, rfl⟩
      · have d2 : ¬ w.toInt < 0 := fun z => d1 (c1.mpr z)
        rw [if_neg d1, if_neg (fun z => by have := c2.mp z; omega)]
        exact ⟨_, rfl, rfl⟩
  · rw [c_areTwo0 hc hw h2, r_areTwo0 hr hw h2]
    exact ⟨_, rfl, rfl⟩
end JOIN
