/-! GREATEST COMMON DIVISORS, lowest terms: both ways of the class and of the reference -/
theorem lN_t {n : Nat} (h : n < 2 ^ 63) : (lN n).toInt = (n : Int) := lg_ofNat_toInt (by omega)
theorem l_of {x : Int64} (h : 0 ≤ x.toInt) : x = lN x.toInt.toNat := by
  have := l_rng x
  rw [l_eq, lN_t (by omega)]
  omega
theorem l_div {x y : Int64} (hx : 0 ≤ x.toInt) (hy : 0 < y.toInt) : (x / y).toInt = x.toInt / y.toInt := by
  have hr := l_rng x
  rw [Int64.toInt_div, Int.tdiv_eq_ediv_of_nonneg hx]
  have h1 : x.toInt / y.toInt ≤ x.toInt := Int.ediv_le_self _ hx
  have h2 : 0 ≤ x.toInt / y.toInt := Int.ediv_nonneg hx (by omega)
  exact Int.bmod_eq_of_le (by omega) (by omega)
theorem oRG_nat {a b : Nat} (ha : a < 2 ^ 63) (hb : b < 2 ^ 63) (h0 : 0 < b) : oRG (lN a) (lN b) = lN (a % b) := by
  have h1 := lN_t ha
  have h2 := lN_t hb
  have hm : a % b ≤ a := Nat.mod_le _ _
  have hd : (lN a / lN b).toInt = ((a / b : Nat) : Int) := by
    rw [l_div (by omega) (by omega), h1, h2]
    rfl
  have hmul : (a / b) * b ≤ a := Nat.div_mul_le_self a b
  have hp : ((lN a / lN b) * lN b).toInt = (((a / b) * b : Nat) : Int) := by
    rw [l_mul] <;> rw [hd, h2] <;> rw [← Int.natCast_mul] <;> omega
  have hmod : a % b = a - (a / b) * b := by
    have := Nat.div_add_mod a b
    rw [Nat.mul_comm] at this
    omega
  unfold oRG
  rw [l_eq, l_sub, hp, h1, lN_t (by omega)]
  · omega
  · rw [hp, h1]; omega
  · rw [hp, h1]; omega
theorem n100 {s : Nat} (h : s < 100) : ¬ (100 : Int32) ≤ nI s := nI_ge (b := 100) h (by omega)
theorem gcd_step (a b : Nat) : Nat.gcd b (a % b) = Nat.gcd a b := by
  rw [Nat.gcd_comm a b, Nat.gcd_rec b a, Nat.gcd_comm]
theorem mod_half {b r k : Nat} (h0 : 0 < r) (hr : r < b) (hb : b < 2 ^ (k + 1)) : b % r < 2 ^ k := by
  have h2 : 2 ^ (k + 1) = 2 * 2 ^ k := by rw [Nat.pow_succ, Nat.mul_comm]
  by_cases h : 2 * r ≤ b
  · have := Nat.mod_lt b h0
    omega
  · have e : b % r = b - r := by
      rw [Nat.mod_eq_sub_mod (by omega), Nat.mod_eq_of_lt (by omega)]
    omega
theorem c_eu : ∀ (k a b s : Nat), a < 2 ^ 63 → b < 2 ^ 63 → b < 2 ^ k → s + 2 * k < 100 →
    oTo (fun s : Int64 × Int64 × Int32 => F_X8_greatestCommon_L9 s.1 s.2.1 s.2.2) (lN a, lN b, nI s) (lN (Nat.gcd a b)) (2 * k)
  | k, a, 0, s, ha, hb, hk, hs => by
    apply oTo.done
    show F_X8_greatestCommon_L9 (lN a) (lN 0) (nI s) = _
    unfold F_X8_greatestCommon_L9
    rw [if_neg (n100 (s := s) (by omega)), if_pos (by decide), Nat.gcd_zero_right]
  | 0, a, b + 1, s, ha, hb, hk, hs => by omega
  | k + 1, a, b + 1, s, ha, hb, hk, hs => by
    have step : ∀ (a b s : Nat), a < 2 ^ 63 → b < 2 ^ 63 → 0 < b → s < 100 → F_X8_greatestCommon_L9 (lN a) (lN b) (nI s) = some (.inl (lN b, lN (a % b), nI (s + 1))) := by
      intro a b s ha hb h0 hs
      have hne : ¬ lN b = 0 := by
        rw [l_eq, lN_t hb, Int64.toInt_zero]
        omega
      unfold F_X8_greatestCommon_L9
      rw [if_neg (n100 (s := s) (by omega)), if_neg hne, if_neg hne, o_b, oRG_nat ha hb h0, nI_1]
    have hr : a % (b + 1) < b + 1 := Nat.mod_lt a (Nat.succ_pos b)
    rw [show 2 * (k + 1) = (2 * k + 1) + 1 by omega]
    refine oTo.step (step a (b + 1) s ha hb (by omega) (by omega)) ?_
    rw [← gcd_step a (b + 1)]
    by_cases h0 : a % (b + 1) = 0
    · rw [h0, Nat.gcd_zero_right]
      apply oTo.done
      show F_X8_greatestCommon_L9 (lN (b + 1)) (lN 0) (nI (s + 1)) = _
      unfold F_X8_greatestCommon_L9
      rw [if_neg (n100 (s := (s + 1)) (by omega)), if_pos (by decide)]
    · refine oTo.step (step (b + 1) (a % (b + 1)) (s + 1) hb (by omega) (by omega) (by omega)) ?_
      rw [← gcd_step (b + 1) (a % (b + 1))]
      exact c_eu k (a % (b + 1)) ((b + 1) % (a % (b + 1))) (s + 1 + 1) (by omega) (Nat.lt_of_le_of_lt (Nat.mod_le _ _) hb) (mod_half (by omega) hr hk) (by omega)
theorem r_eu : ∀ (k a b : Nat), a < 2 ^ 63 → b < 2 ^ 63 → b < 2 ^ k →
    oTo (fun s : Int64 × Int64 => F_X9_common_L17 s.1 s.2) (lN a, lN b) (lN (Nat.gcd a b)) (2 * k)
  | k, a, 0, ha, hb, hk => by
    apply oTo.done
    show F_X9_common_L17 (lN a) (lN 0) = _
    unfold F_X9_common_L17
    rw [if_pos (by decide), Nat.gcd_zero_right]
  | 0, a, b + 1, ha, hb, hk => by omega
  | k + 1, a, b + 1, ha, hb, hk => by
    have step : ∀ (a b : Nat), a < 2 ^ 63 → b < 2 ^ 63 → 0 < b → F_X9_common_L17 (lN a) (lN b) = some (.inl (lN b, lN (a % b))) := by
      intro a b ha hb h0
      have hne : ¬ lN b = 0 := by
        rw [l_eq, lN_t hb, Int64.toInt_zero]
        omega
      unfold F_X9_common_L17
      rw [if_neg hne, if_neg hne, o_b, oRG_nat ha hb h0]
    have hr : a % (b + 1) < b + 1 := Nat.mod_lt a (Nat.succ_pos b)
    rw [show 2 * (k + 1) = (2 * k + 1) + 1 by omega]
    refine oTo.step (step a (b + 1) ha hb (by omega)) ?_
    rw [← gcd_step a (b + 1)]
    by_cases h0 : a % (b + 1) = 0
    · rw [h0, Nat.gcd_zero_right]
      apply oTo.done
      show F_X9_common_L17 (lN (b + 1)) (lN 0) = _
      unfold F_X9_common_L17
      rw [if_pos (by decide)]
    · refine oTo.step (step (b + 1) (a % (b + 1)) hb (by omega) (by omega)) ?_
      rw [← gcd_step (b + 1) (a % (b + 1))]
      exact r_eu k (a % (b + 1)) ((b + 1) % (a % (b + 1))) (by omega) (Nat.lt_of_le_of_lt (Nat.mod_le _ _) hb) (mod_half (by omega) hr hk)
/-- the greatest common divisor of two longs, the one's sign left out -/
def sG (x y : Int64) : Int64 := lN (Nat.gcd x.toInt.natAbs y.toInt.toNat)
def sTold (x y : Int64) (p : Int32) : Int64 := if p = 0 then x / sG x y else y / sG x y
theorem c_gc {x y : Int64} (hx : 0 ≤ x.toInt) (hy : 0 ≤ y.toInt) (hb : y.toInt < 2 ^ 40) : F_X8_greatestCommon x y = some (sG x y) := by
  have h1 := l_rng x
  unfold F_X8_greatestCommon
  have h := (c_eu 40 x.toInt.toNat y.toInt.toNat 0 (by omega) (by omega) (by omega) (by omega)).run (by omega)
  rw [← l_of hx, ← l_of hy] at h
  rw [show (nI 0 : Int32) = 0 from rfl] at h
  rw [h, o_b]
  unfold sG
  rw [show x.toInt.natAbs = x.toInt.toNat by omega]
theorem r_gc {x y : Int64} (hx : -9223372036854775807 ≤ x.toInt) (hy : 0 ≤ y.toInt) (hb : y.toInt < 2 ^ 40) : F_X9_common x y = some (sG x y) := by
  have h1 := l_rng x
  unfold F_X9_common
  by_cases h0 : 0 ≤ x
  · have hx0 : 0 ≤ x.toInt := by rwa [l_le, Int64.toInt_zero] at h0
    rw [if_pos h0]
    have h := (r_eu 40 x.toInt.toNat y.toInt.toNat (by omega) (by omega) (by omega)).run (by omega)
    rw [← l_of hx0, ← l_of hy] at h
    rw [h, o_b]
    unfold sG
    rw [show x.toInt.natAbs = x.toInt.toNat by omega]
  · have hx0 : x.toInt < 0 := by rw [l_le, Int64.toInt_zero] at h0; omega
    have hn := l_neg hx
    have hnn : 0 ≤ (-x).toInt := by omega
    rw [if_neg h0, o_b]
    have h := (r_eu 40 (-x).toInt.toNat y.toInt.toNat (by omega) (by omega) (by omega)).run (by omega)
    rw [← l_of hnn, ← l_of hy] at h
    rw [h, o_b]
    unfold sG
    rw [show x.toInt.natAbs = (-x).toInt.toNat by omega]
theorem sG_pos {x y : Int64} (hy : 0 < y.toInt) : 0 < (sG x y).toInt ∧ (sG x y).toInt ≤ y.toInt := by
  have h2 := l_rng y
  have h1 : 0 < Nat.gcd x.toInt.natAbs y.toInt.toNat := Nat.gcd_pos_of_pos_right _ (by omega)
  have h3 : Nat.gcd x.toInt.natAbs y.toInt.toNat ≤ y.toInt.toNat := Nat.gcd_le_right _ (by omega)
  unfold sG
  rw [lN_t (by omega)]
  omega
theorem c_abs {x : Int64} : F_J9_abs_067f4 x = some (if 0 ≤ x then x else -x) := by
  unfold F_J9_abs_067f4
  rw [o_if]
theorem c_quot {x y : Int64} (hy : ¬ y = 0) : F_X8_quotient x y = some (x / y) := by
  unfold F_X8_quotient
  rw [if_neg hy, if_neg hy, o_b]
theorem l_ne0 {x : Int64} (h : 0 < x.toInt) : ¬ x = 0 := by
  rw [l_eq, Int64.toInt_zero]
  omega
theorem c_lowest {x y : Int64} (p : Int32) (hx : -9223372036854775807 ≤ x.toInt) (hy : 0 < y.toInt) (hb : y.toInt < 2 ^ 40) : F_X8_lowest x y p = some (sTold x y p) := by
  have hg := sG_pos (x := x) hy
  have e : ∃ z, F_J9_abs_067f4 x = some z ∧ 0 ≤ z.toInt ∧ sG z y = sG x y := by
    rw [c_abs]
    by_cases h0 : 0 ≤ x
    · rw [if_pos h0]
      exact ⟨x, rfl, by rwa [l_le, Int64.toInt_zero] at h0, rfl⟩
    · have hx0 : x.toInt < 0 := by rw [l_le, Int64.toInt_zero] at h0; omega
      have hn := l_neg hx
      rw [if_neg h0]
      refine ⟨-x, rfl, by omega, ?_⟩
      unfold sG
      rw [show (-x).toInt.natAbs = x.toInt.natAbs by omega]
  obtain ⟨z, e1, e2, e3⟩ := e
  unfold F_X8_lowest
  rw [e1, o_b, c_gc e2 (by omega) hb, o_b, e3, c_quot (l_ne0 hg.1), c_quot (l_ne0 hg.1), o_b, o_b, o_if]
  rfl
theorem r_told {x y : Int64} (p : Int32) (hx : -9223372036854775807 ≤ x.toInt) (hy : 0 < y.toInt) (hb : y.toInt < 2 ^ 40) : F_X9_told x y p = some (sTold x y p) := by
  have hg := sG_pos (x := x) hy
  unfold F_X9_told
  rw [r_gc hx (by omega) hb, o_b, if_neg (l_ne0 hg.1), if_neg (l_ne0 hg.1), o_b, o_b, o_if]
  rfl
