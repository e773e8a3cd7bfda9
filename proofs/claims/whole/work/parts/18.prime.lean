/-! prime, near -/
theorem i_div {x y : Int32} (hx : 0 ≤ x.toInt) (hy : 0 < y.toInt) : (x / y).toInt = x.toInt / y.toInt := by
  have hr := i_rng x
  rw [Int32.toInt_div, Int.tdiv_eq_ediv_of_nonneg hx]
  have h1 : x.toInt / y.toInt ≤ x.toInt := Int.ediv_le_self _ hx
  have h2 : 0 ≤ x.toInt / y.toInt := Int.ediv_nonneg hx (by omega)
  exact Int.bmod_eq_of_le (by omega) (by omega)
theorem nI_div {a b : Nat} (ha : a < 2 ^ 31) (hb : b < 2 ^ 31) (h0 : 0 < b) : nI a / nI b = nI (a / b) := by
  have h1 := nI_toInt ha
  have h2 := nI_toInt hb
  have := Nat.div_le_self a b
  rw [i_eq, i_div (by omega) (by omega), h1, h2, nI_toInt (by omega)]
  rfl
theorem oRI_nat {a b : Nat} (ha : a < 2 ^ 31) (hb : b < 2 ^ 31) (h0 : 0 < b) : oRI (nI a) (nI b) = nI (a % b) := by
  have h1 := nI_toInt ha
  have hm : a % b ≤ a := Nat.mod_le _ _
  have hmul : (a / b) * b ≤ a := Nat.div_mul_le_self a b
  have hmod : a % b = a - (a / b) * b := by
    have := Nat.div_add_mod a b
    rw [Nat.mul_comm] at this
    omega
  have h2 := nI_toInt (show (a / b) * b < 2 ^ 31 by omega)
  unfold oRI
  rw [nI_div ha hb h0, nI_mul, i_eq, i_sub, h2, h1, nI_toInt (by omega)] <;> rw [] <;> omega
theorem p_prK (w : Int32) : ∀ r rest p c : Nat, 1 ≤ rest → 2 ≤ p → 2 * rest ≤ p + r → (∀ d, 2 ≤ d → d < p → ¬ d ∣ rest) → 2 ^ c * rest ≤ 2047 → p ≤ 2048 →
    ∃ q, oTo (fun s : Int32 × Int32 × Int32 × Int32 => F_X8_prime_L26 w s.1 s.2.1 s.2.2.1 s.2.2.2) (nI rest, nI p, nI c, nI (p - 2 + c)) q r ∧ oTo (fun s : Int32 × Int32 × Int32 => F_X9_prime_L23 w s.1 s.2.1 s.2.2) (nI rest, nI c, nI p) q r := by
  intro r
  induction r with
  | zero =>
    intro rest p c h1 h2 h3 h4 h5 h6
    have e : rest = 1 := by
      rcases Nat.lt_or_ge rest 2 with z | z
      · omega
      · exact absurd (Nat.dvd_refl rest) (h4 rest z (by omega))
    subst e
    refine ⟨.inl (nI c), oTo.done _ ?_, oTo.done _ ?_⟩
    · show F_X8_prime_L26 w (nI 1) (nI p) (nI c) (nI (p - 2 + c)) = _
      unfold F_X8_prime_L26
      rw [if_pos (show nI 1 ≤ 1 by decide)]
      split <;> rfl
    · show F_X9_prime_L23 w (nI 1) (nI c) (nI p) = _
      unfold F_X9_prime_L23
      rw [if_pos (show nI 1 ≤ 1 by decide)]
  | succ r ih =>
    intro rest p c h1 h2 h3 h4 h5 h6
    by_cases e : rest = 1
    · subst e
      refine ⟨.inl (nI c), oTo.done _ ?_, oTo.done _ ?_⟩
      · show F_X8_prime_L26 w (nI 1) (nI p) (nI c) (nI (p - 2 + c)) = _
        unfold F_X8_prime_L26
        rw [if_pos (show nI 1 ≤ 1 by decide)]
        split <;> rfl
      · show F_X9_prime_L23 w (nI 1) (nI c) (nI p) = _
        unfold F_X9_prime_L23
        rw [if_pos (show nI 1 ≤ 1 by decide)]
    · have hp : p ≤ rest := by
        rcases Nat.lt_or_ge rest p with z | z
        · exact absurd (Nat.dvd_refl rest) (h4 rest (by omega) z)
        · exact z
      have hr : rest ≤ 2047 := Nat.le_trans (Nat.le_mul_of_pos_left _ (Nat.pow_pos (by omega))) h5
      have hc : c < 11 := by
        refine (Nat.pow_lt_pow_iff_right (a := 2) (by omega)).mp ?_
        exact Nat.lt_of_le_of_lt (Nat.le_trans (Nat.le_mul_of_pos_right _ (by omega)) h5) (by decide)
      have b1 : ¬ nI rest ≤ 1 := by
        rw [i_le, nI_toInt (by omega), Int32.toInt_one]
        omega
      have b2 : ¬ nI p ≤ 1 := by
        rw [i_le, nI_toInt (by omega), Int32.toInt_one]
        omega
      have b3 : ¬ nI p = 0 := by
        rw [i_eq, nI_toInt (by omega), Int32.toInt_zero]
        omega
      have b4 : ¬ (4094 : Int32) ≤ nI (p - 2 + c) := by
        rw [i_le, nI_toInt (by omega), show (4094 : Int32).toInt = 4094 by decide]
        omega
      have hz : nI (rest % p) = 0 ↔ rest % p = 0 := nI_eq (b := 0) (by have := Nat.mod_lt rest (show 0 < p by omega); omega) (by omega)
      by_cases hd : rest % p = 0
      · have hd' := hz.mpr hd
        have hm := Nat.div_add_mod rest p
        rw [hd, Nat.add_zero] at hm
        by_cases hw : nI c = w
        · refine ⟨.inr (nI p), oTo.done _ ?_, oTo.done _ ?_⟩
          · show F_X8_prime_L26 w (nI rest) (nI p) (nI c) (nI (p - 2 + c)) = _
            unfold F_X8_prime_L26
            rw [if_neg b4, if_neg b1, if_neg b2, if_neg b3, o_b, oRI_nat (by omega) (by omega) (by omega), if_pos hd', if_pos hw]
          · show F_X9_prime_L23 w (nI rest) (nI c) (nI p) = _
            unfold F_X9_prime_L23
            rw [if_neg b1, if_neg b3, o_b, oRI_nat (by omega) (by omega) (by omega), if_pos hd', if_pos hw]
        · have h2r : 2 * (rest / p) ≤ rest := by
            have : 2 * (rest / p) ≤ p * (rest / p) := Nat.mul_le_mul_right _ h2
            omega
          have hpos : 1 ≤ rest / p := Nat.div_pos hp (by omega)
          obtain ⟨q, ha, hb⟩ := ih (rest / p) p (c + 1) hpos h2 (by omega) (fun d d2 dp dd => h4 d d2 dp (by rw [← hm]; exact Nat.dvd_mul_left_of_dvd dd p)) (by
            rw [Nat.pow_succ, Nat.mul_assoc]
            exact Nat.le_trans (Nat.mul_le_mul_left _ h2r) h5) h6
          refine ⟨q, oTo.step (s' := (nI (rest / p), nI p, nI (c + 1), nI (p - 2 + (c + 1)))) ?_ ha, oTo.step (s' := (nI (rest / p), nI (c + 1), nI p)) ?_ hb⟩
          · show F_X8_prime_L26 w (nI rest) (nI p) (nI c) (nI (p - 2 + c)) = _
            unfold F_X8_prime_L26
            rw [if_neg b4, if_neg b1, if_neg b2, if_neg b3, o_b, oRI_nat (by omega) (by omega) (by omega), if_pos hd', if_neg hw, if_neg b3, o_b, nI_div (by omega) (by omega) (by omega), nI_1, nI_1]
            rfl
          · show F_X9_prime_L23 w (nI rest) (nI c) (nI p) = _
            unfold F_X9_prime_L23
            rw [if_neg b1, if_neg b3, o_b, oRI_nat (by omega) (by omega) (by omega), if_pos hd', if_neg hw, if_neg b3, o_b, nI_div (by omega) (by omega) (by omega), nI_1]
      · have hd' : ¬ nI (rest % p) = 0 := fun z => hd (hz.mp z)
        have hpr : p < rest := by
          rcases Nat.lt_or_ge p rest with z | z
          · exact z
          · exact absurd (by rw [show rest = p by omega, Nat.mod_self]) hd
        obtain ⟨q, ha, hb⟩ := ih rest (p + 1) c h1 (by omega) (by omega) (fun d d2 dp dd => by
          rcases Nat.lt_or_ge d p with z | z
          · exact h4 d d2 z dd
          · rw [show d = p by omega] at dd
            exact hd (Nat.mod_eq_zero_of_dvd dd)) h5 (by omega)
        refine ⟨q, oTo.step (s' := (nI rest, nI (p + 1), nI c, nI (p + 1 - 2 + c))) ?_ ha, oTo.step (s' := (nI rest, nI c, nI (p + 1))) ?_ hb⟩
        · show F_X8_prime_L26 w (nI rest) (nI p) (nI c) (nI (p - 2 + c)) = _
          unfold F_X8_prime_L26
          rw [if_neg b4, if_neg b1, if_neg b2, if_neg b3, o_b, oRI_nat (by omega) (by omega) (by omega), if_neg hd', nI_1, nI_1, show p - 2 + c + 1 = p + 1 - 2 + c by omega]
        · show F_X9_prime_L23 w (nI rest) (nI c) (nI p) = _
          unfold F_X9_prime_L23
          rw [if_neg b1, if_neg b3, o_b, oRI_nat (by omega) (by omega) (by omega), if_neg hd', nI_1]
theorem p_prime (x w : Int32) : Same (F_X8_prime x w) (F_X9_prime x w) := by
  unfold F_X8_prime F_X9_prime
  rw [f_isIn, o_b, i_long, show (1 : Int64).toInt = 1 by decide, show (2047 : Int64).toInt = 2047 by decide]
  have c1 : x < 1 ↔ x.toInt < 1 := by rw [i_lt, Int32.toInt_one]
  have c2 : x ≤ 2047 ↔ x.toInt ≤ 2047 := by rw [i_le, show (2047 : Int32).toInt = 2047 by decide]
  by_cases h1 : x.toInt < 1
  · have n1 : ¬ (1 ≤ x.toInt ∧ x.toInt ≤ 2047) := by omega
    rw [if_pos (c1.mpr h1), if_neg n1, if_pos rfl]
    exact ⟨_, rfl, rfl⟩
  · rw [if_neg (fun z => h1 (c1.mp z))]
    by_cases h2 : x.toInt ≤ 2047
    · have n1 : 1 ≤ x.toInt ∧ x.toInt ≤ 2047 := by omega
      rw [if_pos (c2.mpr h2), if_pos n1, if_neg i10]
      obtain ⟨n, hn, rfl⟩ := i_of (x := x) (n := 2048) (by omega) (by omega)
      rw [nI_toInt (by omega)] at h1
      obtain ⟨q, ha, hb⟩ := p_prK w 4094 n 2 0 (by omega) (by omega) (by omega) (by omega) (by omega) (by omega)
      have A : oLoop (fun s : Int32 × Int32 × Int32 × Int32 => F_X8_prime_L26 w s.1 s.2.1 s.2.2.1 s.2.2.2) oFuel (nI n, 2, 0, 0) = some q := ha.run (by omega)
      have B : oLoop (fun s : Int32 × Int32 × Int32 => F_X9_prime_L23 w s.1 s.2.1 s.2.2) oFuel (nI n, 0, 2) = some q := hb.run (by omega)
      rw [A, B, o_b]
      rcases q with y | z
      · show ∃ v, (if w = -1 then some y else some (-5)) = some v ∧ (if w = -1 then some y else some (-5)) = some v
        rw [o_if]
        exact ⟨_, rfl, rfl⟩
      · exact ⟨_, rfl, rfl⟩
    · have n1 : ¬ (1 ≤ x.toInt ∧ x.toInt ≤ 2047) := by omega
      rw [if_neg (fun z => h2 (c2.mp z)), if_neg n1, if_pos rfl]
      exact ⟨_, rfl, rfl⟩
