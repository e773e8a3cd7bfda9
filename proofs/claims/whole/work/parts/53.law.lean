/-! the law's own loop, out of the calls -/
section LAW
variable {m : oM}
theorem lw_same {α : Type} [DecidableEq α] {a b : Option α} (hI : Inv m) (h : Same a b) (k : Int32) : ∃ m', (a.bind fun r => b.bind fun r' => if r = r' then (some (.inl (k, m)) : Option ((Int32 × oM) ⊕ ((oM) ⊕ (Int32 × oM)))) else some (.inr (.inr (0, m)))) = some (.inl (k, m')) ∧ Inv m' := by
  obtain ⟨v, rfl, rfl⟩ := h
  exact ⟨m, by rw [o_b, o_b, if_pos rfl], hI⟩
theorem lw_wr {α : Type} [DecidableEq α] {a : Option (α × oM)} {b : oM → Option (α × oM)} (h : Wr a b) (k : Int32) : ∃ m', (a.bind fun r => (b r.2).bind fun r' => if r.1 = r'.1 then (some (.inl (k, r'.2)) : Option ((Int32 × oM) ⊕ ((oM) ⊕ (Int32 × oM)))) else some (.inr (.inr (0, r'.2)))) = some (.inl (k, m')) ∧ Inv m' := by
  obtain ⟨v, m1, m2, rfl, e2, e3⟩ := h
  refine ⟨m2, ?_, e3⟩
  rw [o_b]
  show ((b m1).bind fun r' => if v = r'.1 then (some (.inl (k, r'.2)) : Option ((Int32 × oM) ⊕ ((oM) ⊕ (Int32 × oM)))) else some (.inr (.inr (0, r'.2)))) = _
  rw [e2, o_b, if_pos rfl]
theorem lw_wp {α : Type} [DecidableEq α] {a : Option α} {b : Option (α × oM)} (h : Wp a b) (k : Int32) : ∃ m', (a.bind fun r => b.bind fun r' => if r = r'.1 then (some (.inl (k, r'.2)) : Option ((Int32 × oM) ⊕ ((oM) ⊕ (Int32 × oM)))) else some (.inr (.inr (0, r'.2)))) = some (.inl (k, m')) ∧ Inv m' := by
  obtain ⟨v, m2, rfl, rfl, e3⟩ := h
  exact ⟨m2, by rw [o_b, o_b, if_pos rfl], e3⟩
set_option maxHeartbeats 4000000 in
theorem law_step {L : Nat} {xs : Nat → Int32} (hL : L ≤ 3072) {i : Nat} (hi : i + 6 ≤ L) (hI : Inv m) : ∃ m', F_L_law_L18 L xs (nI i) m = some (.inl (nI i + 6, m')) ∧ Inv m' := by
  have X : ∀ d, d < 6 → oXA L xs (nI (i + d)) = some (xs (i + d)) := by
    intro d hd
    unfold oXA
    rw [if_neg (nI_in (by omega) (by omega)), nI_clamp (by omega)]
  have X0 : oXA L xs (nI i) = some (xs i) := X 0 (by omega)
  have X1 : oXA L xs (nI i + 1) = some (xs (i + 1)) := by rw [show nI i + 1 = nI (i + 1) from nI_add i 1, X 1 (by omega)]
  have X2 : oXA L xs (nI i + 2) = some (xs (i + 2)) := by rw [show nI i + 2 = nI (i + 2) from nI_add i 2, X 2 (by omega)]
  have X3 : oXA L xs (nI i + 3) = some (xs (i + 3)) := by rw [show nI i + 3 = nI (i + 3) from nI_add i 3, X 3 (by omega)]
  have X4 : oXA L xs (nI i + 4) = some (xs (i + 4)) := by rw [show nI i + 4 = nI (i + 4) from nI_add i 4, X 4 (by omega)]
  have X5 : oXA L xs (nI i + 5) = some (xs (i + 5)) := by rw [show nI i + 5 = nI (i + 5) from nI_add i 5, X 5 (by omega)]
  have lt : ¬ Int32.ofNat L - 6 < nI i := by
    rw [show Int32.ofNat L - 6 = nI (L - 6) from nI_sub (a := L) (b := 6) (by omega)]
    exact nI_nlt (by omega) (by omega)
  unfold F_L_law_L18
  rw [if_neg lt, X0, o_b, o_b]
  generalize xs i &&& 63 = v
  by_cases h0 : v = 0
  · rw [if_pos h0]
    simp only [X1, X2, X3, X4, X5, o_b]
    exact lw_wr (p_body hI _ _) _
  rw [if_neg h0]
  by_cases h1 : v = 1
  · rw [if_pos h1]
    simp only [X1, X2, X3, X4, X5, o_b]
    exact lw_wr (p_ratio hI _ _ _) _
  rw [if_neg h1]
  by_cases h2 : v = 2
  · rw [if_pos h2]
    simp only [X1, X2, X3, X4, X5, o_b]
    exact lw_wp (p_term hI _ _) _
  rw [if_neg h2]
  by_cases h3 : v = 3
  · rw [if_pos h3]
    simp only [X1, X2, X3, X4, X5, o_b]
    exact lw_wp (p_convergent hI _ _ _) _
  rw [if_neg h3]
  by_cases h4 : v = 4
  · rw [if_pos h4]
    simp only [X1, X2, X3, X4, X5, o_b]
    exact lw_same hI (p_near hI _ _ _) _
  rw [if_neg h4]
  by_cases h5 : v = 5
  · rw [if_pos h5]
    simp only [X1, X2, X3, X4, X5, o_b]
    exact lw_wr (p_bounds hI _ _) _
  rw [if_neg h5]
  by_cases h6 : v = 6
  · rw [if_pos h6]
    simp only [X1, X2, X3, X4, X5, o_b]
    exact lw_same hI (p_split hI _ _ _) _
  rw [if_neg h6]
  by_cases h7 : v = 7
  · rw [if_pos h7]
    simp only [X1, X2, X3, X4, X5, o_b]
    exact lw_same hI (p_prime _ _) _
  rw [if_neg h7]
  by_cases h8 : v = 8
  · rw [if_pos h8]
    simp only [X1, X2, X3, X4, X5, o_b]
    exact lw_wr (p_feed hI _) _
  rw [if_neg h8]
  by_cases h9 : v = 9
  · rw [if_pos h9]
    exact lw_wr (p_pairs hI) _
  rw [if_neg h9]
  by_cases h10 : v = 10
  · rw [if_pos h10]
    simp only [X1, X2, X3, X4, X5, o_b]
    exact lw_wr (p_becomes hI _ _ _) _
  rw [if_neg h10]
  by_cases h11 : v = 11
  · rw [if_pos h11]
    simp only [X1, X2, X3, X4, X5, o_b]
    exact lw_wr (p_teeth hI _ _ _) _
  rw [if_neg h11]
  by_cases h12 : v = 12
  · rw [if_pos h12]
    simp only [X1, X2, X3, X4, X5, o_b]
    exact lw_same hI (p_pair hI _ _) _
  rw [if_neg h12]
  by_cases h13 : v = 13
  · rw [if_pos h13]
    simp only [X1, X2, X3, X4, X5, o_b]
    exact lw_wr (p_train hI _) _
  rw [if_neg h13]
  by_cases h14 : v = 14
  · rw [if_pos h14]
    simp only [X1, X2, X3, X4, X5, o_b]
    exact lw_wr (p_drop hI _) _
  rw [if_neg h14]
  by_cases h15 : v = 15
  · rw [if_pos h15]
    simp only [X1, X2, X3, X4, X5, o_b]
    exact lw_same hI (p_of hI _ _) _
  rw [if_neg h15]
  by_cases h16 : v = 16
  · rw [if_pos h16]
    simp only [X1, X2, X3, X4, X5, o_b]
    exact lw_same hI (p_turns hI _ _) _
  rw [if_neg h16]
  by_cases h17 : v = 17
  · rw [if_pos h17]
    simp only [X1, X2, X3, X4, X5, o_b]
    exact lw_same hI (p_wrong hI _ _) _
  rw [if_neg h17]
  by_cases h18 : v = 18
  · rw [if_pos h18]
    simp only [X1, X2, X3, X4, X5, o_b]
    exact lw_same hI (p_backlash hI _ _) _
  rw [if_neg h18]
  by_cases h19 : v = 19
  · rw [if_pos h19]
    simp only [X1, X2, X3, X4, X5, o_b]
    exact lw_same hI (p_share hI _ _) _
  rw [if_neg h19]
  by_cases h20 : v = 20
  · rw [if_pos h20]
    simp only [X1, X2, X3, X4, X5, o_b]
    exact lw_wr (p_order hI _ _) _
  rw [if_neg h20]
  by_cases h21 : v = 21
  · rw [if_pos h21]
    simp only [X1, X2, X3, X4, X5, o_b]
    exact lw_wr (p_found hI _ _) _
  rw [if_neg h21]
  by_cases h22 : v = 22
  · rw [if_pos h22]
    simp only [X1, X2, X3, X4, X5, o_b]
    exact lw_wr (p_foundWrong hI _ _) _
  rw [if_neg h22]
  by_cases h23 : v = 23
  · rw [if_pos h23]
    simp only [X1, X2, X3, X4, X5, o_b]
    exact lw_wr (p_turn hI _) _
  rw [if_neg h23]
  by_cases h24 : v = 24
  · rw [if_pos h24]
    simp only [X1, X2, X3, X4, X5, o_b]
    exact lw_same hI (p_crank hI _) _
  rw [if_neg h24]
  by_cases h25 : v = 25
  · rw [if_pos h25]
    simp only [X1, X2, X3, X4, X5, o_b]
    exact lw_same hI (p_stands hI _) _
  rw [if_neg h25]
  by_cases h26 : v = 26
  · rw [if_pos h26]
    simp only [X1, X2, X3, X4, X5, o_b]
    exact lw_same hI (p_meet hI _ _) _
  rw [if_neg h26]
  by_cases h27 : v = 27
  · rw [if_pos h27]
    simp only [X1, X2, X3, X4, X5, o_b]
    exact lw_same hI (p_join hI _ _ _) _
  rw [if_neg h27]
  by_cases h28 : v = 28
  · rw [if_pos h28]
    simp only [X1, X2, X3, X4, X5, o_b]
    exact lw_same hI (p_drift hI _ _) _
  rw [if_neg h28]
  by_cases h29 : v = 29
  · rw [if_pos h29]
    simp only [X1, X2, X3, X4, X5, o_b]
    exact lw_wr (p_were hI _ _ _ _) _
  rw [if_neg h29]
  by_cases h30 : v = 30
  · rw [if_pos h30]
    simp only [X1, X2, X3, X4, X5, o_b]
    exact lw_same hI (p_odds hI _ _ _ _) _
  rw [if_neg h30]
  by_cases h31 : v = 31
  · rw [if_pos h31]
    simp only [X1, X2, X3, X4, X5, o_b]
    exact lw_wr (p_plan hI _ _) _
  rw [if_neg h31]
  by_cases h32 : v = 32
  · rw [if_pos h32]
    simp only [X1, X2, X3, X4, X5, o_b]
    exact lw_wr (p_ends hI _) _
  rw [if_neg h32]
  by_cases h33 : v = 33
  · rw [if_pos h33]
    simp only [X1, X2, X3, X4, X5, o_b]
    exact lw_wr (p_writePair hI _) _
  rw [if_neg h33]
  by_cases h34 : v = 34
  · rw [if_pos h34]
    simp only [X1, X2, X3, X4, X5, o_b]
    exact lw_wr (p_writeTrain hI _) _
  rw [if_neg h34]
  by_cases h35 : v = 35
  · rw [if_pos h35]
    simp only [X1, X2, X3, X4, X5, o_b]
    exact lw_same hI (p_paper hI _) _
  rw [if_neg h35]
  by_cases h36 : v = 36
  · rw [if_pos h36]
    simp only [X1, X2, X3, X4, X5, o_b]
    exact lw_same hI (p_judge hI _) _
  rw [if_neg h36]
  by_cases h37 : v = 37
  · rw [if_pos h37]
    simp only [X1, X2, X3, X4, X5, o_b]
    exact lw_wr (p_list hI _ _) _
  rw [if_neg h37]
  by_cases h38 : v = 38
  · rw [if_pos h38]
    simp only [X1, X2, X3, X4, X5, o_b]
    exact lw_wr (p_put hI _ _ _) _
  rw [if_neg h38]
  by_cases h39 : v = 39
  · rw [if_pos h39]
    simp only [X1, X2, X3, X4, X5, o_b]
    exact lw_same hI (p_get hI _ _) _
  rw [if_neg h39]
  by_cases h40 : v = 40
  · rw [if_pos h40]
    exact lw_wr (p_image hI) _
  rw [if_neg h40]
  by_cases h41 : v = 41
  · rw [if_pos h41]
    exact lw_wr (p_undo hI) _
  rw [if_neg h41]
  by_cases h42 : v = 42
  · rw [if_pos h42]
    simp only [X1, X2, X3, X4, X5, o_b]
    exact lw_same hI (p_count hI _) _
  rw [if_neg h42]
  exact ⟨m, rfl, hI⟩
theorem law_K {L : Nat} {xs : Nat → Int32} (hL : L ≤ 3072) : ∀ r i m, i + 6 * r ≤ L → L < i + 6 * r + 6 → Inv m → ∃ m', oTo (fun s : Int32 × oM => F_L_law_L18 L xs s.1 s.2) (nI i, m) (.inl m') r
  | 0, i, m, h1, h2, hI => by
    refine ⟨m, oTo.done _ ?_⟩
    have lt : Int32.ofNat L - 6 < nI i := by
      have e1 : (Int32.ofNat L).toInt = (L : Int) := nI_toInt (by omega)
      have e2 : (6 : Int32).toInt = 6 := by decide
      rw [i_lt, nI_toInt (by omega), i_sub] <;> rw [e1, e2] <;> omega
    show F_L_law_L18 L xs (nI i) m = _
    unfold F_L_law_L18
    rw [if_pos lt]
  | r + 1, i, m, h1, h2, hI => by
    obtain ⟨m1, e1, I1⟩ := law_step (xs := xs) hL (i := i) (by omega) hI
    rw [show nI i + 6 = nI (i + 6) from nI_add i 6] at e1
    obtain ⟨m2, q⟩ := law_K hL r (i + 6) m1 (by omega) (by omega) I1
    exact ⟨m2, oTo.step e1 q⟩
theorem law_math (L : Nat) (xs : Nat → Int32) (hL : L ≤ 3072) : ∃ m', F_L_law L xs oM1 = some (1, m') := by
  obtain ⟨m', q⟩ := law_K (xs := xs) hL (L / 6) 0 oM1 (by omega) (by omega) inv_first
  have run : oLoop (fun s : Int32 × oM => F_L_law_L18 L xs s.1 s.2) oFuel (0, oM1) = some (.inl m') := q.run (by omega)
  refine ⟨m', ?_⟩
  unfold F_L_law
  rw [run, o_b]
  rfl
end LAW
