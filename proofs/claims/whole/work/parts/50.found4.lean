/-! found: the reference's tries -/
def rH (b A B le mo : Nat) (m : oM) : Prop := m.1 52 1 = nI le ∧ m.1 52 2 = nI mo ∧ m.1 52 (7 + b) = nI A ∧ m.1 52 (13 + b) = nI B
def rShow (A B : Nat) (c : oQ4) (m : oM) : Prop := m.1 51 14 = nI (if c.2.1 = 0 then 1 else 2) ∧ m.1 51 15 = nI (fTee c) ∧ m.1 51 16 = nI c.1 ∧ m.1 51 17 = nI (if c.2.1 = 0 then 1 else c.2.1) ∧ m.1 51 18 = nI c.2.2.1 ∧ m.1 51 19 = nI (if c.2.1 = 0 then 1 else c.2.2.2) ∧ (m.2 51 20).toInt = ((fOff A B c).natAbs : Int) ∧ m.2 51 21 = lN (fQ c)
def RI (A B le mo : Nat) (D : oQ4 → Prop) (m : oM) : Prop := ((∀ d, ¬ D d) ∧ m.1 51 14 = 0) ∨ ∃ c, D c ∧ fCand le mo c ∧ rShow A B c m ∧ ∀ d, D d → d = c ∨ fBet A B c d
def fLt (y x : oQ4) : Prop := (y.2.1 = 0 ∧ x.2.1 ≠ 0) ∨ ((y.2.1 = 0 ↔ x.2.1 = 0) ∧ (y.1 < x.1 ∨ (y.1 = x.1 ∧ (y.2.1 < x.2.1 ∨ (y.2.1 = x.2.1 ∧ (y.2.2.1 < x.2.2.1 ∨ (y.2.2.1 = x.2.2.1 ∧ y.2.2.2 < x.2.2.2)))))))
def S14 (p k : Nat) : Prop := p = 51 ∧ 14 ≤ k
theorem RI.cg {A B le mo : Nat} {D D' : oQ4 → Prop} {m : oM} (h : RI A B le mo D m) (hd : ∀ d, D' d ↔ D d) : RI A B le mo D' m := by
  rcases h with ⟨h1, h2⟩ | ⟨c, h1, h2, h3, h4⟩
  · exact Or.inl ⟨fun d z => h1 d ((hd d).mp z), h2⟩
  · exact Or.inr ⟨c, (hd c).mpr h1, h2, h3, fun d z => h4 d ((hd d).mp z)⟩
theorem rH.ag {b A B le mo : Nat} {m m' : oM} (h : rH b A B le mo m) (ag : oAg S14 m m') : rH b A B le mo m' := by
  have e : ∀ k, m'.1 52 k = m.1 52 k := fun k => (ag 52 k (by unfold S14; omega)).1
  unfold rH
  rw [e, e, e, e]
  exact h
section FOUND4
variable {m : oM} {A B le mo b : Nat}
theorem r_tries {D D' : oQ4 → Prop} (hR : fRng A B le mo) (hb : b < 6) (hH : rH b A B le mo m) (hI : RI A B le mo D m) {x : oQ4} (hx : fCand le mo x) {many e g : Nat} (hm : (x.2.1 = 0 ∧ x.2.2.2 = 0 ∧ many = 1 ∧ e = 1 ∧ g = 1) ∨ (x.2.1 ≠ 0 ∧ x.2.2.2 ≠ 0 ∧ many = 2 ∧ e = x.2.1 ∧ g = x.2.2.2)) (hD : ∀ y, D y → fLt y x ∧ 0 < fQ y) (hD' : ∀ y, D' y ↔ D y ∨ y = x) :
    ∃ m', F_X9_tries m (nI b) (nI many) (nI x.1) (nI e) (nI x.2.2.1) (nI g) = some m' ∧ RI A B le mo D' m' ∧ oAg S14 m m' := by
  obtain ⟨h1, h2, h3, h4⟩ := hH
  obtain ⟨b1, b2, b3, b4⟩ := cand_b hR hx
  have q := cand_q hR hx
  obtain ⟨o1, o2, o3, o4, o5⟩ := cand_o hR hx
  have hR' := hR
  unfold fRng at hR'
  -- the off
  have off : F_X9_off m (nI b) (lN (fP x.1 x.2.1)) (lN (fQ x)) = some (lN (fP x.1 x.2.1 * B) - lN (fQ x * A)) := by
    unfold F_X9_off
    rw [r_ld (c := 13) (n := 13) rfl (by omega), o_b, r_ld (c := 7) (n := 7) rfl (by omega), o_b, h3, h4, nI_l (by omega), nI_l (by omega), lN_mul, lN_mul]
  have e7 : (lN (fP x.1 x.2.1 * B) - lN (fQ x * A)).toInt = fOff A B x := by
    have e1 := lN_t (n := fP x.1 x.2.1 * B) (by omega)
    have e2 := lN_t (n := A * fQ x) (by omega)
    rw [Nat.mul_comm (fQ x) A, l_sub] <;> rw [e1, e2]
    · rfl
    · omega
    · omega
  generalize lN (fP x.1 x.2.1 * B) - lN (fQ x * A) = X7 at off e7
  obtain ⟨X, hX, J34⟩ : ∃ X : Int64, X.toInt = ((fOff A B x).natAbs : Int) ∧ ∀ many', F_X9_tries_J34 m (nI b) many' (nI x.1) (nI e) (nI x.2.2.1) (nI g) (lN (fP x.1 x.2.1)) (lN (fQ x)) = F_X9_tries_J59 m many' (nI x.1) (nI e) (nI x.2.2.1) (nI g) (lN (fQ x)) X := by
    by_cases c : 0 ≤ X7
    · refine ⟨X7, ?_, fun many' => ?_⟩
      · rw [l_le, Int64.toInt_zero] at c
        omega
      · unfold F_X9_tries_J34
        rw [off, o_b, if_pos c]
    · refine ⟨-X7, ?_, fun many' => ?_⟩
      · rw [l_le, Int64.toInt_zero] at c
        rw [l_neg (by omega)]
        omega
      · unfold F_X9_tries_J34
        rw [off, o_b, if_neg c, o_b]
  have ad : ∀ u v : Nat, nI u + nI v = nI (u + v) := nI_add
  have tee : F_X9_tries m (nI b) (nI many) (nI x.1) (nI e) (nI x.2.2.1) (nI g) = (if m.1 51 14 ≤ 0 then F_X9_tries_J139 m (nI many) (nI x.1) (nI e) (nI x.2.2.1) (nI g) (lN (fQ x)) X (nI (fTee x)) else if m.2 51 20 * lN (fQ x) < X * m.2 51 21 then some m else if X * m.2 51 21 = m.2 51 20 * lN (fQ x) then if m.1 51 14 < nI many then some m else if nI (fTee x) < m.1 51 15 then F_X9_tries_J139 m (nI many) (nI x.1) (nI e) (nI x.2.2.1) (nI g) (lN (fQ x)) X (nI (fTee x)) else some m else F_X9_tries_J139 m (nI many) (nI x.1) (nI e) (nI x.2.2.1) (nI g) (lN (fQ x)) X (nI (fTee x))) := by
    rcases hm with ⟨z1, z2, rfl, rfl, rfl⟩ | ⟨z1, z2, rfl, rfl, rfl⟩
    · have p1 : (nI x.1).toInt64 = lN (fP x.1 x.2.1) := by
        rw [nI_l (by omega)]
        unfold fP
        rw [if_pos z1]
      have p2 : (nI x.2.2.1).toInt64 = lN (fQ x) := by
        rw [nI_l (by omega)]
        unfold fQ fP
        rw [if_pos z2]
      have t : nI x.1 + nI x.2.2.1 + 0 = nI (fTee x) := by
        rw [ad, Int32.add_zero]
        unfold fTee
        rw [z1, z2, Nat.add_zero, Nat.add_zero]
      have n1 : nI 1 = 1 := by decide
      unfold F_X9_tries
      rw [if_pos n1]
      unfold F_X9_tries_J15
      rw [if_pos n1, p1, p2, J34]
      unfold F_X9_tries_J59 F_X9_tries_J77
      rw [if_pos n1, t, o_b, o_b, o_b]
    · have p1 : (nI x.1 * nI x.2.1).toInt64 = lN (fP x.1 x.2.1) := by
        have : x.1 * x.2.1 ≤ 99 * 99 := Nat.mul_le_mul b1.2 b2
        rw [nI_mul, nI_l (by omega)]
        unfold fP
        rw [if_neg z1]
      have p2 : (nI x.2.2.1 * nI x.2.2.2).toInt64 = lN (fQ x) := by
        have : x.2.2.1 * x.2.2.2 ≤ 99 * 99 := Nat.mul_le_mul b3.2 b4
        rw [nI_mul, nI_l (by omega)]
        unfold fQ fP
        rw [if_neg z2]
      have t : nI x.1 + nI x.2.2.1 + (nI x.2.1 + nI x.2.2.2) = nI (fTee x) := by
        rw [ad, ad, ad]
        unfold fTee
        rw [show x.1 + x.2.2.1 + (x.2.1 + x.2.2.2) = x.1 + x.2.1 + x.2.2.1 + x.2.2.2 by omega]
      have n1 : ¬ nI 2 = 1 := by decide
      unfold F_X9_tries
      rw [if_neg n1]
      unfold F_X9_tries_J15
      rw [if_neg n1, p1, p2, J34]
      unfold F_X9_tries_J59 F_X9_tries_J77
      rw [if_neg n1, t, o_b, o_b, o_b]
  have acc : F_X9_tries_J139 m (nI many) (nI x.1) (nI e) (nI x.2.2.1) (nI g) (lN (fQ x)) X (nI (fTee x)) = some (oSL (oSL (oSI (oSI (oSI (oSI (oSI (oSI m 51 14 (nI many)) 51 15 (nI (fTee x))) 51 16 (nI x.1)) 51 17 (nI e)) 51 18 (nI x.2.2.1)) 51 19 (nI g)) 51 20 X) 51 21 (lN (fQ x))) := by
    unfold F_X9_tries_J139
    rw [o_b, o_b, o_b, o_b, o_b, o_b, o_b, o_b]
  have ts : F_X9_tries m (nI b) (nI many) (nI x.1) (nI e) (nI x.2.2.1) (nI g) = F_X9_tries_J139 m (nI many) (nI x.1) (nI e) (nI x.2.2.1) (nI g) (lN (fQ x)) X (nI (fTee x)) → (∀ d, D' d → d = x ∨ fBet A B x d) → ∃ m', F_X9_tries m (nI b) (nI many) (nI x.1) (nI e) (nI x.2.2.1) (nI g) = some m' ∧ RI A B le mo D' m' ∧ oAg S14 m m' := by
    intro y z
    refine ⟨_, y.trans acc, Or.inr ⟨x, (hD' x).mpr (Or.inr rfl), hx, ?_, z⟩, ?_⟩
    · rcases hm with ⟨z1, z2, z3, z4, z5⟩ | ⟨z1, z2, z3, z4, z5⟩
      · unfold rShow
        rw [if_pos z1, if_pos z1, if_pos z1, z3, z4, z5]
        exact ⟨rfl, rfl, rfl, rfl, rfl, rfl, hX, rfl⟩
      · unfold rShow
        rw [if_neg z1, if_neg z1, if_neg z1, z3, z4, z5]
        exact ⟨rfl, rfl, rfl, rfl, rfl, rfl, hX, rfl⟩
    · have a : ∀ {n : oM} {k : Nat} {y : Int32}, 14 ≤ k → oAg S14 n (oSI n 51 k y) := fun z => oAg.SI ⟨rfl, z⟩
      have b : ∀ {n : oM} {k : Nat} {y : Int64}, 14 ≤ k → oAg S14 n (oSL n 51 k y) := fun z => oAg.SL ⟨rfl, z⟩
      exact (((((((a (by omega)).tr (a (by omega))).tr (a (by omega))).tr (a (by omega))).tr (a (by omega))).tr (a (by omega))).tr (b (by omega))).tr (b (by omega))
  rcases hI with ⟨n1, n2⟩ | ⟨c, cD, cc, cs, cd⟩
  · refine ts ?_ (fun d hd => ?_)
    · rw [tee, n2, if_pos (by decide)]
    · rcases (hD' d).mp hd with z | z
      · exact absurd z (n1 d)
      · exact Or.inl z
  · have lt := (hD c cD).1
    obtain ⟨cb1, cb2, cb3, cb4⟩ := cand_b hR cc
    have cq := cand_q hR cc
    obtain ⟨co1, co2, -⟩ := cand_o hR cc
    have cs' := cs
    obtain ⟨s14, s15, -, -, -, -, s20, s21⟩ := cs
    have t1 := lN_t (n := fQ x) (by omega)
    have t2 := lN_t (n := fQ c) (by omega)
    have k1 : (fOff A B x).natAbs * fQ c ≤ 98000199 * 9801 := Nat.mul_le_mul (by omega) cq.2
    have k2 : (fOff A B c).natAbs * fQ x ≤ 98000199 * 9801 := Nat.mul_le_mul (by omega) q.2
    have g1 : ((fOff A B x).natAbs : Int) * (fQ c : Int) = (((fOff A B x).natAbs * fQ c : Nat) : Int) := (Int.natCast_mul _ _).symm
    have g2 : ((fOff A B c).natAbs : Int) * (fQ x : Int) = (((fOff A B c).natAbs * fQ x : Nat) : Int) := (Int.natCast_mul _ _).symm
    have e9 : (X * m.2 51 21).toInt = (((fOff A B x).natAbs * fQ c : Nat) : Int) := by
      rw [s21, l_mul] <;> rw [hX, t2, g1] <;> omega
    have e11 : (m.2 51 20 * lN (fQ x)).toInt = (((fOff A B c).natAbs * fQ x : Nat) : Int) := by
      rw [l_mul] <;> rw [s20, t1, g2] <;> omega
    have win : fBet A B x c → ∀ d, D' d → d = x ∨ fBet A B x d := by
      intro z d hd
      rcases (hD' d).mp hd with w | w
      · rcases cd d w with y | y
        · rw [y]
          exact Or.inr z
        · exact Or.inr (fBet_tr (by omega) (by omega) (hD d w).2 z y)
      · exact Or.inl w
    have keep : ¬ fBet A B x c → F_X9_tries m (nI b) (nI many) (nI x.1) (nI e) (nI x.2.2.1) (nI g) = some m → ∃ m', F_X9_tries m (nI b) (nI many) (nI x.1) (nI e) (nI x.2.2.1) (nI g) = some m' ∧ RI A B le mo D' m' ∧ oAg S14 m m' := by
      intro z y
      refine ⟨m, y, Or.inr ⟨c, (hD' c).mpr (Or.inl cD), cc, cs', fun d hd => ?_⟩, oAg.rf⟩
      rcases (hD' d).mp hd with w | w
      · exact cd d w
      · rw [w]
        exact fBet_tot z
    have n14 : ¬ m.1 51 14 ≤ 0 := by
      rw [s14]
      split <;> exact nI_nle (by omega) (by omega)
    rw [if_neg n14] at tee
    by_cases c1 : (fOff A B x).natAbs * fQ c < (fOff A B c).natAbs * fQ x
    · rw [if_neg (show ¬ m.2 51 20 * lN (fQ x) < X * m.2 51 21 by rw [l_lt, e9, e11]; omega), if_neg (show ¬ X * m.2 51 21 = m.2 51 20 * lN (fQ x) by rw [l_eq, e9, e11]; omega)] at tee
      exact ts tee (win (Or.inl c1))
    · by_cases c2 : (fOff A B x).natAbs * fQ c = (fOff A B c).natAbs * fQ x
      · rw [if_neg (show ¬ m.2 51 20 * lN (fQ x) < X * m.2 51 21 by rw [l_lt, e9, e11]; omega), if_pos (show X * m.2 51 21 = m.2 51 20 * lN (fQ x) by rw [l_eq, e9, e11, c2]), s14, s15] at tee
        have fb : fTie x c → fBet A B x c := fun t => Or.inr ⟨c2, t⟩
        have nb : ¬ fTie x c → ¬ fBet A B x c := by
          rintro t (z | z)
          · exact c1 z
          · exact t z.2
        by_cases k : c.2.1 = 0 ∧ x.2.1 ≠ 0
        · have m2 : many = 2 := by omega
          rw [if_pos k.1, m2, if_pos (by decide), ← m2] at tee
          exact keep (nb (by unfold fTie; omega)) tee
        · have nlt : ¬ nI (if c.2.1 = 0 then 1 else 2) < nI many := by
            split <;> exact nI_nlt (by omega) (by omega)
          rw [if_neg nlt] at tee
          have tb : fTee x < 400 ∧ fTee c < 400 := by
            unfold fTee
            omega
          by_cases w : fTee x < fTee c
          · rw [if_pos (nI_lt w (by omega))] at tee
            refine ts tee (win (fb ?_))
            unfold fTie
            unfold fLt at lt
            omega
          · rw [if_neg (nI_nlt (by omega) (by omega))] at tee
            refine keep (nb ?_) tee
            unfold fTie fTee
            unfold fTee at w
            unfold fLt at lt
            omega
      · rw [if_pos (show m.2 51 20 * lN (fQ x) < X * m.2 51 21 by rw [l_lt, e9, e11]; omega)] at tee
        refine keep ?_ tee
        rintro (z | z)
        · exact c1 z
        · exact c2 z.1
end FOUND4
