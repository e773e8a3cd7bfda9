/-! found: the class's offers -/
section FOUND2
variable {m : oM} {A B le mo : Nat}
theorem c_offer {D D' : oQ4 → Prop} (hR : fRng A B le mo) (hF : FI A B le mo D m) {x : oQ4} (hx : fCand le mo x) (hD : ∀ y, D y → 0 < fQ y) (hD' : ∀ y, D' y → (D y ∨ y = x ∨ fBet A B x y) ∧ 0 < fQ y) :
    ∃ m', F_X0_offer m (nI x.1) (nI x.2.1) (nI x.2.2.1) (nI x.2.2.2) = some m' ∧ FI A B le mo D' m' ∧ oAg (fun p _ => p = 50) m m' := by
  obtain ⟨⟨h0, h1, h2, h3⟩, hc⟩ := hF
  obtain ⟨b1, b2, b3, b4⟩ := cand_b hR hx
  have q := cand_q hR hx
  obtain ⟨o1, o2, o3, o4, o5⟩ := cand_o hR hx
  have pQ : F_X0_product (nI x.2.2.1) (nI x.2.2.2) = some (lN (fQ x)) := c_prod b3.2 b4
  have pP : F_X0_product (nI x.1) (nI x.2.1) = some (lN (fP x.1 x.2.1)) := c_prod b1.2 b2
  have e7 : (lN (fP x.1 x.2.1 * B) - lN (A * fQ x)).toInt = fOff A B x := by
    have e1 := lN_t (n := fP x.1 x.2.1 * B) (by omega)
    have e2 := lN_t (n := A * fQ x) (by omega)
    rw [l_sub] <;> rw [e1, e2]
    · rfl
    · omega
    · omega
  generalize hX : lN (fP x.1 x.2.1 * B) - lN (A * fQ x) = X7 at e7
  have body : F_X0_offer m (nI x.1) (nI x.2.1) (nI x.2.2.1) (nI x.2.2.2) = if (if 0 ≤ X7 then X7 else -X7) * m.2 50 9 < (if 0 ≤ m.2 50 8 then m.2 50 8 else -m.2 50 8) * lN (fQ x) then F_X0_offer_J80 m (nI x.1) (nI x.2.1) (nI x.2.2.1) (nI x.2.2.2) (lN (fQ x)) X7 else if (if 0 ≤ X7 then X7 else -X7) * m.2 50 9 = (if 0 ≤ m.2 50 8 then m.2 50 8 else -m.2 50 8) * lN (fQ x) then (F_X0_isAhead m (nI x.1) (nI x.2.1) (nI x.2.2.1) (nI x.2.2.2)).bind fun r74 => if r74 = 0 then some m else F_X0_offer_J80 m (nI x.1) (nI x.2.1) (nI x.2.2.1) (nI x.2.2.2) (lN (fQ x)) X7 else some m := by
    unfold F_X0_offer
    rw [pQ, o_b, pP, o_b, h0, h1, lN_mul, lN_mul, hX, o_b, c_abs, o_b, o_b, c_abs, o_b, o_b]
  have acc : F_X0_offer_J80 m (nI x.1) (nI x.2.1) (nI x.2.2.1) (nI x.2.2.2) (lN (fQ x)) X7 = some (oSL (oSL (oSI (oSI (oSI (oSI m 50 4 (nI x.1)) 50 5 (nI x.2.1)) 50 6 (nI x.2.2.1)) 50 7 (nI x.2.2.2)) 50 8 X7) 50 9 (lN (fQ x))) := by
    unfold F_X0_offer_J80
    rw [o_b, o_b, o_b, o_b, o_b, o_b]
  generalize hm : oSL (oSL (oSI (oSI (oSI (oSI m 50 4 (nI x.1)) 50 5 (nI x.2.1)) 50 6 (nI x.2.2.1)) 50 7 (nI x.2.2.2)) 50 8 X7) 50 9 (lN (fQ x)) = m1 at acc
  have ag : oAg (fun p _ => p = 50) m m1 := by
    rw [← hm]
    have a : ∀ {n : oM} {k : Nat} {y : Int32}, oAg (fun p _ => p = 50) n (oSI n 50 k y) := fun {n k y} => oAg.SI (S := fun p _ => p = 50) rfl
    have b : ∀ {n : oM} {k : Nat} {y : Int64}, oAg (fun p _ => p = 50) n (oSL n 50 k y) := fun {n k y} => oAg.SL (S := fun p _ => p = 50) rfl
    exact ((((a.tr a).tr a).tr a).tr b).tr b
  have take : (∀ d, D' d → d = x ∨ fBet A B x d) → F_X0_offer m (nI x.1) (nI x.2.1) (nI x.2.2.1) (nI x.2.2.2) = F_X0_offer_J80 m (nI x.1) (nI x.2.1) (nI x.2.2.1) (nI x.2.2.2) (lN (fQ x)) X7 → ∃ m', F_X0_offer m (nI x.1) (nI x.2.1) (nI x.2.2.1) (nI x.2.2.2) = some m' ∧ FI A B le mo D' m' ∧ oAg (fun p _ => p = 50) m m' := by
    intro z e
    refine ⟨m1, e.trans acc, ?_, ag⟩
    rw [← hm]
    exact ⟨⟨h0, h1, h2, h3⟩, Or.inr ⟨x, hx, ⟨rfl, rfl, rfl, rfl, e7, rfl⟩, z⟩⟩
  rcases hc with ⟨n1, n2, n3⟩ | ⟨c, cc, cs, cd⟩
  · refine take (fun d hd => ?_) ?_
    · rcases (hD' d hd).1 with z | z
      · exact absurd z (n1 d)
      · exact z
    · rw [body, if_pos]
      have e1 := lN_t (n := fQ x) (by omega)
      have e2 : ((1 : Int64) * lN (fQ x)).toInt = fQ x := by rw [Int64.one_mul, e1]
      rw [n2, n3, Int64.mul_zero, if_pos (show (0 : Int64) ≤ 1 by decide), l_lt, Int64.toInt_zero, e2]
      omega
  · obtain ⟨cb1, cb2, cb3, cb4⟩ := cand_b hR cc
    have cq := cand_q hR cc
    obtain ⟨co1, co2, -⟩ := cand_o hR cc
    have cs' := cs
    obtain ⟨-, -, -, -, s8, s9⟩ := cs
    have a1 : (if 0 ≤ X7 then X7 else -X7).toInt = ((fOff A B x).natAbs : Int) := by rw [l_abs (by omega), e7]
    have a2 : (if 0 ≤ m.2 50 8 then m.2 50 8 else -m.2 50 8).toInt = ((fOff A B c).natAbs : Int) := by rw [l_abs (by omega), s8]
    have t1 := lN_t (n := fQ x) (by omega)
    have t2 := lN_t (n := fQ c) (by omega)
    have k1 : (fOff A B x).natAbs * fQ c ≤ 98000199 * 9801 := Nat.mul_le_mul (by omega) cq.2
    have k2 : (fOff A B c).natAbs * fQ x ≤ 98000199 * 9801 := Nat.mul_le_mul (by omega) q.2
    have g1 : ((fOff A B x).natAbs : Int) * (fQ c : Int) = (((fOff A B x).natAbs * fQ c : Nat) : Int) := (Int.natCast_mul _ _).symm
    have g2 : ((fOff A B c).natAbs : Int) * (fQ x : Int) = (((fOff A B c).natAbs * fQ x : Nat) : Int) := (Int.natCast_mul _ _).symm
    have e9 : ((if 0 ≤ X7 then X7 else -X7) * m.2 50 9).toInt = (((fOff A B x).natAbs * fQ c : Nat) : Int) := by
      rw [s9, l_mul] <;> rw [a1, t2, g1] <;> omega
    have e11 : ((if 0 ≤ m.2 50 8 then m.2 50 8 else -m.2 50 8) * lN (fQ x)).toInt = (((fOff A B c).natAbs * fQ x : Nat) : Int) := by
      rw [l_mul] <;> rw [a2, t1, g2] <;> omega
    have win : fBet A B x c → ∀ d, D' d → d = x ∨ fBet A B x d := by
      intro z d hd
      obtain ⟨w, wq⟩ := hD' d hd
      rcases w with w | w
      · rcases cd d w with y | y
        · rw [y]
          exact Or.inr z
        · exact Or.inr (fBet_tr (by omega) (by omega) wq z y)
      · exact w
    have keep : ¬ fBet A B x c → F_X0_offer m (nI x.1) (nI x.2.1) (nI x.2.2.1) (nI x.2.2.2) = some m → ∃ m', F_X0_offer m (nI x.1) (nI x.2.1) (nI x.2.2.1) (nI x.2.2.2) = some m' ∧ FI A B le mo D' m' ∧ oAg (fun p _ => p = 50) m m' := by
      intro z e
      refine ⟨m, e, ⟨⟨h0, h1, h2, h3⟩, Or.inr ⟨c, cc, cs', fun d hd => ?_⟩⟩, oAg.rf⟩
      obtain ⟨w, wq⟩ := hD' d hd
      have xc := fBet_tot z
      rcases w with w | w | w
      · exact cd d w
      · rw [w]
        exact xc
      · rcases xc with y | y
        · rw [← y]
          exact Or.inr w
        · exact Or.inr (fBet_tr (by omega) (by omega) wq y w)
    by_cases c1 : (fOff A B x).natAbs * fQ c < (fOff A B c).natAbs * fQ x
    · refine take (win (Or.inl c1)) ?_
      rw [body, if_pos (by rw [l_lt, e9, e11]; omega)]
    · have nl : ¬ (if 0 ≤ X7 then X7 else -X7) * m.2 50 9 < (if 0 ≤ m.2 50 8 then m.2 50 8 else -m.2 50 8) * lN (fQ x) := by
        rw [l_lt, e9, e11]
        omega
      rw [if_neg nl] at body
      by_cases c2 : (fOff A B x).natAbs * fQ c = (fOff A B c).natAbs * fQ x
      · rw [if_pos (show (if 0 ≤ X7 then X7 else -X7) * m.2 50 9 = (if 0 ≤ m.2 50 8 then m.2 50 8 else -m.2 50 8) * lN (fQ x) by rw [l_eq, e9, e11, c2]), c_isAhead ⟨cb1.2, cb2, cb3.2, cb4⟩ ⟨b1.2, b2, b3.2, b4⟩ cs' (Classical.propDecidable _), o_b] at body
        by_cases t : fTie x c
        · rw [if_pos t, if_neg i10] at body
          exact take (win (Or.inr ⟨c2, t⟩)) body
        · rw [if_neg t, if_pos rfl] at body
          refine keep ?_ body
          rintro (z | z)
          · exact c1 z
          · exact t z.2
      · rw [if_neg (show ¬ (if 0 ≤ X7 then X7 else -X7) * m.2 50 9 = (if 0 ≤ m.2 50 8 then m.2 50 8 else -m.2 50 8) * lN (fQ x) by rw [l_eq, e9, e11]; omega)] at body
        refine keep ?_ body
        rintro (z | z)
        · exact c1 z
        · exact c2 z.1
theorem c_within {u d : Nat} (hu : u < 2 ^ 40) (hd : d ≤ 99) (hm : mo ≤ 99) : F_X0_within (lN u) (nI d) (nI mo) = some (nI (max d (min mo u))) := by
  have t1 := lN_t (n := u) (by omega)
  have t2 := lN_t (n := d) (by omega)
  have t3 := lN_t (n := mo) (by omega)
  have e1 : F_J9_min_f86c9 (lN mo) (lN u) = some (lN (min mo u)) := by
    unfold F_J9_min_f86c9
    by_cases c : u < mo
    · rw [if_pos (by rw [l_lt, t1, t3]; omega), Nat.min_eq_right (by omega)]
    · rw [if_neg (by rw [l_lt, t1, t3]; omega), Nat.min_eq_left (by omega)]
  have t4 := lN_t (n := min mo u) (by omega)
  have e2 : F_J9_max_f86c9 (lN d) (lN (min mo u)) = some (lN (max d (min mo u))) := by
    unfold F_J9_max_f86c9
    by_cases c : d < min mo u
    · rw [if_pos (by rw [l_lt, t2, t4]; omega), Nat.max_eq_right (by omega)]
    · rw [if_neg (by rw [l_lt, t2, t4]; omega), Nat.max_eq_left (by omega)]
  unfold F_X0_within
  rw [nI_l (by omega), nI_l (by omega), e1, o_b, e2, o_b, lN_i]
/-- only the two around the one that is due can be best -/
theorem four_dom {d e f g : Nat} (hR : fRng A B le mo) (hd : le ≤ d) (he : d ≤ e) (hem : e ≤ mo) (hq : 0 < fP f g) :
    (d, e, f, g) = (d, max d (min mo (A * fP f g / (B * d))), f, g) ∨ fBet A B (d, max d (min mo (A * fP f g / (B * d))), f, g) (d, e, f, g) ∨ (d, e, f, g) = (d, max d (min mo (A * fP f g / (B * d) + 1)), f, g) ∨ fBet A B (d, max d (min mo (A * fP f g / (B * d) + 1)), f, g) (d, e, f, g) := by
  unfold fRng at hR
  have hK : 0 < B * d := Nat.mul_pos (by omega) (by omega)
  generalize hX : A * fP f g = X
  have dm := Nat.div_add_mod X (B * d)
  have ml := Nat.mod_lt X hK
  generalize hu : X / (B * d) = u at dm
  have off : ∀ k, d ≤ k → fOff A B (d, k, f, g) = ((B * d * k : Nat) : Int) - (X : Nat) := by
    intro k hk
    show ((fP d k * B : Nat) : Int) - (A * fP f g : Nat) = _
    rw [hX]
    unfold fP
    rw [if_neg (by omega), show d * k * B = B * d * k by rw [Nat.mul_comm (d * k) B, Nat.mul_assoc]]
  have bet : ∀ k, d ≤ k → (fOff A B (d, k, f, g)).natAbs < (fOff A B (d, e, f, g)).natAbs → fBet A B (d, k, f, g) (d, e, f, g) := fun k hk h => Or.inl (Nat.mul_lt_mul_of_pos_right h hq)
  generalize hKK : B * d = K at *
  by_cases c : e ≤ u
  · have m1 : max d (min mo u) = min mo u := Nat.max_eq_right (by omega)
    rw [m1]
    by_cases z : e = min mo u
    · left
      rw [← z]
    · right
      left
      refine bet _ (by omega) ?_
      rw [off _ (by omega), off _ he]
      have y1 : K * e < K * min mo u := Nat.mul_lt_mul_of_pos_left (by omega) hK
      have y2 : K * min mo u ≤ K * u := Nat.mul_le_mul_left K (by omega)
      omega
  · have m1 : min mo (u + 1) = u + 1 := Nat.min_eq_right (by omega)
    rw [m1]
    by_cases z : e = max d (u + 1)
    · right
      right
      left
      rw [← z]
    · right
      right
      right
      refine bet _ (by omega) ?_
      rw [off _ (by omega), off _ he]
      have y1 : K * max d (u + 1) < K * e := Nat.mul_lt_mul_of_pos_left (by omega) hK
      have y2 : K * (u + 1) ≤ K * max d (u + 1) := Nat.mul_le_mul_left K (by omega)
      have y3 : K * (u + 1) = K * u + K := Nat.mul_succ K u
      omega
theorem c_off4 {D D' : oQ4 → Prop} (hR : fRng A B le mo) (hF : FI A B le mo D m) {d f g : Nat} (hd : le ≤ d ∧ d ≤ mo) (hf : le ≤ f ∧ f ≤ g) (hg : g ≤ mo) (hD : ∀ y, D y → 0 < fQ y) (hD' : ∀ y, D' y → D y ∨ (y.1 = d ∧ y.2.2.1 = f ∧ y.2.2.2 = g ∧ d ≤ y.2.1 ∧ y.2.1 ≤ mo)) :
    ∃ m', F_X0_offerFourth m (nI d) (nI f) (nI g) = some m' ∧ FI A B le mo D' m' ∧ oAg (fun p _ => p = 50) m m' := by
  have hR' := hR
  unfold fRng at hR'
  obtain ⟨⟨h0, h1, h2, h3⟩, -⟩ := id hF
  have hq := fP_b (x := f) (y := g) (by omega) (by omega) (by omega)
  have e4 : fP f g = f * g := if_neg (by omega)
  have k1 : A * fP f g ≤ 9999 * 9801 := Nat.mul_le_mul (by omega) hq.2
  have k2 : B * d ≤ 9999 * 99 := Nat.mul_le_mul (by omega) (by omega)
  have hK : 0 < B * d := Nat.mul_pos (by omega) (by omega)
  have ud := Nat.div_le_self (A * fP f g) (B * d)
  have quo : F_X8_quotient (((m.2 50 0) * (nI f).toInt64) * (nI g).toInt64) ((m.2 50 1) * (nI d).toInt64) = some (lN (A * fP f g / (B * d))) := by
    rw [h0, h1, nI_l (by omega), nI_l (by omega), nI_l (by omega), lN_mul, lN_mul, lN_mul, Nat.mul_assoc, ← e4, c_quot (l_ne0 (by rw [lN_t (by omega)]; omega)), lN_div (by omega) (by omega) hK]
  have dom := fun e (x : d ≤ e) (y : e ≤ mo) => four_dom (f := f) (g := g) hR hd.1 x y hq.1
  generalize A * fP f g / (B * d) = u at quo dom ud
  have w1 := c_within (u := u) (d := d) (mo := mo) (by omega) (by omega) (by omega)
  have w2 := c_within (u := u + 1) (d := d) (mo := mo) (by omega) (by omega) (by omega)
  have cand : ∀ k, fCand le mo (d, max d (min mo k), f, g) := fun k => by
    refine ⟨hd.1, hd.2, hf.1, ?_, Or.inr ⟨?_, ?_, hf.2, hg⟩⟩
    · show f ≤ mo
      omega
    · show d ≤ max d (min mo k)
      omega
    · show max d (min mo k) ≤ mo
      omega
  have qq : ∀ k, 0 < fQ (d, k, f, g) := fun k => hq.1
  obtain ⟨m1, e1, f1, g1⟩ := c_offer (D' := fun y => 0 < fQ y ∧ (D y ∨ y = (d, max d (min mo u), f, g) ∨ fBet A B (d, max d (min mo u), f, g) y)) hR hF (cand u) hD (fun y z => ⟨z.2, z.1⟩)
  have e1' : F_X0_offer m (nI d) (nI (max d (min mo u))) (nI f) (nI g) = some m1 := e1
  have sub : ∀ y, D' y → (0 < fQ y ∧ (D y ∨ y = (d, max d (min mo u), f, g) ∨ fBet A B (d, max d (min mo u), f, g) y)) ∨ y = (d, max d (min mo (u + 1)), f, g) ∨ fBet A B (d, max d (min mo (u + 1)), f, g) y := by
    intro y hy
    rcases hD' y hy with z | ⟨z1, z2, z3, z4, z5⟩
    · exact Or.inl ⟨hD y z, Or.inl z⟩
    · have ye : y = (d, y.2.1, f, g) := Prod.ext z1 (Prod.ext rfl (Prod.ext z2 z3))
      have q0 : 0 < fQ y := by rw [ye]; exact qq _
      have dm := dom y.2.1 z4 z5
      rw [← ye] at dm
      rcases dm with w | w | w | w
      · exact Or.inl ⟨q0, Or.inr (Or.inl w)⟩
      · exact Or.inl ⟨q0, Or.inr (Or.inr w)⟩
      · exact Or.inr (Or.inl w)
      · exact Or.inr (Or.inr w)
  have pos' : ∀ y, D' y → 0 < fQ y := by
    intro y hy
    rcases hD' y hy with z | ⟨z1, z2, z3, z4, z5⟩
    · exact hD y z
    · rw [show y = (d, y.2.1, f, g) from Prod.ext z1 (Prod.ext rfl (Prod.ext z2 z3))]
      exact qq _
  have body : F_X0_offerFourth m (nI d) (nI f) (nI g) = if nI (max d (min mo (u + 1))) = nI (max d (min mo u)) then some m1 else (F_X0_offer m1 (nI d) (nI (max d (min mo (u + 1)))) (nI f) (nI g)).bind fun r70 => some r70 := by
    unfold F_X0_offerFourth
    rw [quo, o_b, h3, w1, o_b, lN_1, w2, o_b, e1', o_b]
  by_cases c : max d (min mo (u + 1)) = max d (min mo u)
  · rw [if_pos (congrArg nI c)] at body
    refine ⟨m1, body, f1.mono (fun y hy => ?_), g1⟩
    rcases sub y hy with z | z
    · exact z
    · rw [c] at z
      exact ⟨pos' y hy, Or.inr z⟩
  · rw [if_neg (fun z => c ((nI_eq (by omega) (by omega)).mp z))] at body
    obtain ⟨m2, e2, f2, g2⟩ := c_offer (D' := D') hR f1 (cand (u + 1)) (fun y z => z.1) (fun y hy => ⟨sub y hy, pos' y hy⟩)
    have e2' : F_X0_offer m1 (nI d) (nI (max d (min mo (u + 1)))) (nI f) (nI g) = some m2 := e2
    rw [e2', o_b] at body
    exact ⟨m2, body, f2, g1.tr g2⟩
end FOUND2
