/-! found: the order of trains, what the class offers -/
abbrev oQ4 : Type := Nat × Nat × Nat × Nat
theorem fn_tr {oc od oe qc qd qe : Nat} (hd : 0 < qd) (h1 : oc * qd ≤ od * qc) (h2 : od * qe ≤ oe * qd) : oc * qe ≤ oe * qc := by
  refine Nat.le_of_mul_le_mul_right (c := qd) ?_ hd
  have a1 : oc * qe * qd = oc * qd * qe := Nat.mul_right_comm _ _ _
  have a2 : od * qc * qe = od * qe * qc := Nat.mul_right_comm _ _ _
  have a3 : oe * qc * qd = oe * qd * qc := Nat.mul_right_comm _ _ _
  have a4 := Nat.mul_le_mul_right qe h1
  have a5 := Nat.mul_le_mul_right qc h2
  omega
theorem fn_trl {oc od oe qc qd qe : Nat} (hd : 0 < qd) (he : 0 < qe) (h1 : oc * qd < od * qc) (h2 : od * qe ≤ oe * qd) : oc * qe < oe * qc := by
  refine Nat.lt_of_mul_lt_mul_right (a := qd) ?_
  have a1 : oc * qe * qd = oc * qd * qe := Nat.mul_right_comm _ _ _
  have a2 : od * qc * qe = od * qe * qc := Nat.mul_right_comm _ _ _
  have a3 : oe * qc * qd = oe * qd * qc := Nat.mul_right_comm _ _ _
  have a4 := Nat.mul_lt_mul_of_pos_right h1 he
  have a5 := Nat.mul_le_mul_right qc h2
  omega
theorem fn_trr {oc od oe qc qd qe : Nat} (hd : 0 < qd) (hc : 0 < qc) (h1 : oc * qd ≤ od * qc) (h2 : od * qe < oe * qd) : oc * qe < oe * qc := by
  refine Nat.lt_of_mul_lt_mul_right (a := qd) ?_
  have a1 : oc * qe * qd = oc * qd * qe := Nat.mul_right_comm _ _ _
  have a2 : od * qc * qe = od * qe * qc := Nat.mul_right_comm _ _ _
  have a3 : oe * qc * qd = oe * qd * qc := Nat.mul_right_comm _ _ _
  have a4 := Nat.mul_le_mul_right qe h1
  have a5 := Nat.mul_lt_mul_of_pos_right h2 hc
  omega
theorem fTie_tr {c d e : oQ4} (h1 : fTie c d) (h2 : fTie d e) : fTie c e := by
  unfold fTie at *
  omega
theorem fBet_tr {A B : Nat} {c d e : oQ4} (qc : 0 < fQ c) (qd : 0 < fQ d) (qe : 0 < fQ e) (h1 : fBet A B c d) (h2 : fBet A B d e) : fBet A B c e := by
  unfold fBet at *
  rcases h1 with h1 | ⟨h1, t1⟩
  · rcases h2 with h2 | ⟨h2, t2⟩
    · exact Or.inl (fn_trl qd qe h1 (Nat.le_of_lt h2))
    · exact Or.inl (fn_trl qd qe h1 (Nat.le_of_eq h2))
  · rcases h2 with h2 | ⟨h2, t2⟩
    · exact Or.inl (fn_trr qd qc (Nat.le_of_eq h1) h2)
    · exact Or.inr ⟨Nat.le_antisymm (fn_tr qd (Nat.le_of_eq h1) (Nat.le_of_eq h2)) (fn_tr qd (Nat.le_of_eq h2.symm) (Nat.le_of_eq h1.symm)), fTie_tr t1 t2⟩
theorem fBet_as {A B : Nat} {c d : oQ4} (h1 : fBet A B c d) (h2 : fBet A B d c) : False := by
  unfold fBet fTie at *
  omega
theorem fTie_eq {c d : oQ4} (h1 : ¬ fTie c d) (h2 : ¬ fTie d c) : c = d := by
  have h : c.1 = d.1 ∧ c.2.1 = d.2.1 ∧ c.2.2.1 = d.2.2.1 ∧ c.2.2.2 = d.2.2.2 := by
    unfold fTie fTee at *
    omega
  exact Prod.ext h.1 (Prod.ext h.2.1 (Prod.ext h.2.2.1 h.2.2.2))
theorem fBet_tot {A B : Nat} {x c : oQ4} (h : ¬ fBet A B x c) : x = c ∨ fBet A B c x := by
  unfold fBet at *
  rcases Nat.lt_trichotomy ((fOff A B x).natAbs * fQ c) ((fOff A B c).natAbs * fQ x) with z | z | z
  · exact absurd (Or.inl z) h
  · by_cases t : fTie c x
    · exact Or.inr (Or.inr ⟨z.symm, t⟩)
    · exact Or.inl (fTie_eq (fun y => h (Or.inr ⟨z, y⟩)) t)
  · exact Or.inr (Or.inl z)
theorem fP_b {x y : Nat} (hx : x ≤ 99) (hy : y ≤ 99) (h1 : 1 ≤ x) : 1 ≤ fP x y ∧ fP x y ≤ 9801 := by
  unfold fP
  by_cases z : y = 0
  · rw [if_pos z]
    omega
  · rw [if_neg z]
    have h2 : x * y ≤ 99 * 99 := Nat.mul_le_mul hx hy
    have h3 : 1 * 1 ≤ x * y := Nat.mul_le_mul h1 (by omega)
    omega
def fRng (A B le mo : Nat) : Prop := 1 ≤ A ∧ A ≤ 9999 ∧ 1 ≤ B ∧ B ≤ 9999 ∧ 10 ≤ le ∧ le ≤ mo ∧ mo ≤ 99
theorem cand_b {A B le mo : Nat} {c : oQ4} (hR : fRng A B le mo) (h : fCand le mo c) : (1 ≤ c.1 ∧ c.1 ≤ 99) ∧ c.2.1 ≤ 99 ∧ (1 ≤ c.2.2.1 ∧ c.2.2.1 ≤ 99) ∧ c.2.2.2 ≤ 99 := by
  unfold fRng at hR
  unfold fCand at h
  omega
theorem cand_q {A B le mo : Nat} {c : oQ4} (hR : fRng A B le mo) (h : fCand le mo c) : 1 ≤ fQ c ∧ fQ c ≤ 9801 := by
  obtain ⟨h1, h2, h3, h4⟩ := cand_b hR h
  exact fP_b h3.2 h4 h3.1
theorem cand_o {A B le mo : Nat} {c : oQ4} (hR : fRng A B le mo) (h : fCand le mo c) : -98000199 ≤ fOff A B c ∧ fOff A B c ≤ 98000199 ∧ fP c.1 c.2.1 * B ≤ 98000199 ∧ A * fQ c ≤ 98000199 ∧ fP c.1 c.2.1 ≤ 9801 := by
  obtain ⟨h1, h2, h3, h4⟩ := cand_b hR h
  have q := cand_q hR h
  have p := fP_b h1.2 h2 h1.1
  unfold fRng at hR
  have k1 : fP c.1 c.2.1 * B ≤ 9801 * 9999 := Nat.mul_le_mul p.2 hR.2.2.2.1
  have k2 : A * fQ c ≤ 9999 * 9801 := Nat.mul_le_mul hR.2.1 q.2
  have e : fOff A B c = ((fP c.1 c.2.1 * B : Nat) : Int) - (A * fQ c : Nat) := rfl
  rw [e]
  omega
def fShow (A B : Nat) (c : oQ4) (m : oM) : Prop := m.1 50 4 = nI c.1 ∧ m.1 50 5 = nI c.2.1 ∧ m.1 50 6 = nI c.2.2.1 ∧ m.1 50 7 = nI c.2.2.2 ∧ (m.2 50 8).toInt = fOff A B c ∧ m.2 50 9 = lN (fQ c)
def fHead (A B le mo : Nat) (m : oM) : Prop := m.2 50 0 = lN A ∧ m.2 50 1 = lN B ∧ m.1 50 2 = nI le ∧ m.1 50 3 = nI mo
/-- the finder's memory: the best of all trains of D -/
def FI (A B le mo : Nat) (D : oQ4 → Prop) (m : oM) : Prop := fHead A B le mo m ∧ (((∀ d, ¬ D d) ∧ m.2 50 8 = 1 ∧ m.2 50 9 = 0) ∨ ∃ c, fCand le mo c ∧ fShow A B c m ∧ ∀ d, D d → d = c ∨ fBet A B c d)
theorem FI.mono {A B le mo : Nat} {D D' : oQ4 → Prop} {m : oM} (h : FI A B le mo D m) (hd : ∀ d, D' d → D d) : FI A B le mo D' m := by
  refine ⟨h.1, ?_⟩
  rcases h.2 with ⟨h1, h2⟩ | ⟨c, h1, h2, h3⟩
  · exact Or.inl ⟨fun d z => h1 d (hd d z), h2⟩
  · exact Or.inr ⟨c, h1, h2, fun d z => h3 d (hd d z)⟩
theorem l_abs {x : Int64} (h : -9223372036854775807 ≤ x.toInt) : (if 0 ≤ x then x else -x).toInt = (x.toInt.natAbs : Int) := by
  by_cases c : 0 ≤ x
  · rw [if_pos c]
    rw [l_le, Int64.toInt_zero] at c
    omega
  · rw [if_neg c, l_neg h]
    rw [l_le, Int64.toInt_zero] at c
    omega
theorem c_prod {x y : Nat} (hx : x ≤ 99) (hy : y ≤ 99) : F_X0_product (nI x) (nI y) = some (lN (fP x y)) := by
  unfold F_X0_product fP
  by_cases z : y = 0
  · rw [if_pos (show nI y = 0 by rw [z]; rfl), if_pos z, nI_l (by omega)]
  · rw [if_neg (nI_ne0 (by omega) (by omega)), if_neg z, nI_l (by omega), nI_l (by omega), lN_mul]
section FOUND1
variable {m : oM} {A B le mo : Nat}
theorem c_isAhead {c x : oQ4} (hc : c.1 ≤ 99 ∧ c.2.1 ≤ 99 ∧ c.2.2.1 ≤ 99 ∧ c.2.2.2 ≤ 99) (hx : x.1 ≤ 99 ∧ x.2.1 ≤ 99 ∧ x.2.2.1 ≤ 99 ∧ x.2.2.2 ≤ 99) (hs : fShow A B c m) (d : Decidable (fTie x c)) : F_X0_isAhead m (nI x.1) (nI x.2.1) (nI x.2.2.1) (nI x.2.2.2) = some (if fTie x c then 1 else 0) := by
  obtain ⟨s1, s2, s3, s4, -⟩ := hs
  obtain ⟨x1, x2, x3, x4⟩ := hx
  obtain ⟨c1, c2, c3, c4⟩ := hc
  have T : F_X0_allTeeth m = some (nI (c.1 + c.2.1 + c.2.2.1 + c.2.2.2)) := by
    unfold F_X0_allTeeth
    rw [s1, s2, s3, s4, nI_add, nI_add, nI_add]
  have S : ∀ t0, F_X0_isOnePair m = some t0 → (x.2.1 = 0 ↔ c.2.1 = 0) → F_X0_isAhead_J9 m (nI x.1) (nI x.2.1) (nI x.2.2.1) (nI x.2.2.2) t0 = some (if fTie x c then 1 else 0) := by
    intro t0 h0 hk
    unfold F_X0_isAhead_J9
    rw [h0, o_b, if_pos rfl, nI_add, nI_add, nI_add, o_b, T, o_b, o_b, s1, s2, s3]
    by_cases k1 : x.1 + x.2.1 + x.2.2.1 + x.2.2.2 = c.1 + c.2.1 + c.2.2.1 + c.2.2.2
    · rw [if_pos (congrArg nI k1)]
      by_cases k2 : x.1 = c.1
      · rw [if_pos (congrArg nI k2)]
        by_cases k3 : x.2.1 = c.2.1
        · rw [if_pos (congrArg nI k3)]
          by_cases k4 : c.2.2.1 ≤ x.2.2.1
          · rw [if_pos (nI_le k4 (by omega)), if_neg (show ¬ fTie x c by unfold fTie fTee; omega)]
          · rw [if_neg (nI_ge (by omega) (by omega)), if_pos (show fTie x c by unfold fTie fTee; omega)]
        · rw [if_neg (fun z => k3 ((nI_eq (by omega) (by omega)).mp z))]
          by_cases k4 : c.2.1 ≤ x.2.1
          · rw [if_pos (nI_le k4 (by omega)), if_neg (show ¬ fTie x c by unfold fTie fTee; omega)]
          · rw [if_neg (nI_ge (by omega) (by omega)), if_pos (show fTie x c by unfold fTie fTee; omega)]
      · rw [if_neg (fun z => k2 ((nI_eq (by omega) (by omega)).mp z))]
        by_cases k4 : c.1 ≤ x.1
        · rw [if_pos (nI_le k4 (by omega)), if_neg (show ¬ fTie x c by unfold fTie fTee; omega)]
        · rw [if_neg (nI_ge (by omega) (by omega)), if_pos (show fTie x c by unfold fTie fTee; omega)]
    · rw [if_neg (fun z => k1 ((nI_eq (by omega) (by omega)).mp z))]
      by_cases k4 : c.1 + c.2.1 + c.2.2.1 + c.2.2.2 ≤ x.1 + x.2.1 + x.2.2.1 + x.2.2.2
      · rw [if_pos (nI_le k4 (by omega)), if_neg (show ¬ fTie x c by unfold fTie fTee; omega)]
      · rw [if_neg (nI_ge (by omega) (by omega)), if_pos (show fTie x c by unfold fTie fTee; omega)]
  have one1 : c.2.1 = 0 → F_X0_isOnePair m = some 1 := fun z => by
    unfold F_X0_isOnePair
    rw [s2, if_pos (by rw [z]; rfl)]
  have one0 : ¬ c.2.1 = 0 → F_X0_isOnePair m = some 0 := fun z => by
    unfold F_X0_isOnePair
    rw [s2, if_neg (nI_ne0 (by omega) (by omega))]
  unfold F_X0_isAhead
  by_cases k : x.2.1 = 0
  · rw [if_pos (show nI x.2.1 = 0 by rw [k]; rfl)]
    by_cases w : c.2.1 = 0
    · exact S 1 (one1 w) ⟨fun _ => w, fun _ => k⟩
    · unfold F_X0_isAhead_J9
      rw [one0 w, o_b, if_neg (by decide), if_pos (show nI x.2.1 = 0 by rw [k]; rfl), if_pos (show fTie x c by unfold fTie; omega)]
  · have kn : ¬ nI x.2.1 = 0 := nI_ne0 (by omega) (by omega)
    rw [if_neg kn]
    by_cases w : c.2.1 = 0
    · unfold F_X0_isAhead_J9
      rw [one1 w, o_b, if_neg (by decide), if_neg kn, if_neg (show ¬ fTie x c by unfold fTie; omega)]
    · exact S 0 (one0 w) ⟨fun z => absurd z k, fun z => absurd z w⟩
end FOUND1
