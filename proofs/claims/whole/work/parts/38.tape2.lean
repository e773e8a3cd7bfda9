/-! the tape as pairs: the reference's steps -/
section PAIRSR
variable {m : oM}
/-- the tape in the reference's memory -/
def rM (n : Nat) (t : Nat → Int32) (mr : oM) : Prop := n ≤ 60 ∧ mr.1 51 8 = nI n ∧ ∀ i, i < n → mr.1 55 i = t i
/-- the reference stands at p, all bytes ahead of it fitting; or has told the fault -/
def rS (n : Nat) (t : Nat → Int32) (p : Nat) (mr : oM) : Prop := (p ≤ n ∧ (∀ i, i < p → fitT t i) ∧ mr.1 51 11 = nI p ∧ mr.1 51 12 = -1) ∨ (∃ f a, IsF n t f ∧ a ≤ n ∧ mr.1 51 11 = nI a ∧ mr.1 51 12 = nI f)
def S51 (q k : Nat) : Prop := q = 51 ∧ (k = 11 ∨ k = 12)
theorem rM.ag {n : Nat} {t : Nat → Int32} {mr mr' : oM} {S : Nat → Nat → Prop} (h : rM n t mr) (ag : oAg S mr mr') (h1 : ¬ S 51 8) (h2 : ∀ k, ¬ S 55 k) : rM n t mr' := ⟨h.1, (ag 51 8 h1).1.trans h.2.1, fun i hi => (ag 55 i (h2 i)).1.trans (h.2.2 i hi)⟩
theorem rS.ag {n p : Nat} {t : Nat → Int32} {mr mr' : oM} {S : Nat → Nat → Prop} (h : rS n t p mr) (ag : oAg S mr mr') (h1 : ¬ S 51 11) (h2 : ¬ S 51 12) : rS n t p mr' := by
  have e1 := (ag 51 11 h1).1
  have e2 := (ag 51 12 h2).1
  unfold rS
  rw [e1, e2]
  exact h
theorem nm1 {f : Nat} (h : f < 100) : ¬ nI f = -1 := by
  rw [i_eq, nI_toInt (by omega), show (-1 : Int32).toInt = -1 by decide]
  omega
theorem r_here {n : Nat} {t : Nat → Int32} {mr : oM} (hM : rM n t mr) {a : Nat} (ha : a ≤ n) (h : mr.1 51 11 = nI a) : F_X9_here mr = some (if a < n then t a else 0) := by
  have h60 := hM.1
  unfold F_X9_here
  rw [hM.2.1, h]
  by_cases c : a < n
  · rw [if_neg (nI_ge c (by omega)), if_pos c, a_ld (n := 60) rfl (by omega) (by omega), o_b, hM.2.2 a c]
  · rw [if_pos (nI_le (by omega) (by omega)), if_neg c]
theorem r_fails1 {mr : oM} (h : mr.1 51 12 = -1) : F_X9_fails mr = some (oSI mr 51 12 (mr.1 51 11)) := by
  unfold F_X9_fails
  rw [if_pos h, o_b]
theorem r_fails0 {mr : oM} (h : ¬ mr.1 51 12 = -1) : F_X9_fails mr = some mr := by
  unfold F_X9_fails
  rw [if_neg h]
theorem IsF.lt {n : Nat} {t : Nat → Int32} {f : Nat} (h : IsF n t f) (h60 : n ≤ 60) : f < 100 := by
  have := h.1
  omega
theorem rS.at_p {n p : Nat} {t : Nat → Int32} {mr : oM} (hM : rM n t mr) (h1 : p ≤ n) (h2 : ∀ i, i < p → fitT t i) (h3 : p < n → ¬ fitT t p) (h8 : p % 9 ≠ 8) (h4 : mr.1 51 11 = nI p) : rS n t (p + 1) (oSI mr 51 12 (mr.1 51 11)) := by
  refine Or.inr ⟨p, p, ⟨h1, h2, h3, fun z => by rw [← z]; exact h8⟩, h1, (SI_ne (by omega)).trans h4, ?_⟩
  rw [SI_eq, h4]
theorem rS.on_p {n p : Nat} {t : Nat → Int32} {mr : oM} (h1 : p < n) (h2 : ∀ i, i < p → fitT t i) (h3 : fitT t p) (h5 : mr.1 51 12 = -1) : rS n t (p + 1) (oSI mr 51 11 (nI (p + 1))) := by
  refine Or.inl ⟨h1, fun i hi => ?_, SI_eq, (SI_ne (by omega)).trans h5⟩
  rcases Nat.lt_or_ge i p with z | z
  · exact h2 i z
  · rw [show i = p by omega]
    exact h3
theorem r_fig {n p L : Nat} {t : Nat → Int32} {mr : oM} (hL : L = 0 ∨ L = 1) (hM : rM n t mr) (hS : rS n t p mr) (h8 : p % 9 ≠ 8) (hj : ∀ x, fitP (p % 9) x ↔ (48 + L : Int) ≤ x.toInt ∧ x.toInt ≤ 57) :
    ∃ v mr', F_X9_figure mr (nI L) = some (v, mr') ∧ rS n t (p + 1) mr' ∧ oAg S51 mr mr' ∧ (mr'.1 51 12 = -1 → mr.1 51 12 = -1 ∧ v = t p - 48) := by
  have h60 := hM.1
  have eL : ((48 + nI L : Int32).toInt64).toInt = (48 + L : Int) := by rcases hL with rfl | rfl <;> decide
  unfold F_X9_figure
  rcases hS with ⟨p1, p2, a1, a2⟩ | ⟨f, a, f1, f2, f3, f4⟩
  · rw [r_here hM p1 a1, o_b, if_pos a2]
    have bad : (p < n → ¬ fitT t p) → ∃ v mr', (some (0, oSI mr 51 12 (mr.1 51 11)) : Option (Int32 × oM)) = some (v, mr') ∧ rS n t (p + 1) mr' ∧ oAg S51 mr mr' ∧ (mr'.1 51 12 = -1 → mr.1 51 12 = -1 ∧ v = t p - 48) := fun h => ⟨0, _, rfl, rS.at_p hM p1 p2 h h8 a1, oAg.SI ⟨rfl, Or.inr rfl⟩, fun z => absurd (by rw [← z, SI_eq, a1] : nI p = -1) (nm1 (by omega))⟩
    by_cases c : p < n
    · rw [if_pos c]
      by_cases k : (48 + L : Int) ≤ (t p).toInt ∧ (t p).toInt ≤ 57
      · rw [isIn1 eL (show (57 : Int64).toInt = 57 by decide) (by rw [i_long]; exact k), o_b, if_neg i10, o_b, a1, nI_1]
        exact ⟨_, _, rfl, rS.on_p c p2 ((hj _).mpr k) a2, oAg.SI ⟨rfl, Or.inl rfl⟩, fun _ => ⟨a2, rfl⟩⟩
      · rw [isIn0 eL (show (57 : Int64).toInt = 57 by decide) (by rw [i_long]; exact k), o_b, if_pos rfl, r_fails1 a2, o_b]
        exact bad (fun _ z => k ((hj _).mp z))
    · rw [if_neg c, isIn0 eL (show (57 : Int64).toInt = 57 by decide) (by rw [i_long, Int32.toInt_zero]; omega), o_b, if_pos rfl, r_fails1 a2, o_b]
      exact bad (fun z => absurd z c)
  · have nf : ¬ mr.1 51 12 = -1 := by
      rw [f4]
      exact nm1 (f1.lt h60)
    rw [r_here hM f2 f3, o_b, if_neg nf, r_fails0 nf, o_b]
    exact ⟨_, _, rfl, Or.inr ⟨f, a, f1, f2, f3, f4⟩, oAg.rf, fun z => absurd z nf⟩
theorem r_must {n p : Nat} {t : Nat → Int32} {mr : oM} {s : Int32} (hM : rM n t mr) (hS : rS n t p mr) (h8 : p % 9 ≠ 8) (hs : ¬ (0 : Int32) = s) (hj : ∀ x, fitP (p % 9) x ↔ x = s) :
    ∃ mr', F_X9_must mr s = some mr' ∧ rS n t (p + 1) mr' ∧ oAg S51 mr mr' ∧ (mr'.1 51 12 = -1 → mr.1 51 12 = -1) := by
  have h60 := hM.1
  unfold F_X9_must
  rcases hS with ⟨p1, p2, a1, a2⟩ | ⟨f, a, f1, f2, f3, f4⟩
  · rw [if_pos a2, r_here hM p1 a1, o_b]
    have bad : (p < n → ¬ fitT t p) → ∃ mr', (some (oSI mr 51 12 (mr.1 51 11)) : Option oM) = some mr' ∧ rS n t (p + 1) mr' ∧ oAg S51 mr mr' ∧ (mr'.1 51 12 = -1 → mr.1 51 12 = -1) := fun h => ⟨_, rfl, rS.at_p hM p1 p2 h h8 a1, oAg.SI ⟨rfl, Or.inr rfl⟩, fun _ => a2⟩
    by_cases c : p < n
    · rw [if_pos c]
      by_cases k : t p = s
      · rw [if_pos k, o_b, a1, nI_1]
        exact ⟨_, rfl, rS.on_p c p2 ((hj _).mpr k) a2, oAg.SI ⟨rfl, Or.inl rfl⟩, fun _ => a2⟩
      · rw [if_neg k, r_fails1 a2, o_b]
        exact bad (fun _ z => k ((hj _).mp z))
    · rw [if_neg c, if_neg hs, r_fails1 a2, o_b]
      exact bad (fun z => absurd z c)
  · have nf : ¬ mr.1 51 12 = -1 := by
      rw [f4]
      exact nm1 (f1.lt h60)
    rw [if_neg nf, r_fails0 nf, o_b]
    exact ⟨_, rfl, Or.inr ⟨f, a, f1, f2, f3, f4⟩, oAg.rf, fun z => absurd z nf⟩
theorem r_kindK {mr : oM} {w : Int32} (hf : mr.1 51 12 = -1) (hh : F_X9_here mr = some w) : ∀ r k, k + r = 6 → (∀ j, j < k → oKL j ≠ w) →
    ∃ q, oTo (fun s : Int32 × oM => F_X9_kindHere_L2 s.1 s.2) (nI k, mr) q r ∧ ((q = .inl mr ∧ ∀ j, j < 6 → oKL j ≠ w) ∨ ∃ j, q = .inr (nI j, oSI mr 51 11 (mr.1 51 11 + 1)) ∧ KO w j)
  | 0, k, e, h => by
    refine ⟨.inl mr, oTo.done _ ?_, Or.inl ⟨rfl, by rwa [show k = 6 by omega] at h⟩⟩
    show F_X9_kindHere_L2 (nI k) mr = _
    unfold F_X9_kindHere_L2
    rw [if_pos (show (6 : Int32) ≤ nI k from nI_le (a := 6) (by omega) (by omega))]
  | r + 1, k, e, h => by
    have st : F_X9_kindHere_L2 (nI k) mr = if w = oKL k then some (.inr (.inr (nI k, oSI mr 51 11 (mr.1 51 11 + 1)))) else some (.inl (nI (k + 1), mr)) := by
      unfold F_X9_kindHere_L2
      rw [if_neg (show ¬ (6 : Int32) ≤ nI k from nI_ge (b := 6) (by omega) (by omega)), if_pos hf, hh, o_b, kl_r k (by omega), o_b, nI_1, o_b]
    by_cases c : w = oKL k
    · rw [if_pos c] at st
      exact ⟨_, oTo.done _ st, Or.inr ⟨k, rfl, by omega, c.symm, h⟩⟩
    · rw [if_neg c] at st
      obtain ⟨q, h1, h2⟩ := r_kindK hf hh r (k + 1) (by omega) (fun j hj => by
        rcases Nat.lt_or_ge j k with z | z
        · exact h j z
        · rw [show j = k by omega]
          exact fun y => c y.symm)
      exact ⟨q, oTo.step st h1, h2⟩
theorem r_kindF {mr : oM} (hf : ¬ mr.1 51 12 = -1) : oLoop (fun s : Int32 × oM => F_X9_kindHere_L2 s.1 s.2) oFuel (0, mr) = some (.inl mr) := by
  refine for_run (f := fun s : Int32 × oM => F_X9_kindHere_L2 s.1 s.2) (fun i => (nI i, mr)) 6 (b := .inl mr) ?_ ?_ (by omega)
  · intro i hi
    show F_X9_kindHere_L2 (nI i) mr = some (.inl (nI (i + 1), mr))
    unfold F_X9_kindHere_L2
    rw [if_neg (show ¬ (6 : Int32) ≤ nI i from nI_ge (b := 6) (by omega) (by omega)), if_neg hf, nI_1]
  · show F_X9_kindHere_L2 (nI 6) mr = _
    unfold F_X9_kindHere_L2
    rw [if_pos (by decide)]
theorem kl_0 : ∀ k : Nat, k < 6 → oKL k ≠ 0 := by decide
theorem r_kind {n p : Nat} {t : Nat → Int32} {mr : oM} (hM : rM n t mr) (hS : rS n t p mr) (h0 : p % 9 = 0) :
    ∃ v mr', F_X9_kindHere mr = some (v, mr') ∧ rS n t (p + 1) mr' ∧ oAg S51 mr mr' ∧ (mr'.1 51 12 = -1 → mr.1 51 12 = -1 ∧ ∃ j, v = nI j ∧ KO (t p) j) := by
  have h60 := hM.1
  have hj : fitT t p ↔ ∃ k, KO (t p) k := by
    unfold fitT
    rw [h0]
    exact Iff.rfl
  rcases hS with ⟨p1, p2, a1, a2⟩ | ⟨f, a, f1, f2, f3, f4⟩
  · obtain ⟨q, k1, k2⟩ := r_kindK a2 (r_here hM p1 a1) 6 0 (by omega) (fun j hj => absurd hj (by omega))
    have L : oLoop (fun s : Int32 × oM => F_X9_kindHere_L2 s.1 s.2) oFuel (0, mr) = some q := k1.run (by omega)
    rcases k2 with ⟨rfl, h⟩ | ⟨j, rfl, h⟩
    · have e : F_X9_kindHere mr = some (0, oSI mr 51 12 (mr.1 51 11)) := by
        unfold F_X9_kindHere
        rw [L, o_b]
        show ((F_X9_fails mr).bind fun r51 => some (0, r51)) = _
        rw [r_fails1 a2, o_b]
      refine ⟨0, _, e, rS.at_p hM p1 p2 (fun c z => ?_) (by omega) a1, oAg.SI ⟨rfl, Or.inr rfl⟩, fun z => absurd (by rw [← z, SI_eq, a1] : nI p = -1) (nm1 (by omega))⟩
      rw [if_pos c] at h
      obtain ⟨i, z⟩ := hj.mp z
      exact h i z.1 z.2.1
    · have c : p < n := by
        rcases Nat.lt_or_ge p n with z | z
        · exact z
        · rw [if_neg (by omega)] at h
          exact absurd h.2.1 (kl_0 j h.1)
      rw [if_pos c] at h
      have e : F_X9_kindHere mr = some (nI j, oSI mr 51 11 (nI (p + 1))) := by
        unfold F_X9_kindHere
        rw [L, o_b, a1, nI_1]
        rfl
      exact ⟨nI j, _, e, rS.on_p c p2 (hj.mpr ⟨j, h⟩) a2, oAg.SI ⟨rfl, Or.inl rfl⟩, fun _ => ⟨a2, j, rfl, h⟩⟩
  · have nf : ¬ mr.1 51 12 = -1 := by
      rw [f4]
      exact nm1 (f1.lt h60)
    have e : F_X9_kindHere mr = some (0, mr) := by
      unfold F_X9_kindHere
      rw [r_kindF nf, o_b]
      show ((F_X9_fails mr).bind fun r51 => some (0, r51)) = _
      rw [r_fails0 nf, o_b]
    exact ⟨_, _, e, Or.inr ⟨f, a, f1, f2, f3, f4⟩, oAg.rf, fun z => absurd z nf⟩
end PAIRSR
