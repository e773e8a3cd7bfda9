/-! the tape as pairs: what the class says of it -/
/-- the first of the kinds' letters that x is -/
def KO (x : Int32) (j : Nat) : Prop := j < 6 ∧ oKL j = x ∧ ∀ i, i < j → oKL i ≠ x
theorem KO.uniq {x : Int32} {i j : Nat} (h1 : KO x i) (h2 : KO x j) : i = j := by
  rcases Nat.lt_trichotomy i j with z | z | z
  · exact absurd h1.2.1 (h2.2.2 i z)
  · exact z
  · exact absurd h2.2.1 (h1.2.2 j z)
theorem kl_x : ∀ k : Nat, k < 6 → oXA 6 oKL (nI k) = some (oKL k) := by decide
theorem c_kindK (x : Int32) : ∀ r k, k + r = 6 → (∀ j, j < k → oKL j ≠ x) →
    ∃ q, oTo (fun s : Int32 => F_X8_kindOf_L2 x s) (nI k) q r ∧ ((q = .inl () ∧ ∀ j, j < 6 → oKL j ≠ x) ∨ ∃ j, q = .inr (nI j) ∧ KO x j)
  | 0, k, e, h => by
    refine ⟨.inl (), oTo.done _ ?_, Or.inl ⟨rfl, by rwa [show k = 6 by omega] at h⟩⟩
    show F_X8_kindOf_L2 x (nI k) = _
    unfold F_X8_kindOf_L2
    rw [if_pos (show (6 : Int32) ≤ nI k from nI_le (a := 6) (by omega) (by omega))]
  | r + 1, k, e, h => by
    have st : F_X8_kindOf_L2 x (nI k) = if oKL k = x then some (.inr (.inr (nI k))) else some (.inl (nI (k + 1))) := by
      unfold F_X8_kindOf_L2
      rw [if_neg (show ¬ (6 : Int32) ≤ nI k from nI_ge (b := 6) (by omega) (by omega)), kl_x k (by omega), o_b, nI_1]
    by_cases c : oKL k = x
    · rw [if_pos c] at st
      exact ⟨_, oTo.done _ st, Or.inr ⟨k, rfl, by omega, c, h⟩⟩
    · rw [if_neg c] at st
      obtain ⟨q, h1, h2⟩ := c_kindK x r (k + 1) (by omega) (fun j hj => by
        rcases Nat.lt_or_ge j k with z | z
        · exact h j z
        · rw [show j = k by omega]
          exact c)
      exact ⟨q, oTo.step st h1, h2⟩
theorem c_kindOf (x : Int32) : (∃ j, F_X8_kindOf x = some (nI j) ∧ KO x j) ∨ (F_X8_kindOf x = some (-1) ∧ ∀ j, j < 6 → oKL j ≠ x) := by
  obtain ⟨q, h1, h2⟩ := c_kindK x 6 0 (by omega) (fun j hj => absurd hj (by omega))
  have L : oLoop (fun s : Int32 => F_X8_kindOf_L2 x s) oFuel 0 = some q := h1.run (by omega)
  unfold F_X8_kindOf
  rw [L, o_b]
  rcases h2 with ⟨rfl, h⟩ | ⟨j, rfl, h⟩
  · exact Or.inr ⟨rfl, h⟩
  · exact Or.inl ⟨j, rfl, h⟩
theorem c_kindOf1 {x : Int32} {j : Nat} (h : KO x j) : F_X8_kindOf x = some (nI j) := by
  rcases c_kindOf x with ⟨i, h1, h2⟩ | ⟨-, h2⟩
  · rw [h1, h2.uniq h]
  · exact absurd h.2.1 (h2 j h.1)
/-- what a byte at the j-th place of a clause must be -/
def fitP (j : Nat) (x : Int32) : Prop := if j = 0 then ∃ k, KO x k else if j = 2 then x = 32 else if j = 3 then 49 ≤ x.toInt ∧ x.toInt ≤ 57 else if j = 5 then x = 47 else if j = 6 then 49 ≤ x.toInt ∧ x.toInt ≤ 57 else if j = 8 then x = 59 else 48 ≤ x.toInt ∧ x.toInt ≤ 57
theorem i_rngT {x a b : Int32} {p q : Int} (hp : a.toInt = p) (hq : b.toInt = q) (d : Decidable (p ≤ x.toInt ∧ x.toInt ≤ q)) : (if x < a then some (0 : Int32) else if b < x then some 0 else some 1) = some (if p ≤ x.toInt ∧ x.toInt ≤ q then 1 else 0) := by
  by_cases h : p ≤ x.toInt ∧ x.toInt ≤ q
  · rw [if_pos h, if_neg (show ¬ x < a by rw [i_lt]; omega), if_neg (show ¬ b < x by rw [i_lt]; omega)]
  · rw [if_neg h]
    by_cases c : x < a
    · rw [if_pos c]
    · rw [if_neg c, if_pos (show b < x by rw [i_lt]; rw [i_lt] at c; omega)]
theorem c_fits {j : Nat} (hj : j < 9) (x : Int32) (d : Decidable (fitP j x)) : F_X6_fitsClause (nI j) x = some (if fitP j x then 1 else 0) := by
  have key : ∀ (P : Prop) (d1 : Decidable P), (fitP j x ↔ P) → (if fitP j x then (1 : Int32) else 0) = if P then 1 else 0 := by
    intro P d1 e
    by_cases h : P
    · rw [if_pos h, if_pos (e.mpr h)]
    · rw [if_neg h, if_neg (fun z => h (e.mp z))]
  have a1 : (49 : Int32).toInt = 49 := by decide
  have a2 : (57 : Int32).toInt = 57 := by decide
  have a3 : (48 : Int32).toInt = 48 := by decide
  have h9 : j = 0 ∨ j = 1 ∨ j = 2 ∨ j = 3 ∨ j = 4 ∨ j = 5 ∨ j = 6 ∨ j = 7 ∨ j = 8 := by omega
  unfold F_X6_fitsClause
  rcases h9 with rfl | rfl | rfl | rfl | rfl | rfl | rfl | rfl | rfl
  · rw [if_pos (by decide)]
    rcases c_kindOf x with ⟨i, h1, h2⟩ | ⟨h1, h2⟩
    · have hi : ¬ nI i = -1 := by
        have := h2.1
        rw [i_eq, nI_toInt (by omega), show (-1 : Int32).toInt = -1 by decide]
        omega
      rw [h1, o_b, if_neg hi, if_pos (show fitP 0 x from ⟨i, h2⟩)]
    · rw [h1, o_b, if_pos rfl, if_neg (show ¬ fitP 0 x from fun ⟨k, z⟩ => h2 k z.1 z.2.1)]
  · rw [if_neg (by decide), if_neg (by decide), if_neg (by decide), if_neg (by decide), if_neg (by decide), if_neg (by decide), i_rngT a3 a2 (Classical.propDecidable _)]
    exact congrArg some (key _ _ Iff.rfl).symm
  · rw [if_neg (by decide), if_pos (by decide)]
    simp only [o_if]
    exact congrArg some (key _ _ Iff.rfl).symm
  · rw [if_neg (by decide), if_neg (by decide), if_pos (by decide), i_rngT a1 a2 (Classical.propDecidable _)]
    exact congrArg some (key _ _ Iff.rfl).symm
  · rw [if_neg (by decide), if_neg (by decide), if_neg (by decide), if_neg (by decide), if_neg (by decide), if_neg (by decide), i_rngT a3 a2 (Classical.propDecidable _)]
    exact congrArg some (key _ _ Iff.rfl).symm
  · rw [if_neg (by decide), if_neg (by decide), if_neg (by decide), if_pos (by decide)]
    simp only [o_if]
    exact congrArg some (key _ _ Iff.rfl).symm
  · rw [if_neg (by decide), if_neg (by decide), if_neg (by decide), if_neg (by decide), if_pos (by decide), i_rngT a1 a2 (Classical.propDecidable _)]
    exact congrArg some (key _ _ Iff.rfl).symm
  · rw [if_neg (by decide), if_neg (by decide), if_neg (by decide), if_neg (by decide), if_neg (by decide), if_neg (by decide), i_rngT a3 a2 (Classical.propDecidable _)]
    exact congrArg some (key _ _ Iff.rfl).symm
  · rw [if_neg (by decide), if_neg (by decide), if_neg (by decide), if_neg (by decide), if_neg (by decide), if_pos (by decide)]
    simp only [o_if]
    exact congrArg some (key _ _ Iff.rfl).symm
def fitT (t : Nat → Int32) (i : Nat) : Prop := fitP (i % 9) (t i)
/-- f is the fault of the tape t of n bytes -/
def IsF (n : Nat) (t : Nat → Int32) (f : Nat) : Prop := f ≤ n ∧ (∀ i, i < f → fitT t i) ∧ (f < n → ¬ fitT t f) ∧ (f = n → n % 9 ≠ 8)
theorem IsF.uniq {n : Nat} {t : Nat → Int32} {f g : Nat} (h1 : IsF n t f) (h2 : IsF n t g) : f = g := by
  rcases Nat.lt_trichotomy f g with z | z | z
  · exact absurd (h2.2.1 f z) (h1.2.2.1 (by have := h2.1; omega))
  · exact z
  · exact absurd (h1.2.1 g z) (h2.2.2.1 (by have := h1.1; omega))
theorem IsF.none {n : Nat} {t : Nat → Int32} {f : Nat} (h1 : IsF n t f) (h2 : ∀ i, i < n → fitT t i) (h3 : n % 9 = 8) : False := by
  have h4 := h1.1
  rcases Nat.lt_or_ge f n with z | z
  · exact h1.2.2.1 z (h2 f z)
  · exact h1.2.2.2 (by omega) h3
section PAIRSC
variable {m : oM}
theorem c_ftK {n : Nat} (hn : n ≤ 60) (t1 : m.1 43 0 = nI n) : ∀ r i, i + r = n → (∀ l, l < i → fitT (m.1 44) l) →
    ∃ q, oTo (fun s : Int32 => F_X6_faultAsPairs_L2 m s) (nI i) q r ∧ ((q = .inl () ∧ ∀ l, l < n → fitT (m.1 44) l) ∨ ∃ f, q = .inr (nI f) ∧ f < n ∧ (∀ l, l < f → fitT (m.1 44) l) ∧ ¬ fitT (m.1 44) f)
  | 0, i, e, h => by
    refine ⟨.inl (), oTo.done _ ?_, Or.inl ⟨rfl, by rwa [show i = n by omega] at h⟩⟩
    show F_X6_faultAsPairs_L2 m (nI i) = _
    unfold F_X6_faultAsPairs_L2
    rw [t1, if_pos (nI_le (by omega) (by omega))]
  | r + 1, i, e, h => by
    have st : F_X6_faultAsPairs_L2 m (nI i) = (F_X6_fitsClause (nI (i % 9)) (m.1 44 i)).bind fun r22 => if r22 = 0 then some (.inr (.inr (nI i))) else some (.inl (nI (i + 1))) := by
      unfold F_X6_faultAsPairs_L2
      rw [t1, if_neg (nI_ge (by omega) (by omega)), f_at (n := 60) rfl (by omega) (by omega), o_b, show (9 : Int32) = nI 9 from rfl, oRI_nat (by omega) (by omega) (by omega), nI_1]
    rw [c_fits (Nat.mod_lt i (by omega)) _ (Classical.propDecidable _), o_b] at st
    by_cases c : fitP (i % 9) (m.1 44 i)
    · rw [if_pos c, if_neg i10] at st
      obtain ⟨q, h1, h2⟩ := c_ftK hn t1 r (i + 1) (by omega) (fun j hj => by
        rcases Nat.lt_or_ge j i with z | z
        · exact h j z
        · rw [show j = i by omega]
          exact c)
      exact ⟨q, oTo.step st h1, h2⟩
    · rw [if_neg c, if_pos rfl] at st
      exact ⟨_, oTo.done _ st, Or.inr ⟨i, rfl, by omega, h, c⟩⟩
theorem c_fault {n : Nat} (hn : n ≤ 60) (t1 : m.1 43 0 = nI n) : (∃ f, F_X6_faultAsPairs m = some (nI f) ∧ IsF n (m.1 44) f) ∨ (F_X6_faultAsPairs m = some (-1) ∧ (∀ l, l < n → fitT (m.1 44) l) ∧ n % 9 = 8) := by
  obtain ⟨q, h1, h2⟩ := c_ftK hn t1 n 0 (by omega) (fun j hj => absurd hj (by omega))
  have L : oLoop (fun s : Int32 => F_X6_faultAsPairs_L2 m s) oFuel 0 = some q := h1.run (by omega)
  unfold F_X6_faultAsPairs
  rw [L, o_b]
  rcases h2 with ⟨rfl, h⟩ | ⟨f, rfl, hf, h3, h4⟩
  · have e : oRI (m.1 43 0) 9 = nI (n % 9) := by
      rw [t1, show (9 : Int32) = nI 9 from rfl, oRI_nat (by omega) (by omega) (by omega)]
    show (∃ f, (if oRI (m.1 43 0) 9 = 8 then some (-1) else some (m.1 43 0)) = some (nI f) ∧ IsF n (m.1 44) f) ∨ ((if oRI (m.1 43 0) 9 = 8 then some (-1) else some (m.1 43 0)) = some (-1) ∧ (∀ l, l < n → fitT (m.1 44) l) ∧ n % 9 = 8)
    rw [e, t1]
    by_cases c : n % 9 = 8
    · right
      refine ⟨?_, h, c⟩
      rw [c, if_pos (by decide)]
    · left
      refine ⟨n, ?_, Nat.le_refl _, h, fun z => absurd z (by omega), fun _ => c⟩
      rw [if_neg (show ¬ nI (n % 9) = 8 from fun z => c ((nI_eq (b := 8) (by omega) (by omega)).mp z))]
  · exact Or.inl ⟨f, rfl, by omega, h3, fun _ => h4, fun z => absurd hf (by omega)⟩
end PAIRSC
