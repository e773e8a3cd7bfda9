/-! train -/
def fF (p o : Nat) (f : Nat → Int32) (m : oM) : Nat → oM
  | 0 => m
  | i + 1 => oSI (fF p o f m i) p (o + i) (f i)
theorem fF_ag (p o : Nat) (f : Nat → Int32) (m : oM) : ∀ i, oAg (fun q k => q = p ∧ o ≤ k ∧ k < o + i) m (fF p o f m i)
  | 0 => oAg.rf
  | i + 1 => ((fF_ag p o f m i).wk (fun q k h => ⟨h.1, h.2.1, by omega⟩)).tr (oAg.SI ⟨rfl, by omega, by omega⟩)
theorem fF_at (p o : Nat) (f : Nat → Int32) (m : oM) (j : Nat) : ∀ i, j < i → (fF p o f m i).1 p (o + j) = f j
  | 0, h => absurd h (by omega)
  | i + 1, h => by
    by_cases e : j = i
    · rw [e]
      exact SI_eq
    · exact (SI_ne (fun z => e (by omega))).trans (fF_at p o f m j i (by omega))
theorem mk0 : ∀ q, q < 10 → ¬ (((0 : Int32) >>> (nI q &&& 31)) &&& 1 = 1) := by decide
theorem mk1 : ∀ a, a < 10 → ∀ q, q < 10 → (((((0 : Int32) ||| (1 <<< (nI a &&& 31))) >>> (nI q &&& 31)) &&& 1 = 1) ↔ a = q) := by decide
theorem mk2 : ∀ a, a < 10 → ∀ b, b < 10 → ∀ q, q < 10 → ((((((0 : Int32) ||| (1 <<< (nI a &&& 31))) ||| (1 <<< (nI b &&& 31))) >>> (nI q &&& 31)) &&& 1 = 1) ↔ (a = q ∨ b = q)) := by decide
def fMk (f : Nat → Int32) : Nat → Int32
  | 0 => 0
  | i + 1 => fMk f i ||| (1 <<< (f i &&& 31))
section TRAIN
variable {m : oM} {V : oV}
theorem c_aheadK {i : Nat} (hi : i < 60) : ∀ r j, j + r = i → (∀ l, l < j → m.1 44 l ≠ m.1 44 i) →
    ∃ q, oTo (fun s : Int32 => F_X6_isToldAhead_L2 m (nI i) s) (nI j) q r ∧ ((q = .inl () ∧ ∀ l, l < i → m.1 44 l ≠ m.1 44 i) ∨ (q = .inr 1 ∧ ∃ l, l < i ∧ m.1 44 l = m.1 44 i))
  | 0, j, e, h => by
    refine ⟨.inl (), oTo.done _ ?_, Or.inl ⟨rfl, by rwa [show i = j by omega] at h ⊢⟩⟩
    show F_X6_isToldAhead_L2 m (nI i) (nI j) = _
    unfold F_X6_isToldAhead_L2
    rw [if_pos (nI_le (by omega) (by omega))]
  | r + 1, j, e, h => by
    have body : F_X6_isToldAhead_L2 m (nI i) (nI j) = if m.1 44 j = m.1 44 i then some (.inr (.inr 1)) else some (.inl (nI (j + 1))) := by
      unfold F_X6_isToldAhead_L2
      rw [if_neg (nI_ge (by omega) (by omega)), f_at (n := 60) rfl (by omega) (by omega), o_b, f_at (n := 60) rfl (by omega) (by omega), o_b, nI_1]
    by_cases k : m.1 44 j = m.1 44 i
    · rw [if_pos k] at body
      exact ⟨_, oTo.done _ body, Or.inr ⟨rfl, j, by omega, k⟩⟩
    · rw [if_neg k] at body
      obtain ⟨q, h1, h2⟩ := c_aheadK hi r (j + 1) (by omega) (fun l hl => by
        rcases Nat.lt_or_ge l j with z | z
        · exact h l z
        · rw [show l = j by omega]
          exact k)
      exact ⟨q, oTo.step body h1, h2⟩
theorem c_ahead {i : Nat} (hi : i < 60) (d : Decidable (∃ l, l < i ∧ m.1 44 l = m.1 44 i)) : F_X6_isToldAhead m (nI i) = some (if ∃ l, l < i ∧ m.1 44 l = m.1 44 i then 1 else 0) := by
  obtain ⟨q, h1, h2⟩ := c_aheadK (m := m) hi i 0 (by omega) (fun l hl => absurd hl (by omega))
  have L : oLoop (fun s : Int32 => F_X6_isToldAhead_L2 m (nI i) s) oFuel 0 = some q := h1.run (by omega)
  unfold F_X6_isToldAhead
  rw [L, o_b]
  rcases h2 with ⟨rfl, h⟩ | ⟨rfl, h⟩
  · rw [if_neg (fun ⟨l, a, b⟩ => h l a b)]
    rfl
  · rw [if_pos h]
    rfl
/-- the first i letters are a train -/
def tOK (V : oV) (p : Nat → Int32) (i : Nat) : Prop := ∀ j, j < i → j < 3 ∧ isQ V (p j) ∧ ∀ l, l < j → p l ≠ p j
theorem mk_told {V : oV} (hw : WF V) {p : Nat → Int32} {i : Nat} (h : tOK V p i) (hi : i < 3) (hq : isQ V (p i)) : (((fMk p i >>> (p i &&& 31)) &&& 1 = 1) ↔ ∃ l, l < i ∧ p l = p i) := by
  have hn := hw.2.1
  obtain ⟨q, q1, q2⟩ := isQ_of hq
  rcases i with _ | _ | _ | i
  · rw [q2]
    refine ⟨fun z => absurd z (mk0 q (by omega)), fun ⟨l, hl, _⟩ => absurd hl (by omega)⟩
  · obtain ⟨a, a1, a2⟩ := isQ_of (h 0 (by omega)).2.1
    have e : fMk p 1 = (0 : Int32) ||| (1 <<< (nI a &&& 31)) := by
      show (0 : Int32) ||| (1 <<< (p 0 &&& 31)) = _
      rw [a2]
    rw [e, q2, mk1 a (by omega) q (by omega)]
    constructor
    · intro z
      exact ⟨0, by omega, by rw [a2, z]⟩
    · rintro ⟨l, hl, z⟩
      rw [show l = 0 by omega, a2] at z
      exact (nI_eq (by omega) (by omega)).mp z
  · obtain ⟨a, a1, a2⟩ := isQ_of (h 0 (by omega)).2.1
    obtain ⟨b, b1, b2⟩ := isQ_of (h 1 (by omega)).2.1
    have e : fMk p 2 = ((0 : Int32) ||| (1 <<< (nI a &&& 31))) ||| (1 <<< (nI b &&& 31)) := by
      show ((0 : Int32) ||| (1 <<< (p 0 &&& 31))) ||| (1 <<< (p 1 &&& 31)) = _
      rw [a2, b2]
    rw [e, q2, mk2 a (by omega) b (by omega) q (by omega)]
    constructor
    · rintro (z | z)
      · exact ⟨0, by omega, by rw [a2, z]⟩
      · exact ⟨1, by omega, by rw [b2, z]⟩
    · rintro ⟨l, hl, z⟩
      rcases Nat.lt_or_ge l 1 with y | y
      · rw [show l = 0 by omega, a2] at z
        exact Or.inl ((nI_eq (by omega) (by omega)).mp z)
      · rw [show l = 1 by omega, b2] at z
        exact Or.inr ((nI_eq (by omega) (by omega)).mp z)
  · omega
end TRAIN
