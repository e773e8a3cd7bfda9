/-! the memory behind the constructors -/
def V0 : oV := ((0, 0, 0), (fun _ => 0, fun _ => 0), (fun _ => 0, fun _ _ => 0), (fun _ => 0, fun _ => 0, fun _ => 0, fun _ => 0), (oM1.1 1 3, oM1.1 1 4, oM1.1 1 7, oM1.1 1 8), (fun _ => 0, fun _ => 0))
theorem inv_first : Inv oM1 := by
  have z : ∀ {n : Nat} {P : Prop}, n < 0 → P := fun h => absurd h (by omega)
  have e0 : ∀ b, b < 6 → oM1.1 10 b = 0 := by decide
  have e1 : oM1.1 52 1 = oM1.1 1 3 ∧ oM1.1 52 2 = oM1.1 1 4 ∧ oM1.1 52 4 = oM1.1 1 7 ∧ oM1.1 52 5 = oM1.1 1 8 := by decide
  have e2 : (oM1.1 1 0 = 0 ∧ oM1.1 4 0 = 0 ∧ oM1.1 12 0 = 0) ∧ (oM1.1 52 0 = 0 ∧ oM1.1 52 3 = 0 ∧ oM1.1 52 6 = 0) := by decide
  have e3 : (10 ≤ (oM1.1 1 3).toInt ∧ (oM1.1 1 3).toInt ≤ 99) ∧ (oM1.1 1 3).toInt ≤ (oM1.1 1 4).toInt ∧ (oM1.1 1 4).toInt ≤ 99 ∧ (oM1.1 1 4).toInt ≤ (oM1.1 1 3).toInt + 14 ∧ (-9999 ≤ (oM1.1 1 7).toInt ∧ (oM1.1 1 7).toInt ≤ 9999) ∧ (oM1.1 1 8 = 0 ∨ oM1.1 1 8 = 1) := by decide
  have e4 : ∀ l, l < 4 → oM1.1 48 l = 0 ∧ oM1.1 57 l = -1 := by decide
  have e5 : oM1.1 0 3 = 0 ∧ oM1.1 51 3 = 0 ∧ oM1.1 43 0 = 0 ∧ oM1.1 51 8 = 0 ∧ oM1.1 45 0 = 0 ∧ oM1.1 51 9 = 0 := by decide
  have e6 : oM1.2 50 0 = 0 := by decide
  refine ⟨⟨V0, ?_, ?_, ?_⟩, Or.inl ⟨e5.1, e5.2.1⟩, ⟨0, by omega, e5.2.2.1, e5.2.2.2.1, fun i hi => z hi⟩, ⟨0, by omega, e5.2.2.2.2.1, e5.2.2.2.2.2, fun i hi => z hi⟩, fun l hl => Or.inl (e4 l hl), Or.inl e6⟩
  · exact ⟨by show 0 ≤ 6; omega, by show 0 ≤ 10; omega, by show 0 ≤ 8; omega, fun b hb => z hb, fun b => by show 0 ≤ 3; omega, fun b _ => rfl, fun b k hb _ => z hb, fun q hq => z hq, e3.1, e3.2.1, e3.2.2.1, e3.2.2.2.1, e3.2.2.2.2.1, e3.2.2.2.2.2, fun i hi => z hi⟩
  · exact ⟨e2.1.1, e2.1.2.1, e2.1.2.2, fun b hb => z hb, fun b hb => e0 b hb, fun b k hb _ => z hb, fun q hq => z hq, rfl, rfl, rfl, rfl, fun i hi => z hi⟩
  · exact ⟨e2.2.1, e2.2.2.1, e2.2.2.2, fun b hb => z hb, fun b hb => z hb, fun b k hb _ => z hb, fun q hq => z hq, e1.1, e1.2.1, e1.2.2.1, e1.2.2.2, fun i hi => z hi⟩
