/-! plan -/
def sPl (x y : Int32) : Prop := (x = 0 ∧ iB y (-99) 99 ∧ y ≠ 0) ∨ (x = 1 ∧ iB y 0 5) ∨ (x = 2 ∧ iB y 0 9)
theorem c_crk (y : Int32) (d : Decidable (iB y (-99) 99 ∧ y ≠ 0)) : F_X8_isCranked y = some (if iB y (-99) 99 ∧ y ≠ 0 then 1 else 0) := by
  unfold F_X8_isCranked
  by_cases h : iB y (-99) 99
  · obtain ⟨y1, y2, y3⟩ := i_in (p := -99) (q := 99) (by decide) (by decide) h
    rw [if_neg y1, if_neg y2]
    by_cases h0 : y = 0
    · rw [if_pos h0, if_neg (fun z => z.2 h0)]
    · rw [if_neg h0, if_pos ⟨h, h0⟩]
  · have hn : ¬ (iB y (-99) 99 ∧ y ≠ 0) := fun z => h z.1
    rw [if_neg hn]
    rcases i_out (p := -99) (q := 99) (by decide) (by decide) h with k | ⟨k1, k2, k3⟩
    · rw [if_pos k]
    · rw [if_neg k1, if_pos k2]
theorem c_planned1 {x y : Int32} (h : sPl x y) : F_X8_isPlanned x y = some 1 := by
  unfold F_X8_isPlanned
  rcases h with ⟨rfl, h⟩ | ⟨rfl, h⟩ | ⟨rfl, h⟩
  · rw [if_pos rfl, c_crk y (Classical.propDecidable _), if_pos h, o_b]
  · obtain ⟨y1, y2, y3⟩ := i_in (p := 0) (q := 5) (by decide) (by decide) h
    rw [if_neg i10, if_neg y1, if_pos rfl, if_neg (show ¬ 6 ≤ y by rw [i_le, show (6 : Int32).toInt = 6 by decide]; have := h.2; omega)]
  · obtain ⟨y1, y2, y3⟩ := i_in (p := 0) (q := 9) (by decide) (by decide) h
    rw [if_neg (show ¬ (2 : Int32) = 0 by decide), if_neg y1, if_neg (show ¬ (2 : Int32) = 1 by decide), if_neg (show ¬ 10 ≤ y by rw [i_le, show (10 : Int32).toInt = 10 by decide]; have := h.2; omega)]
theorem c_planned0 {x y : Int32} (hx : x = 0 ∨ x = 1 ∨ x = 2) (h : ¬ sPl x y) : F_X8_isPlanned x y = some 0 := by
  unfold F_X8_isPlanned
  rcases hx with rfl | rfl | rfl
  · rw [if_pos rfl, c_crk y (Classical.propDecidable _), if_neg (fun z => h (Or.inl ⟨rfl, z⟩)), o_b]
  · rw [if_neg i10]
    rcases i_out (x := y) (p := 0) (q := 5) (by decide) (by decide) (fun z => h (Or.inr (Or.inl ⟨rfl, z⟩))) with k | ⟨k1, k2, k3⟩
    · rw [if_pos k]
    · rw [if_neg k1, if_pos rfl, if_pos (show 6 ≤ y by rw [i_le, show (6 : Int32).toInt = 6 by decide]; rw [i_lt, show (5 : Int32).toInt = 5 by decide] at k2; omega)]
  · rw [if_neg (show ¬ (2 : Int32) = 0 by decide)]
    rcases i_out (x := y) (p := 0) (q := 9) (by decide) (by decide) (fun z => h (Or.inr (Or.inr ⟨rfl, z⟩))) with k | ⟨k1, k2, k3⟩
    · rw [if_pos k]
    · rw [if_neg k1, if_neg (show ¬ (2 : Int32) = 1 by decide), if_pos (show 10 ≤ y by rw [i_le, show (10 : Int32).toInt = 10 by decide]; rw [i_lt, show (9 : Int32).toInt = 9 by decide] at k2; omega)]
section PLAN
variable {m : oM} {V : oV}
theorem r_planB {x y : Int32} (hx : x = 0 ∨ x = 1 ∨ x = 2) (d : Decidable (sPl x y)) : F_X9_plan m x y = if sPl x y then F_X9_plan_J80 m x y else some (-2, m) := by
  have hx2 : 0 ≤ x.toInt ∧ x.toInt ≤ 2 := by rcases hx with rfl | rfl | rfl <;> decide
  have hm : ¬ x = -1 := by rcases hx with rfl | rfl | rfl <;> decide
  unfold F_X9_plan
  rw [if_neg hm, isIn1 (p := 0) (q := 2) (by decide) (by decide) (by rw [i_long]; exact hx2), o_b, if_neg i10]
  rcases hx with rfl | rfl | rfl
  · rw [if_pos rfl]
    by_cases h : iB y (-99) 99
    · rw [isIn1 (p := -99) (q := 99) (by decide) (by decide) (by rw [i_long]; exact h), o_b, if_neg i10]
      by_cases h0 : y = 0
      · rw [if_pos h0, if_neg]
        rintro (⟨-, -, z⟩ | ⟨z, -⟩ | ⟨z, -⟩)
        · exact z h0
        · exact absurd z (by decide)
        · exact absurd z (by decide)
      · rw [if_neg h0, if_pos (show sPl 0 y from Or.inl ⟨rfl, h, h0⟩)]
    · rw [isIn0 (p := -99) (q := 99) (by decide) (by decide) (by rw [i_long]; exact h), o_b, if_pos rfl, if_neg]
      rintro (⟨-, z, -⟩ | ⟨z, -⟩ | ⟨z, -⟩)
      · exact h z
      · exact absurd z (by decide)
      · exact absurd z (by decide)
  · rw [if_neg i10, if_pos rfl]
    unfold F_X9_plan_J71
    by_cases h : iB y 0 5
    · rw [isIn1 (p := 0) (q := 5) (by decide) (by decide) (by rw [i_long]; exact h), o_b, if_neg i10, if_pos (show sPl 1 y from Or.inr (Or.inl ⟨rfl, h⟩))]
    · rw [isIn0 (p := 0) (q := 5) (by decide) (by decide) (by rw [i_long]; exact h), o_b, if_pos rfl, if_neg]
      rintro (⟨z, -⟩ | ⟨-, z⟩ | ⟨z, -⟩)
      · exact absurd z (by decide)
      · exact h z
      · exact absurd z (by decide)
  · rw [if_neg (show ¬ (2 : Int32) = 0 by decide), if_neg (show ¬ (2 : Int32) = 1 by decide)]
    unfold F_X9_plan_J71
    by_cases h : iB y 0 9
    · rw [isIn1 (p := 0) (q := 9) (by decide) (by decide) (by rw [i_long]; exact h), o_b, if_neg i10, if_pos (show sPl 2 y from Or.inr (Or.inr ⟨rfl, h⟩))]
    · rw [isIn0 (p := 0) (q := 9) (by decide) (by decide) (by rw [i_long]; exact h), o_b, if_pos rfl, if_neg]
      rintro (⟨z, -⟩ | ⟨z, -⟩ | ⟨-, z⟩)
      · exact absurd z (by decide)
      · exact absurd z (by decide)
      · exact h z
end PLAN
