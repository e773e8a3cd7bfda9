/-! plan -/
def sPl (x y : Int32) : Prop := (x = 0 ∧ iB y (-99) 99 ∧ y ≠ 0) ∨ (x = 1 ∧ iB y 0 5) ∨ (x = 2 ∧ iB y 0 9)
theorem c_crk (y : Int32) (d : Decidable (iB y (-99) 99 ∧ y ≠ 0)) : F_X8_isCranked y = some (if iB y (-99) 99 ∧ y ≠ 0 then 1 else 0) := by
  unfold F_X8_isCranked
  by_cases h : iB y (-99) 99
  · obtain ⟨y1, y2, y3⟩ := i_in (p := -99) (q := 99) (by decide) (by decide) h
    rw [if_neg y1, if_neg y2]
    by_cases h0 : y = 0
    · rw [if_pos h0, if_neg (fun z => z.2 h0)]
    · rw [if_neg h0, if_pos ⟨h, h0⟩]
  · have hn : ¬ (iB y (-99) 99 ∧ y ≠ 0) := fun z => h z.1
    rw [if_neg hn]
    rcases i_out (p := -99) (q := 99) (by decide) (by decide) h with k | ⟨k1, k2, k3⟩
    · rw [if_pos k]
    · rw [if_neg k1, if_pos k2]
theorem c_planned1 {x y : Int32} (h : sPl x y) : F_X8_isPlanned x y = some 1 := by
  unfold F_X8_isPlanned
  rcases h with ⟨rfl, h⟩ | ⟨rfl, h⟩ | ⟨rfl, h⟩
  · rw [if_pos rfl, c_crk y (Classical.propDecidable _), if_pos h, o_b]
  · obtain ⟨y1, y2, y3⟩ := i_in (p := 0) (q := 5) (by decide) (by decide) h
    rw [if_neg i10, if_neg y1, if_pos rfl, if_neg (show ¬ 6 ≤ y by rw [i_le, show (6 : Int32).toInt = 6 by decide]; have := h.2; omega)]
  · obtain ⟨y1, y2, y3⟩ := i_in (p := 0) (q := 9) (by decide) (by decide) h
    rw [if_neg (show ¬ (2 : Int32) = 0 by decide), if_neg y1, if_neg (show ¬ (2 : Int32) = 1 by decide), if_neg (show ¬ 10 ≤ y by rw [i_le, show (10 : Int32).toInt = 10 by decide]; have := h.2; omega)]
theorem c_planned0 {x y : Int32} (hx : x = 0 ∨ x = 1 ∨ x = 2) (h : ¬ sPl x y) : F_X8_isPlanned x y = some 0 := by
  unfold F_X8_isPlanned
  rcases hx with rfl | rfl | rfl
  · rw [if_pos rfl, c_crk y (Classical.propDecidable _), if_neg (fun z => h (Or.inl ⟨rfl, z⟩)), o_b]
  · rw [if_neg i10]
    rcases i_out (x := y) (p := 0) (q := 5) (by decide) (by decide) (fun z => h (Or.inr (Or.inl ⟨rfl, z⟩))) with k | ⟨k1, k2, k3⟩
    · rw [if_pos k]
    · rw [if_neg k1, if_pos rfl, if_pos (show 6 ≤ y by rw [i_le, show (6 : Int32).toInt = 6 by decide]; rw [i_lt, show (5 : Int32).toInt = 5 by decide] at k2; omega)]
  · rw [if_neg (show ¬ (2 : Int32) = 0 by decide)]
    rcases i_out (x := y) (p := 0) (q := 9) (by decide) (by decide) (fun z => h (Or.inr (Or.inr ⟨rfl, z⟩))) with k | ⟨k1, k2, k3⟩
    · rw [if_pos k]
    · rw [if_neg k1, if_neg (show ¬ (2 : Int32) = 1 by decide), if_pos (show 10 ≤ y by rw [i_le, show (10 : Int32).toInt = 10 by decide]; rw [i_lt, show (9 : Int32).toInt = 9 by decide] at k2; omega)]
section PLAN
variable {m : oM} {V : oV}
theorem r_planB {x y : Int32} (hx : x = 0 ∨ x = 1 ∨ x = 2) (d : Decidable (sPl x y)) : F_X9_plan m x y = if sPl x y then F_X9_plan_J80 m x y else some (-2, m) := by
  have hx2 : 0 ≤ x.toInt ∧ x.toInt ≤ 2 := by rcases hx with rfl | rfl | rfl <;> decide
  have hm : ¬ x = -1 := by rcases hx with rfl | rfl | rfl <;> decide
  unfold F_X9_plan
  rw [if_neg hm, isIn1 (p := 0) (q := 2) (by decide) (by decide) (by rw [i_long]; exact hx2), o_b, if_neg i10]
  rcases hx with rfl | rfl | rfl
  · rw [if_pos rfl]
    by_cases h : iB y (-99) 99
    · rw [isIn1 (p := -99) (q := 99) (by decide) (by decide) (by rw [i_long]; exact h), o_b, if_neg i10]
      by_cases h0 : y = 0
      · rw [if_pos h0, if_neg]
        rintro (⟨-, -, z⟩ | ⟨z, -⟩ | ⟨z, -⟩)
        · exact z h0
        · exact absurd z (by decide)
        · exact absurd z (by decide)
      · rw [if_neg h0, if_pos (show sPl 0 y from Or.inl ⟨rfl, h, h0⟩)]
    · rw [isIn0 (p := -99) (q := 99) (by decide) (by decide) (by rw [i_long]; exact h), o_b, if_pos rfl, if_neg]
      rintro (⟨-, z, -⟩ | ⟨z, -⟩ | ⟨z, -⟩)
      · exact h z
      · exact absurd z (by decide)
      · exact absurd z (by decide)
  · rw [if_neg i10, if_pos rfl]
    unfold F_X9_plan_J71
    by_cases h : iB y 0 5
    · rw [isIn1 (p := 0) (q := 5) (by decide) (by decide) (by rw [i_long]; exact h), o_b, if_neg i10, if_pos (show sPl 1 y from Or.inr (Or.inl ⟨rfl, h⟩))]
    · rw [isIn0 (p := 0) (q := 5) (by decide) (by decide) (by rw [i_long]; exact h), o_b, if_pos rfl, if_neg]
      rintro (⟨z, -⟩ | ⟨-, z⟩ | ⟨z, -⟩)
      · exact absurd z (by decide)
      · exact h z
      · exact absurd z (by decide)
  · rw [if_neg (show ¬ (2 : Int32) = 0 by decide), if_neg (show ¬ (2 : Int32) = 1 by decide)]
    unfold F_X9_plan_J71
    by_cases h : iB y 0 9
    · rw [isIn1 (p := 0) (q := 9) (by decide) (by decide) (by rw [i_long]; exact h), o_b, if_neg i10, if_pos (show sPl 2 y from Or.inr (Or.inr ⟨rfl, h⟩))]
    · rw [isIn0 (p := 0) (q := 9) (by decide) (by decide) (by rw [i_long]; exact h), o_b, if_pos rfl, if_neg]
      rintro (⟨z, -⟩ | ⟨z, -⟩ | ⟨-, z⟩)
      · exact absurd z (by decide)
      · exact absurd z (by decide)
      · exact h z
theorem p_plan (h : Inv m) (x y : Int32) : Wr (F_X8_plan m x y) (fun m => F_X9_plan m x y) := by
  have hI := h
  obtain ⟨⟨V, hw, hc, hr⟩, -⟩ := h
  by_cases hm : x = -1
  · refine ⟨0, oSI m 12 0 0, oSI (oSI m 12 0 0) 52 6 0, ?_, ?_, ?_⟩
    · unfold F_X8_plan
      rw [if_pos hm, o_b]
    · show F_X9_plan (oSI m 12 0 0) x y = _
      unfold F_X9_plan
      rw [if_pos hm, o_b]
    · obtain ⟨a1, a2, a3, a4, a5, a6, a7, a8, a9, a10, a11, a12, a13, a14, a15⟩ := hw
      obtain ⟨c1, c2, c3, c4, c5, c6, c7, c8, c9, c10, c11, c12⟩ := hc
      obtain ⟨r1, r2, r3, r4, r5, r6, r7, r8, r9, r10, r11, r12⟩ := hr
      refine hI.now (V' := ((vnb V, vnp V, 0), V.2)) ((agN (by omega) (by omega)).tr ag52) ⟨a1, a2, by show 0 ≤ 8; omega, a4, a5, a6, a7, a8, a9, a10, a11, a12, a13, a14, fun i (hi : i < 0) => absurd hi (by omega)⟩ ?_ ?_
      · exact ⟨c1, c2, rfl, c4, c5, c6, c7, c8, c9, c10, c11, fun i (hi : i < 0) => absurd hi (by omega)⟩
      · exact ⟨SI_n1 r1 (by omega), SI_n1 r2 (by omega), rfl, fun b (hb : b < vnb V) => ⟨SI_n1 (r4 b hb).1 (by omega), SI_n1 (r4 b hb).2 (by omega)⟩, fun b (hb : b < vnb V) => SI_n1 (r5 b hb) (by omega), fun b k (hb : b < vnb V) (hk : k < vln V b) => SI_n1 (r6 b k hb hk) (by omega),
          fun p (hp : p < vnp V) => ⟨SI_n1 (r7 p hp).1 (by omega), SI_n1 (r7 p hp).2.1 (by omega), SI_n1 (r7 p hp).2.2.1 (by omega), SI_n1 (r7 p hp).2.2.2 (by omega)⟩, SI_n1 r8 (by omega), SI_n1 r9 (by omega), SI_n1 r10 (by omega), SI_n1 r11 (by omega), fun i (hi : i < 0) => absurd hi (by omega)⟩
  · by_cases hx2 : 0 ≤ x.toInt ∧ x.toInt ≤ 2
    · have hx : x = 0 ∨ x = 1 ∨ x = 2 := by
        rw [i_eq, i_eq, i_eq, Int32.toInt_zero, Int32.toInt_one, show (2 : Int32).toInt = 2 by decide]
        omega
      obtain ⟨x1, x2, x3⟩ := i_in (p := 0) (q := 2) (by decide) (by decide) hx2
      by_cases hp : sPl x y
      · by_cases h8 : vps V = 8
        · refine Wr.no (v := -4) hI ?_ ?_
          · unfold F_X8_plan
            rw [if_neg hm, if_neg x1, if_pos x3, c_planned1 hp, o_b, if_neg i10, show m.1 12 0 = nI (vps V) from hc.ps, h8, if_neg (by decide)]
          · show F_X9_plan m x y = _
            rw [r_planB hx (Classical.propDecidable _), if_pos hp]
            unfold F_X9_plan_J80
            rw [hr.ps, h8, if_pos (by decide)]
        · have h38 := hw.2.2.1
          generalize hn : vps V = n at *
          refine ⟨nI (n + 1), oSI (oSI (oSI m 13 n x) 14 n y) 12 0 (nI (n + 1)), oSI (oSI (oSI (oSI (oSI (oSI m 13 n x) 14 n y) 12 0 (nI (n + 1))) 52 (83 + n) x) 52 (91 + n) y) 52 6 (nI (n + 1)), ?_, ?_, ?_⟩
          · have e0 : m.1 12 0 = nI n := by rw [← hn]; exact hc.ps
            have e1 : (oSI m 13 n x).1 12 0 = nI n := e0
            have e2 : (oSI (oSI m 13 n x) 14 n y).1 12 0 = nI n := e0
            unfold F_X8_plan
            rw [if_neg hm, if_neg x1, if_pos x3, c_planned1 hp, o_b, if_neg i10, e0, if_pos (show nI n < 8 from nI_lt (b := 8) (by omega) (by omega))]
            unfold F_X3_add
            rw [show (12 + 1 : Nat) = 13 from rfl, show (12 + 2 : Nat) = 14 from rfl, e0, f_set (n := 8) rfl (by omega) (by omega), o_b, e1, f_set (n := 8) rfl (by omega) (by omega), o_b, o_b, e2, nI_1, o_b]
            rfl
          · show F_X9_plan (oSI (oSI (oSI m 13 n x) 14 n y) 12 0 (nI (n + 1))) x y = _
            have e0 : (oSI (oSI (oSI m 13 n x) 14 n y) 12 0 (nI (n + 1))).1 52 6 = nI n := by rw [← hn]; exact hr.ps
            generalize oSI (oSI (oSI m 13 n x) 14 n y) 12 0 (nI (n + 1)) = m1 at e0 ⊢
            have e1 : (oSI m1 52 (83 + n) x).1 52 6 = nI n := SI_n1 e0 (by omega)
            have e2 : (oSI (oSI m1 52 (83 + n) x) 52 (91 + n) y).1 52 6 = nI n := SI_n1 e1 (by omega)
            rw [r_planB hx (Classical.propDecidable _), if_pos hp]
            unfold F_X9_plan_J80
            rw [e0, if_neg (show ¬ nI n = 8 from fun z => h8 ((nI_eq (b := 8) (by omega) (by omega)).mp z)), ix (c := 83) (n := 83) rfl, a_st sh52 (by omega) (by omega), o_b, e1, ix (c := 91) (n := 91) rfl, a_st sh52 (by omega) (by omega), o_b, o_b, e2, nI_1, SI_eq]
          · obtain ⟨a1, a2, a3, a4, a5, a6, a7, a8, a9, a10, a11, a12, a13, a14, a15⟩ := hw
            obtain ⟨c1, c2, c3, c4, c5, c6, c7, c8, c9, c10, c11, c12⟩ := hc
            obtain ⟨r1, r2, r3, r4, r5, r6, r7, r8, r9, r10, r11, r12⟩ := hr
            rw [hn] at a15 c12 r12
            have n3 : ∀ {k : Nat} {v : Int32}, m.1 52 k = v → k ≠ 83 + n → k ≠ 91 + n → k ≠ 6 → (oSI (oSI (oSI (oSI (oSI (oSI m 13 n x) 14 n y) 12 0 (nI (n + 1))) 52 (83 + n) x) 52 (91 + n) y) 52 6 (nI (n + 1))).1 52 k = v := fun e d1 d2 d3 => SI_n1 (SI_n2 e d1 d2) d3
            refine hI.now (V' := ((vnb V, vnp V, n + 1), V.2.1, V.2.2.1, V.2.2.2.1, V.2.2.2.2.1, (sUp (vwh V) n x, sUp (vvl V) n y))) ((((((agN (by omega) (by omega)).tr (agN (by omega) (by omega))).tr (agN (by omega) (by omega))).tr ag52).tr ag52).tr ag52) ⟨a1, a2, by show n + 1 ≤ 8; omega, a4, a5, a6, a7, a8, a9, a10, a11, a12, a13, a14, fun i (hi : i < n + 1) => ?_⟩ ?_ ?_
            · show (sUp (vwh V) n x i = 0 ∧ iB (sUp (vvl V) n y i) (-99) 99 ∧ sUp (vvl V) n y i ≠ 0) ∨ (sUp (vwh V) n x i = 1 ∧ iB (sUp (vvl V) n y i) 0 5) ∨ (sUp (vwh V) n x i = 2 ∧ iB (sUp (vvl V) n y i) 0 9)
              by_cases e : i = n
              · rw [e, sUp_eq, sUp_eq]
                exact hp
              · rw [sUp_ne e, sUp_ne e]
                exact a15 i (by omega)
            · refine ⟨c1, c2, rfl, c4, c5, c6, c7, c8, c9, c10, c11, fun i (hi : i < n + 1) => ?_⟩
              show (if 13 = 13 ∧ i = n then x else m.1 13 i) = sUp (vwh V) n x i ∧ (if 14 = 14 ∧ i = n then y else m.1 14 i) = sUp (vvl V) n y i
              by_cases e : i = n
              · rw [if_pos ⟨rfl, e⟩, if_pos ⟨rfl, e⟩, e, sUp_eq, sUp_eq]
                exact ⟨rfl, rfl⟩
              · rw [if_neg (fun z => e z.2), if_neg (fun z => e z.2), sUp_ne e, sUp_ne e]
                exact c12 i (by omega)
            · refine ⟨n3 r1 (by omega) (by omega) (by omega), n3 r2 (by omega) (by omega) (by omega), rfl, fun b (hb : b < vnb V) => ⟨n3 (r4 b hb).1 (by omega) (by omega) (by omega), n3 (r4 b hb).2 (by omega) (by omega) (by omega)⟩, fun b (hb : b < vnb V) => n3 (r5 b hb) (by omega) (by omega) (by omega), fun b k (hb : b < vnb V) (hk : k < vln V b) => n3 (r6 b k hb hk) (by have := a5 b; omega) (by have := a5 b; omega) (by omega),
                fun p (hp : p < vnp V) => ⟨n3 (r7 p hp).1 (by omega) (by omega) (by omega), n3 (r7 p hp).2.1 (by omega) (by omega) (by omega), n3 (r7 p hp).2.2.1 (by omega) (by omega) (by omega), n3 (r7 p hp).2.2.2 (by omega) (by omega) (by omega)⟩, n3 r8 (by omega) (by omega) (by omega), n3 r9 (by omega) (by omega) (by omega), n3 r10 (by omega) (by omega) (by omega), n3 r11 (by omega) (by omega) (by omega), fun i (hi : i < n + 1) => ⟨?_, ?_⟩⟩
              · refine SI_n1 (SI_n1 ?_ (by omega)) (by omega)
                by_cases e : i = n
                · rw [e, SI_eq]
                  exact sUp_eq.symm
                · rw [show vwh ((vnb V, vnp V, n + 1), V.2.1, V.2.2.1, V.2.2.2.1, V.2.2.2.2.1, (sUp (vwh V) n x, sUp (vvl V) n y)) i = vwh V i from sUp_ne e]
                  exact SI_n1 (r12 i (by omega)).1 (by omega)
              · refine SI_n1 ?_ (by omega)
                by_cases e : i = n
                · rw [e, SI_eq]
                  exact sUp_eq.symm
                · rw [show vvl ((vnb V, vnp V, n + 1), V.2.1, V.2.2.1, V.2.2.2.1, V.2.2.2.2.1, (sUp (vwh V) n x, sUp (vvl V) n y)) i = vvl V i from sUp_ne e]
                  exact SI_n1 (SI_n1 (r12 i (by omega)).2 (by omega)) (by omega)
      · refine Wr.no (v := -2) hI ?_ ?_
        · unfold F_X8_plan
          rw [if_neg hm, if_neg x1, if_pos x3, c_planned0 hx hp, o_b, if_pos rfl]
        · show F_X9_plan m x y = _
          rw [r_planB hx (Classical.propDecidable _), if_neg hp]
    · refine Wr.no (v := -1) hI ?_ ?_
      · unfold F_X8_plan
        rw [if_neg hm]
        rcases i_out (p := 0) (q := 2) (by decide) (by decide) hx2 with k | ⟨k1, k2, k3⟩
        · rw [if_pos k]
        · rw [if_neg k1, if_neg k3]
      · show F_X9_plan m x y = _
        unfold F_X9_plan
        rw [if_neg hm, isIn0 (p := 0) (q := 2) (by decide) (by decide) (by rw [i_long]; exact hx2), o_b, if_pos rfl]
end PLAN
