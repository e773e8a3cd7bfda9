/-! near -/
theorem lN_div {a b : Nat} (ha : a < 2 ^ 63) (hb : b < 2 ^ 63) (h0 : 0 < b) : lN a / lN b = lN (a / b) := by
  have h1 := lN_t ha
  have h2 := lN_t hb
  have := Nat.div_le_self a b
  rw [l_eq, l_div (by omega) (by omega), h1, h2, lN_t (by omega)]
  rfl
def sAbs (x : Int64) : Int64 := if 0 ≤ x then x else -x
theorem l_nle (x y : Int64) : ¬ x ≤ y ↔ y < x := by
  rw [l_le, l_lt]
  omega
/-- one candidate h over t, against the best yet -/
def sNr (a b t : Int64) (h : Int64) (s : Int64 × Int64) : Int64 × Int64 := if sAbs (s.1 * b - a * s.2) * t ≤ sAbs (h * b - a * t) * s.2 then s else (h, t)
def sN1 (a b t f : Nat) (s : Int64 × Int64) : Nat → Int64 × Int64
  | 0 => s
  | i + 1 => sNr (lN a) (lN b) (lN t) (lN (f + i)) (sN1 a b t f s i)
def sNt (a b : Nat) : Nat → Int64 × Int64
  | 0 => (lN (a / b), 1)
  | i + 1 => sN1 a b (i + 1) (a * (i + 1) / b) (sNt a b i) 2
theorem sNt_s (a b i : Nat) : sNt a b (i + 1) = sN1 a b (i + 1) (a * (i + 1) / b) (sNt a b i) 2 := rfl
def nOk (t : Nat) (s : Int64 × Int64) : Prop := 0 ≤ s.1.toInt ∧ 1 ≤ s.2.toInt ∧ s.2.toInt ≤ t
theorem nOk_1 {a b t f : Nat} (ht : 1 ≤ t) (ht2 : t < 1000) (hf : f < 2 ^ 40) {s : Int64 × Int64} (h : nOk t s) : ∀ i, i ≤ 2 → nOk t (sN1 a b t f s i)
  | 0, _ => h
  | i + 1, hi => by
    have ih := nOk_1 (a := a) (b := b) ht ht2 hf h i (by omega)
    show nOk t (if _ then sN1 a b t f s i else (lN (f + i), lN t))
    split
    · exact ih
    · refine ⟨?_, ?_, ?_⟩ <;> show _ ≤ _ <;> rw [lN_t (by omega)] <;> omega
theorem nOk_t {a b : Nat} (ha : a < 10000) : ∀ i, i < 100 → nOk (i + 1) (sNt a b i)
  | 0, _ => by
    have := Nat.div_le_self a b
    have e : a / b < 2 ^ 63 := by omega
    refine ⟨?_, ?_, ?_⟩
    · show 0 ≤ (lN (a / b)).toInt
      rw [lN_t e]
      exact Int.natCast_nonneg _
    · show 1 ≤ (1 : Int64).toInt
      decide
    · show (1 : Int64).toInt ≤ ((0 + 1 : Nat) : Int)
      decide
  | i + 1, hi => by
    have ih := nOk_t (b := b) ha i (by omega)
    have h1 : a * (i + 1) ≤ 10000 * 100 := Nat.mul_le_mul (by omega) (by omega)
    have h2 := Nat.div_le_self (a * (i + 1)) b
    obtain ⟨x, y, z⟩ := nOk_1 (a := a) (b := b) (t := i + 1) (f := a * (i + 1) / b) (by omega) (by omega) (by omega) ih 2 (by omega)
    exact ⟨x, y, Int.le_trans z (by omega)⟩
theorem c_nr1 (m : oM) (x2 x3 : Int32) {a b t f : Nat} (hf : f < 2 ^ 30) (s : Int64 × Int64) : oLoop (fun z : Int64 × Int64 × Int64 => F_X8_near_L100 m x2 x3 (lN a) (lN b) (lN t) (lN f) z.1 z.2.1 z.2.2) oFuel (s.1, s.2, lN f) = some (sN1 a b t f s 2) := by
  refine for_run (fun i => ((sN1 a b t f s i).1, (sN1 a b t f s i).2, lN (f + i))) 2 ?_ ?_ (by omega)
  · intro i hi
    show F_X8_near_L100 m x2 x3 (lN a) (lN b) (lN t) (lN f) (sN1 a b t f s i).1 (sN1 a b t f s i).2 (lN (f + i)) = _
    unfold F_X8_near_L100
    rw [lN_1, if_neg (by rw [lN_lt (by omega) (by omega)]; omega), c_abs, c_abs, o_b, o_b, o_b, o_b, lN_1]
    show (if sAbs ((sN1 a b t f s i).1 * lN b - lN a * (sN1 a b t f s i).2) * lN t ≤ sAbs (lN (f + i) * lN b - lN a * lN t) * (sN1 a b t f s i).2 then _ else _) = some (Sum.inl ((sNr (lN a) (lN b) (lN t) (lN (f + i)) (sN1 a b t f s i)).1, (sNr (lN a) (lN b) (lN t) (lN (f + i)) (sN1 a b t f s i)).2, lN (f + (i + 1))))
    unfold sNr
    split <;> rfl
  · show F_X8_near_L100 m x2 x3 (lN a) (lN b) (lN t) (lN f) _ _ (lN (f + 2)) = _
    unfold F_X8_near_L100
    rw [lN_1, if_pos (by rw [lN_lt (by omega) (by omega)]; omega)]
def sOf (a b : Nat) (s : Int64 × Int64) : Int64 := sAbs (s.1 * lN b - lN a * s.2)
theorem r_nrB (m : oM) (x2 x3 : Int32) {a b t h : Nat} (ht : t < 1000) (hb0 : 0 < b) (hb : b < 10000) (ha : a < 10000) {f : Nat} (hf : a * t / b = f) (hh : h ≤ f + 1) (H T D : Int64) :
    F_X9_near_L84 m x2 x3 (lN a) (lN b) (nI t) H T D (lN h) = some (.inl (if T ≤ 0 ∨ sAbs (lN h * lN b - lN a * lN t) * T < D * lN t then (lN h, lN t, sAbs (lN h * lN b - lN a * lN t), lN (h + 1)) else (H, T, D, lN (h + 1)))) := by
  have h1 : a * t ≤ 10000 * 1000 := Nat.mul_le_mul (by omega) (by omega)
  have h2 := Nat.div_le_self (a * t) b
  rw [hf] at h2
  unfold F_X9_near_L84
  rw [nI_l (by omega), if_neg (l_ne0 (by rw [lN_t (by omega)]; omega)), o_b, lN_mul, lN_div (by omega) (by omega) hb0, hf, lN_1, if_neg (by rw [lN_lt (by omega) (by omega)]; omega), ← lN_mul]
  simp only [o_b]
  have J : ∀ x, F_X9_near_J127 m x2 x3 (lN a) (lN b) H T D (nI t) (lN h) x = some (.inl (if T ≤ 0 ∨ x * T < D * lN t then (lN h, lN t, x, lN (h + 1)) else (H, T, D, lN (h + 1)))) := by
    intro x
    unfold F_X9_near_J127
    rw [nI_l (by omega), lN_1]
    by_cases e1 : T ≤ 0
    · rw [if_pos e1, if_pos (Or.inl e1)]
      rfl
    · rw [if_neg e1]
      by_cases e2 : x * T < D * lN t
      · rw [if_pos e2, if_pos (Or.inr e2)]
        rfl
      · rw [if_neg e2, if_neg (by rintro (z | z); exact e1 z; exact e2 z)]
        rfl
  rw [J, J]
  unfold sAbs
  split <;> rfl
theorem r_nrN (m : oM) (x2 x3 : Int32) {a b t : Nat} (ht : t < 1000) (hb0 : 0 < b) (hb : b < 10000) (ha : a < 10000) {f : Nat} (hf : a * t / b = f) {h : Nat} (hh : h ≤ f + 1) {q : Int64 × Int64} (hq : nOk t q) :
    F_X9_near_L84 m x2 x3 (lN a) (lN b) (nI t) q.1 q.2 (sOf a b q) (lN h) = some (.inl ((sNr (lN a) (lN b) (lN t) (lN h) q).1, (sNr (lN a) (lN b) (lN t) (lN h) q).2, sOf a b (sNr (lN a) (lN b) (lN t) (lN h) q), lN (h + 1))) := by
  rw [r_nrB m x2 x3 ht hb0 hb ha hf hh]
  have n0 : ¬ q.2 ≤ 0 := by
    rw [l_le, Int64.toInt_zero]
    have := hq.2.1
    omega
  have ek : sNr (lN a) (lN b) (lN t) (lN h) q = if sOf a b q * lN t ≤ sAbs (lN h * lN b - lN a * lN t) * q.2 then q else (lN h, lN t) := rfl
  by_cases k : sOf a b q * lN t ≤ sAbs (lN h * lN b - lN a * lN t) * q.2
  · rw [ek, if_pos k, if_neg]
    rintro (z | z)
    · exact n0 z
    · exact absurd k ((l_nle _ _).mpr z)
  · rw [ek, if_neg k, if_pos (Or.inr ((l_nle _ _).mp k))]
    rfl
theorem r_nrE (m : oM) (x2 x3 : Int32) {a b t : Nat} (ht : t < 1000) (hb0 : 0 < b) (hb : b < 10000) (ha : a < 10000) {f : Nat} (hf : a * t / b = f) (q : Int64 × Int64 × Int64) :
    F_X9_near_L84 m x2 x3 (lN a) (lN b) (nI t) q.1 q.2.1 q.2.2 (lN (f + 1 + 1)) = some (.inr q) := by
  have h1 : a * t ≤ 10000 * 1000 := Nat.mul_le_mul (by omega) (by omega)
  have h2 := Nat.div_le_self (a * t) b
  rw [hf] at h2
  unfold F_X9_near_L84
  rw [nI_l (by omega), if_neg (l_ne0 (by rw [lN_t (by omega)]; omega)), o_b, lN_mul, lN_div (by omega) (by omega) hb0, hf, lN_1, if_pos (by rw [lN_lt (by omega) (by omega)]; omega)]
theorem r_nrF (m : oM) (x2 x3 : Int32) {a b t : Nat} (ht : t < 1000) (hb0 : 0 < b) (hb : b < 10000) (ha : a < 10000) {f : Nat} (hf : a * t / b = f) (D H : Int64) :
    F_X9_near_L84 m x2 x3 (lN a) (lN b) (nI t) H 0 D (lN f) = some (.inl (lN f, lN t, sOf a b (lN f, lN t), lN (f + 1))) := by
  rw [r_nrB m x2 x3 ht hb0 hb ha hf (by omega), if_pos (Or.inl (Int64.le_refl 0))]
  rfl
theorem sNr_id (a b t h : Int64) : sNr a b t h (h, t) = (h, t) := by
  unfold sNr
  rw [if_pos (Int64.le_refl _)]
theorem r_nr1 (m : oM) (x2 x3 : Int32) {a b t : Nat} (ht : t < 1000) (hb0 : 0 < b) (hb : b < 10000) (ha : a < 10000) {f : Nat} (hf : a * t / b = f) (ht1 : 1 ≤ t) (s : Int64 × Int64) (H T D : Int64)
    (h : (T = 0 ∧ s = (lN f, lN t)) ∨ (nOk t s ∧ H = s.1 ∧ T = s.2 ∧ D = sOf a b s)) :
    oLoop (fun z : Int64 × Int64 × Int64 × Int64 => F_X9_near_L84 m x2 x3 (lN a) (lN b) (nI t) z.1 z.2.1 z.2.2.1 z.2.2.2) oFuel (H, T, D, lN f) = some ((sN1 a b t f s 2).1, (sN1 a b t f s 2).2, sOf a b (sN1 a b t f s 2)) := by
  have h1 : a * t ≤ 10000 * 1000 := Nat.mul_le_mul (by omega) (by omega)
  have h2 := Nat.div_le_self (a * t) b
  rw [hf] at h2
  have ok0 : nOk t s := by
    rcases h with ⟨-, e⟩ | ⟨x, -⟩
    · rw [e]
      exact ⟨by show 0 ≤ (lN f).toInt; rw [lN_t (by omega)]; omega, by show 1 ≤ (lN t).toInt; rw [lN_t (by omega)]; omega, by show (lN t).toInt ≤ t; rw [lN_t (by omega)]; omega⟩
    · exact x
  have s0 : F_X9_near_L84 m x2 x3 (lN a) (lN b) (nI t) H T D (lN f) = some (.inl ((sN1 a b t f s 1).1, (sN1 a b t f s 1).2, sOf a b (sN1 a b t f s 1), lN (f + 1))) := by
    show _ = some (Sum.inl ((sNr (lN a) (lN b) (lN t) (lN f) s).1, (sNr (lN a) (lN b) (lN t) (lN f) s).2, sOf a b (sNr (lN a) (lN b) (lN t) (lN f) s), lN (f + 1)))
    rcases h with ⟨rfl, e⟩ | ⟨x, rfl, rfl, rfl⟩
    · rw [r_nrF m x2 x3 ht hb0 hb ha hf, e, sNr_id]
    · exact r_nrN m x2 x3 ht hb0 hb ha hf (by omega) x
  have ok1 := nOk_1 (a := a) (b := b) (f := f) ht1 ht (by omega) ok0 1 (by omega)
  have s1 : F_X9_near_L84 m x2 x3 (lN a) (lN b) (nI t) (sN1 a b t f s 1).1 (sN1 a b t f s 1).2 (sOf a b (sN1 a b t f s 1)) (lN (f + 1)) = some (.inl ((sN1 a b t f s 2).1, (sN1 a b t f s 2).2, sOf a b (sN1 a b t f s 2), lN (f + 1 + 1))) := r_nrN m x2 x3 ht hb0 hb ha hf (by omega) ok1
  have T2 := oTo.done (f := fun z : Int64 × Int64 × Int64 × Int64 => F_X9_near_L84 m x2 x3 (lN a) (lN b) (nI t) z.1 z.2.1 z.2.2.1 z.2.2.2) (s := ((sN1 a b t f s 2).1, (sN1 a b t f s 2).2, sOf a b (sN1 a b t f s 2), lN (f + 1 + 1))) 0 (r_nrE m x2 x3 ht hb0 hb ha hf ((sN1 a b t f s 2).1, (sN1 a b t f s 2).2, sOf a b (sN1 a b t f s 2)))
  have T1 := oTo.step (f := fun z : Int64 × Int64 × Int64 × Int64 => F_X9_near_L84 m x2 x3 (lN a) (lN b) (nI t) z.1 z.2.1 z.2.2.1 z.2.2.2) (s := ((sN1 a b t f s 1).1, (sN1 a b t f s 1).2, sOf a b (sN1 a b t f s 1), lN (f + 1))) s1 T2
  have T0 := oTo.step (f := fun z : Int64 × Int64 × Int64 × Int64 => F_X9_near_L84 m x2 x3 (lN a) (lN b) (nI t) z.1 z.2.1 z.2.2.1 z.2.2.2) (s := (H, T, D, lN f)) s0 T1
  exact T0.run (by omega)
section NEAR
variable {m : oM} {V : oV}
theorem p_near (h : Inv m) (x y p : Int32) : Same (F_X8_near m x y p) (F_X9_near m x y p) := by
  obtain ⟨⟨V, hw, hc, hr⟩, -⟩ := h
  unfold F_X8_near F_X9_near
  by_cases hB : isB V x
  · obtain ⟨b, hb, rfl⟩ := isB_of hB
    rw [c_hasBody1 hc hw hB, r_isBody1 hr hw hB, o_b, o_b, if_neg i10, if_neg i10, f_isIn, o_b, i_long, show (1 : Int64).toInt = 1 by decide, show (99 : Int64).toInt = 99 by decide, c_isPart, r_isPart, o_b, o_b]
    have c1 : y < 1 ↔ y.toInt < 1 := by rw [i_lt, Int32.toInt_one]
    have c2 : 99 < y ↔ 99 < y.toInt := by rw [i_lt, show (99 : Int32).toInt = 99 by decide]
    by_cases k1 : y.toInt < 1
    · have n1 : ¬ (1 ≤ y.toInt ∧ y.toInt ≤ 99) := by omega
      rw [if_pos (c1.mpr k1), if_neg n1, if_pos rfl]
      exact ⟨_, rfl, rfl⟩
    · rw [if_neg (fun z => k1 (c1.mp z))]
      by_cases k2 : 99 < y.toInt
      · have n1 : ¬ (1 ≤ y.toInt ∧ y.toInt ≤ 99) := by omega
        rw [if_pos (c2.mpr k2), if_neg n1, if_pos rfl]
        exact ⟨_, rfl, rfl⟩
      · have n1 : 1 ≤ y.toInt ∧ y.toInt ≤ 99 := by omega
        rw [if_neg (fun z => k2 (c2.mp z)), if_pos n1, if_neg i10]
        by_cases hp : sPart p = 0
        · rw [if_pos hp, if_pos hp]
          exact ⟨_, rfl, rfl⟩
        · rw [if_neg hp, if_neg hp]
          have hA := (hw.2.2.2.1 b hb).1
          have hBe := (hw.2.2.2.1 b hb).2
          obtain ⟨A, hA1, hA2⟩ := i_of (x := vab V b) (n := 10000) (by have := hA.1; omega) (by have := hA.2; omega)
          obtain ⟨B, hB1, hB2⟩ := i_of (x := vbe V b) (n := 10000) (by have := hBe.1; omega) (by have := hBe.2; omega)
          have hB0 : 0 < B := by
            have := hBe.1
            rw [hB2, nI_toInt (by omega)] at this
            omega
          obtain ⟨N, hN, rfl⟩ := i_of (x := y) (n := 100) (by omega) (by omega)
          have hAB := Nat.div_le_self A B
          rw [c1_ab hc hw hb, c1_be hc hw hb, r_ab hr hw hb, r_be hr hw hb]
          simp only [o_b]
          rw [hA2, hB2, nI_l (by omega), nI_l (by omega), c_quot (l_ne0 (by rw [lN_t (by omega)]; omega)), o_b, lN_div (by omega) (by omega) hB0]
          have L := for_run (f := fun s : Int64 × Int64 × Int64 => F_X8_near_L76 m (nI N) p (lN A) (lN B) s.1 s.2.1 s.2.2) (fun i => ((sNt A B i).1, (sNt A B i).2, lN (i + 1))) N (b := sNt A B N) ?_ ?_ (by omega)
          · have K := for_run (f := fun s : Int64 × Int64 × Int64 × Int32 => F_X9_near_L67 m (nI N) p (lN A) (lN B) s.1 s.2.1 s.2.2.1 s.2.2.2) (fun i => if i = 0 then (0, 0, 0, 1) else ((sNt A B i).1, (sNt A B i).2, sOf A B (sNt A B i), nI (i + 1))) N (b := sNt A B N) ?_ ?_ (by omega)
            · have ok := nOk_t (b := B) hA1 N hN
              have e1 := ok.1
              have e2 := ok.2
              rw [show oLoop (fun s : Int64 × Int64 × Int64 => F_X8_near_L76 m (nI N) p (lN A) (lN B) s.1 s.2.1 s.2.2) oFuel (lN (A / B), 1, 1) = _ from L, show oLoop (fun s : Int64 × Int64 × Int64 × Int32 => F_X9_near_L67 m (nI N) p (lN A) (lN B) s.1 s.2.1 s.2.2.1 s.2.2.2) oFuel (0, 0, 0, 1) = _ from K, o_b, o_b, c_lowest p (by omega) (by omega) (by omega), r_told p (by omega) (by omega) (by omega)]
              exact ⟨_, rfl, rfl⟩
            · intro i hi
              have ok := nOk_t (b := B) hA1 i (by omega)
              by_cases hi0 : i = 0
              · subst hi0
                rw [if_pos rfl, if_neg (by omega)]
                show F_X9_near_L67 m (nI N) p (lN A) (lN B) 0 0 0 (nI 1) = _
                unfold F_X9_near_L67
                rw [if_neg (nI_nlt (by omega) (by omega)), if_neg (l_ne0 (by rw [lN_t (by omega)]; omega)), o_b, nI_l (by omega), lN_mul, lN_div (by omega) (by omega) hB0,
                  r_nr1 m (nI N) p (t := 1) (by omega) hB0 hB1 hA1 (f := A * 1 / B) rfl (by omega) (sNt A B 0) 0 0 0 (Or.inl ⟨rfl, by rw [Nat.mul_one]; rfl⟩), o_b, nI_1, sNt_s]
              · rw [if_neg hi0, if_neg (by omega)]
                show F_X9_near_L67 m (nI N) p (lN A) (lN B) (sNt A B i).1 (sNt A B i).2 (sOf A B (sNt A B i)) (nI (i + 1)) = _
                have h1 : A * (i + 1) ≤ 10000 * 1000 := Nat.mul_le_mul (by omega) (by omega)
                unfold F_X9_near_L67
                rw [if_neg (nI_nlt (by omega) (by omega)), if_neg (l_ne0 (by rw [lN_t (by omega)]; omega)), o_b, nI_l (by omega), lN_mul, lN_div (by omega) (by omega) hB0,
                  r_nr1 m (nI N) p (t := i + 1) (by omega) hB0 hB1 hA1 (f := A * (i + 1) / B) rfl (by omega) (sNt A B i) _ _ _ (Or.inr ⟨ok, rfl, rfl, rfl⟩), o_b, nI_1, sNt_s]
            · show F_X9_near_L67 m (nI N) p (lN A) (lN B) _ _ _ _ = _
              rw [if_neg (by rw [nI_toInt (by omega)] at n1; omega)]
              unfold F_X9_near_L67
              rw [if_pos (nI_lt (by omega) (by omega))]
          · intro i hi
            have h1 : A * (i + 1) ≤ 10000 * 1000 := Nat.mul_le_mul (by omega) (by omega)
            have h2 := Nat.div_le_self (A * (i + 1)) B
            show F_X8_near_L76 m (nI N) p (lN A) (lN B) (sNt A B i).1 (sNt A B i).2 (lN (i + 1)) = _
            unfold F_X8_near_L76
            rw [nI_l (by omega), if_neg (by rw [lN_lt (by omega) (by omega)]; omega), lN_mul, c_quot (l_ne0 (by rw [lN_t (by omega)]; omega)), o_b, lN_div (by omega) (by omega) hB0]
            rw [show oLoop (fun s : Int64 × Int64 × Int64 => F_X8_near_L100 m (nI N) p (lN A) (lN B) (lN (i + 1)) (lN (A * (i + 1) / B)) s.1 s.2.1 s.2.2) oFuel ((sNt A B i).1, (sNt A B i).2, lN (A * (i + 1) / B)) = _ from c_nr1 m (nI N) p (by omega) _, o_b, o_b, lN_1, sNt_s]
          · show F_X8_near_L76 m (nI N) p (lN A) (lN B) _ _ (lN (N + 1)) = _
            unfold F_X8_near_L76
            rw [nI_l (by omega), if_pos (by rw [lN_lt (by omega) (by omega)]; omega)]
  · rw [c_hasBody0 hc hw hB, r_isBody0 hr hw hB]
    exact ⟨_, rfl, rfl⟩
end NEAR
