/-! the calls that write: bounds, turn, becomes, teeth, drop, feed -/
def Wr {α : Type} (a : Option (α × oM)) (b : oM → Option (α × oM)) : Prop := ∃ v m1 m2, a = some (v, m1) ∧ b m1 = some (v, m2) ∧ Inv m2
theorem Wr.no {α : Type} {m : oM} {v : α} (h : Inv m) {a : Option (α × oM)} {b : oM → Option (α × oM)} (ha : a = some (v, m)) (hb : b m = some (v, m)) : Wr a b := ⟨v, m, m, ha, hb, h⟩
theorem SI_n1 {m : oM} {a i k : Nat} {x v : Int32} (h : m.1 a k = v) (h1 : k ≠ i) : (oSI m a i x).1 a k = v := (SI_ne (fun e => h1 e.2)).trans h
theorem SI_n2 {m : oM} {a i j k : Nat} {x y v : Int32} (h : m.1 a k = v) (h1 : k ≠ i) (h2 : k ≠ j) : (oSI (oSI m a i x) a j y).1 a k = v := SI_n1 (SI_n1 h h1) h2
theorem agN {m : oM} {p k : Nat} {x : Int32} (h1 : 1 ≤ p) (h2 : p ≤ 14) : oAg Now m (oSI m p k x) := oAg.SI (Or.inl ⟨h1, h2⟩)
theorem ag52 {m : oM} {k : Nat} {x : Int32} : oAg Now m (oSI m 52 k x) := oAg.SI (Or.inr (Or.inl rfl))
section WRITE1
variable {m : oM} {V : oV}
theorem isIn1 {x a b : Int64} {p q : Int} (hp : a.toInt = p) (hq : b.toInt = q) (h : p ≤ x.toInt ∧ x.toInt ≤ q) : F_X9_isIn x a b = some 1 := by
  rw [f_isIn, hp, hq, if_pos h]
theorem isIn0 {x a b : Int64} {p q : Int} (hp : a.toInt = p) (hq : b.toInt = q) (h : ¬ (p ≤ x.toInt ∧ x.toInt ≤ q)) : F_X9_isIn x a b = some 0 := by
  rw [f_isIn, hp, hq, if_neg h]
theorem c_isTeeth1 {x : Int32} (h : 10 ≤ x.toInt ∧ x.toInt ≤ 99) : F_X8_isTeeth x = some 1 := by
  unfold F_X8_isTeeth
  rw [if_neg (show ¬ x < 10 by rw [i_lt, show (10 : Int32).toInt = 10 by decide]; omega), if_neg (show ¬ 99 < x by rw [i_lt, show (99 : Int32).toInt = 99 by decide]; omega)]
theorem c_isTeeth0 {x : Int32} (h : ¬ (10 ≤ x.toInt ∧ x.toInt ≤ 99)) : F_X8_isTeeth x = some 0 := by
  unfold F_X8_isTeeth
  by_cases h1 : x < 10
  · rw [if_pos h1]
  · rw [if_neg h1, if_pos]
    rw [i_lt, show (10 : Int32).toInt = 10 by decide] at h1
    rw [i_lt, show (99 : Int32).toInt = 99 by decide]
    omega
theorem p_bounds (h : Inv m) (x y : Int32) : Wr (F_X8_bounds m x y) (fun m => F_X9_bounds m x y) := by
  have hI := h
  obtain ⟨⟨V, hw, hc, hr⟩, -⟩ := h
  have ry := i_rng y
  by_cases hx : 10 ≤ x.toInt ∧ x.toInt ≤ 99
  · have x14 : (x + 14).toInt = x.toInt + 14 := by rw [i_add] <;> rw [show (14 : Int32).toInt = 14 by decide] <;> omega
    have e1 := isIn1 (x := x.toInt64) (a := 10) (b := 99) (p := 10) (q := 99) (by decide) (by decide) (by rw [i_long]; exact hx)
    by_cases hy : 10 ≤ y.toInt ∧ y.toInt ≤ 99
    · by_cases h1 : y < x
      · refine Wr.no (v := -2) hI ?_ ?_
        · unfold F_X8_bounds
          rw [c_isTeeth1 hx, o_b, if_neg i10, c_isTeeth1 hy, o_b, if_neg i10, if_pos h1]
        · show F_X9_bounds m x y = _
          unfold F_X9_bounds
          rw [i_lt] at h1
          rw [e1, o_b, if_neg i10, isIn0 (i_long x) (i_long _) (by rw [i_long]; omega), o_b, if_pos rfl]
      · have h1' := h1
        rw [i_lt] at h1'
        by_cases h2 : y ≤ x + 14
        · have h2' := h2
          rw [i_le, x14] at h2'
          refine ⟨100 * vle V + vmo V, oSI (oSI m 1 3 x) 1 4 y, oSI (oSI (oSI (oSI m 1 3 x) 1 4 y) 52 1 x) 52 2 y, ?_, ?_, ?_⟩
          · unfold F_X8_bounds
            rw [c_isTeeth1 hx, o_b, if_neg i10, c_isTeeth1 hy, o_b, if_neg i10, if_neg h1, if_pos h2, hc.le, hc.mo]
            rfl
          · have r1 : (oSI (oSI m 1 3 x) 1 4 y).1 52 1 = vle V := hr.le
            have r2 : (oSI (oSI m 1 3 x) 1 4 y).1 52 2 = vmo V := hr.mo
            show F_X9_bounds (oSI (oSI m 1 3 x) 1 4 y) x y = _
            unfold F_X9_bounds
            rw [e1, o_b, if_neg i10, isIn1 (i_long x) (i_long _) (by rw [i_long, x14]; omega), o_b, if_neg i10, if_pos (show y ≤ 99 by rw [i_le, show (99 : Int32).toInt = 99 by decide]; omega), r1, r2]
            rfl
          · obtain ⟨a1, a2, a3, a4, a5, a6, a7, a8, a9, a10, a11, a12, a13⟩ := hw
            obtain ⟨c1, c2, c3, c4, c5, c6, c7, c8, c9, c10, c11, c12⟩ := hc
            obtain ⟨r1, r2, r3, r4, r5, r6, r7, r8, r9, r10, r11, r12⟩ := hr
            refine hI.now (V' := (V.1, V.2.1, V.2.2.1, V.2.2.2.1, (x, y, vtu V, vba V), V.2.2.2.2.2)) ?_ ⟨a1, a2, a3, a4, a5, a6, a7, a8, hx, by show x.toInt ≤ y.toInt; omega, hy.2, by show y.toInt ≤ x.toInt + 14; omega, a13⟩ ?_ ?_
            · exact (((agN (by omega) (by omega)).tr (agN (by omega) (by omega))).tr ag52).tr ag52
            · exact ⟨c1, c2, c3, c4, c5, c6, c7, rfl, rfl, c10, c11, c12⟩
            · exact ⟨r1, r2, r3, fun b hb => ⟨SI_n2 (r4 b hb).1 (by omega) (by omega), SI_n2 (r4 b hb).2 (by omega) (by omega)⟩, fun b hb => SI_n2 (r5 b hb) (by omega) (by omega), fun b k hb hk => SI_n2 (r6 b k hb hk) (by omega) (by omega),
                fun q hq => ⟨SI_n2 (r7 q hq).1 (by omega) (by omega), SI_n2 (r7 q hq).2.1 (by omega) (by omega), SI_n2 (r7 q hq).2.2.1 (by omega) (by omega), SI_n2 (r7 q hq).2.2.2 (by omega) (by omega)⟩, rfl, rfl, r10, r11,
                fun i hi => ⟨SI_n2 (r12 i hi).1 (by omega) (by omega), SI_n2 (r12 i hi).2 (by omega) (by omega)⟩⟩
        · refine Wr.no (v := -2) hI ?_ ?_
          · unfold F_X8_bounds
            rw [c_isTeeth1 hx, o_b, if_neg i10, c_isTeeth1 hy, o_b, if_neg i10, if_neg h1, if_neg h2]
          · show F_X9_bounds m x y = _
            unfold F_X9_bounds
            rw [i_le, x14] at h2
            rw [e1, o_b, if_neg i10, isIn0 (i_long x) (i_long _) (by rw [i_long, x14]; omega), o_b, if_pos rfl]
    · refine Wr.no (v := -2) hI ?_ ?_
      · unfold F_X8_bounds
        rw [c_isTeeth1 hx, o_b, if_neg i10, c_isTeeth0 hy, o_b, if_pos rfl]
      · show F_X9_bounds m x y = _
        unfold F_X9_bounds
        rw [e1, o_b, if_neg i10]
        by_cases h3 : x.toInt ≤ y.toInt ∧ y.toInt ≤ x.toInt + 14
        · rw [isIn1 (i_long x) (i_long _) (by rw [i_long, x14]; exact h3), o_b, if_neg i10, if_neg (show ¬ y ≤ 99 by rw [i_le, show (99 : Int32).toInt = 99 by decide]; omega)]
        · rw [isIn0 (i_long x) (i_long _) (by rw [i_long, x14]; exact h3), o_b, if_pos rfl]
  · refine Wr.no (v := -2) hI ?_ ?_
    · unfold F_X8_bounds
      rw [c_isTeeth0 hx, o_b, if_pos rfl]
    · show F_X9_bounds m x y = _
      unfold F_X9_bounds
      rw [isIn0 (x := x.toInt64) (a := 10) (b := 99) (p := 10) (q := 99) (by decide) (by decide) (by rw [i_long]; exact hx), o_b, if_pos rfl]

-- turn
def sClamp (s : Int32) : Int32 := if s ≤ 9999 then (if -9999 ≤ s then s else -9999) else 9999
def sBk (x : Int32) : Int32 := if 0 ≤ x then 0 else 1
theorem i_nle (x y : Int32) : ¬ x ≤ y ↔ y < x := by
  rw [i_le, i_lt]
  omega
theorem sClamp_b (s : Int32) : iB (sClamp s) (-9999) 9999 := by
  unfold sClamp iB
  have a1 : (9999 : Int32).toInt = 9999 := by decide
  have a2 : (-9999 : Int32).toInt = -9999 := by decide
  by_cases h1 : s ≤ 9999
  · rw [if_pos h1]
    rw [i_le, a1] at h1
    by_cases h2 : -9999 ≤ s
    · rw [if_pos h2]
      rw [i_le, a2] at h2
      omega
    · rw [if_neg h2, a2]
      omega
  · rw [if_neg h1, a1]
    omega
theorem sBk_01 (x : Int32) : sBk x = 0 ∨ sBk x = 1 := by
  unfold sBk
  split
  · exact Or.inl rfl
  · exact Or.inr rfl
theorem c_crankBy (o : Nat) (m : oM) (x : Int32) : F_X1_crankBy o m x = some (oSI (oSI m o 7 (sClamp (m.1 o 7 + x))) o 8 (sBk x)) := by
  unfold F_X1_crankBy
  have e1 : F_J9_min_7cf53 9999 (m.1 o 7 + x) = some (if m.1 o 7 + x ≤ 9999 then m.1 o 7 + x else 9999) := by
    unfold F_J9_min_7cf53
    by_cases h : m.1 o 7 + x ≤ 9999
    · rw [if_pos h]
      split
      · rfl
      · rename_i g
        congr 1
        rw [i_eq]
        rw [i_le] at h
        rw [i_lt] at g
        omega
    · rw [if_neg h, if_neg (fun g => by rw [i_le] at h; rw [i_lt] at g; omega)]
  have e2 : F_J9_max_7cf53 (-9999) (if m.1 o 7 + x ≤ 9999 then m.1 o 7 + x else 9999) = some (sClamp (m.1 o 7 + x)) := by
    unfold F_J9_max_7cf53 sClamp
    by_cases h : m.1 o 7 + x ≤ 9999
    · rw [if_pos h, if_pos h]
      by_cases g : -9999 ≤ m.1 o 7 + x
      · rw [if_pos g]
        split
        · rfl
        · rename_i k
          congr 1
          rw [i_eq]
          rw [i_le] at g
          rw [i_lt] at k
          omega
      · rw [if_neg g, if_neg (fun k => by rw [i_le] at g; rw [i_lt] at k; omega)]
    · rw [if_neg h, if_neg h, if_pos (by decide)]
  rw [e1, o_b, e2, o_b, o_b]
  unfold sBk
  split <;> rfl
theorem r_goes (m : oM) (x : Int32) : F_X9_goes m x = some (oSI (oSI m 52 4 (sClamp (m.1 52 4 + x))) 52 5 (sBk x)) := by
  unfold F_X9_goes sClamp sBk
  rw [o_b]
  by_cases h1 : m.1 52 4 + x ≤ 9999
  · rw [if_pos h1, if_pos h1]
    by_cases h2 : -9999 ≤ m.1 52 4 + x
    · rw [if_pos h2, if_pos h2, o_b]
      split <;> rfl
    · rw [if_neg h2, if_neg h2, o_b]
      split <;> rfl
  · rw [if_neg h1, if_neg h1, o_b]
    split <;> rfl
/-- both turn -/
theorem Inv.turn (hI : Inv m) {V : oV} (hw : WF V) (hc : VC 1 m V) (hr : VR 52 m V) {t b : Int32} (ht : iB t (-9999) 9999) (hb : b = 0 ∨ b = 1) : Inv (oSI (oSI (oSI (oSI m 1 7 t) 1 8 b) 52 4 t) 52 5 b) := by
  obtain ⟨a1, a2, a3, a4, a5, a6, a7, a8, a9, a10, a11, a12, a13, a14, a15⟩ := hw
  obtain ⟨c1, c2, c3, c4, c5, c6, c7, c8, c9, c10, c11, c12⟩ := hc
  obtain ⟨r1, r2, r3, r4, r5, r6, r7, r8, r9, r10, r11, r12⟩ := hr
  refine hI.now (V' := (V.1, V.2.1, V.2.2.1, V.2.2.2.1, (vle V, vmo V, t, b), V.2.2.2.2.2)) ?_ ⟨a1, a2, a3, a4, a5, a6, a7, a8, a9, a10, a11, a12, ht, hb, a15⟩ ?_ ?_
  · exact (((agN (by omega) (by omega)).tr (agN (by omega) (by omega))).tr ag52).tr ag52
  · exact ⟨c1, c2, c3, c4, c5, c6, c7, c8, c9, rfl, rfl, c12⟩
  · exact ⟨r1, r2, r3, fun b hb => ⟨SI_n2 (r4 b hb).1 (by omega) (by omega), SI_n2 (r4 b hb).2 (by omega) (by omega)⟩, fun b hb => SI_n2 (r5 b hb) (by omega) (by omega), fun b k hb hk => SI_n2 (r6 b k hb hk) (by omega) (by omega),
      fun q hq => ⟨SI_n2 (r7 q hq).1 (by omega) (by omega), SI_n2 (r7 q hq).2.1 (by omega) (by omega), SI_n2 (r7 q hq).2.2.1 (by omega) (by omega), SI_n2 (r7 q hq).2.2.2 (by omega) (by omega)⟩, r8, r9, rfl, rfl,
      fun i hi => ⟨SI_n2 (r12 i hi).1 (by omega) (by omega), SI_n2 (r12 i hi).2 (by omega) (by omega)⟩⟩
theorem p_turn (h : Inv m) (x : Int32) : Wr (F_X8_turn m x) (fun m => F_X9_turn m x) := by
  have hI := h
  obtain ⟨⟨V, hw, hc, hr⟩, -⟩ := h
  have ht := hw.2.2.2.2.2.2.2.2.2.2.2.2.1
  have a1 : (99 : Int32).toInt = 99 := by decide
  have a2 : (-99 : Int32).toInt = -99 := by decide
  have a3 : (9999 : Int32).toInt = 9999 := by decide
  have a4 : (-9999 : Int32).toInt = -9999 := by decide
  by_cases hx : -99 ≤ x.toInt ∧ x.toInt ≤ 99
  · have e1 := isIn1 (x := x.toInt64) (a := -99) (b := 99) (p := -99) (q := 99) (by decide) (by decide) (by rw [i_long]; exact hx)
    by_cases h0 : x = 0
    · refine Wr.no (v := -2) hI ?_ ?_
      · unfold F_X8_turn F_X8_isCranked
        rw [if_neg (show ¬ x < -99 by rw [i_lt]; omega), if_neg (show ¬ 99 < x by rw [i_lt]; omega), if_pos h0, o_b, if_pos rfl]
      · show F_X9_turn m x = _
        unfold F_X9_turn
        rw [e1, o_b, if_neg i10, if_pos h0]
    · have e0 : F_X8_isCranked x = some 1 := by
        unfold F_X8_isCranked
        rw [if_neg (show ¬ x < -99 by rw [i_lt]; omega), if_neg (show ¬ 99 < x by rw [i_lt]; omega), if_neg h0]
      have hs : (vtu V + x).toInt = (vtu V).toInt + x.toInt := i_add (by have := ht.1; omega) (by have := ht.2; omega)
      by_cases h1 : -9999 ≤ (vtu V + x).toInt ∧ (vtu V + x).toInt ≤ 9999
      · have n1 : ¬ vtu V + x < -9999 := by rw [i_lt]; omega
        have n2 : vtu V + x ≤ 9999 := by rw [i_le]; omega
        have hcl : sClamp (vtu V + x) = vtu V + x := by
          unfold sClamp
          rw [if_pos n2, if_pos (by rw [i_le]; omega)]
        refine ⟨vtu V + x + 10000, oSI (oSI m 1 7 (vtu V + x)) 1 8 (sBk x), oSI (oSI (oSI (oSI m 1 7 (vtu V + x)) 1 8 (sBk x)) 52 4 (vtu V + x)) 52 5 (sBk x), ?_, ?_, hI.turn hw hc hr h1 (sBk_01 x)⟩
        · unfold F_X8_turn
          rw [e0, o_b, if_neg i10, hc.tu, if_neg n1, if_pos n2, c_crankBy, o_b, hc.tu, hcl]
          rfl
        · have r1 : (oSI (oSI m 1 7 (vtu V + x)) 1 8 (sBk x)).1 52 4 = vtu V := hr.tu
          show F_X9_turn (oSI (oSI m 1 7 (vtu V + x)) 1 8 (sBk x)) x = _
          unfold F_X9_turn
          rw [e1, o_b, if_neg i10, if_neg h0, r1, isIn1 (p := -9999) (q := 9999) (by decide) (by decide) (by rw [i_long]; exact h1), o_b, if_neg i10, r_goes, o_b, r1, hcl]
          rfl
      · refine Wr.no (v := -3) hI ?_ ?_
        · unfold F_X8_turn
          rw [e0, o_b, if_neg i10, hc.tu]
          by_cases n1 : vtu V + x < -9999
          · rw [if_pos n1]
          · rw [if_neg n1, if_neg (show ¬ vtu V + x ≤ 9999 by rw [i_le]; rw [i_lt] at n1; omega)]
        · show F_X9_turn m x = _
          unfold F_X9_turn
          rw [e1, o_b, if_neg i10, if_neg h0, hr.tu, isIn0 (p := -9999) (q := 9999) (by decide) (by decide) (by rw [i_long]; exact h1), o_b, if_pos rfl]
  · refine Wr.no (v := -2) hI ?_ ?_
    · unfold F_X8_turn F_X8_isCranked
      by_cases n1 : x < -99
      · rw [if_pos n1]
        rfl
      · rw [if_neg n1, if_pos (show 99 < x by rw [i_lt]; rw [i_lt] at n1; omega)]
        rfl
    · show F_X9_turn m x = _
      unfold F_X9_turn
      rw [isIn0 (x := x.toInt64) (a := -99) (b := 99) (p := -99) (q := 99) (by decide) (by decide) (by rw [i_long]; exact hx), o_b, if_pos rfl]
end WRITE1
