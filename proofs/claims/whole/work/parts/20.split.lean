/-! split -/
theorem VC.nb {o : Nat} {m : oM} {V : oV} (h : VC o m V) : m.1 o 0 = nI (vnb V) := h.1
theorem VC.np {o : Nat} {m : oM} {V : oV} (h : VC o m V) : m.1 (o + 3) 0 = nI (vnp V) := h.2.1
theorem VC.ps {o : Nat} {m : oM} {V : oV} (h : VC o m V) : m.1 (o + 11) 0 = nI (vps V) := h.2.2.1
theorem VC.le {o : Nat} {m : oM} {V : oV} (h : VC o m V) : m.1 o 3 = vle V := h.2.2.2.2.2.2.2.1
theorem VC.mo {o : Nat} {m : oM} {V : oV} (h : VC o m V) : m.1 o 4 = vmo V := h.2.2.2.2.2.2.2.2.1
theorem VC.tu {o : Nat} {m : oM} {V : oV} (h : VC o m V) : m.1 o 7 = vtu V := h.2.2.2.2.2.2.2.2.2.1
theorem VC.ba {o : Nat} {m : oM} {V : oV} (h : VC o m V) : m.1 o 8 = vba V := h.2.2.2.2.2.2.2.2.2.2.1
theorem VR.nb {a : Nat} {m : oM} {V : oV} (h : VR a m V) : m.1 a 0 = nI (vnb V) := h.1
theorem VR.np {a : Nat} {m : oM} {V : oV} (h : VR a m V) : m.1 a 3 = nI (vnp V) := h.2.1
theorem VR.ps {a : Nat} {m : oM} {V : oV} (h : VR a m V) : m.1 a 6 = nI (vps V) := h.2.2.1
theorem VR.le {a : Nat} {m : oM} {V : oV} (h : VR a m V) : m.1 a 1 = vle V := h.2.2.2.2.2.2.2.1
theorem VR.mo {a : Nat} {m : oM} {V : oV} (h : VR a m V) : m.1 a 2 = vmo V := h.2.2.2.2.2.2.2.2.1
theorem VR.tu {a : Nat} {m : oM} {V : oV} (h : VR a m V) : m.1 a 4 = vtu V := h.2.2.2.2.2.2.2.2.2.1
theorem VR.ba {a : Nat} {m : oM} {V : oV} (h : VR a m V) : m.1 a 5 = vba V := h.2.2.2.2.2.2.2.2.2.2.1
/-- the bounds as numbers -/
theorem WF.bd {V : oV} (hw : WF V) : ∃ l r : Nat, 10 ≤ l ∧ l + r ≤ 99 ∧ r ≤ 14 ∧ vle V = nI l ∧ vmo V = nI (l + r) := by
  obtain ⟨-, -, -, -, -, -, -, -, h1, h2, h3, h4, -⟩ := hw
  have h5 := h1.1
  obtain ⟨l, hl, e1⟩ := i_of (x := vle V) (n := 100) (by omega) (by omega)
  obtain ⟨k, hk, e2⟩ := i_of (x := vmo V) (n := 100) (by omega) (by omega)
  rw [e1, nI_toInt (by omega)] at h2 h4 h5
  rw [e2, nI_toInt (by omega)] at h2 h3 h4
  exact ⟨l, k - l, by omega, by omega, by omega, e1, by rw [e2, show l + (k - l) = k by omega]⟩
/-- what stands for a tooth count: none is 0 -/
def sCo (x k mo p : Int32) : Int32 := if k = 1 then (if p = x then x else 0) else if oRI x p = 0 then (if x / p < p then 0 else if mo < x / p then 0 else 100 * p + x / p) else 0
def sSp (f : Nat → Int32) (w : Int32) : Nat → Nat × Int32
  | 0 => (0, -5)
  | i + 1 => if f i = 0 then sSp f w i else ((sSp f w i).1 + 1, if nI (sSp f w i).1 = w then f i else (sSp f w i).2)
theorem sSp_le (f : Nat → Int32) (w : Int32) : ∀ i, (sSp f w i).1 ≤ i
  | 0 => Nat.le_refl _
  | i + 1 => by
    have := sSp_le f w i
    show (if f i = 0 then sSp f w i else ((sSp f w i).1 + 1, if nI (sSp f w i).1 = w then f i else (sSp f w i).2)).1 ≤ i + 1
    split
    · omega
    · show (sSp f w i).1 + 1 ≤ i + 1
      omega
theorem sSp_stay (f : Nat → Int32) {w : Int32} {n : Nat} (hn : n < 1000) (hw : nI n = w) {i : Nat} (h : n < (sSp f w i).1) : ∀ j, i + j < 1000 → n < (sSp f w (i + j)).1 ∧ (sSp f w (i + j)).2 = (sSp f w i).2
  | 0, _ => ⟨h, rfl⟩
  | j + 1, hj => by
    obtain ⟨h1, h2⟩ := sSp_stay f hn hw h j (by omega)
    have h3 := sSp_le f w (i + j)
    have e : sSp f w (i + (j + 1)) = if f (i + j) = 0 then sSp f w (i + j) else ((sSp f w (i + j)).1 + 1, if nI (sSp f w (i + j)).1 = w then f (i + j) else (sSp f w (i + j)).2) := rfl
    rw [e]
    by_cases c : f (i + j) = 0
    · rw [if_pos c]
      exact ⟨h1, h2⟩
    · rw [if_neg c]
      refine ⟨by show n < (sSp f w (i + j)).1 + 1; omega, ?_⟩
      show (if nI (sSp f w (i + j)).1 = w then f (i + j) else (sSp f w (i + j)).2) = _
      rw [if_neg, h2]
      intro z
      have := (nI_eq (by omega) (by omega)).mp (z.trans hw.symm)
      omega
section SPLIT
variable {m : oM} {V : oV}
theorem c_spB (h : VC 1 m V) {x k w : Int32} (hk : k = 1 ∨ k = 2) {l r i : Nat} (hl : 10 ≤ l) (hm : l + r ≤ 99) (hi : i ≤ r) (e2 : vmo V = nI (l + r)) (n : Int32) :
    F_X8_split_L37 m x k w n (nI (l + i)) = F_X8_split_J71 m x k w n (nI (l + i)) (sCo x k (nI (l + r)) (nI (l + i))) := by
  unfold F_X8_split_L37
  have hmo : m.1 1 4 = nI (l + r) := by rw [h.mo, e2]
  rw [hmo, if_neg (nI_nlt (by omega) (by omega))]
  unfold sCo
  rcases hk with rfl | rfl
  · rw [if_pos rfl, if_pos rfl]
    unfold F_X8_splitIntoOne
    by_cases e : x = nI (l + i)
    · rw [if_pos e, if_pos e.symm, o_b]
    · rw [if_neg e, if_neg (fun z => e z.symm), o_b]
  · rw [if_neg (show ¬ (2 : Int32) = 1 by decide), if_neg (show ¬ (2 : Int32) = 1 by decide)]
    unfold F_X8_splitIntoTwo
    have z0 : ¬ nI (l + i) = 0 := nI_ne0 (by omega) (by omega)
    rw [if_neg (show ¬ nI (l + i) < 1 from nI_nlt (a := l + i) (b := 1) (by omega) (by omega)), if_neg z0, o_b, hmo]
    by_cases e1 : oRI x (nI (l + i)) = 0
    · rw [if_pos e1, if_pos e1, if_neg z0, o_b]
      by_cases e3 : x / nI (l + i) < nI (l + i)
      · rw [if_pos e3, if_pos e3, o_b]
      · rw [if_neg e3, if_neg e3]
        by_cases e4 : nI (l + r) < x / nI (l + i)
        · rw [if_pos e4, if_pos e4, o_b]
        · rw [if_neg e4, if_neg e4, o_b]
    · rw [if_neg e1, if_neg e1, o_b]
theorem r_spB (h : VR 52 m V) {x k w : Int32} (hx : 1 ≤ x.toInt) (hk : k = 1 ∨ k = 2) {l r i : Nat} (hl : 10 ≤ l) (hm : l + r ≤ 99) (hi : i ≤ r) (e1 : vle V = nI l) (e2 : vmo V = nI (l + r)) (n : Nat) (a : Int32) :
    F_X9_split_L42 m x k w (nI n) a (nI (l + i)) = some (.inl (if sCo x k (nI (l + r)) (nI (l + i)) = 0 then (nI n, a, nI (l + i + 1)) else (nI (n + 1), if nI n = w then sCo x k (nI (l + r)) (nI (l + i)) else a, nI (l + i + 1)))) := by
  have hmo : m.1 52 2 = nI (l + r) := by rw [h.mo, e2]
  have hle : m.1 52 1 = nI l := by rw [h.le, e1]
  have z0 : ¬ nI (l + i) = 0 := nI_ne0 (by omega) (by omega)
  have t1 : (nI (l + i)).toInt = ((l + i : Nat) : Int) := nI_toInt (by omega)
  have t2 : (nI (l + r)).toInt = ((l + r : Nat) : Int) := nI_toInt (by omega)
  have t3 : (nI l).toInt = (l : Int) := nI_toInt (by omega)
  have no : ∀ c, c = 0 → F_X9_split_J104 m x k w (nI n) a (nI (l + i)) 0 = some (.inl (if c = 0 then (nI n, a, nI (l + i + 1)) else (nI (n + 1), if nI n = w then c else a, nI (l + i + 1)))) := by
    intro c hc
    unfold F_X9_split_J104
    rw [if_pos rfl, if_pos hc, nI_1]
  have yes : ∀ c : Int32, ¬ c = 0 → (if k = 1 then x else 100 * nI (l + i) + x / nI (l + i)) = c → F_X9_split_J104 m x k w (nI n) a (nI (l + i)) 1 = some (.inl (if c = 0 then (nI n, a, nI (l + i + 1)) else (nI (n + 1), if nI n = w then c else a, nI (l + i + 1)))) := by
    intro c hc he
    unfold F_X9_split_J104
    rw [if_neg i10, if_neg hc, nI_1, nI_1]
    by_cases e : nI n = w
    · rw [if_pos e, if_pos e]
      by_cases ek : k = 1
      · rw [if_pos ek]
        rw [if_pos ek] at he
        rw [he]
      · rw [if_neg ek, if_neg z0, o_b, o_b]
        rw [if_neg ek] at he
        rw [he]
    · rw [if_neg e, if_neg e]
  unfold F_X9_split_L42
  rw [hmo, if_neg (nI_nlt (by omega) (by omega))]
  rcases hk with rfl | rfl
  · rw [if_pos rfl]
    by_cases e : nI (l + i) = x
    · have hc : sCo x 1 (nI (l + r)) (nI (l + i)) = x := by
        unfold sCo
        rw [if_pos rfl, if_pos e]
      rw [if_pos e, hc]
      exact yes x (by rw [← e]; exact z0) (if_pos rfl)
    · have hc : sCo x 1 (nI (l + r)) (nI (l + i)) = 0 := by
        unfold sCo
        rw [if_pos rfl, if_neg e]
      rw [if_neg e, hc]
      exact no 0 rfl
  · have n21 : ¬ (2 : Int32) = 1 := by decide
    rw [if_neg n21, if_neg z0, o_b]
    have hC : sCo x 2 (nI (l + r)) (nI (l + i)) = if oRI x (nI (l + i)) = 0 then (if x / nI (l + i) < nI (l + i) then 0 else if nI (l + r) < x / nI (l + i) then 0 else 100 * nI (l + i) + x / nI (l + i)) else 0 := by
      unfold sCo
      rw [if_neg n21]
    unfold F_X9_split_J103
    by_cases c1 : oRI x (nI (l + i)) = 0
    · rw [if_pos c1] at hC
      rw [if_pos c1, if_neg z0, o_b]
      by_cases c2 : x / nI (l + i) < nI (l + i)
      · rw [if_pos c2] at hC
        rw [if_pos c2]
        exact no _ hC
      · rw [if_neg c2] at hC
        rw [if_neg c2, o_b]
        unfold F_X9_isWithin
        rw [f_isIn, o_b, o_b, hle, hmo, i_long, i_long, i_long]
        rw [i_lt] at c2
        by_cases c3 : nI (l + r) < x / nI (l + i)
        · have c3' := c3
          rw [i_lt] at c3'
          rw [if_pos c3] at hC
          have nn : ¬ ((nI l).toInt ≤ (x / nI (l + i)).toInt ∧ (x / nI (l + i)).toInt ≤ (nI (l + r)).toInt) := by omega
          rw [if_neg nn, if_pos rfl]
          exact no _ hC
        · have c3' := c3
          rw [i_lt] at c3'
          rw [if_neg c3] at hC
          have nn : (nI l).toInt ≤ (x / nI (l + i)).toInt ∧ (x / nI (l + i)).toInt ≤ (nI (l + r)).toInt := by omega
          rw [if_pos nn, if_neg i10]
          refine yes _ ?_ (by rw [if_neg n21, hC])
          rw [hC]
          have p1 : (100 * nI (l + i)).toInt = 100 * ((l + i : Nat) : Int) := by
            rw [i_mul] <;> rw [t1, show (100 : Int32).toInt = 100 by decide] <;> omega
          rw [i_eq, i_add (by omega) (by omega), p1, Int32.toInt_zero]
          omega
    · rw [if_neg c1] at hC
      rw [if_neg c1]
      exact no _ hC
theorem c_spK (h : VC 1 m V) {x k w : Int32} (hk : k = 1 ∨ k = 2) {l r : Nat} (hl : 10 ≤ l) (hm : l + r ≤ 99) (e2 : vmo V = nI (l + r)) (f : Nat → Int32) (hf : f = fun i => sCo x k (nI (l + r)) (nI (l + i))) :
    ∀ t i, i + t = r + 1 → (sSp f w i).2 = -5 → ∃ q, oTo (fun s : Int32 × Int32 => F_X8_split_L37 m x k w s.1 s.2) (nI (sSp f w i).1, nI (l + i)) q t ∧ Sum.elim (fun y => if w = -1 then some y else some (-5)) (fun z => some z) q = (if w = -1 then some (nI (sSp f w (r + 1)).1) else some (sSp f w (r + 1)).2)
  | 0, i, hi, h5 => by
    refine ⟨.inl (nI (sSp f w i).1), oTo.done _ ?_, ?_⟩
    · show F_X8_split_L37 m x k w (nI (sSp f w i).1) (nI (l + i)) = _
      unfold F_X8_split_L37
      rw [h.mo, e2, if_pos (nI_lt (by omega) (by omega))]
    · rw [show r + 1 = i by omega, h5]
      rfl
  | t + 1, i, hi, h5 => by
    have hle := sSp_le f w i
    have hb := c_spB h (x := x) (w := w) hk hl hm (show i ≤ r by omega) e2 (nI (sSp f w i).1)
    have ef : f i = sCo x k (nI (l + r)) (nI (l + i)) := by rw [hf]
    rw [← ef] at hb
    unfold F_X8_split_J71 at hb
    have es : sSp f w (i + 1) = if f i = 0 then sSp f w i else ((sSp f w i).1 + 1, if nI (sSp f w i).1 = w then f i else (sSp f w i).2) := rfl
    by_cases c0 : f i = 0
    · rw [if_pos c0] at hb es
      obtain ⟨q, h1, h2⟩ := c_spK h hk hl hm e2 f hf t (i + 1) (by omega) (by rw [es]; exact h5)
      refine ⟨q, oTo.step (s' := (nI (sSp f w (i + 1)).1, nI (l + (i + 1)))) ?_ h1, h2⟩
      rw [es]
      show F_X8_split_L37 m x k w (nI (sSp f w i).1) (nI (l + i)) = _
      rw [hb, nI_1]
      rfl
    · rw [if_neg c0] at hb es
      by_cases c1 : nI (sSp f w i).1 = w
      · rw [if_pos c1] at hb es
        refine ⟨.inr (f i), oTo.done _ hb, ?_⟩
        obtain ⟨-, st⟩ := sSp_stay f (n := (sSp f w i).1) (by omega) c1 (i := i + 1) (by rw [es]; show _ < (sSp f w i).1 + 1; omega) (r + 1 - (i + 1)) (by omega)
        rw [show i + 1 + (r + 1 - (i + 1)) = r + 1 by omega, es] at st
        have nw : ¬ w = -1 := by
          rw [← c1, i_eq, nI_toInt (by omega), show (-1 : Int32).toInt = -1 by decide]
          omega
        rw [if_neg nw, st]
        rfl
      · rw [if_neg c1] at hb es
        obtain ⟨q, h1, h2⟩ := c_spK h hk hl hm e2 f hf t (i + 1) (by omega) (by rw [es]; exact h5)
        refine ⟨q, oTo.step (s' := (nI (sSp f w (i + 1)).1, nI (l + (i + 1)))) ?_ h1, h2⟩
        rw [es]
        show F_X8_split_L37 m x k w (nI (sSp f w i).1) (nI (l + i)) = _
        rw [hb, nI_1, nI_1]
        rfl
theorem p_split (h : Inv m) (x k w : Int32) : Same (F_X8_split m x k w) (F_X9_split m x k w) := by
  obtain ⟨⟨V, hw, hc, hr⟩, -⟩ := h
  unfold F_X8_split F_X9_split
  simp only [f_isIn, o_b]
  rw [i_long, i_long, show (1 : Int64).toInt = 1 by decide, show (2 : Int64).toInt = 2 by decide, show (9999 : Int64).toInt = 9999 by decide]
  have c1 : x < 1 ↔ x.toInt < 1 := by rw [i_lt, Int32.toInt_one]
  have c2 : 9999 < x ↔ 9999 < x.toInt := by rw [i_lt, show (9999 : Int32).toInt = 9999 by decide]
  have c3 : k < 1 ↔ k.toInt < 1 := by rw [i_lt, Int32.toInt_one]
  have c4 : k ≤ 2 ↔ k.toInt ≤ 2 := by rw [i_le, show (2 : Int32).toInt = 2 by decide]
  by_cases hx : 1 ≤ x.toInt ∧ x.toInt ≤ 9999
  · rw [if_pos hx, if_neg i10, if_neg (fun z => by have := c1.mp z; omega), if_neg (fun z => by have := c2.mp z; omega)]
    by_cases hk : 1 ≤ k.toInt ∧ k.toInt ≤ 2
    · rw [if_pos hk, if_neg i10, if_neg (fun z => by have := c3.mp z; omega), if_pos (c4.mpr hk.2)]
      have hk' : k = 1 ∨ k = 2 := by
        rw [i_eq, i_eq, Int32.toInt_one, show (2 : Int32).toInt = 2 by decide]
        omega
      obtain ⟨l, r, hl, hm, hr14, e1, e2⟩ := hw.bd
      rw [hc.le, hr.le, e1]
      obtain ⟨q, h1, h2⟩ := c_spK hc (x := x) (w := w) hk' hl hm e2 _ rfl (r + 1) 0 (by omega) rfl
      have A : oLoop (fun s : Int32 × Int32 => F_X8_split_L37 m x k w s.1 s.2) oFuel (0, nI l) = some q := h1.run (by omega)
      rw [A, o_b, h2]
      have K := for_run (f := fun s : Int32 × Int32 × Int32 => F_X9_split_L42 m x k w s.1 s.2.1 s.2.2) (fun i => (nI (sSp (fun i => sCo x k (nI (l + r)) (nI (l + i))) w i).1, (sSp (fun i => sCo x k (nI (l + r)) (nI (l + i))) w i).2, nI (l + i))) (r + 1) (b := (nI (sSp (fun i => sCo x k (nI (l + r)) (nI (l + i))) w (r + 1)).1, (sSp (fun i => sCo x k (nI (l + r)) (nI (l + i))) w (r + 1)).2)) ?_ ?_ (by omega)
      · have K' : oLoop (fun s : Int32 × Int32 × Int32 => F_X9_split_L42 m x k w s.1 s.2.1 s.2.2) oFuel (0, -5, nI l) = _ := K
        rw [K', o_b]
        rw [o_if]
        exact ⟨_, rfl, rfl⟩
      · intro i hi
        show F_X9_split_L42 m x k w (nI (sSp (fun i => sCo x k (nI (l + r)) (nI (l + i))) w i).1) (sSp (fun i => sCo x k (nI (l + r)) (nI (l + i))) w i).2 (nI (l + i)) = _
        rw [r_spB hr hx.1 hk' hl hm (by omega) e1 e2]
        show _ = some (Sum.inl (nI (if sCo x k (nI (l + r)) (nI (l + i)) = 0 then sSp (fun i => sCo x k (nI (l + r)) (nI (l + i))) w i else ((sSp (fun i => sCo x k (nI (l + r)) (nI (l + i))) w i).1 + 1, if nI (sSp (fun i => sCo x k (nI (l + r)) (nI (l + i))) w i).1 = w then sCo x k (nI (l + r)) (nI (l + i)) else (sSp (fun i => sCo x k (nI (l + r)) (nI (l + i))) w i).2)).1, (if sCo x k (nI (l + r)) (nI (l + i)) = 0 then sSp (fun i => sCo x k (nI (l + r)) (nI (l + i))) w i else ((sSp (fun i => sCo x k (nI (l + r)) (nI (l + i))) w i).1 + 1, if nI (sSp (fun i => sCo x k (nI (l + r)) (nI (l + i))) w i).1 = w then sCo x k (nI (l + r)) (nI (l + i)) else (sSp (fun i => sCo x k (nI (l + r)) (nI (l + i))) w i).2)).2, nI (l + (i + 1))))
        by_cases c0 : sCo x k (nI (l + r)) (nI (l + i)) = 0
        · rw [if_pos c0, if_pos c0]
          rfl
        · rw [if_neg c0, if_neg c0]
          rfl
      · show F_X9_split_L42 m x k w _ _ (nI (l + (r + 1))) = _
        unfold F_X9_split_L42
        rw [hr.mo, e2, if_pos (nI_lt (by omega) (by omega))]
    · rw [if_neg hk, if_pos rfl]
      by_cases d1 : k < 1
      · rw [if_pos d1]
        exact ⟨_, rfl, rfl⟩
      · rw [if_neg d1, if_neg (fun z => by have := c4.mp z; have : ¬ k.toInt < 1 := fun z => d1 (c3.mpr z); omega)]
        exact ⟨_, rfl, rfl⟩
  · rw [if_neg hx, if_pos rfl]
    by_cases d1 : x < 1
    · rw [if_pos d1]
      exact ⟨_, rfl, rfl⟩
    · rw [if_neg d1, if_pos (c2.mpr (by have : ¬ x.toInt < 1 := fun z => d1 (c1.mpr z); omega))]
      exact ⟨_, rfl, rfl⟩
end SPLIT
