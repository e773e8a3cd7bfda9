/-! order: the class -/
def pm (j k : Nat) : Nat := [0, 1, 2, 0, 2, 1, 1, 0, 2, 1, 2, 0, 2, 0, 1, 2, 1, 0].getD (3 * j + k) 0
theorem or_pm : ∀ j, j < 6 → ∀ k, k < 3 → oOR (3 * j + k) = nI (pm j k) := by decide
theorem pm_3 : ∀ j, j < 6 → ∀ k, k < 3 → pm j k < 3 := by decide
/-- an order of n places, as the reference takes it -/
def okr (n j : Nat) : Prop := n = 3 ∨ (n = 2 ∧ (j = 0 ∨ j = 2)) ∨ (n = 1 ∧ j = 0)
def okD (n j : Nat) : Bool := n == 3 || (n == 2 && (j == 0 || j == 2)) || (n == 1 && j == 0)
theorem okD_n : ∀ n, n < 4 → ∀ j, j < 6 → okD n j = true → ∀ k, k < n → pm j k < n := by decide
theorem okD_c : ∀ n, n < 4 → ∀ j, j < 6 → (0 < n ∧ okD n j = false ∧ ∀ k, k < n → pm j k < n) → n = 1 ∧ j = 1 := by decide
theorem okD_0 : ∀ n, n < 4 → 0 < n → okD n 0 = true := by decide
def oP (V : oV) (b j k : Nat) : Int32 := nI (vpl V b (if k < vln V b then pm j k else 0))
def vOr (V : oV) (b j : Nat) : oV := vTr V b (vln V b) (oP V b j)
def sW (V : oV) (b j : Nat) : Nat := sWh (vOr V b j) (vnb V)
/-- the best of the first i + 1 orders -/
def sel (V : oV) (b : Nat) : Nat → Nat
  | 0 => 0
  | i + 1 => if okD (vln V b) (i + 1) = true ∧ sW V b (i + 1) < sW V b (sel V b i) then i + 1 else sel V b i
section ORDER1
variable {m : oM} {V : oV}
theorem oP_at {b j k : Nat} (hk : k < vln V b) : oP V b j k = nI (vpl V b (pm j k)) := by
  unfold oP
  rw [if_pos hk]
theorem oP_q (hw : WF V) {b j : Nat} (hb : b < vnb V) (h : ∀ k, k < vln V b → pm j k < vln V b) : ∀ k, k < vln V b → isQ V (oP V b j k) := by
  intro k hk
  rw [oP_at hk]
  exact isQ_in hw (hw.2.2.2.2.2.2.1 b _ hb (h k hk))
theorem vOr_wf (hw : WF V) {b j : Nat} (hb : b < vnb V) (h : ∀ k, k < vln V b → pm j k < vln V b) : WF (vOr V b j) := vTr_wf hw hb (oP_q hw hb h) (hw.2.2.2.2.1 b)
theorem sW_b6 (hw : WF V) {b j : Nat} (hb : b < vnb V) (h : ∀ k, k < vln V b → pm j k < vln V b) : sW V b j ≤ 36 := by
  have h1 := hw.1
  have := sWh_le (vOr_wf hw hb h) (vnb V)
  unfold sW
  omega
theorem sW_1 {b : Nat} (h : vln V b = 1) : sW V b 1 = sW V b 0 := by
  have e : oP V b 1 = oP V b 0 := by
    funext k
    unfold oP
    rw [h]
    by_cases z : k < 1
    · rw [if_pos z, if_pos z, show k = 0 by omega]
      rfl
    · rw [if_neg z, if_neg z]
  unfold sW vOr
  rw [e]
theorem sel_le (V : oV) (b : Nat) : ∀ i, sel V b i ≤ i
  | 0 => Nat.le_refl _
  | i + 1 => by
    have := sel_le V b i
    show (if okD (vln V b) (i + 1) = true ∧ sW V b (i + 1) < sW V b (sel V b i) then i + 1 else sel V b i) ≤ i + 1
    split <;> omega
theorem sel_ok (V : oV) (b : Nat) (h : okD (vln V b) 0 = true) : ∀ i, okD (vln V b) (sel V b i) = true
  | 0 => h
  | i + 1 => by
    show okD (vln V b) (if okD (vln V b) (i + 1) = true ∧ sW V b (i + 1) < sW V b (sel V b i) then i + 1 else sel V b i) = true
    split
    · rename_i z
      exact z.1
    · exact sel_ok V b h i
theorem c_place {j k : Nat} (hj : j < 6) (hk : k < 3) : F_X8_placeBy m (nI j) (nI k) = some (nI (pm j k)) := by
  have e18 : oLn 62 = 18 := if_pos rfl
  unfold F_X8_placeBy F_X8_at oAL oRd
  rw [ix_3, if_neg (nI_pos (by omega)), e18, if_neg (show ¬ Int32.ofNat 18 ≤ nI (3 * j + k) from nI_ge (by omega) (by omega)), if_neg (nI_in (by omega) (by omega)), if_pos rfl, o_b, o_b, nI_clamp (by omega), or_pm j hj k hk]
theorem c_isOrdK {j n : Nat} (hj : j < 6) (hn : n ≤ 3) : ∀ r k, k + r = n → (∀ l, l < k → pm j l < n) →
    ∃ q, oTo (fun s : Int32 => F_X8_isOrderOf_L2 m (nI j) (nI n) s) (nI k) q r ∧ ((q = .inl () ∧ ∀ l, l < n → pm j l < n) ∨ (q = .inr 0 ∧ ¬ ∀ l, l < n → pm j l < n))
  | 0, k, e, h => by
    refine ⟨.inl (), oTo.done _ ?_, Or.inl ⟨rfl, by rwa [show k = n by omega] at h⟩⟩
    show F_X8_isOrderOf_L2 m (nI j) (nI n) (nI k) = _
    unfold F_X8_isOrderOf_L2
    rw [if_pos (nI_le (by omega) (by omega))]
  | r + 1, k, e, h => by
    have h3 := pm_3 j hj k (by omega)
    have st : F_X8_isOrderOf_L2 m (nI j) (nI n) (nI k) = if nI (pm j k) < nI n then some (.inl (nI (k + 1))) else some (.inr (.inr 0)) := by
      unfold F_X8_isOrderOf_L2
      rw [if_neg (nI_ge (by omega) (by omega)), c_place hj (by omega), o_b, nI_1]
    by_cases c : pm j k < n
    · rw [if_pos (nI_lt c (by omega))] at st
      obtain ⟨q, h1, h2⟩ := c_isOrdK hj hn r (k + 1) (by omega) (fun l hl => by
        rcases Nat.lt_or_ge l k with z | z
        · exact h l z
        · rw [show l = k by omega]
          exact c)
      exact ⟨q, oTo.step st h1, h2⟩
    · rw [if_neg (nI_nlt (by omega) (by omega))] at st
      exact ⟨_, oTo.done _ st, Or.inr ⟨rfl, fun z => c (z k (by omega))⟩⟩
theorem c_isOrd {j n : Nat} (hj : j < 6) (hn : n ≤ 3) : (F_X8_isOrderOf m (nI j) (nI n) = some 1 ∧ ∀ l, l < n → pm j l < n) ∨ (F_X8_isOrderOf m (nI j) (nI n) = some 0 ∧ ¬ ∀ l, l < n → pm j l < n) := by
  obtain ⟨q, h1, h2⟩ := c_isOrdK (m := m) hj hn n 0 (by omega) (fun l hl => absurd hl (by omega))
  have L : oLoop (fun s : Int32 => F_X8_isOrderOf_L2 m (nI j) (nI n) s) oFuel 0 = some q := h1.run (by omega)
  unfold F_X8_isOrderOf
  rw [L, o_b]
  rcases h2 with ⟨rfl, h⟩ | ⟨rfl, h⟩
  · exact Or.inl ⟨rfl, h⟩
  · exact Or.inr ⟨rfl, h⟩
theorem c_wheelsBy (hw : WF V) (hc : VC 1 m V) {b j : Nat} (hb : b < vnb V) (hj : j < 6) (h : ∀ k, k < vln V b → pm j k < vln V b) : ∃ m', F_X8_wheelsBy m (nI b) (nI j) = some (nI (sW V b j), m') ∧ oAg (fun p _ => 29 ≤ p ∧ p ≤ 42) m m' := by
  have h1 := hw.1
  have h3 := hw.2.2.2.2.1 b
  obtain ⟨m1, e1, g1, c1⟩ := c_copyFrom (o := 29) (q := 1) (Or.inl (by omega)) shapes29 shapes1 hw hc
  have gi := fun i => fF_ag 39 (3 * b) (oP V b j) m1 i
  have hc1 : VC 1 m1 V := hc.ag g1 (by omega)
  have ci : ∀ i, VC 1 (fF 39 (3 * b) (oP V b j) m1 i) V := fun i => hc1.ag (gi i) (by omega)
  have L := for_run (f := fun s : Int32 × oM => F_X8_wheelsBy_L13 (nI b) (nI j) s.1 s.2) (fun i => (nI i, fF 39 (3 * b) (oP V b j) m1 i)) (vln V b) (b := fF 39 (3 * b) (oP V b j) m1 (vln V b)) (by
    intro i hi
    show F_X8_wheelsBy_L13 (nI b) (nI j) (nI i) (fF 39 (3 * b) (oP V b j) m1 i) = some (.inl (nI (i + 1), oSI (fF 39 (3 * b) (oP V b j) m1 i) 39 (3 * b + i) (oP V b j i)))
    unfold F_X8_wheelsBy_L13 F_X7_become
    rw [c1_len (ci i) (by omega), o_b, if_neg (nI_ge hi (by omega)), c_place hj (by omega), o_b, c1_pl (ci i) hw hb (h i hi), o_b, show (37 + 2 : Nat) = 39 from rfl, ix_3, f_set (n := 18) rfl (by omega) (by omega), o_b, o_b, nI_1, oP_at hi]) (by
    show F_X8_wheelsBy_L13 (nI b) (nI j) (nI (vln V b)) _ = _
    unfold F_X8_wheelsBy_L13
    rw [c1_len (ci _) (by omega), o_b, if_pos (nI_le (Nat.le_refl _) (by omega))]) (by omega)
  have L' : oLoop (fun s : Int32 × oM => F_X8_wheelsBy_L13 (nI b) (nI j) s.1 s.2) oFuel (0, m1) = some (fF 39 (3 * b) (oP V b j) m1 (vln V b)) := L
  have gn := gi (vln V b)
  have an := fun k (hk : k < vln V b) => fF_at 39 (3 * b) (oP V b j) m1 k (vln V b) hk
  generalize fF 39 (3 * b) (oP V b j) m1 (vln V b) = m2 at L' gn an
  have c2 : VC 29 m2 (vOr V b j) := vTr_c (o := 29) hw c1 hb h3 (oP_q hw hb h) (gn.wk (by omega)) ((gn 38 b (by omega)).1.trans (c1.2.2.2.2.1 b (by omega))) an
  have w : F_X7_wheels 37 m2 = some (nI (sW V b j)) := c_wheels (o := 29) c2 (vOr_wf hw hb h) rfl
  refine ⟨m2, ?_, g1.tr (gn.wk (by omega))⟩
  unfold F_X8_wheelsBy
  rw [e1, o_b, L', o_b, w, o_b]
theorem c_bestK (hw : WF V) {b : Nat} (hb : b < vnb V) (hl : 0 < vln V b) : ∀ r i m, i + r = 5 → VC 1 m V → ∃ m', oTo (fun s : Int32 × Int32 × Int32 × oM => F_X8_bestOrder_L12 (nI b) s.1 s.2.1 s.2.2.1 s.2.2.2) (nI (sel V b i), nI (sW V b (sel V b i)), nI (i + 1), m) (nI (sel V b 5), m') r ∧ oAg (fun p _ => 29 ≤ p ∧ p ≤ 42) m m'
  | 0, i, m, e, h => by
    have i5 : i = 5 := by omega
    subst i5
    refine ⟨m, oTo.done _ ?_, oAg.rf⟩
    show F_X8_bestOrder_L12 (nI b) (nI (sel V b 5)) (nI (sW V b (sel V b 5))) (nI 6) m = _
    unfold F_X8_bestOrder_L12
    rw [if_pos (by decide)]
  | r + 1, i, m, e, h => by
    have h1 := hw.1
    have h3 := hw.2.2.2.2.1 b
    have so := sel_ok V b (okD_0 _ (by omega) hl) i
    have sl := sel_le V b i
    have sb := sW_b6 hw hb (okD_n _ (by omega) _ (by omega) so)
    have nx : ¬ (18 / 3 : Int32) ≤ nI (i + 1) := by
      rw [show (18 / 3 : Int32) = nI 6 by decide]
      exact nI_ge (by omega) (by omega)
    rcases c_isOrd (m := m) (j := i + 1) (n := vln V b) (by omega) h3 with ⟨z, zz⟩ | ⟨z, zz⟩
    · obtain ⟨m1, e1, g1⟩ := c_wheelsBy hw h hb (j := i + 1) (by omega) zz
      have wb := sW_b6 hw hb zz
      have st : F_X8_bestOrder_L12 (nI b) (nI (sel V b i)) (nI (sW V b (sel V b i))) (nI (i + 1)) m = some (.inl (nI (sel V b (i + 1)), nI (sW V b (sel V b (i + 1))), nI (i + 1 + 1), m1)) := by
        unfold F_X8_bestOrder_L12
        rw [if_neg nx, c1_len h (by omega), o_b, z, o_b, if_neg i10, e1, o_b, nI_1]
        show (if nI (sW V b (sel V b i)) ≤ nI (sW V b (i + 1)) then (some (.inl (nI (sel V b i), nI (sW V b (sel V b i)), nI (i + 1 + 1), m1)) : Option ((Int32 × Int32 × Int32 × oM) ⊕ (Int32 × oM))) else some (.inl (nI (i + 1), nI (sW V b (i + 1)), nI (i + 1 + 1), m1))) = some (.inl (nI (if okD (vln V b) (i + 1) = true ∧ sW V b (i + 1) < sW V b (sel V b i) then i + 1 else sel V b i), nI (sW V b (if okD (vln V b) (i + 1) = true ∧ sW V b (i + 1) < sW V b (sel V b i) then i + 1 else sel V b i)), nI (i + 1 + 1), m1))
        by_cases c : sW V b (i + 1) < sW V b (sel V b i)
        · have ok : okD (vln V b) (i + 1) = true := by
            cases q : okD (vln V b) (i + 1) with
            | true => rfl
            | false =>
              obtain ⟨y1, y2⟩ := okD_c _ (by omega) _ (by omega) ⟨hl, q, zz⟩
              have i0 : i = 0 := by omega
              subst i0
              have : sW V b 1 < sW V b 0 := c
              rw [sW_1 y1] at this
              omega
          rw [if_neg (nI_ge c (by omega)), if_pos ⟨ok, c⟩]
        · rw [if_pos (nI_le (by omega) (by omega)), if_neg (fun y => c y.2)]
      obtain ⟨m2, q1, q2⟩ := c_bestK hw hb hl r (i + 1) m1 (by omega) (h.ag g1 (by omega))
      exact ⟨m2, oTo.step st q1, g1.tr q2⟩
    · have nk : ¬ okD (vln V b) (i + 1) = true := fun y => zz (okD_n _ (by omega) _ (by omega) y)
      have st : F_X8_bestOrder_L12 (nI b) (nI (sel V b i)) (nI (sW V b (sel V b i))) (nI (i + 1)) m = some (.inl (nI (sel V b (i + 1)), nI (sW V b (sel V b (i + 1))), nI (i + 1 + 1), m)) := by
        unfold F_X8_bestOrder_L12
        rw [if_neg nx, c1_len h (by omega), o_b, z, o_b, if_pos rfl, nI_1]
        show _ = (some (.inl (nI (if okD (vln V b) (i + 1) = true ∧ sW V b (i + 1) < sW V b (sel V b i) then i + 1 else sel V b i), nI (sW V b (if okD (vln V b) (i + 1) = true ∧ sW V b (i + 1) < sW V b (sel V b i) then i + 1 else sel V b i)), nI (i + 1 + 1), m)) : Option ((Int32 × Int32 × Int32 × oM) ⊕ (Int32 × oM)))
        rw [if_neg (fun y => nk y.1)]
      obtain ⟨m2, q1, q2⟩ := c_bestK hw hb hl r (i + 1) m (by omega) h
      exact ⟨m2, oTo.step st q1, q2⟩
theorem c_bestOrder (hw : WF V) (h : VC 1 m V) {b : Nat} (hb : b < vnb V) (hl : 0 < vln V b) : ∃ m', F_X8_bestOrder m (nI b) = some (nI (sel V b 5), m') ∧ oAg (fun p _ => 29 ≤ p ∧ p ≤ 42) m m' := by
  have h3 := hw.2.2.2.2.1 b
  obtain ⟨m1, e1, g1⟩ := c_wheelsBy hw h hb (j := 0) (by omega) (okD_n _ (by omega) _ (by omega) (okD_0 _ (by omega) hl))
  obtain ⟨m2, q1, q2⟩ := c_bestK hw hb hl 5 0 m1 (by omega) (h.ag g1 (by omega))
  have e1' : F_X8_wheelsBy m (nI b) 0 = some (nI (sW V b 0), m1) := e1
  have L : oLoop (fun s : Int32 × Int32 × Int32 × oM => F_X8_bestOrder_L12 (nI b) s.1 s.2.1 s.2.2.1 s.2.2.2) oFuel (0, nI (sW V b 0), 1, m1) = some (nI (sel V b 5), m2) := q1.run (by omega)
  refine ⟨m2, ?_, g1.tr q2⟩
  unfold F_X8_bestOrder
  rw [e1', o_b]
  show ((oLoop (fun s : Int32 × Int32 × Int32 × oM => F_X8_bestOrder_L12 (nI b) s.1 s.2.1 s.2.2.1 s.2.2.2) oFuel (0, nI (sW V b 0), 1, m1)).bind _) = _
  rw [L, o_b]
end ORDER1
