/-! term, convergent -/
def Wp {α : Type} (a : Option α) (b : Option (α × oM)) : Prop := ∃ v m2, a = some v ∧ b = some (v, m2) ∧ Inv m2
/-- the steps of the two numbers -/
def eAt (a b : Nat) : Nat → Nat × Nat
  | 0 => (a, b)
  | i + 1 => ((eAt a b i).2, (eAt a b i).1 % (eAt a b i).2)
theorem eAt_sh (a b : Nat) : ∀ n, eAt a b (n + 1) = eAt b (a % b) n
  | 0 => rfl
  | n + 1 => by
    have ih := eAt_sh a b n
    show ((eAt a b (n + 1)).2, (eAt a b (n + 1)).1 % (eAt a b (n + 1)).2) = ((eAt b (a % b) n).2, (eAt b (a % b) n).1 % (eAt b (a % b) n).2)
    rw [ih]
theorem eAt_end : ∀ (k a b : Nat), b < 2 ^ k → ∃ N, N ≤ 2 * k ∧ (eAt a b N).2 = 0 ∧ ∀ i, i < N → (eAt a b i).2 ≠ 0
  | k, a, 0, h => ⟨0, by omega, rfl, fun i hi => absurd hi (by omega)⟩
  | 0, a, b + 1, h => by omega
  | k + 1, a, b + 1, h => by
    have hr : a % (b + 1) < b + 1 := Nat.mod_lt a (Nat.succ_pos b)
    by_cases h0 : a % (b + 1) = 0
    · refine ⟨1, by omega, h0, fun i hi => ?_⟩
      rw [show i = 0 by omega]
      exact Nat.succ_ne_zero b
    · obtain ⟨N, n1, n2, n3⟩ := eAt_end k (a % (b + 1)) ((b + 1) % (a % (b + 1))) (mod_half (by omega) hr h)
      refine ⟨N + 2, by omega, ?_, fun i hi => ?_⟩
      · rw [eAt_sh, eAt_sh]
        exact n2
      · rcases i with _ | _ | i
        · exact Nat.succ_ne_zero b
        · exact h0
        · rw [eAt_sh, eAt_sh]
          exact n3 i (by omega)
theorem eAt_le {a b c : Nat} (ha : a ≤ c) (hb : b ≤ c) : ∀ i, (eAt a b i).1 ≤ c ∧ (eAt a b i).2 ≤ c
  | 0 => ⟨ha, hb⟩
  | i + 1 => by
    obtain ⟨h1, h2⟩ := eAt_le ha hb i
    exact ⟨h2, Nat.le_trans (Nat.mod_le _ _) h1⟩
def eT (a b i : Nat) : Nat := (eAt a b i).1 / (eAt a b i).2
def eM (a b : Nat) (m : oM) : Nat → oM
  | 0 => m
  | i + 1 => oSI (eM a b m i) 59 i (nI (eT a b i))
theorem eM_ag (a b : Nat) (m : oM) : ∀ i, oAg (fun p _ => p = 59) m (eM a b m i)
  | 0 => oAg.rf
  | i + 1 => (eM_ag a b m i).tr (oAg.SI rfl)
theorem eM_at (a b : Nat) (m : oM) (j : Nat) : ∀ i, j < i → (eM a b m i).1 59 j = nI (eT a b j)
  | 0, h => absurd h (by omega)
  | i + 1, h => by
    by_cases e : j = i
    · rw [e]
      exact SI_eq
    · exact (SI_ne (fun z => e z.2)).trans (eM_at a b m j i (by omega))
section TERM
variable {m : oM} {V : oV}
theorem r_terms (h : VR 52 m V) (hw : WF V) {x : Nat} (hx : x < vnb V) {a b N : Nat} (ha : a < 10000) (hb : b < 10000) (e1 : vab V x = nI a) (e2 : vbe V x = nI b) (hN : N ≤ 28) (n2 : (eAt a b N).2 = 0) (n3 : ∀ i, i < N → (eAt a b i).2 ≠ 0) :
    F_X9_terms m (nI x) = some (nI N, eM a b m N) := by
  unfold F_X9_terms
  rw [r_ab h hw hx, o_b, r_be h hw hx, o_b, e1, e2]
  have L := for_run (f := fun s : Int32 × Int32 × Int32 × oM => F_X9_terms_L23 s.1 s.2.1 s.2.2.1 s.2.2.2) (fun i => (nI (eAt a b i).1, nI (eAt a b i).2, nI i, eM a b m i)) N (b := (nI N, eM a b m N)) ?_ ?_ (by omega)
  · have L' : oLoop (fun s : Int32 × Int32 × Int32 × oM => F_X9_terms_L23 s.1 s.2.1 s.2.2.1 s.2.2.2) oFuel (nI a, nI b, 0, m) = some (nI N, eM a b m N) := L
    rw [L', o_b]
  · intro i hi
    have hl := eAt_le (c := 9999) (show a ≤ 9999 by omega) (show b ≤ 9999 by omega) i
    have h0 := n3 i hi
    have hne : ¬ nI (eAt a b i).2 = 0 := nI_ne0 (by omega) (by omega)
    show F_X9_terms_L23 (nI (eAt a b i).1) (nI (eAt a b i).2) (nI i) (eM a b m i) = _
    unfold F_X9_terms_L23
    rw [if_neg hne, if_neg hne, o_b, nI_div (by omega) (by omega) (by omega), a_st (n := 60) rfl (by omega) (by omega), o_b, if_neg hne, o_b, oRI_nat (by omega) (by omega) (by omega), nI_1]
    rfl
  · show F_X9_terms_L23 (nI (eAt a b N).1) (nI (eAt a b N).2) (nI N) (eM a b m N) = _
    unfold F_X9_terms_L23
    rw [n2, if_pos nI_0]
theorem WF.ab {V : oV} (hw : WF V) {x : Nat} (hx : x < vnb V) : ∃ a b : Nat, 1 ≤ a ∧ a < 10000 ∧ 1 ≤ b ∧ b < 10000 ∧ vab V x = nI a ∧ vbe V x = nI b := by
  obtain ⟨h1, h2⟩ := hw.2.2.2.1 x hx
  have h1a := h1.1
  have h2a := h2.1
  obtain ⟨a, ha, e1⟩ := i_of (x := vab V x) (n := 10000) (by omega) (by have := h1.2; omega)
  obtain ⟨b, hb, e2⟩ := i_of (x := vbe V x) (n := 10000) (by omega) (by have := h2.2; omega)
  rw [e1, nI_toInt (by omega)] at h1a
  rw [e2, nI_toInt (by omega)] at h2a
  exact ⟨a, b, by omega, ha, by omega, hb, e1, e2⟩
theorem p_term (h : Inv m) (x w : Int32) : Wp (F_X8_term m x w) (F_X9_term m x w) := by
  have hI := h
  obtain ⟨⟨V, hw, hc, hr⟩, -⟩ := h
  unfold F_X8_term F_X9_term
  by_cases hB : isB V x
  · obtain ⟨x, hx, rfl⟩ := isB_of hB
    obtain ⟨a, b, a1, a2, b1, b2, e1, e2⟩ := hw.ab hx
    obtain ⟨N, n1, n2, n3⟩ := eAt_end 14 a b (by omega)
    have N1 : 1 ≤ N := by
      rcases Nat.eq_zero_or_pos N with e | e
      · rw [e] at n2
        exact absurd (show b = 0 from n2) (by omega)
      · exact e
    have hb0 : ∀ i, i < N → (eAt a b i).1 ≤ 9999 ∧ (eAt a b i).2 ≤ 9999 := fun i _ => eAt_le (c := 9999) (by omega) (by omega) i
    have inv2 : Inv (eM a b m N) := hI.scr ((eM_ag a b m N).wk (fun p k e => Or.inr (Or.inr (Or.inl e))))
    rw [c_hasBody1 hc hw hB, r_isBody1 hr hw hB, o_b, o_b, if_neg i10, if_neg i10, c1_ab hc hw hx, o_b, c1_be hc hw hx, o_b, e1, e2, r_terms hr hw hx a2 b2 e1 e2 n1 n2 n3, o_b]
    have step : ∀ i, i < N → ¬ nI i = w → F_X8_term_L44 m w (nI (eAt a b i).1) (nI (eAt a b i).2) (nI i) (nI i) = some (.inl (nI (eAt a b (i + 1)).1, nI (eAt a b (i + 1)).2, nI (i + 1), nI (i + 1))) := by
      intro i hi hne
      have hl := hb0 i hi
      have h0 := n3 i hi
      have z0 : ¬ nI (eAt a b i).2 = 0 := nI_ne0 (by omega) (by omega)
      unfold F_X8_term_L44
      rw [if_neg (show ¬ (100 : Int32) ≤ nI i from nI_ge (b := 100) (by omega) (by omega)), if_neg z0, if_neg hne, if_neg z0, o_b, oRI_nat (by omega) (by omega) (by omega), nI_1]
      rfl
    by_cases hin : 0 ≤ w.toInt ∧ w.toInt < N
    · obtain ⟨j, hj, rfl⟩ := i_of (x := w) hin.1 hin.2
      have hl := hb0 j hj
      have h0 := n3 j hj
      have L := for_run (f := fun s : Int32 × Int32 × Int32 × Int32 => F_X8_term_L44 m (nI j) s.1 s.2.1 s.2.2.1 s.2.2.2) (fun i => (nI (eAt a b i).1, nI (eAt a b i).2, nI i, nI i)) j (b := .inr (nI (eT a b j))) (fun i hi => step i (by omega) (fun z => by have := (nI_eq (by omega) (by omega)).mp z; omega)) (by
        have z0 : ¬ nI (eAt a b j).2 = 0 := nI_ne0 (by omega) (by omega)
        show F_X8_term_L44 m (nI j) (nI (eAt a b j).1) (nI (eAt a b j).2) (nI j) (nI j) = _
        unfold F_X8_term_L44
        rw [if_neg (show ¬ (100 : Int32) ≤ nI j from nI_ge (b := 100) (by omega) (by omega)), if_neg z0, if_pos rfl, if_neg z0, o_b, nI_div (by omega) (by omega) (by omega)]
        rfl) (by omega)
      have L' : oLoop (fun s : Int32 × Int32 × Int32 × Int32 => F_X8_term_L44 m (nI j) s.1 s.2.1 s.2.2.1 s.2.2.2) oFuel (nI a, nI b, 0, 0) = some (.inr (nI (eT a b j))) := L
      have nm : ¬ nI j = -1 := by
        rw [i_eq, nI_toInt (by omega), show (-1 : Int32).toInt = -1 by decide]
        omega
      refine ⟨nI (eT a b j), eM a b m N, ?_, ?_, inv2⟩
      · rw [L', o_b]
        rfl
      · rw [if_neg nm, isIn1 (p := 0) (q := (N : Int) - 1) (by decide) (by rw [i_long, nI_pre (by omega)]) (by rw [i_long, nI_toInt (by omega)]; omega), o_b, if_neg i10, a_ld (n := 60) rfl (by omega) (by omega), o_b, eM_at a b m j N hj]
    · have L := for_run (f := fun s : Int32 × Int32 × Int32 × Int32 => F_X8_term_L44 m w s.1 s.2.1 s.2.2.1 s.2.2.2) (fun i => (nI (eAt a b i).1, nI (eAt a b i).2, nI i, nI i)) N (b := .inl (nI N)) (fun i hi => step i hi (fun z => hin (by rw [← z, nI_toInt (by omega)]; omega))) (by
        show F_X8_term_L44 m w (nI (eAt a b N).1) (nI (eAt a b N).2) (nI N) (nI N) = _
        unfold F_X8_term_L44
        rw [if_neg (show ¬ (100 : Int32) ≤ nI N from nI_ge (b := 100) (by omega) (by omega)), n2, if_pos nI_0]) (by omega)
      have L' : oLoop (fun s : Int32 × Int32 × Int32 × Int32 => F_X8_term_L44 m w s.1 s.2.1 s.2.2.1 s.2.2.2) oFuel (nI a, nI b, 0, 0) = some (.inl (nI N)) := L
      rw [L', o_b]
      show Wp (if w = -1 then some (nI N) else some (-5)) _
      by_cases hm : w = -1
      · rw [if_pos hm, if_pos hm]
        exact ⟨_, _, rfl, rfl, inv2⟩
      · rw [if_neg hm, if_neg hm, isIn0 (p := 0) (q := (N : Int) - 1) (by decide) (by rw [i_long, nI_pre (by omega)]) (by rw [i_long]; omega), o_b, if_pos rfl]
        exact ⟨_, _, rfl, rfl, inv2⟩
  · rw [c_hasBody0 hc hw hB, r_isBody0 hr hw hB]
    exact ⟨_, _, rfl, rfl, hI⟩
-- convergents, forward
def eF (a b : Nat) : Nat → (Nat × Nat) × (Nat × Nat)
  | 0 => ((1, 0), (0, 1))
  | i + 1 => ((eT a b i * (eF a b i).1.1 + (eF a b i).1.2, (eF a b i).1.1), (eT a b i * (eF a b i).2.1 + (eF a b i).2.2, (eF a b i).2.1))
theorem eF_inv (a b : Nat) : ∀ i, (∀ j, j < i → (eAt a b j).2 ≠ 0) → (eF a b i).1.1 * (eAt a b i).1 + (eF a b i).1.2 * (eAt a b i).2 = a ∧ (eF a b i).2.1 * (eAt a b i).1 + (eF a b i).2.2 * (eAt a b i).2 = b
  | 0, _ => by
    show 1 * a + 0 * b = a ∧ 0 * a + 1 * b = b
    omega
  | i + 1, h => by
    obtain ⟨h1, h2⟩ := eF_inv a b i (fun j hj => h j (by omega))
    have hd : eT a b i * (eAt a b i).2 + (eAt a b i).1 % (eAt a b i).2 = (eAt a b i).1 := by
      rw [Nat.mul_comm]
      exact Nat.div_add_mod _ _
    show (eT a b i * (eF a b i).1.1 + (eF a b i).1.2) * (eAt a b i).2 + (eF a b i).1.1 * ((eAt a b i).1 % (eAt a b i).2) = a ∧ (eT a b i * (eF a b i).2.1 + (eF a b i).2.2) * (eAt a b i).2 + (eF a b i).2.1 * ((eAt a b i).1 % (eAt a b i).2) = b
    generalize (eAt a b i).1 % (eAt a b i).2 = r at *
    generalize eT a b i = t at *
    generalize (eAt a b i).1 = A at *
    generalize (eAt a b i).2 = B at *
    generalize (eF a b i).1.1 = p at *
    generalize (eF a b i).1.2 = p' at *
    generalize (eF a b i).2.1 = q at *
    generalize (eF a b i).2.2 = q' at *
    subst hd
    constructor
    · rw [← h1]
      grind
    · rw [← h2]
      grind
theorem eF_b {a b N : Nat} (n3 : ∀ i, i < N → (eAt a b i).2 ≠ 0) {i : Nat} (hi : i < N) : (eF a b (i + 1)).1.1 ≤ a ∧ (eF a b (i + 1)).2.1 ≤ b := by
  obtain ⟨h1, h2⟩ := eF_inv a b (i + 1) (fun j hj => n3 j (by omega))
  have h0 : 1 ≤ (eAt a b (i + 1)).1 := Nat.pos_of_ne_zero (n3 i hi)
  have k1 : (eF a b (i + 1)).1.1 * 1 ≤ (eF a b (i + 1)).1.1 * (eAt a b (i + 1)).1 := Nat.mul_le_mul_left _ h0
  have k2 : (eF a b (i + 1)).2.1 * 1 ≤ (eF a b (i + 1)).2.1 * (eAt a b (i + 1)).1 := Nat.mul_le_mul_left _ h0
  omega
theorem eF_pos {a b N : Nat} (n3 : ∀ i, i < N → (eAt a b i).2 ≠ 0) : ∀ i, i < N → 1 ≤ (eF a b (i + 1)).2.1
  | 0, _ => by
    show 1 ≤ eT a b 0 * 0 + 1
    omega
  | i + 1, hi => by
    have ih := eF_pos n3 i (by omega)
    have h0 := n3 (i + 1) hi
    have h1 := n3 i (by omega)
    have hm : (eAt a b (i + 1)).2 ≤ (eAt a b (i + 1)).1 := Nat.le_of_lt (Nat.mod_lt _ (Nat.pos_of_ne_zero h1))
    have ht : 1 ≤ eT a b (i + 1) := Nat.div_pos hm (Nat.pos_of_ne_zero h0)
    have := Nat.mul_le_mul ht ih
    show 1 ≤ eT a b (i + 1) * (eF a b (i + 1)).2.1 + (eF a b (i + 1)).2.2
    omega
-- and backward
def eG (a b w : Nat) : Nat → Nat × Nat
  | 0 => (1, 0)
  | s + 1 => (eT a b (w - s) * (eG a b w s).1 + (eG a b w s).2, (eG a b w s).1)
theorem eG_inv (a b w : Nat) : ∀ s, s ≤ w + 1 → (eF a b (w + 1 - s)).1.1 * (eG a b w s).1 + (eF a b (w + 1 - s)).1.2 * (eG a b w s).2 = (eF a b (w + 1)).1.1 ∧ (eF a b (w + 1 - s)).2.1 * (eG a b w s).1 + (eF a b (w + 1 - s)).2.2 * (eG a b w s).2 = (eF a b (w + 1)).2.1
  | 0, _ => by
    show (eF a b (w + 1)).1.1 * 1 + (eF a b (w + 1)).1.2 * 0 = (eF a b (w + 1)).1.1 ∧ (eF a b (w + 1)).2.1 * 1 + (eF a b (w + 1)).2.2 * 0 = (eF a b (w + 1)).2.1
    omega
  | s + 1, h => by
    obtain ⟨h1, h2⟩ := eG_inv a b w s (by omega)
    rw [show w + 1 - s = (w - s) + 1 by omega] at h1 h2
    rw [show w + 1 - (s + 1) = w - s by omega, ← h1, ← h2]
    show (eF a b (w - s)).1.1 * (eT a b (w - s) * (eG a b w s).1 + (eG a b w s).2) + (eF a b (w - s)).1.2 * (eG a b w s).1 = (eT a b (w - s) * (eF a b (w - s)).1.1 + (eF a b (w - s)).1.2) * (eG a b w s).1 + (eF a b (w - s)).1.1 * (eG a b w s).2 ∧
      (eF a b (w - s)).2.1 * (eT a b (w - s) * (eG a b w s).1 + (eG a b w s).2) + (eF a b (w - s)).2.2 * (eG a b w s).1 = (eT a b (w - s) * (eF a b (w - s)).2.1 + (eF a b (w - s)).2.2) * (eG a b w s).1 + (eF a b (w - s)).2.1 * (eG a b w s).2
    constructor <;> grind
theorem eG_end (a b w : Nat) : eG a b w (w + 1) = ((eF a b (w + 1)).1.1, (eF a b (w + 1)).2.1) := by
  obtain ⟨h1, h2⟩ := eG_inv a b w (w + 1) (Nat.le_refl _)
  rw [Nat.sub_self] at h1 h2
  have e1 : 1 * (eG a b w (w + 1)).1 + 0 * (eG a b w (w + 1)).2 = (eF a b (w + 1)).1.1 := h1
  have e2 : 0 * (eG a b w (w + 1)).1 + 1 * (eG a b w (w + 1)).2 = (eF a b (w + 1)).2.1 := h2
  exact Prod.ext (by omega) (by omega)
theorem p_convergent (h : Inv m) (x w p : Int32) : Wp (F_X8_convergent m x w p) (F_X9_convergent m x w p) := by
  have hI := h
  obtain ⟨⟨V, hw, hc, hr⟩, -⟩ := h
  unfold F_X8_convergent F_X9_convergent
  by_cases hB : isB V x
  · obtain ⟨x, hx, rfl⟩ := isB_of hB
    obtain ⟨a, b, a1, a2, b1, b2, e1, e2⟩ := hw.ab hx
    obtain ⟨N, n1, n2, n3⟩ := eAt_end 14 a b (by omega)
    have hb0 : ∀ i, i < N → (eAt a b i).1 ≤ 9999 ∧ (eAt a b i).2 ≤ 9999 := fun i _ => eAt_le (c := 9999) (by omega) (by omega) i
    have ht0 : ∀ i, i < N → eT a b i ≤ 9999 := fun i hi => Nat.le_trans (Nat.div_le_self _ _) (hb0 i hi).1
    have inv2 : Inv (eM a b m N) := hI.scr ((eM_ag a b m N).wk (fun p k e => Or.inr (Or.inr (Or.inl e))))
    rw [c_hasBody1 hc hw hB, r_isBody1 hr hw hB, o_b, o_b, if_neg i10, if_neg i10, c_isPart, r_isPart, o_b, o_b]
    by_cases hp : sPart p = 0
    · rw [if_pos hp, if_pos hp]
      exact ⟨_, _, rfl, rfl, hI⟩
    rw [if_neg hp, if_neg hp, c1_ab hc hw hx, o_b, c1_be hc hw hx, o_b, e1, e2, r_terms hr hw hx a2 b2 e1 e2 n1 n2 n3, o_b]
    have step : ∀ i, i < N → ¬ nI i = w → F_X8_convergent_L63 m w p (nI (eAt a b i).1) (nI (eAt a b i).2) (lN (eF a b i).1.1) (lN (eF a b i).2.1) (lN (eF a b i).1.2) (lN (eF a b i).2.2) (nI i) = some (.inl (nI (eAt a b (i + 1)).1, nI (eAt a b (i + 1)).2, lN (eF a b (i + 1)).1.1, lN (eF a b (i + 1)).2.1, lN (eF a b (i + 1)).1.2, lN (eF a b (i + 1)).2.2, nI (i + 1))) := by
      intro i hi hne
      have hl := hb0 i hi
      have h0 := n3 i hi
      have h1 := ht0 i hi
      have z0 : ¬ nI (eAt a b i).2 = 0 := nI_ne0 (by omega) (by omega)
      have hd : nI (eAt a b i).1 / nI (eAt a b i).2 = nI (eT a b i) := nI_div (by omega) (by omega) (by omega)
      unfold F_X8_convergent_L63
      rw [if_neg (show ¬ (100 : Int32) ≤ nI i from nI_ge (b := 100) (by omega) (by omega)), if_neg z0, if_neg z0, o_b, hd, nI_l (by omega), o_b, o_b, if_neg hne, if_neg z0, o_b, oRI_nat (by omega) (by omega) (by omega), nI_1, lN_mul, lN_mul, lN_add, lN_add]
      rfl
    by_cases hin : 0 ≤ w.toInt ∧ w.toInt < N
    · obtain ⟨j, hj, rfl⟩ := i_of (x := w) hin.1 hin.2
      have hl := hb0 j hj
      have h0 := n3 j hj
      have h1 := ht0 j hj
      obtain ⟨q1, q2⟩ := eF_b n3 hj
      have q3 := eF_pos n3 j hj
      have L := for_run (f := fun s : Int32 × Int32 × Int64 × Int64 × Int64 × Int64 × Int32 => F_X8_convergent_L63 m (nI j) p s.1 s.2.1 s.2.2.1 s.2.2.2.1 s.2.2.2.2.1 s.2.2.2.2.2.1 s.2.2.2.2.2.2) (fun i => (nI (eAt a b i).1, nI (eAt a b i).2, lN (eF a b i).1.1, lN (eF a b i).2.1, lN (eF a b i).1.2, lN (eF a b i).2.2, nI i)) j (b := .inr (sTold (lN (eF a b (j + 1)).1.1) (lN (eF a b (j + 1)).2.1) p)) (fun i hi => step i (by omega) (fun z => by have := (nI_eq (by omega) (by omega)).mp z; omega)) (by
        have z0 : ¬ nI (eAt a b j).2 = 0 := nI_ne0 (by omega) (by omega)
        have hd : nI (eAt a b j).1 / nI (eAt a b j).2 = nI (eT a b j) := nI_div (by omega) (by omega) (by omega)
        show F_X8_convergent_L63 m (nI j) p (nI (eAt a b j).1) (nI (eAt a b j).2) (lN (eF a b j).1.1) (lN (eF a b j).2.1) (lN (eF a b j).1.2) (lN (eF a b j).2.2) (nI j) = _
        unfold F_X8_convergent_L63
        rw [if_neg (show ¬ (100 : Int32) ≤ nI j from nI_ge (b := 100) (by omega) (by omega)), if_neg z0, if_neg z0, o_b, hd, nI_l (by omega), o_b, o_b, if_pos rfl, lN_mul, lN_mul, lN_add, lN_add]
        have k1 : eT a b j * (eF a b j).1.1 + (eF a b j).1.2 = (eF a b (j + 1)).1.1 := rfl
        have k2 : eT a b j * (eF a b j).2.1 + (eF a b j).2.2 = (eF a b (j + 1)).2.1 := rfl
        rw [k1, k2, c_lowest p (by rw [lN_t (by omega)]; omega) (by rw [lN_t (by omega)]; omega) (by rw [lN_t (by omega)]; omega), o_b]) (by omega)
      have L' : oLoop (fun s : Int32 × Int32 × Int64 × Int64 × Int64 × Int64 × Int32 => F_X8_convergent_L63 m (nI j) p s.1 s.2.1 s.2.2.1 s.2.2.2.1 s.2.2.2.2.1 s.2.2.2.2.2.1 s.2.2.2.2.2.2) oFuel (nI a, nI b, 1, 0, 0, 1, 0) = some (.inr (sTold (lN (eF a b (j + 1)).1.1) (lN (eF a b (j + 1)).2.1) p)) := L
      refine ⟨sTold (lN (eF a b (j + 1)).1.1) (lN (eF a b (j + 1)).2.1) p, eM a b m N, ?_, ?_, inv2⟩
      · rw [L', o_b]
        rfl
      · rw [isIn1 (p := 0) (q := (N : Int) - 1) (by decide) (by rw [i_long, nI_pre (by omega)]) (by rw [i_long, nI_toInt (by omega)]; omega), o_b, if_neg i10]
        have K := for_run (f := fun s : Int64 × Int64 × Int32 => F_X9_convergent_L45 (eM a b m N) p s.1 s.2.1 s.2.2) (fun s => (lN (eG a b j s).1, lN (eG a b j s).2, if s = j + 1 then -1 else nI (j - s))) (j + 1) (b := (lN (eG a b j (j + 1)).1, lN (eG a b j (j + 1)).2)) ?_ ?_ (by omega)
        · have K' : oLoop (fun s : Int64 × Int64 × Int32 => F_X9_convergent_L45 (eM a b m N) p s.1 s.2.1 s.2.2) oFuel (1, 0, nI j) = some (lN (eG a b j (j + 1)).1, lN (eG a b j (j + 1)).2) := by
            rw [if_neg (show ¬ 0 = j + 1 by omega), Nat.sub_zero] at K
            exact K
          rw [K', o_b, eG_end, r_told p (by rw [lN_t (by omega)]; omega) (by rw [lN_t (by omega)]; omega) (by rw [lN_t (by omega)]; omega), o_b]
        · intro s hs
          have h1 := ht0 (j - s) (by omega)
          rw [if_neg (show ¬ s = j + 1 by omega)]
          show F_X9_convergent_L45 (eM a b m N) p (lN (eG a b j s).1) (lN (eG a b j s).2) (nI (j - s)) = _
          unfold F_X9_convergent_L45
          rw [if_neg (nI_pos (by omega)), a_ld (n := 60) rfl (by omega) (by omega), o_b, eM_at a b m (j - s) N (by omega), nI_l (by omega), o_b, lN_mul, lN_add]
          by_cases hs1 : s + 1 = j + 1
          · rw [if_pos hs1, show j - s = 0 by omega]
            show some (Sum.inl (lN (eT a b 0 * (eG a b j s).1 + (eG a b j s).2), lN (eG a b j s).1, nI 0 + -1)) = some (Sum.inl (lN (eT a b (j - s) * (eG a b j s).1 + (eG a b j s).2), lN (eG a b j s).1, -1))
            rw [show j - s = 0 by omega]
            rfl
          · rw [if_neg hs1]
            obtain ⟨u, hu⟩ : ∃ u, j - s = u + 1 := ⟨j - s - 1, by omega⟩
            have hm : nI (j - s) + -1 = nI (j - (s + 1)) := by
              rw [hu, show j - (s + 1) = u by omega, ← nI_pred u]
              grind
            rw [hm]
            rfl
        · rw [if_pos rfl]
          show F_X9_convergent_L45 (eM a b m N) p _ _ (-1) = _
          unfold F_X9_convergent_L45
          rw [if_pos (by decide)]
    · have L := for_run (f := fun s : Int32 × Int32 × Int64 × Int64 × Int64 × Int64 × Int32 => F_X8_convergent_L63 m w p s.1 s.2.1 s.2.2.1 s.2.2.2.1 s.2.2.2.2.1 s.2.2.2.2.2.1 s.2.2.2.2.2.2) (fun i => (nI (eAt a b i).1, nI (eAt a b i).2, lN (eF a b i).1.1, lN (eF a b i).2.1, lN (eF a b i).1.2, lN (eF a b i).2.2, nI i)) N (b := .inl ()) (fun i hi => step i hi (fun z => hin (by rw [← z, nI_toInt (by omega)]; omega))) (by
        show F_X8_convergent_L63 m w p (nI (eAt a b N).1) (nI (eAt a b N).2) _ _ _ _ (nI N) = _
        unfold F_X8_convergent_L63
        rw [if_neg (show ¬ (100 : Int32) ≤ nI N from nI_ge (b := 100) (by omega) (by omega)), n2, if_pos nI_0]) (by omega)
      have L' : oLoop (fun s : Int32 × Int32 × Int64 × Int64 × Int64 × Int64 × Int32 => F_X8_convergent_L63 m w p s.1 s.2.1 s.2.2.1 s.2.2.2.1 s.2.2.2.2.1 s.2.2.2.2.2.1 s.2.2.2.2.2.2) oFuel (nI a, nI b, 1, 0, 0, 1, 0) = some (.inl ()) := L
      have N1 : 1 ≤ N := by
        rcases Nat.eq_zero_or_pos N with e | e
        · rw [e] at n2
          exact absurd (show b = 0 from n2) (by omega)
        · exact e
      rw [L', o_b, isIn0 (p := 0) (q := (N : Int) - 1) (by decide) (by rw [i_long, nI_pre (by omega)]) (by rw [i_long]; omega), o_b, if_pos rfl]
      exact ⟨_, _, rfl, rfl, inv2⟩
  · rw [c_hasBody0 hc hw hB, r_isBody0 hr hw hB]
    exact ⟨_, _, rfl, rfl, hI⟩
end TERM
