/-! THE STATE AS NUMBERS: one view of it, that both objects' memories show -/
abbrev oV : Type := (Nat × Nat × Nat) × ((Nat → Int32) × (Nat → Int32)) × ((Nat → Nat) × (Nat → Nat → Nat)) × ((Nat → Int32) × (Nat → Int32) × (Nat → Int32) × (Nat → Int32)) × (Int32 × Int32 × Int32 × Int32) × ((Nat → Int32) × (Nat → Int32))
def vnb (V : oV) : Nat := V.1.1
def vnp (V : oV) : Nat := V.1.2.1
def vps (V : oV) : Nat := V.1.2.2
def vab (V : oV) : Nat → Int32 := V.2.1.1
def vbe (V : oV) : Nat → Int32 := V.2.1.2
def vln (V : oV) : Nat → Nat := V.2.2.1.1
def vpl (V : oV) : Nat → Nat → Nat := V.2.2.1.2
def vkd (V : oV) : Nat → Int32 := V.2.2.2.1.1
def vfg (V : oV) : Nat → Int32 := V.2.2.2.1.2.1
def vdr (V : oV) : Nat → Int32 := V.2.2.2.1.2.2.1
def vdn (V : oV) : Nat → Int32 := V.2.2.2.1.2.2.2
def vle (V : oV) : Int32 := V.2.2.2.2.1.1
def vmo (V : oV) : Int32 := V.2.2.2.2.1.2.1
def vtu (V : oV) : Int32 := V.2.2.2.2.1.2.2.1
def vba (V : oV) : Int32 := V.2.2.2.2.1.2.2.2
def vwh (V : oV) : Nat → Int32 := V.2.2.2.2.2.1
def vvl (V : oV) : Nat → Int32 := V.2.2.2.2.2.2
/-- an Orrery at o shows V -/
def VC (o : Nat) (m : oM) (V : oV) : Prop :=
  m.1 o 0 = nI (vnb V) ∧ m.1 (o + 3) 0 = nI (vnp V) ∧ m.1 (o + 11) 0 = nI (vps V) ∧
  (∀ b, b < vnb V → m.1 (o + 1) b = vab V b ∧ m.1 (o + 2) b = vbe V b) ∧
  (∀ b, b < 6 → m.1 (o + 9) b = nI (vln V b)) ∧
  (∀ b k, b < vnb V → k < vln V b → m.1 (o + 10) (3 * b + k) = nI (vpl V b k)) ∧
  (∀ q, q < vnp V → m.1 (o + 4) q = vkd V q ∧ m.1 (o + 5) q = vfg V q ∧ m.1 (o + 6) q = vdr V q ∧ m.1 (o + 7) q = vdn V q) ∧
  m.1 o 3 = vle V ∧ m.1 o 4 = vmo V ∧ m.1 o 7 = vtu V ∧ m.1 o 8 = vba V ∧
  (∀ i, i < vps V → m.1 (o + 12) i = vwh V i ∧ m.1 (o + 13) i = vvl V i)
/-- a row of the reference at a shows V -/
def VR (a : Nat) (m : oM) (V : oV) : Prop :=
  m.1 a 0 = nI (vnb V) ∧ m.1 a 3 = nI (vnp V) ∧ m.1 a 6 = nI (vps V) ∧
  (∀ b, b < vnb V → m.1 a (7 + b) = vab V b ∧ m.1 a (13 + b) = vbe V b) ∧
  (∀ b, b < vnb V → m.1 a (19 + b) = nI (vln V b)) ∧
  (∀ b k, b < vnb V → k < vln V b → m.1 a (25 + 3 * b + k) = nI (vpl V b k)) ∧
  (∀ q, q < vnp V → m.1 a (43 + q) = vkd V q ∧ m.1 a (53 + q) = vfg V q ∧ m.1 a (63 + q) = vdr V q ∧ m.1 a (73 + q) = vdn V q) ∧
  m.1 a 1 = vle V ∧ m.1 a 2 = vmo V ∧ m.1 a 4 = vtu V ∧ m.1 a 5 = vba V ∧
  (∀ i, i < vps V → m.1 a (83 + i) = vwh V i ∧ m.1 a (91 + i) = vvl V i)
/-- an int between two numbers -/
def iB (x : Int32) (lo hi : Int) : Prop := lo ≤ x.toInt ∧ x.toInt ≤ hi
def WF (V : oV) : Prop :=
  vnb V ≤ 6 ∧ vnp V ≤ 10 ∧ vps V ≤ 8 ∧
  (∀ b, b < vnb V → iB (vab V b) 1 9999 ∧ iB (vbe V b) 1 9999) ∧
  (∀ b, vln V b ≤ 3) ∧ (∀ b, vnb V ≤ b → vln V b = 0) ∧
  (∀ b k, b < vnb V → k < vln V b → vpl V b k < vnp V) ∧
  (∀ q, q < vnp V → iB (vkd V q) 0 5 ∧ iB (vfg V q) 0 9 ∧ iB (vdr V q) 10 99 ∧ iB (vdn V q) 10 99) ∧
  iB (vle V) 10 99 ∧ (vle V).toInt ≤ (vmo V).toInt ∧ (vmo V).toInt ≤ 99 ∧ (vmo V).toInt ≤ (vle V).toInt + 14 ∧
  iB (vtu V) (-9999) 9999 ∧ (vba V = 0 ∨ vba V = 1) ∧
  (∀ i, i < vps V → (vwh V i = 0 ∧ iB (vvl V i) (-99) 99 ∧ vvl V i ≠ 0) ∨ (vwh V i = 1 ∧ iB (vvl V i) 0 5) ∨ (vwh V i = 2 ∧ iB (vvl V i) 0 9))
-- numbers
theorem i_lt (x y : Int32) : x < y ↔ x.toInt < y.toInt := Int32.lt_iff_toInt_lt
theorem i_le (x y : Int32) : x ≤ y ↔ x.toInt ≤ y.toInt := Int32.le_iff_toInt_le
theorem i_eq (x y : Int32) : x = y ↔ x.toInt = y.toInt := Int32.toInt_inj.symm
theorem l_lt (x y : Int64) : x < y ↔ x.toInt < y.toInt := Int64.lt_iff_toInt_lt
theorem l_le (x y : Int64) : x ≤ y ↔ x.toInt ≤ y.toInt := Int64.le_iff_toInt_le
theorem l_eq (x y : Int64) : x = y ↔ x.toInt = y.toInt := Int64.toInt_inj.symm
theorem i_rng (x : Int32) : -2147483648 ≤ x.toInt ∧ x.toInt ≤ 2147483647 := by
  have h1 := x.le_toInt
  have h2 := x.toInt_lt
  omega
theorem i_of {x : Int32} {n : Nat} (h : 0 ≤ x.toInt) (h2 : x.toInt < n) : ∃ k : Nat, k < n ∧ x = nI k := by
  have hr := i_rng x
  refine ⟨x.toInt.toNat, by omega, ?_⟩
  rw [i_eq, nI_toInt (by omega)]
  omega
theorem i_clamp {x : Int32} (h : 0 ≤ x.toInt) : x.toNatClampNeg = x.toInt.toNat := rfl
theorem i_add {x y : Int32} (h1 : -2147483648 ≤ x.toInt + y.toInt) (h2 : x.toInt + y.toInt ≤ 2147483647) : (x + y).toInt = x.toInt + y.toInt := by
  rw [Int32.toInt_add]
  exact Int.bmod_eq_of_le (by omega) (by omega)
theorem i_sub {x y : Int32} (h1 : -2147483648 ≤ x.toInt - y.toInt) (h2 : x.toInt - y.toInt ≤ 2147483647) : (x - y).toInt = x.toInt - y.toInt := by
  rw [Int32.toInt_sub]
  exact Int.bmod_eq_of_le (by omega) (by omega)
theorem i_mul {x y : Int32} (h1 : -2147483648 ≤ x.toInt * y.toInt) (h2 : x.toInt * y.toInt ≤ 2147483647) : (x * y).toInt = x.toInt * y.toInt := by
  rw [Int32.toInt_mul]
  exact Int.bmod_eq_of_le (by omega) (by omega)
theorem l_rng (x : Int64) : -9223372036854775808 ≤ x.toInt ∧ x.toInt ≤ 9223372036854775807 := by
  have h1 := x.le_toInt
  have h2 := x.toInt_lt
  omega
theorem l_add {x y : Int64} (h1 : -9223372036854775808 ≤ x.toInt + y.toInt) (h2 : x.toInt + y.toInt ≤ 9223372036854775807) : (x + y).toInt = x.toInt + y.toInt := by
  rw [Int64.toInt_add]
  exact Int.bmod_eq_of_le (by omega) (by omega)
theorem l_sub {x y : Int64} (h1 : -9223372036854775808 ≤ x.toInt - y.toInt) (h2 : x.toInt - y.toInt ≤ 9223372036854775807) : (x - y).toInt = x.toInt - y.toInt := by
  rw [Int64.toInt_sub]
  exact Int.bmod_eq_of_le (by omega) (by omega)
theorem l_mul {x y : Int64} (h1 : -9223372036854775808 ≤ x.toInt * y.toInt) (h2 : x.toInt * y.toInt ≤ 9223372036854775807) : (x * y).toInt = x.toInt * y.toInt := by
  rw [Int64.toInt_mul]
  exact Int.bmod_eq_of_le (by omega) (by omega)
theorem l_neg {x : Int64} (h : -9223372036854775807 ≤ x.toInt) : (-x).toInt = -x.toInt := by
  have hr := l_rng x
  rw [Int64.toInt_neg]
  exact Int.bmod_eq_of_le (by omega) (by omega)
theorem i_long (x : Int32) : x.toInt64.toInt = x.toInt := Int32.toInt_toInt64 x
theorem nI_pre {n : Nat} (h : n < 2 ^ 31) : (nI n - 1).toInt = (n : Int) - 1 := by
  rw [i_sub] <;> rw [nI_toInt h, Int32.toInt_one] <;> omega
-- Option
theorem o_b {α β : Type} (a : α) (f : α → Option β) : (some a).bind f = f a := rfl
theorem o_r {α : Type} (a : Option α) : (a.bind fun x => some x) = a := by cases a <;> rfl
/-- a loop that ends from s with b within k more rounds -/
def oTo {σ β : Type} (f : σ → Option (σ ⊕ β)) (s : σ) (b : β) (k : Nat) : Prop := ∀ n, k < n → oLoop f n s = some b
theorem oTo.done {σ β : Type} {f : σ → Option (σ ⊕ β)} {s : σ} {b : β} (k : Nat) (h : f s = some (.inr b)) : oTo f s b k := by
  intro n hn
  cases n with
  | zero => omega
  | succ n => unfold oLoop; rw [h]; rfl
theorem oTo.step {σ β : Type} {f : σ → Option (σ ⊕ β)} {s s' : σ} {b : β} {k : Nat} (h : f s = some (.inl s')) (hk : oTo f s' b k) : oTo f s b (k + 1) := by
  intro n hn
  cases n with
  | zero => omega
  | succ n => unfold oLoop; rw [h]; exact hk n (by omega)
theorem oTo.run {σ β : Type} {f : σ → Option (σ ⊕ β)} {s : σ} {b : β} {k : Nat} (h : oTo f s b k) (hk : k < 1000000) : oLoop f oFuel s = some b := h oFuel hk
-- arrays
theorem oLn_of {p n : Nat} (hs : oShp p = .inr (0, n)) : oLn p = n ∧ p ≠ 62 := by
  have hp := oShp_lt hs (by intro q; cases q)
  have h62 : p ≠ 62 := by omega
  refine ⟨?_, h62⟩
  unfold oLn
  rw [if_neg h62, hs]
theorem a_ld {p n k : Nat} {m : oM} (hs : oShp p = .inr (0, n)) (hk : k < n) (hn : n < 1000) : oAL m p (nI k) = some (m.1 p k) := by
  obtain ⟨hl, h62⟩ := oLn_of hs
  unfold oAL
  rw [if_neg (by rw [hl]; exact nI_in hk (by omega)), nI_clamp (by omega)]
  unfold oRd
  rw [if_neg h62]
theorem a_st {p n k : Nat} {m : oM} {x : Int32} (hs : oShp p = .inr (0, n)) (hk : k < n) (hn : n < 1000) : oAS m p (nI k) x = some (oSI m p k x) := by
  obtain ⟨hl, h62⟩ := oLn_of hs
  unfold oAS
  rw [if_neg (by rw [hl]; exact nI_in hk (by omega)), nI_clamp (by omega)]
theorem f_at {p n k : Nat} {m : oM} (hs : oShp p = .inr (0, n)) (hk : k < n) (hn : n < 1000) : F_X8_at p m (nI k) = some (m.1 p k) := by
  unfold F_X8_at
  have h : ¬ (Int32.ofNat (oLn p)) ≤ nI k := by rw [(oLn_of hs).1]; exact nI_ge hk (by omega)
  rw [if_neg (nI_pos (by omega)), if_neg h, a_ld hs hk hn]
  rfl
theorem f_at0 {p n : Nat} {m : oM} {x : Int32} (hs : oShp p = .inr (0, n)) (hn : n < 1000) (hx : ¬ (0 ≤ x.toInt ∧ x.toInt < n)) : F_X8_at p m x = some 0 := by
  unfold F_X8_at
  by_cases h : x < 0
  · rw [if_pos h]
  · rw [if_neg h, if_pos]
    rw [(oLn_of hs).1]
    rw [i_lt, Int32.toInt_zero] at h
    show nI n ≤ x
    rw [i_le, nI_toInt (by omega)]
    omega
theorem f_set {p n k : Nat} {m : oM} {x : Int32} (hs : oShp p = .inr (0, n)) (hk : k < n) (hn : n < 1000) : F_X8_set p m (nI k) x = some (oSI m p k x) := by
  unfold F_X8_set
  have h : ¬ (Int32.ofNat (oLn p)) ≤ nI k := by rw [(oLn_of hs).1]; exact nI_ge hk (by omega)
  rw [if_neg (nI_pos (by omega)), if_neg h, a_st hs hk hn]
  rfl
theorem f_isIn (x a b : Int64) : F_X9_isIn x a b = some (if a.toInt ≤ x.toInt ∧ x.toInt ≤ b.toInt then 1 else 0) := by
  unfold F_X9_isIn
  simp only [l_lt]
  by_cases h1 : x.toInt < a.toInt
  · rw [if_pos h1, if_neg (by omega)]
  · rw [if_neg h1]
    by_cases h2 : b.toInt < x.toInt
    · rw [if_pos h2, if_neg (by omega)]
    · rw [if_neg h2, if_pos (by omega)]
