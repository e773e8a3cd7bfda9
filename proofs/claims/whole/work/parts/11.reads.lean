/-! WHAT THE READING METHODS ANSWER, in the words of the view: of the class (c_..), of the reference (r_..) -/
theorem for_loop {σ β : Type} {f : σ → Option (σ ⊕ β)} (st : Nat → σ) (N : Nat) {b : β} (hs : ∀ i, i < N → f (st i) = some (.inl (st (i + 1)))) (he : f (st N) = some (.inr b)) : ∀ k i, i + k = N → oTo f (st i) b k
  | 0, i, h => by
    rw [show i = N by omega]
    exact oTo.done 0 he
  | k + 1, i, h => oTo.step (hs i (by omega)) (for_loop st N hs he k (i + 1) (by omega))
theorem for_run {σ β : Type} {f : σ → Option (σ ⊕ β)} (st : Nat → σ) (N : Nat) {b : β} (hs : ∀ i, i < N → f (st i) = some (.inl (st (i + 1)))) (he : f (st N) = some (.inr b)) (hN : N < 1000000) : oLoop f oFuel (st 0) = some b :=
  (for_loop st N hs he N 0 (by omega)).run hN
theorem nI_mul (a b : Nat) : nI a * nI b = nI (a * b) := (Int32.ofNat_mul a b).symm
theorem ix_3 (b k : Nat) : nI b * 3 + nI k = nI (3 * b + k) := by
  rw [show (3 : Int32) = nI 3 from rfl, nI_mul, nI_add, Nat.mul_comm]
theorem ix_p (b k : Nat) : (25 + (3 * nI b)) + nI k = nI (25 + 3 * b + k) := by
  rw [show (25 : Int32) = nI 25 from rfl, show (3 : Int32) = nI 3 from rfl, nI_mul, nI_add, nI_add]
theorem ix {c : Int32} {n : Nat} (hc : c = nI n) (q : Nat) : c + nI q = nI (n + q) := by rw [hc, nI_add]
section READS
variable {o : Nat} {m : oM} {V : oV}
theorem c_len (h : VC o m V) (ho : oOb o = true) {b : Nat} (hb : b < 6) : F_X7_length (o + 8) m (nI b) = some (nI (vln V b)) := by
  unfold F_X7_length
  rw [f_at (oT_a1 (oO_T ho)) hb (by omega), o_b]
  exact congrArg some (h.2.2.2.2.1 b hb)
theorem c_len0 (ho : oOb o = true) {x : Int32} (hx : ¬ (0 ≤ x.toInt ∧ x.toInt < 6)) : F_X7_length (o + 8) m x = some 0 := by
  unfold F_X7_length
  rw [f_at0 (oT_a1 (oO_T ho)) (by omega) hx, o_b]
theorem c_pl (h : VC o m V) (hw : WF V) (ho : oOb o = true) {b k : Nat} (hb : b < vnb V) (hk : k < vln V b) : F_X7_pairAt (o + 8) m (nI b) (nI k) = some (nI (vpl V b k)) := by
  have h1 := hw.1
  have h2 := hw.2.2.2.2.1 b
  unfold F_X7_pairAt
  rw [ix_3, f_at (oT_a2 (oO_T ho)) (by omega) (by omega), o_b]
  exact congrArg some (h.2.2.2.2.2.1 b k hb hk)
theorem c_kd (h : VC o m V) (hw : WF V) (ho : oOb o = true) {q : Nat} (hq : q < vnp V) : F_X8_at (o + 3 + 1) m (nI q) = some (vkd V q) := by
  have h1 := hw.2.1
  rw [f_at (oP_a1 (oO_P ho)) (by omega) (by omega)]
  exact congrArg some (h.2.2.2.2.2.2.1 q hq).1
theorem c_fg (h : VC o m V) (hw : WF V) (ho : oOb o = true) {q : Nat} (hq : q < vnp V) : F_X8_at (o + 3 + 2) m (nI q) = some (vfg V q) := by
  have h1 := hw.2.1
  rw [f_at (oP_a2 (oO_P ho)) (by omega) (by omega)]
  exact congrArg some (h.2.2.2.2.2.2.1 q hq).2.1
theorem c_dr (h : VC o m V) (hw : WF V) (ho : oOb o = true) {q : Nat} (hq : q < vnp V) : F_X8_at (o + 6) m (nI q) = some (vdr V q) := by
  have h1 := hw.2.1
  have h2 : oShp (o + 6) = .inr (0, 10) := oP_a3 (oO_P ho)
  rw [f_at h2 (by omega) (by omega)]
  exact congrArg some (h.2.2.2.2.2.2.1 q hq).2.2.1
theorem c_dn (h : VC o m V) (hw : WF V) (ho : oOb o = true) {q : Nat} (hq : q < vnp V) : F_X8_at (o + 7) m (nI q) = some (vdn V q) := by
  have h1 := hw.2.1
  have h2 : oShp (o + 7) = .inr (0, 10) := oP_a4 (oO_P ho)
  rw [f_at h2 (by omega) (by omega)]
  exact congrArg some (h.2.2.2.2.2.2.1 q hq).2.2.2
theorem c_ab (h : VC o m V) (hw : WF V) (ho : oOb o = true) {b : Nat} (hb : b < vnb V) : F_X8_at (o + 1) m (nI b) = some (vab V b) := by
  have h1 := hw.1
  rw [f_at (oO_a1 ho) (by omega) (by omega)]
  exact congrArg some (h.2.2.2.1 b hb).1
theorem c_be (h : VC o m V) (hw : WF V) (ho : oOb o = true) {b : Nat} (hb : b < vnb V) : F_X8_at (o + 2) m (nI b) = some (vbe V b) := by
  have h1 := hw.1
  rw [f_at (oO_a2 ho) (by omega) (by omega)]
  exact congrArg some (h.2.2.2.1 b hb).2
/-- a number of a body; of a pair -/
def isB (V : oV) (x : Int32) : Prop := 0 ≤ x.toInt ∧ x.toInt < vnb V
def isQ (V : oV) (x : Int32) : Prop := 0 ≤ x.toInt ∧ x.toInt < vnp V
theorem isB_nI (hw : WF V) {b : Nat} : isB V (nI b) ∨ ¬ isB V (nI b) := Classical.em _
theorem isB_of {x : Int32} (h : isB V x) : ∃ b : Nat, b < vnb V ∧ x = nI b := i_of h.1 h.2
theorem isQ_of {x : Int32} (h : isQ V x) : ∃ b : Nat, b < vnp V ∧ x = nI b := i_of h.1 h.2
theorem isB_in (hw : WF V) {b : Nat} (hb : b < vnb V) : isB V (nI b) := by
  have h1 := hw.1
  unfold isB
  rw [nI_toInt (by omega)]
  omega
theorem isQ_in (hw : WF V) {b : Nat} (hb : b < vnp V) : isQ V (nI b) := by
  have h1 := hw.2.1
  unfold isQ
  rw [nI_toInt (by omega)]
  omega
theorem c_hasBody1 (h : VC o m V) (hw : WF V) {x : Int32} (hx : isB V x) : F_X1_hasBody o m x = some 1 := by
  have h1 := hw.1
  unfold F_X1_hasBody
  rw [if_neg (by rw [i_lt, Int32.toInt_zero]; exact Int.not_lt.mpr hx.1), if_neg]
  rw [h.1, i_le, nI_toInt (by omega)]
  have := hx.2
  omega
theorem c_hasBody0 (h : VC o m V) (hw : WF V) {x : Int32} (hx : ¬ isB V x) : F_X1_hasBody o m x = some 0 := by
  have h1 := hw.1
  unfold F_X1_hasBody
  by_cases h2 : x < 0
  · rw [if_pos h2]
  · rw [if_neg h2, if_pos]
    rw [i_lt, Int32.toInt_zero] at h2
    rw [h.1, i_le, nI_toInt (by omega)]
    unfold isB at hx
    omega
theorem c_hasTrain1 (h : VC o m V) (hw : WF V) (ho : oOb o = true) {b : Nat} (hb : b < vnb V) (hl : 0 < vln V b) : F_X1_hasTrain o m (nI b) = some 1 := by
  have h1 := hw.1
  have h2 := hw.2.2.2.2.1 b
  unfold F_X1_hasTrain
  rw [c_hasBody1 h hw (isB_in hw hb), o_b, if_neg (by decide), c_len h ho (by omega), o_b, if_neg (nI_nle hl (by omega))]
theorem c_hasTrain0 (h : VC o m V) (hw : WF V) (ho : oOb o = true) {x : Int32} (hx : ¬ ∃ b : Nat, b < vnb V ∧ x = nI b ∧ 0 < vln V b) : F_X1_hasTrain o m x = some 0 := by
  have h1 := hw.1
  unfold F_X1_hasTrain
  by_cases hB : isB V x
  · obtain ⟨b, hb, rfl⟩ := isB_of hB
    have hl : vln V b = 0 := by
      rcases Nat.eq_zero_or_pos (vln V b) with q | q
      · exact q
      · exact absurd ⟨b, hb, rfl, q⟩ hx
    rw [c_hasBody1 h hw hB, o_b, if_neg (by decide), c_len h ho (by omega), o_b, hl, if_pos (by decide)]
  · rw [c_hasBody0 h hw hB, o_b, if_pos rfl]
-- play, ways round, products
def sPlay (V : oV) (q : Nat) : Int32 := if vkd V q = 1 then vfg V q + 3 else if vkd V q = 2 then vfg V q / 2 else if vkd V q = 3 then 2 * (vfg V q + 3) else if vkd V q = 4 then (if oRI (vfg V q) 2 = 0 then 0 else vfg V q / 2) else vfg V q
theorem o_if {α : Type} {c : Prop} {_ : Decidable c} (a b : α) : (if c then some a else some b) = some (if c then a else b) := by
  by_cases h : c
  · rw [if_pos h, if_pos h]
  · rw [if_neg h, if_neg h]
theorem c_play (h : VC o m V) (hw : WF V) (ho : oOb o = true) {q : Nat} (hq : q < vnp V) : F_X2_play (o + 3) m (nI q) = some (sPlay V q) := by
  unfold F_X2_play
  rw [c_fg h hw ho hq, o_b, c_kd h hw ho hq, o_b]
  simp only [o_if]
  rfl
theorem c_goes (h : VC o m V) (hw : WF V) (ho : oOb o = true) {q : Nat} (hq : q < vnp V) : F_X2_goesRound (o + 3) m (nI q) = some (if vkd V q = 5 then 0 else 1) := by
  unfold F_X2_goesRound
  rw [c_kd h hw ho hq, o_b]
  simp only [o_if]
def sMul (f : Nat → Int32) (a : Nat) : Nat → Int64
  | 0 => 1
  | n + 1 => sMul f a n * (f (a + n)).toInt64
def sDr (V : oV) (b : Nat) : Int64 := sMul (fun k => vdr V (vpl V b k)) 0 (vln V b)
def sDn (V : oV) (b : Nat) : Int64 := sMul (fun k => vdn V (vpl V b k)) 0 (vln V b)
theorem c_drivers (h : VC o m V) (hw : WF V) (ho : oOb o = true) {b : Nat} (hb : b < vnb V) : F_X1_drivers o m (nI b) = some (sDr V b) := by
  have h1 := hw.1
  have h2 := hw.2.2.2.2.1 b
  unfold F_X1_drivers
  have L := for_run (f := fun s : Int64 × Int32 => F_X1_drivers_L5 o m (nI b) s.1 s.2) (fun i => (sMul (fun k => vdr V (vpl V b k)) 0 i, nI i)) (vln V b) (b := sDr V b) ?_ ?_ (by omega)
  · have L' : oLoop (fun s : Int64 × Int32 => F_X1_drivers_L5 o m (nI b) s.1 s.2) oFuel (1, 0) = some (sDr V b) := L
    rw [L', o_b]
  · intro i hi
    show F_X1_drivers_L5 o m (nI b) _ (nI i) = _
    unfold F_X1_drivers_L5
    rw [c_len h ho (by omega), o_b, if_neg (nI_ge hi (by omega)), c_pl h hw ho hb hi, o_b, c_dr h hw ho (hw.2.2.2.2.2.2.1 b i hb hi), o_b, o_b, nI_1]
    simp only [sMul, Nat.zero_add]
  · show F_X1_drivers_L5 o m (nI b) _ (nI (vln V b)) = _
    unfold F_X1_drivers_L5
    rw [c_len h ho (by omega), o_b, if_pos (nI_le (Nat.le_refl _) (by omega))]
    rfl
theorem c_drivens (h : VC o m V) (hw : WF V) (ho : oOb o = true) {b : Nat} (hb : b < vnb V) : F_X1_drivens o m (nI b) = some (sDn V b) := by
  have h1 := hw.1
  have h2 := hw.2.2.2.2.1 b
  unfold F_X1_drivens
  have L := for_run (f := fun s : Int64 × Int32 => F_X1_drivens_L5 o m (nI b) s.1 s.2) (fun i => (sMul (fun k => vdn V (vpl V b k)) 0 i, nI i)) (vln V b) (b := sDn V b) ?_ ?_ (by omega)
  · have L' : oLoop (fun s : Int64 × Int32 => F_X1_drivens_L5 o m (nI b) s.1 s.2) oFuel (1, 0) = some (sDn V b) := L
    rw [L', o_b]
  · intro i hi
    show F_X1_drivens_L5 o m (nI b) _ (nI i) = _
    unfold F_X1_drivens_L5
    rw [c_len h ho (by omega), o_b, if_neg (nI_ge hi (by omega)), c_pl h hw ho hb hi, o_b, c_dn h hw ho (hw.2.2.2.2.2.2.1 b i hb hi), o_b, o_b, nI_1]
    simp only [sMul, Nat.zero_add]
  · show F_X1_drivens_L5 o m (nI b) _ (nI (vln V b)) = _
    unfold F_X1_drivens_L5
    rw [c_len h ho (by omega), o_b, if_pos (nI_le (Nat.le_refl _) (by omega))]
    rfl
/-- the ways round: 1 as often as a pair that isn't crowned turns it -/
def sTog (V : oV) (b : Nat) : Nat → Int32
  | 0 => 0
  | n + 1 => if vkd V (vpl V b n) = 5 then sTog V b n else if sTog V b n = 0 then 1 else 0
def sRnd (V : oV) (b : Nat) : Int32 := sTog V b (vln V b)
theorem sTog_01 (V : oV) (b : Nat) : ∀ n, sTog V b n = 0 ∨ sTog V b n = 1
  | 0 => Or.inl rfl
  | n + 1 => by
    unfold sTog
    split
    · exact sTog_01 V b n
    · split
      · exact Or.inr rfl
      · exact Or.inl rfl
theorem c_isRound (h : VC o m V) (hw : WF V) (ho : oOb o = true) {b : Nat} (hb : b < vnb V) : F_X1_isRound o m (nI b) = some (sRnd V b) := by
  have h1 := hw.1
  have h2 := hw.2.2.2.2.1 b
  unfold F_X1_isRound
  have L := for_run (f := fun s : Int32 × Int32 => F_X1_isRound_L4 o m (nI b) s.1 s.2) (fun i => (sTog V b i, nI i)) (vln V b) (b := sRnd V b) ?_ ?_ (by omega)
  · have L' : oLoop (fun s : Int32 × Int32 => F_X1_isRound_L4 o m (nI b) s.1 s.2) oFuel (0, 0) = some (sRnd V b) := L
    rw [L', o_b]
    unfold oZ
    rw [if_pos (show sRnd V b = 0 ∨ sRnd V b = 1 from sTog_01 V b _)]
  · intro i hi
    show F_X1_isRound_L4 o m (nI b) _ (nI i) = _
    unfold F_X1_isRound_L4
    rw [c_len h ho (by omega), o_b, if_neg (nI_ge hi (by omega)), c_pl h hw ho hb hi, o_b, c_goes h hw ho (hw.2.2.2.2.2.2.1 b i hb hi), o_b, nI_1]
    show _ = some (Sum.inl ((if vkd V (vpl V b i) = 5 then sTog V b i else if sTog V b i = 0 then 1 else 0), nI (i + 1)))
    by_cases h5 : vkd V (vpl V b i) = 5
    · rw [if_pos h5, if_pos rfl, if_pos h5]
    · rw [if_neg h5, if_neg (by decide), if_neg h5]
      by_cases h0 : sTog V b i = 0
      · rw [if_pos h0, if_pos h0]
      · rw [if_neg h0, if_neg h0]
  · show F_X1_isRound_L4 o m (nI b) _ (nI (vln V b)) = _
    unfold F_X1_isRound_L4
    rw [c_len h ho (by omega), o_b, if_pos (nI_le (Nat.le_refl _) (by omega))]
    rfl
/-- the play that comes to the last arbor, as the class adds it up -/
def sSlk (V : oV) (b : Nat) : Nat → Int64
  | 0 => 0
  | n + 1 => sSlk V b n * (vdr V (vpl V b n)).toInt64 + (sPlay V (vpl V b n)).toInt64 * sMul (fun k => vdn V (vpl V b k)) 0 n
theorem c_slackAbove (h : VC o m V) (hw : WF V) (ho : oOb o = true) {b : Nat} (hb : b < vnb V) : F_X1_slackAbove o m (nI b) = some (sSlk V b (vln V b)) := by
  have h1 := hw.1
  have h2 := hw.2.2.2.2.1 b
  unfold F_X1_slackAbove
  have L := for_run (f := fun s : Int64 × Int64 × Int32 => F_X1_slackAbove_L8 o m (nI b) s.1 s.2.1 s.2.2) (fun i => (sSlk V b i, sMul (fun k => vdn V (vpl V b k)) 0 i, nI i)) (vln V b) (b := sSlk V b (vln V b)) ?_ ?_ (by omega)
  · have L' : oLoop (fun s : Int64 × Int64 × Int32 => F_X1_slackAbove_L8 o m (nI b) s.1 s.2.1 s.2.2) oFuel (0, 1, 0) = some (sSlk V b (vln V b)) := L
    rw [L', o_b]
  · intro i hi
    have hq := hw.2.2.2.2.2.2.1 b i hb hi
    show F_X1_slackAbove_L8 o m (nI b) _ _ (nI i) = _
    unfold F_X1_slackAbove_L8
    rw [c_len h ho (by omega), o_b, if_neg (nI_ge hi (by omega)), c_pl h hw ho hb hi, o_b, c_dr h hw ho hq, o_b, c_play h hw ho hq, o_b, o_b, c_dn h hw ho hq, o_b, o_b, nI_1]
    simp only [sMul, sSlk, Nat.zero_add]
  · show F_X1_slackAbove_L8 o m (nI b) _ _ (nI (vln V b)) = _
    unfold F_X1_slackAbove_L8
    rw [c_len h ho (by omega), o_b, if_pos (nI_le (Nat.le_refl _) (by omega))]
theorem c_slackBelow (h : VC o m V) (hw : WF V) (ho : oOb o = true) {b : Nat} (hb : b < vnb V) : F_X1_slackBelow o m (nI b) = some (100 * sDn V b) := by
  unfold F_X1_slackBelow
  rw [c_drivens h hw ho hb, o_b]
end READS
