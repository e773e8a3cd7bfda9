/-! WHAT THE REFERENCE's READING METHODS ANSWER, bounds, where a body stands -/
theorem sh52 : oShp 52 = .inr (0, 99) := rfl
section REFS
variable {o : Nat} {m : oM} {V : oV}
theorem r_ld {c : Int32} {n q : Nat} (hc : c = nI n) (hq : n + q < 99) : oAL m 52 (c + nI q) = some (m.1 52 (n + q)) := by
  rw [ix hc, a_ld sh52 hq (by omega)]
theorem r_isBody (h : VR 52 m V) (hw : WF V) (x : Int32) (d : Decidable (isB V x)) : F_X9_isBody m x = some (if isB V x then 1 else 0) := by
  have h1 := hw.1
  unfold F_X9_isBody
  rw [f_isIn, o_b, h.1]
  have e : ((0 : Int64).toInt ≤ x.toInt64.toInt ∧ x.toInt64.toInt ≤ (nI (vnb V) - 1).toInt64.toInt) ↔ isB V x := by
    rw [i_long, i_long, nI_pre (by omega), Int64.toInt_zero]
    unfold isB
    omega
  by_cases hB : isB V x
  · rw [if_pos hB, if_pos (e.mpr hB)]
  · rw [if_neg hB, if_neg (fun q => hB (e.mp q))]
theorem r_isBody1 (h : VR 52 m V) (hw : WF V) {x : Int32} (hx : isB V x) : F_X9_isBody m x = some 1 := by
  rw [r_isBody h hw x (Classical.propDecidable _), if_pos hx]
theorem r_isBody0 (h : VR 52 m V) (hw : WF V) {x : Int32} (hx : ¬ isB V x) : F_X9_isBody m x = some 0 := by
  rw [r_isBody h hw x (Classical.propDecidable _), if_neg hx]
theorem r_isPair1 (h : VR 52 m V) (hw : WF V) {x : Int32} (hx : isQ V x) : F_X9_isPair m x = some 1 := by
  have h1 := hw.2.1
  unfold F_X9_isPair
  rw [f_isIn, o_b, h.2.1, if_pos]
  rw [i_long, i_long, nI_pre (by omega), Int64.toInt_zero]
  unfold isQ at hx
  omega
theorem r_isPair0 (h : VR 52 m V) (hw : WF V) {x : Int32} (hx : ¬ isQ V x) : F_X9_isPair m x = some 0 := by
  have h1 := hw.2.1
  unfold F_X9_isPair
  rw [f_isIn, o_b, h.2.1, if_neg]
  rw [i_long, i_long, nI_pre (by omega), Int64.toInt_zero]
  unfold isQ at hx
  omega
theorem r_ln (h : VR 52 m V) (hw : WF V) {b : Nat} (hb : b < vnb V) : oAL m 52 (19 + nI b) = some (nI (vln V b)) := by
  have h1 := hw.1
  rw [r_ld (c := 19) (n := 19) rfl (by omega)]
  exact congrArg some (h.2.2.2.2.1 b hb)
theorem r_ab (h : VR 52 m V) (hw : WF V) {b : Nat} (hb : b < vnb V) : oAL m 52 (7 + nI b) = some (vab V b) := by
  have h1 := hw.1
  rw [r_ld (c := 7) (n := 7) rfl (by omega)]
  exact congrArg some (h.2.2.2.1 b hb).1
theorem r_be (h : VR 52 m V) (hw : WF V) {b : Nat} (hb : b < vnb V) : oAL m 52 (13 + nI b) = some (vbe V b) := by
  have h1 := hw.1
  rw [r_ld (c := 13) (n := 13) rfl (by omega)]
  exact congrArg some (h.2.2.2.1 b hb).2
theorem r_kd (h : VR 52 m V) (hw : WF V) {q : Nat} (hq : q < vnp V) : oAL m 52 (43 + nI q) = some (vkd V q) := by
  have h1 := hw.2.1
  rw [r_ld (c := 43) (n := 43) rfl (by omega)]
  exact congrArg some (h.2.2.2.2.2.2.1 q hq).1
theorem r_fg (h : VR 52 m V) (hw : WF V) {q : Nat} (hq : q < vnp V) : oAL m 52 (53 + nI q) = some (vfg V q) := by
  have h1 := hw.2.1
  rw [r_ld (c := 53) (n := 53) rfl (by omega)]
  exact congrArg some (h.2.2.2.2.2.2.1 q hq).2.1
theorem r_dr (h : VR 52 m V) (hw : WF V) {q : Nat} (hq : q < vnp V) : oAL m 52 (63 + nI q) = some (vdr V q) := by
  have h1 := hw.2.1
  rw [r_ld (c := 63) (n := 63) rfl (by omega)]
  exact congrArg some (h.2.2.2.2.2.2.1 q hq).2.2.1
theorem r_dn (h : VR 52 m V) (hw : WF V) {q : Nat} (hq : q < vnp V) : oAL m 52 (73 + nI q) = some (vdn V q) := by
  have h1 := hw.2.1
  rw [r_ld (c := 73) (n := 73) rfl (by omega)]
  exact congrArg some (h.2.2.2.2.2.2.1 q hq).2.2.2
theorem r_pl (h : VR 52 m V) (hw : WF V) {b k : Nat} (hb : b < vnb V) (hk : k < vln V b) : F_X9_pairAt m (nI b) (nI k) = some (nI (vpl V b k)) := by
  have h1 := hw.1
  have h2 := hw.2.2.2.2.1 b
  unfold F_X9_pairAt
  rw [ix_p, a_ld sh52 (by omega) (by omega), o_b]
  exact congrArg some (h.2.2.2.2.2.1 b k hb hk)
theorem r_hasTrain1 (h : VR 52 m V) (hw : WF V) {b : Nat} (hb : b < vnb V) (hl : 0 < vln V b) : F_X9_hasTrain m (nI b) = some 1 := by
  have h2 := hw.2.2.2.2.1 b
  unfold F_X9_hasTrain
  rw [r_isBody1 h hw (isB_in hw hb), o_b, if_neg (by decide), r_ln h hw hb, o_b, if_neg (nI_nle hl (by omega))]
theorem r_hasTrain0 (h : VR 52 m V) (hw : WF V) {x : Int32} (hx : ¬ ∃ b : Nat, b < vnb V ∧ x = nI b ∧ 0 < vln V b) : F_X9_hasTrain m x = some 0 := by
  unfold F_X9_hasTrain
  by_cases hB : isB V x
  · obtain ⟨b, hb, rfl⟩ := isB_of hB
    have hl : vln V b = 0 := by
      rcases Nat.eq_zero_or_pos (vln V b) with q | q
      · exact q
      · exact absurd ⟨b, hb, rfl, q⟩ hx
    rw [r_isBody1 h hw hB, o_b, if_neg (by decide), r_ln h hw hb, o_b, hl, if_pos (by decide)]
  · rw [r_isBody0 h hw hB, o_b, if_pos rfl]
theorem r_play (h : VR 52 m V) (hw : WF V) {q : Nat} (hq : q < vnp V) : F_X9_play m (nI q) = some (sPlay V q) := by
  unfold F_X9_play
  rw [r_fg h hw hq, o_b, r_kd h hw hq, o_b]
  simp only [o_if]
  rfl
theorem r_product (h : VR 52 m V) (hw : WF V) {b : Nat} (hb : b < vnb V) {c : Int32} {f : Nat → Int32} (hf : ∀ q, q < vnp V → oAL m 52 (c + nI q) = some (f q)) {a n : Nat} (han : a + n ≤ vln V b) :
    F_X9_product m (nI b) c (nI a) (nI (a + n)) = some (sMul (fun k => f (vpl V b k)) a n) := by
  have h2 := hw.2.2.2.2.1 b
  unfold F_X9_product
  have L := for_run (f := fun s : Int64 × Int32 => F_X9_product_L6 m (nI b) c (nI (a + n)) s.1 s.2) (fun i => (sMul (fun k => f (vpl V b k)) a i, nI (a + i))) n (b := sMul (fun k => f (vpl V b k)) a n) ?_ ?_ (by omega)
  · have L' : oLoop (fun s : Int64 × Int32 => F_X9_product_L6 m (nI b) c (nI (a + n)) s.1 s.2) oFuel (1, nI a) = some (sMul (fun k => f (vpl V b k)) a n) := L
    rw [L', o_b]
  · intro i hi
    show F_X9_product_L6 m (nI b) c (nI (a + n)) _ (nI (a + i)) = _
    unfold F_X9_product_L6
    rw [if_neg (nI_ge (by omega) (by omega)), r_pl h hw hb (by omega), o_b, hf _ (hw.2.2.2.2.2.2.1 b (a + i) hb (by omega)), o_b, o_b, nI_1]
    simp only [sMul, Nat.add_assoc]
  · show F_X9_product_L6 m (nI b) c (nI (a + n)) _ (nI (a + n)) = _
    unfold F_X9_product_L6
    rw [if_pos (nI_le (Nat.le_refl _) (by omega))]
theorem r_drivers (h : VR 52 m V) (hw : WF V) {b : Nat} (hb : b < vnb V) : F_X9_drivers m (nI b) = some (sDr V b) := by
  unfold F_X9_drivers
  have e := r_product h hw hb (c := 63) (f := vdr V) (fun q hq => r_dr h hw hq) (a := 0) (n := vln V b) (by omega)
  rw [Nat.zero_add] at e
  rw [r_ln h hw hb, o_b, show (0 : Int32) = nI 0 from rfl, e, o_b]
  rfl
theorem r_drivens (h : VR 52 m V) (hw : WF V) {b : Nat} (hb : b < vnb V) : F_X9_drivens m (nI b) = some (sDn V b) := by
  unfold F_X9_drivens
  have e := r_product h hw hb (c := 73) (f := vdn V) (fun q hq => r_dn h hw hq) (a := 0) (n := vln V b) (by omega)
  rw [Nat.zero_add] at e
  rw [r_ln h hw hb, o_b, show (0 : Int32) = nI 0 from rfl, e, o_b]
  rfl
/-- how many pairs turn it round -/
def sCnt (V : oV) (b : Nat) : Nat → Nat
  | 0 => 0
  | n + 1 => if vkd V (vpl V b n) = 5 then sCnt V b n else sCnt V b n + 1
theorem sCnt_le (V : oV) (b : Nat) : ∀ n, sCnt V b n ≤ n
  | 0 => Nat.le_refl _
  | n + 1 => by
    have := sCnt_le V b n
    show (if vkd V (vpl V b n) = 5 then sCnt V b n else sCnt V b n + 1) ≤ n + 1
    split <;> omega
theorem sTog_cnt (V : oV) (b : Nat) : ∀ n, sTog V b n = if sCnt V b n % 2 = 1 then 1 else 0
  | 0 => rfl
  | n + 1 => by
    have ih := sTog_cnt V b n
    show (if vkd V (vpl V b n) = 5 then sTog V b n else if sTog V b n = 0 then 1 else 0) = if (if vkd V (vpl V b n) = 5 then sCnt V b n else sCnt V b n + 1) % 2 = 1 then 1 else 0
    by_cases h5 : vkd V (vpl V b n) = 5
    · rw [if_pos h5, if_pos h5, ih]
    · rw [if_neg h5, if_neg h5, ih]
      by_cases h1 : sCnt V b n % 2 = 1
      · rw [if_pos h1, if_neg (by decide), if_neg (by omega)]
      · rw [if_neg h1, if_pos rfl, if_pos (by omega)]
theorem r_isRound (h : VR 52 m V) (hw : WF V) {b : Nat} (hb : b < vnb V) : F_X9_isRound m (nI b) = some (sRnd V b) := by
  have h2 := hw.2.2.2.2.1 b
  unfold F_X9_isRound
  have L := for_run (f := fun s : Int32 × Int32 => F_X9_isRound_L4 m (nI b) s.1 s.2) (fun i => (nI (sCnt V b i), nI i)) (vln V b) (b := nI (sCnt V b (vln V b))) ?_ ?_ (by omega)
  · have L' : oLoop (fun s : Int32 × Int32 => F_X9_isRound_L4 m (nI b) s.1 s.2) oFuel (0, 0) = some (nI (sCnt V b (vln V b))) := L
    rw [L', o_b]
    unfold sRnd
    rw [sTog_cnt]
    have h3 := sCnt_le V b (vln V b)
    have h4 : sCnt V b (vln V b) = 0 ∨ sCnt V b (vln V b) = 1 ∨ sCnt V b (vln V b) = 2 ∨ sCnt V b (vln V b) = 3 := by omega
    rcases h4 with e | e | e | e <;> rw [e] <;> decide
  · intro i hi
    show F_X9_isRound_L4 m (nI b) _ (nI i) = _
    unfold F_X9_isRound_L4
    rw [r_ln h hw hb, o_b, if_neg (nI_ge hi (by omega)), r_pl h hw hb hi, o_b, r_kd h hw (hw.2.2.2.2.2.2.1 b i hb hi), o_b, o_b, o_b, nI_1]
    show _ = some (Sum.inl (nI (if vkd V (vpl V b i) = 5 then sCnt V b i else sCnt V b i + 1), nI (i + 1)))
    by_cases h5 : vkd V (vpl V b i) = 5
    · rw [if_pos h5, if_pos h5, show (0 : Int32) = nI 0 from rfl, nI_add]
      rfl
    · rw [if_neg h5, if_neg h5, nI_1]
  · show F_X9_isRound_L4 m (nI b) _ (nI (vln V b)) = _
    unfold F_X9_isRound_L4
    rw [r_ln h hw hb, o_b, if_pos (nI_le (Nat.le_refl _) (by omega))]
/-- as the reference adds it up -/
def sLag (V : oV) (b n : Nat) : Nat → Int64
  | 0 => 0
  | i + 1 => sLag V b n i + ((sPlay V (vpl V b i)).toInt64 * sMul (fun k => vdn V (vpl V b k)) 0 i) * sMul (fun k => vdr V (vpl V b k)) (i + 1) (n - (i + 1))
theorem sLag_slk (V : oV) (b n : Nat) (hn : n ≤ 3) : sLag V b n n = sSlk V b n := by
  have h4 : n = 0 ∨ n = 1 ∨ n = 2 ∨ n = 3 := by omega
  rcases h4 with rfl | rfl | rfl | rfl <;> simp only [sLag, sSlk, sMul, Nat.zero_add, Nat.sub_self, Nat.reduceAdd, Nat.reduceSub] <;> grind
theorem r_lag (h : VR 52 m V) (hw : WF V) {b : Nat} (hb : b < vnb V) : F_X9_lag m (nI b) = some (sSlk V b (vln V b)) := by
  have h2 := hw.2.2.2.2.1 b
  unfold F_X9_lag
  have L := for_run (f := fun s : Int64 × Int32 => F_X9_lag_L15 m (nI b) (nI (vln V b)) s.1 s.2) (fun i => (sLag V b (vln V b) i, nI i)) (vln V b) (b := sLag V b (vln V b) (vln V b)) ?_ ?_ (by omega)
  · have L' : oLoop (fun s : Int64 × Int32 => F_X9_lag_L15 m (nI b) (nI (vln V b)) s.1 s.2) oFuel (0, 0) = some (sLag V b (vln V b) (vln V b)) := L
    rw [r_ln h hw hb, o_b, L', o_b, sLag_slk V b _ h2]
  · intro i hi
    have hq := hw.2.2.2.2.2.2.1 b i hb hi
    have e1 := r_product h hw hb (c := 73) (f := vdn V) (fun q hq => r_dn h hw hq) (a := 0) (n := i) (by omega)
    rw [Nat.zero_add] at e1
    have e2 := r_product h hw hb (c := 63) (f := vdr V) (fun q hq => r_dr h hw hq) (a := i + 1) (n := vln V b - (i + 1)) (by omega)
    rw [show i + 1 + (vln V b - (i + 1)) = vln V b by omega] at e2
    show F_X9_lag_L15 m (nI b) (nI (vln V b)) _ (nI i) = _
    unfold F_X9_lag_L15
    rw [if_neg (nI_ge hi (by omega)), r_pl h hw hb hi, o_b, r_play h hw hq, o_b, show (0 : Int32) = nI 0 from rfl, e1, o_b, nI_1, e2, o_b, o_b]
    rfl
  · show F_X9_lag_L15 m (nI b) (nI (vln V b)) _ (nI (vln V b)) = _
    unfold F_X9_lag_L15
    rw [if_pos (nI_le (Nat.le_refl _) (by omega))]
-- bounds
theorem sMul_b (f : Nat → Int32) (a : Nat) : ∀ n, n ≤ 3 → (∀ k, k < n → iB (f (a + k)) 10 99) → 1 ≤ (sMul f a n).toInt ∧ (sMul f a n).toInt ≤ 99 ^ n
  | 0, _, _ => by
    show 1 ≤ (1 : Int64).toInt ∧ (1 : Int64).toInt ≤ 99 ^ 0
    rw [Int64.toInt_one]
    decide
  | n + 1, hn, h => by
    have ih := sMul_b f a n (by omega) (fun k hk => h k (by omega))
    have hx := h n (by omega)
    unfold iB at hx
    have hp : (99 : Int) ^ n ≤ 9801 := by
      have h4 : n = 0 ∨ n = 1 ∨ n = 2 := by omega
      rcases h4 with rfl | rfl | rfl <;> decide
    have hl : (f (a + n)).toInt64.toInt = (f (a + n)).toInt := i_long _
    have h1 : 1 * 10 ≤ (sMul f a n).toInt * (f (a + n)).toInt := Int.mul_le_mul ih.1 hx.1 (by decide) (by omega)
    have h2 : (sMul f a n).toInt * (f (a + n)).toInt ≤ 99 ^ n * 99 := Int.mul_le_mul ih.2 hx.2 (by omega) (by omega)
    have e : (sMul f a (n + 1)).toInt = (sMul f a n).toInt * (f (a + n)).toInt := by
      show (sMul f a n * (f (a + n)).toInt64).toInt = _
      rw [l_mul] <;> rw [hl] <;> omega
    rw [e, Int.pow_succ]
    omega
theorem sDr_b (hw : WF V) {b : Nat} (hb : b < vnb V) : 1 ≤ (sDr V b).toInt ∧ (sDr V b).toInt ≤ 970299 := by
  have h2 := hw.2.2.2.2.1 b
  have h := sMul_b (fun k => vdr V (vpl V b k)) 0 (vln V b) h2 (fun k hk => by
    rw [Nat.zero_add]
    exact (hw.2.2.2.2.2.2.2.1 _ (hw.2.2.2.2.2.2.1 b k hb hk)).2.2.1)
  have hp : (99 : Int) ^ (vln V b) ≤ 970299 := by
    have h4 : vln V b = 0 ∨ vln V b = 1 ∨ vln V b = 2 ∨ vln V b = 3 := by omega
    rcases h4 with e | e | e | e <;> rw [e] <;> decide
  unfold sDr
  omega
theorem sDn_b (hw : WF V) {b : Nat} (hb : b < vnb V) : 1 ≤ (sDn V b).toInt ∧ (sDn V b).toInt ≤ 970299 := by
  have h2 := hw.2.2.2.2.1 b
  have h := sMul_b (fun k => vdn V (vpl V b k)) 0 (vln V b) h2 (fun k hk => by
    rw [Nat.zero_add]
    exact (hw.2.2.2.2.2.2.2.1 _ (hw.2.2.2.2.2.2.1 b k hb hk)).2.2.2)
  have hp : (99 : Int) ^ (vln V b) ≤ 970299 := by
    have h4 : vln V b = 0 ∨ vln V b = 1 ∨ vln V b = 2 ∨ vln V b = 3 := by omega
    rcases h4 with e | e | e | e <;> rw [e] <;> decide
  unfold sDn
  omega
theorem sDn_100 (hw : WF V) {b : Nat} (hb : b < vnb V) : (100 * sDn V b).toInt = 100 * (sDn V b).toInt := by
  have h := sDn_b hw hb
  have e : (100 : Int64).toInt = 100 := by decide
  rw [l_mul] <;> rw [e] <;> omega
/-- where a body stands -/
def sStand (V : oV) (b : Nat) : Int64 :=
  let p := ((1000000 * (vtu V).toInt64) * sDr V b) / sDn V b
  let q := if vba V = 0 then p else p + (1000000 * sSlk V b (vln V b)) / (100 * sDn V b)
  if sRnd V b = 0 then q else -q
theorem c_standing (h : VC o m V) (hw : WF V) (ho : oOb o = true) {b : Nat} (hb : b < vnb V) : F_X1_standing o m (nI b) = some (sStand V b) := by
  have hn := sDn_b hw hb
  have hn2 := sDn_100 hw hb
  unfold F_X1_standing
  rw [c_drivers h hw ho hb, o_b, c_drivens h hw ho hb, o_b, c_quot (l_ne0 (by omega)), o_b, h.2.2.2.2.2.2.2.2.2.1, h.2.2.2.2.2.2.2.2.2.2.1]
  rw [c_isRound h hw ho hb, c_slackAbove h hw ho hb, o_b, o_b, c_slackBelow h hw ho hb, o_b, c_quot (l_ne0 (by omega)), o_b, o_b, o_b]
  simp only [o_if]
  unfold sStand
  by_cases h0 : vba V = 0
  · simp only [if_pos h0]
  · simp only [if_neg h0]
theorem r_standsAt (h : VR 52 m V) (hw : WF V) {b : Nat} (hb : b < vnb V) : F_X9_standsAt m (nI b) = some (sStand V b) := by
  have hn := sDn_b hw hb
  have hn2 := sDn_100 hw hb
  unfold F_X9_standsAt
  rw [r_drivens h hw hb, o_b, r_drivers h hw hb, o_b, if_neg (l_ne0 (by omega)), o_b, h.2.2.2.2.2.2.2.2.2.1, h.2.2.2.2.2.2.2.2.2.2.1]
  rw [r_isRound h hw hb, r_lag h hw hb, o_b, o_b, if_neg (l_ne0 (by omega)), o_b, o_b, o_b]
  simp only [o_if]
  unfold sStand
  rcases hw.2.2.2.2.2.2.2.2.2.2.2.2.2.1 with h0 | h0
  · simp only [h0]
    rfl
  · simp only [h0]
    rfl
end REFS
