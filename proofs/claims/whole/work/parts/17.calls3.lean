/-! of, pair, odds, prime -/
theorem pl_of {x : Int32} (h1 : 10 ≤ x.toInt) (h2 : x.toInt ≤ 12) : ∃ k : Nat, k < 3 ∧ x = nI (10 + k) ∧ x - 10 = nI k := by
  obtain ⟨j, hj, rfl⟩ := i_of (x := x) (n := 13) (by omega) (by omega)
  rw [nI_toInt (by omega)] at h1
  refine ⟨j - 10, by omega, by rw [show 10 + (j - 10) = j by omega], ?_⟩
  rw [i_eq, i_sub] <;> rw [nI_toInt (by omega), show (10 : Int32).toInt = 10 by decide]
  · rw [nI_toInt (by omega)]
    omega
  · omega
  · omega
theorem c_asks (x : Int32) : F_X8_asksPlace x = some (if 10 ≤ x.toInt ∧ x.toInt ≤ 12 then 1 else 0) := by
  unfold F_X8_asksPlace
  simp only [i_lt, i_le, show (10 : Int32).toInt = 10 by decide, show (13 : Int32).toInt = 13 by decide]
  by_cases h1 : x.toInt < 10
  · rw [if_pos h1, if_neg (by omega)]
  · rw [if_neg h1]
    by_cases h2 : (13 : Int) ≤ x.toInt
    · rw [if_pos h2, if_neg (by omega)]
    · rw [if_neg h2, if_pos (by omega)]
section CALLS3
variable {m : oM} {V : oV}
theorem p_of (h : Inv m) (x y : Int32) : Same (F_X8_of m x y) (F_X9_of m x y) := by
  obtain ⟨⟨V, hw, hc, hr⟩, -⟩ := h
  unfold F_X8_of F_X9_of
  by_cases hB : isB V x
  · obtain ⟨b, hb, rfl⟩ := isB_of hB
    have h1 := hw.1
    have h3 := hw.2.2.2.2.1 b
    rw [c_hasBody1 hc hw hB, r_isBody1 hr hw hB, o_b, o_b, if_neg i10, if_neg i10, f_isIn, f_isIn, o_b, o_b, i_long, Int64.toInt_zero, show (1 : Int64).toInt = 1 by decide, show (10 : Int64).toInt = 10 by decide, show (12 : Int64).toInt = 12 by decide, c_asks, o_b]
    by_cases h0 : y = 0
    · subst h0
      unfold F_X8_of_J29 F_X9_of_J34
      rw [c1_len hc (by omega), r_ln hr hw hb]
      exact ⟨_, rfl, rfl⟩
    · by_cases h1' : y = 1
      · subst h1'
        unfold F_X8_of_J29 F_X9_of_J34
        rw [c_isRound hc hw rfl hb, r_isRound hr hw hb]
        rcases sTog_01 V b (vln V b) with e | e <;> rw [show sRnd V b = _ from e] <;> exact ⟨_, rfl, rfl⟩
      · have n0 : ¬ (0 ≤ y.toInt ∧ y.toInt ≤ 1) := by
          rw [i_eq, Int32.toInt_zero] at h0
          rw [i_eq, Int32.toInt_one] at h1'
          omega
        rw [if_neg h0, if_neg h1', if_neg n0, if_pos rfl]
        by_cases hp : 10 ≤ y.toInt ∧ y.toInt ≤ 12
        · obtain ⟨k, hk, rfl, e⟩ := pl_of hp.1 hp.2
          rw [if_pos hp, if_neg i10, if_neg i10]
          unfold F_X8_of_J29 F_X9_of_J34
          rw [if_neg h0, if_neg h1', if_pos (show (2 : Int32) ≤ nI (10 + k) from nI_le (a := 2) (by omega) (by omega)), c1_len hc (by omega), r_ln hr hw hb, o_b, o_b, e]
          by_cases hl : vln V b ≤ k
          · rw [if_pos (nI_le hl (by omega)), if_pos (nI_le hl (by omega))]
            exact ⟨_, rfl, rfl⟩
          · rw [if_neg (nI_ge (by omega) (by omega)), if_neg (nI_ge (by omega) (by omega)), c1_pl hc hw hb (by omega), r_pl hr hw hb (by omega)]
            exact ⟨_, rfl, rfl⟩
        · rw [if_neg hp, if_pos rfl, if_pos rfl]
          exact ⟨_, rfl, rfl⟩
  · rw [c_hasBody0 hc hw hB, r_isBody0 hr hw hB]
    exact ⟨_, rfl, rfl⟩
-- in how many trains a pair is
def sHk (V : oV) (q b : Nat) : Nat → Nat
  | 0 => 0
  | n + 1 => if vpl V b n = q then sHk V q b n + 1 else sHk V q b n
def sHo (V : oV) (q : Nat) : Nat → Nat
  | 0 => 0
  | n + 1 => sHo V q n + sHk V q n (vln V n)
theorem sHk_le (V : oV) (q b : Nat) : ∀ n, sHk V q b n ≤ n
  | 0 => Nat.le_refl _
  | n + 1 => by
    have := sHk_le V q b n
    show (if vpl V b n = q then sHk V q b n + 1 else sHk V q b n) ≤ n + 1
    split <;> omega
theorem sHo_le (hw : WF V) (q : Nat) : ∀ n, sHo V q n ≤ 3 * n
  | 0 => Nat.le_refl _
  | n + 1 => by
    have h1 := sHo_le hw q n
    have h2 := sHk_le V q n (vln V n)
    have h3 := hw.2.2.2.2.1 n
    show sHo V q n + sHk V q n (vln V n) ≤ 3 * (n + 1)
    omega
theorem sHo_all (hw : WF V) (q : Nat) : ∀ k, sHo V q (vnb V + k) = sHo V q (vnb V)
  | 0 => rfl
  | k + 1 => by
    have e := hw.2.2.2.2.2.1 (vnb V + k) (by omega)
    show sHo V q (vnb V + k) + sHk V q (vnb V + k) (vln V (vnb V + k)) = _
    rw [e, sHo_all hw q k]
    rfl
theorem c_holding (h : VC 1 m V) (hw : WF V) {q : Nat} (hq : q < vnp V) : F_X7_holding 9 m (nI q) = some (nI (sHo V q (vnb V))) := by
  have h1 := hw.1
  have hn := hw.2.1
  have h6 : sHo V q 6 = sHo V q (vnb V) := by
    have := sHo_all hw q (6 - vnb V)
    rwa [show vnb V + (6 - vnb V) = 6 by omega] at this
  unfold F_X7_holding
  have L := for_run (f := fun s : Int32 × Int32 => F_X7_holding_L4 9 m (nI q) s.1 s.2) (fun i => (nI (sHo V q i), nI i)) 6 (b := nI (sHo V q 6)) ?_ ?_ (by omega)
  · have L' : oLoop (fun s : Int32 × Int32 => F_X7_holding_L4 9 m (nI q) s.1 s.2) oFuel (0, 0) = some (nI (sHo V q 6)) := L
    rw [L', o_b, h6]
  · intro b hb
    have h3 := hw.2.2.2.2.1 b
    have hb0 := sHo_le hw q b
    show F_X7_holding_L4 9 m (nI q) (nI (sHo V q b)) (nI b) = _
    unfold F_X7_holding_L4
    have K := for_run (f := fun s : Int32 × Int32 => F_X7_holding_L13 9 m (nI q) (nI b) s.1 s.2) (fun i => (nI (sHo V q b + sHk V q b i), nI i)) (vln V b) (b := nI (sHo V q b + sHk V q b (vln V b))) ?_ ?_ (by omega)
    · have K' : oLoop (fun s : Int32 × Int32 => F_X7_holding_L13 9 m (nI q) (nI b) s.1 s.2) oFuel (nI (sHo V q b), 0) = some (nI (sHo V q b + sHk V q b (vln V b))) := K
      rw [if_neg (show ¬ (6 : Int32) ≤ nI b from nI_ge (b := 6) hb (by omega)), K', o_b, nI_1]
      rfl
    · intro k hk
      have hbn : b < vnb V := by
        rcases Nat.lt_or_ge b (vnb V) with z | z
        · exact z
        · have := hw.2.2.2.2.2.1 b z
          omega
      have hp := hw.2.2.2.2.2.2.1 b k hbn hk
      have hk0 := sHk_le V q b k
      show F_X7_holding_L13 9 m (nI q) (nI b) (nI (sHo V q b + sHk V q b k)) (nI k) = some (.inl (nI (sHo V q b + (if vpl V b k = q then sHk V q b k + 1 else sHk V q b k)), nI (k + 1)))
      unfold F_X7_holding_L13
      rw [c1_len h hb, o_b, if_neg (nI_ge hk (by omega)), c1_pl h hw hbn hk, o_b, nI_1]
      by_cases e : vpl V b k = q
      · rw [if_pos (by rw [e]), if_pos e, nI_1]
        rfl
      · rw [if_neg (fun z => e ((nI_eq (by omega) (by omega)).mp z)), if_neg e, nI_1]
    · show F_X7_holding_L13 9 m (nI q) (nI b) _ (nI (vln V b)) = _
      unfold F_X7_holding_L13
      rw [c1_len h hb, o_b, if_pos (nI_le (Nat.le_refl _) (by omega))]
  · show F_X7_holding_L4 9 m (nI q) _ (nI 6) = _
    unfold F_X7_holding_L4
    rw [if_pos (by decide)]
theorem r_trainsOf (h : VR 52 m V) (hw : WF V) {q : Nat} (hq : q < vnp V) : F_X9_trainsOf m (nI q) = some (nI (sHo V q (vnb V))) := by
  have h1 := hw.1
  have hn := hw.2.1
  unfold F_X9_trainsOf
  have L := for_run (f := fun s : Int32 × Int32 => F_X9_trainsOf_L4 m (nI q) s.1 s.2) (fun i => (nI (sHo V q i), nI i)) (vnb V) (b := nI (sHo V q (vnb V))) ?_ ?_ (by omega)
  · have L' : oLoop (fun s : Int32 × Int32 => F_X9_trainsOf_L4 m (nI q) s.1 s.2) oFuel (0, 0) = some (nI (sHo V q (vnb V))) := L
    rw [L', o_b]
  · intro b hb
    have h3 := hw.2.2.2.2.1 b
    have hb0 := sHo_le hw q b
    show F_X9_trainsOf_L4 m (nI q) (nI (sHo V q b)) (nI b) = _
    unfold F_X9_trainsOf_L4
    have K := for_run (f := fun s : Int32 × Int32 => F_X9_trainsOf_L17 m (nI q) (nI b) s.1 s.2) (fun i => (nI (sHo V q b + sHk V q b i), nI i)) (vln V b) (b := nI (sHo V q b + sHk V q b (vln V b))) ?_ ?_ (by omega)
    · have K' : oLoop (fun s : Int32 × Int32 => F_X9_trainsOf_L17 m (nI q) (nI b) s.1 s.2) oFuel (nI (sHo V q b), 0) = some (nI (sHo V q b + sHk V q b (vln V b))) := K
      rw [h.1, if_neg (nI_ge hb (by omega)), K', o_b, nI_1]
      rfl
    · intro k hk
      have hp := hw.2.2.2.2.2.2.1 b k hb hk
      have hk0 := sHk_le V q b k
      show F_X9_trainsOf_L17 m (nI q) (nI b) (nI (sHo V q b + sHk V q b k)) (nI k) = some (.inl (nI (sHo V q b + (if vpl V b k = q then sHk V q b k + 1 else sHk V q b k)), nI (k + 1)))
      unfold F_X9_trainsOf_L17
      rw [r_ln h hw hb, o_b, if_neg (nI_ge hk (by omega)), r_pl h hw hb hk, o_b, nI_1, o_b, o_b]
      by_cases e : vpl V b k = q
      · rw [if_pos (by rw [e]), if_pos e, nI_1]
        rfl
      · rw [if_neg (fun z => e ((nI_eq (by omega) (by omega)).mp z)), if_neg e, show (0 : Int32) = nI 0 from rfl, nI_add, Nat.add_zero, nI_1]
    · show F_X9_trainsOf_L17 m (nI q) (nI b) _ (nI (vln V b)) = _
      unfold F_X9_trainsOf_L17
      rw [r_ln h hw hb, o_b, if_pos (nI_le (Nat.le_refl _) (by omega))]
  · show F_X9_trainsOf_L4 m (nI q) _ (nI (vnb V)) = _
    unfold F_X9_trainsOf_L4
    rw [h.1, if_pos (nI_le (Nat.le_refl _) (by omega))]
theorem p_pair (h : Inv m) (x y : Int32) : Same (F_X8_pair m x y) (F_X9_pair m x y) := by
  obtain ⟨⟨V, hw, hc, hr⟩, -⟩ := h
  unfold F_X8_pair F_X9_pair
  by_cases hQ : isQ V x
  · rw [c1_has1 hc hw hQ, r_isPair1 hr hw hQ, o_b, o_b, if_neg i10, if_neg i10]
    obtain ⟨q, hq, rfl⟩ := isQ_of hQ
    rw [c1_kd hc hw hq, c1_fg hc hw hq, c1_dr hc hw hq, c1_dn hc hw hq, c1_play hc hw hq, c1_goes hc hw hq, c_holding hc hw hq, r_kd hr hw hq, r_fg hr hw hq, r_dr hr hw hq, r_dn hr hw hq, r_play hr hw hq, r_trainsOf hr hw hq]
    simp only [o_b]
    have e : (if (if vkd V q = 5 then (0 : Int32) else 1) = 0 then some (0 : Int32) else some 1) = if vkd V q = 5 then some 0 else some 1 := by
      by_cases h5 : vkd V q = 5
      · rw [if_pos h5, if_pos rfl, if_pos h5]
      · rw [if_neg h5, if_neg i10, if_neg h5]
    rw [e]
    simp only [o_if]
    exact ⟨_, rfl, rfl⟩
  · rw [c1_has0 hc hw hQ, r_isPair0 hr hw hQ]
    exact ⟨_, rfl, rfl⟩
-- odds
def sZ (s : Int32) : Nat → Int32
  | 0 => s
  | k + 1 => sZ s k * 1103515245 + 12345
def sSlp (V : oV) (b : Nat) (s : Int32) : Nat → Int32
  | 0 => 0
  | n + 1 => if sPlay V (vpl V b n) ≤ oRI (oUS (sZ s (n + 1)) 16) 100 then sSlp V b s n else 1
theorem sSlp_01 (V : oV) (b : Nat) (s : Int32) : ∀ n, sSlp V b s n = 0 ∨ sSlp V b s n = 1
  | 0 => Or.inl rfl
  | n + 1 => by
    show (if sPlay V (vpl V b n) ≤ oRI (oUS (sZ s (n + 1)) 16) 100 then sSlp V b s n else 1) = 0 ∨ (if sPlay V (vpl V b n) ≤ oRI (oUS (sZ s (n + 1)) 16) 100 then sSlp V b s n else 1) = 1
    split
    · exact sSlp_01 V b s n
    · exact Or.inr rfl
theorem sSlp_mono (V : oV) (b : Nat) (s : Int32) (k : Nat) (h : sSlp V b s k = 1) : ∀ j, sSlp V b s (k + j) = 1
  | 0 => h
  | j + 1 => by
    show (if sPlay V (vpl V b (k + j)) ≤ oRI (oUS (sZ s (k + j + 1)) 16) 100 then sSlp V b s (k + j) else 1) = 1
    split
    · exact sSlp_mono V b s k h j
    · rfl
theorem c_slK (h : VC 1 m V) (hw : WF V) {b : Nat} (hb : b < vnb V) (s : Int32) : ∀ r k, k + r = vln V b → sSlp V b s k = 0 →
    ∃ q, oTo (fun z : Int32 × Int32 => F_X1_slips_L5 1 m (nI b) z.1 z.2) (sZ s k, nI k) q r ∧ Sum.elim (fun _ : Unit => some (0 : Int32)) (fun z => oZ z) q = some (sSlp V b s (vln V b))
  | 0, k, e, h0 => by
    have h1 := hw.1
    have h3 := hw.2.2.2.2.1 b
    refine ⟨.inl (), oTo.done 0 ?_, ?_⟩
    · show F_X1_slips_L5 1 m (nI b) (sZ s k) (nI k) = _
      unfold F_X1_slips_L5
      rw [c_len (o := 1) h rfl (by omega), o_b, if_pos (nI_le (by omega) (by omega))]
    · rw [show vln V b = k by omega, h0]
      rfl
  | r + 1, k, e, h0 => by
    have h1 := hw.1
    have h3 := hw.2.2.2.2.1 b
    have hq := hw.2.2.2.2.2.2.1 b k hb (by omega)
    have body : F_X1_slips_L5 1 m (nI b) (sZ s k) (nI k) = if sPlay V (vpl V b k) ≤ oRI (oUS (sZ s (k + 1)) 16) 100 then some (.inl (sZ s (k + 1), nI (k + 1))) else some (.inr (.inr 1)) := by
      unfold F_X1_slips_L5
      rw [c_len (o := 1) h rfl (by omega), o_b, if_neg (nI_ge (by omega) (by omega)), o_b, c_pl (o := 1) h hw rfl hb (by omega), o_b, c_play (o := 1) h hw rfl hq, o_b, nI_1]
      rfl
    have es : sSlp V b s (k + 1) = if sPlay V (vpl V b k) ≤ oRI (oUS (sZ s (k + 1)) 16) 100 then sSlp V b s k else 1 := rfl
    by_cases hp : sPlay V (vpl V b k) ≤ oRI (oUS (sZ s (k + 1)) 16) 100
    · rw [if_pos hp] at body es
      obtain ⟨q, hto, he⟩ := c_slK h hw hb s r (k + 1) (by omega) (by rw [es]; exact h0)
      exact ⟨q, oTo.step (s' := (sZ s (k + 1), nI (k + 1))) body hto, he⟩
    · rw [if_neg hp] at body es
      refine ⟨.inr 1, oTo.done _ body, ?_⟩
      have := sSlp_mono V b s (k + 1) es (vln V b - (k + 1))
      rw [show k + 1 + (vln V b - (k + 1)) = vln V b by omega] at this
      rw [this]
      rfl
theorem c_slips (h : VC 1 m V) (hw : WF V) {b : Nat} (hb : b < vnb V) (s : Int32) : F_X1_slips 1 m (nI b) s = some (sSlp V b s (vln V b)) := by
  have h3 := hw.2.2.2.2.1 b
  obtain ⟨q, hto, he⟩ := c_slK h hw hb s (vln V b) 0 (by omega) rfl
  have L := hto.run (by omega)
  have L' : oLoop (fun z : Int32 × Int32 => F_X1_slips_L5 1 m (nI b) z.1 z.2) oFuel (s, 0) = some q := L
  unfold F_X1_slips
  rw [L', o_b]
  exact he
theorem r_slips (h : VR 52 m V) (hw : WF V) {b : Nat} (hb : b < vnb V) (s : Int32) : F_X9_slips m (nI b) s = some (sSlp V b s (vln V b)) := by
  have h3 := hw.2.2.2.2.1 b
  unfold F_X9_slips
  have L := for_run (f := fun z : Int32 × Int32 × Int32 => F_X9_slips_L8 m (nI b) z.1 z.2.1 z.2.2) (fun i => (sZ s i, sSlp V b s i, nI i)) (vln V b) (b := sSlp V b s (vln V b)) ?_ ?_ (by omega)
  · have L' : oLoop (fun z : Int32 × Int32 × Int32 => F_X9_slips_L8 m (nI b) z.1 z.2.1 z.2.2) oFuel (s, 0, 0) = some (sSlp V b s (vln V b)) := L
    rw [L', o_b]
    unfold oZ
    rw [if_pos (sSlp_01 V b s _)]
  · intro k hk
    have hq := hw.2.2.2.2.2.2.1 b k hb hk
    show F_X9_slips_L8 m (nI b) (sZ s k) (sSlp V b s k) (nI k) = some (.inl (sZ s (k + 1), (if sPlay V (vpl V b k) ≤ oRI (oUS (sZ s (k + 1)) 16) 100 then sSlp V b s k else 1), nI (k + 1)))
    unfold F_X9_slips_L8
    rw [r_ln h hw hb, o_b, if_neg (nI_ge hk (by omega)), o_b, r_pl h hw hb hk, o_b, r_play h hw hq, o_b, o_b, o_b, nI_1]
    show (if sPlay V (vpl V b k) ≤ oRI (oUS (sZ s (k + 1)) 16) 100 then some (Sum.inl (sZ s (k + 1), sSlp V b s k ||| 0, nI (k + 1))) else some (Sum.inl (sZ s (k + 1), sSlp V b s k ||| 1, nI (k + 1)))) = _
    have o0 : sSlp V b s k ||| 0 = sSlp V b s k := by rcases sSlp_01 V b s k with e | e <;> rw [e] <;> decide
    have o1 : sSlp V b s k ||| 1 = 1 := by rcases sSlp_01 V b s k with e | e <;> rw [e] <;> decide
    rw [o0, o1]
    by_cases hp : sPlay V (vpl V b k) ≤ oRI (oUS (sZ s (k + 1)) 16) 100
    · rw [if_pos hp, if_pos hp]
    · rw [if_neg hp, if_neg hp]
  · show F_X9_slips_L8 m (nI b) _ _ (nI (vln V b)) = _
    unfold F_X9_slips_L8
    rw [r_ln h hw hb, o_b, if_pos (nI_le (Nat.le_refl _) (by omega))]
/-- how many of the seeds -/
def sOd (V : oV) (b : Nat) (s : Int32) : Nat → Nat
  | 0 => 0
  | n + 1 => if sSlp V b (s + nI n) (vln V b) = 0 then sOd V b s n + 1 else sOd V b s n
theorem sOd_le (V : oV) (b : Nat) (s : Int32) : ∀ n, sOd V b s n ≤ n
  | 0 => Nat.le_refl _
  | n + 1 => by
    have := sOd_le V b s n
    show (if sSlp V b (s + nI n) (vln V b) = 0 then sOd V b s n + 1 else sOd V b s n) ≤ n + 1
    split <;> omega
theorem p_odds (h : Inv m) (x s k p : Int32) : Same (F_X8_odds m x s k p) (F_X9_odds m x s k p) := by
  obtain ⟨⟨V, hw, hc, hr⟩, -⟩ := h
  unfold F_X8_odds F_X9_odds
  by_cases ht : hT V x
  · obtain ⟨b, hb, rfl, hl⟩ := ht
    rw [c_hasTrain1 hc hw rfl hb hl, r_hasTrain1 hr hw hb hl, o_b, o_b, if_neg i10, if_neg i10, f_isIn, o_b, i_long, show (1 : Int64).toInt = 1 by decide, show (30 : Int64).toInt = 30 by decide, c_isPart, r_isPart, o_b, o_b]
    by_cases hk : 1 ≤ k.toInt ∧ k.toInt ≤ 30
    · rw [if_pos hk, if_neg i10, if_neg (show ¬ k < 1 by rw [i_lt, Int32.toInt_one]; omega), if_neg (show ¬ 30 < k by rw [i_lt, show (30 : Int32).toInt = 30 by decide]; omega)]
      by_cases hp : sPart p = 0
      · rw [if_pos hp, if_pos hp]
        exact ⟨_, rfl, rfl⟩
      · rw [if_neg hp, if_neg hp]
        obtain ⟨n, hn, rfl⟩ := i_of (x := k) (n := 31) (by omega) (by omega)
        have hn1 : 1 ≤ n := by
          rw [nI_toInt (by omega)] at hk
          omega
        have L := for_run (f := fun z : Int32 × Int32 => F_X8_odds_L40 m (nI b) s (nI n) p z.1 z.2) (fun i => (nI (sOd V b s i), nI i)) n (b := nI (sOd V b s n)) ?_ ?_ (by omega)
        · have K := for_run (f := fun z : Int32 × Int32 => F_X9_odds_L38 m (nI b) s (nI n) p z.1 z.2) (fun i => (nI (sOd V b s i), nI i)) n (b := nI (sOd V b s n)) ?_ ?_ (by omega)
          · have L' : oLoop (fun z : Int32 × Int32 => F_X8_odds_L40 m (nI b) s (nI n) p z.1 z.2) oFuel (0, 0) = some (nI (sOd V b s n)) := L
            have K' : oLoop (fun z : Int32 × Int32 => F_X9_odds_L38 m (nI b) s (nI n) p z.1 z.2) oFuel (0, 0) = some (nI (sOd V b s n)) := K
            have ho := sOd_le V b s n
            have e1 : (nI (sOd V b s n)).toInt64.toInt = sOd V b s n := by rw [i_long, nI_toInt (by omega)]
            have e2 : (nI n).toInt64.toInt = n := by rw [i_long, nI_toInt (by omega)]
            rw [L', K', o_b, o_b, c_lowest p (by omega) (by omega) (by omega), r_told p (by omega) (by omega) (by omega)]
            exact ⟨_, rfl, rfl⟩
          · intro i hi
            have ho := sOd_le V b s i
            show F_X9_odds_L38 m (nI b) s (nI n) p (nI (sOd V b s i)) (nI i) = some (.inl (nI (if sSlp V b (s + nI i) (vln V b) = 0 then sOd V b s i + 1 else sOd V b s i), nI (i + 1)))
            unfold F_X9_odds_L38
            rw [if_neg (nI_ge hi (by omega)), r_slips hr hw hb, o_b, nI_1, o_b, o_b]
            by_cases h0 : sSlp V b (s + nI i) (vln V b) = 0
            · rw [if_pos h0, if_pos h0, nI_1]
            · rw [if_neg h0, if_neg h0, show (0 : Int32) = nI 0 from rfl, nI_add, Nat.add_zero, nI_1]
          · show F_X9_odds_L38 m (nI b) s (nI n) p _ (nI n) = _
            unfold F_X9_odds_L38
            rw [if_pos (nI_le (Nat.le_refl _) (by omega))]
        · intro i hi
          show F_X8_odds_L40 m (nI b) s (nI n) p (nI (sOd V b s i)) (nI i) = some (.inl (nI (if sSlp V b (s + nI i) (vln V b) = 0 then sOd V b s i + 1 else sOd V b s i), nI (i + 1)))
          unfold F_X8_odds_L40
          rw [if_neg (nI_ge hi (by omega)), c_slips hc hw hb, o_b, nI_1]
          by_cases h0 : sSlp V b (s + nI i) (vln V b) = 0
          · rw [if_pos h0, if_pos h0, nI_1]
          · rw [if_neg h0, if_neg h0, nI_1]
        · show F_X8_odds_L40 m (nI b) s (nI n) p _ (nI n) = _
          unfold F_X8_odds_L40
          rw [if_pos (nI_le (Nat.le_refl _) (by omega))]
    · rw [if_neg hk, if_pos rfl]
      by_cases h0 : k < 1
      · rw [if_pos h0]
        exact ⟨_, rfl, rfl⟩
      · rw [if_neg h0, if_pos]
        · exact ⟨_, rfl, rfl⟩
        · rw [i_lt, Int32.toInt_one] at h0
          rw [i_lt, show (30 : Int32).toInt = 30 by decide]
          omega
  · rw [c_hasTrain0 hc hw rfl ht, r_hasTrain0 hr hw ht]
    exact ⟨_, rfl, rfl⟩
end CALLS3
