/-! wheels, count -/
theorem nI_sub {a b : Nat} (h : b ≤ a) : nI a - nI b = nI (a - b) := by
  have e : nI (a - b) + nI b = nI a := by rw [nI_add, Nat.sub_add_cancel h]
  rw [← e]
  grind
def sTop (V : oV) (b : Nat) : Nat → Nat
  | 0 => 0
  | n + 1 => max (sTop V b n) (sShr V b n)
def sWh (V : oV) : Nat → Nat
  | 0 => 0
  | n + 1 => sWh V n + 2 * (vln V n - sTop V n n)
def sNum (V : oV) : Nat → Nat
  | 0 => 0
  | n + 1 => if vln V n = 0 then sNum V n else sNum V n + 1
theorem sShr_le (V : oV) (b c : Nat) : sShr V b c ≤ vln V b := by
  have := sSh_le V b c (min (vln V b) (vln V c)) 0
  unfold sShr
  omega
theorem sShr_0 {V : oV} {b c : Nat} (h : vln V b = 0 ∨ vln V c = 0) : sShr V b c = 0 := by
  have := sSh_le V b c (min (vln V b) (vln V c)) 0
  unfold sShr
  omega
theorem sTop_le (V : oV) (b : Nat) : ∀ n, sTop V b n ≤ vln V b
  | 0 => Nat.zero_le _
  | n + 1 => by
    have h1 := sTop_le V b n
    have h2 := sShr_le V b n
    show max (sTop V b n) (sShr V b n) ≤ _
    omega
theorem sWh_le {V : oV} (hw : WF V) : ∀ n, sWh V n ≤ 6 * n
  | 0 => Nat.le_refl _
  | n + 1 => by
    have h1 := sWh_le hw n
    have h2 := hw.2.2.2.2.1 n
    show sWh V n + 2 * (vln V n - sTop V n n) ≤ _
    omega
theorem sWh_all {V : oV} (hw : WF V) : ∀ k, sWh V (vnb V + k) = sWh V (vnb V)
  | 0 => rfl
  | k + 1 => by
    have e := hw.2.2.2.2.2.1 (vnb V + k) (by omega)
    have ih := sWh_all hw k
    show sWh V (vnb V + k) + 2 * (vln V (vnb V + k) - sTop V (vnb V + k) (vnb V + k)) = _
    omega
theorem sNum_le (V : oV) : ∀ n, sNum V n ≤ n
  | 0 => Nat.le_refl _
  | n + 1 => by
    have := sNum_le V n
    show (if vln V n = 0 then sNum V n else sNum V n + 1) ≤ _
    split <;> omega
theorem sNum_all {V : oV} (hw : WF V) : ∀ k, sNum V (vnb V + k) = sNum V (vnb V)
  | 0 => rfl
  | k + 1 => by
    have e := hw.2.2.2.2.2.1 (vnb V + k) (by omega)
    have ih := sNum_all hw k
    show (if vln V (vnb V + k) = 0 then sNum V (vnb V + k) else sNum V (vnb V + k) + 1) = _
    rw [if_pos e, ih]
section COUNT
variable {m : oM} {V : oV}
theorem c_shr {o : Nat} (h : VC o m V) (hw : WF V) (ho : oOb o = true) {b c : Nat} (hb : b < 6) (hc : c < 6) : F_X7_shared (o + 8) m (nI b) (nI c) = some (nI (sShr V b c)) := by
  have h3 := hw.2.2.2.2.1 b
  have h4 := hw.2.2.2.2.1 c
  by_cases k1 : b < vnb V
  · by_cases k2 : c < vnb V
    · exact c_shared h hw ho k1 k2
    · have e := hw.2.2.2.2.2.1 c (by omega)
      rw [c_shared0 h ho hb hc (Or.inr e) (by omega), sShr_0 (Or.inr e)]
  · have e := hw.2.2.2.2.2.1 b (by omega)
    rw [c_shared0 h ho hb hc (Or.inl e) (by omega), sShr_0 (Or.inl e)]
theorem c_wheels {o : Nat} (h : VC o m V) (hw : WF V) (ho : oOb o = true) : F_X7_wheels (o + 8) m = some (nI (sWh V (vnb V))) := by
  have h1 := hw.1
  have h6 : sWh V 6 = sWh V (vnb V) := by
    have := sWh_all hw (6 - vnb V)
    rwa [show vnb V + (6 - vnb V) = 6 by omega] at this
  unfold F_X7_wheels
  have L := for_run (f := fun s : Int32 × Int32 => F_X7_wheels_L4 (o + 8) m s.1 s.2) (fun i => (nI (sWh V i), nI i)) 6 (b := nI (sWh V 6)) ?_ ?_ (by omega)
  · have L' : oLoop (fun s : Int32 × Int32 => F_X7_wheels_L4 (o + 8) m s.1 s.2) oFuel (0, 0) = some (nI (sWh V 6)) := L
    rw [L', o_b, h6]
  · intro b hb
    have h3 := hw.2.2.2.2.1 b
    have hb0 := sWh_le hw b
    have ht := sTop_le V b b
    show F_X7_wheels_L4 (o + 8) m (nI (sWh V b)) (nI b) = some (Sum.inl (nI (sWh V b + 2 * (vln V b - sTop V b b)), nI (b + 1)))
    unfold F_X7_wheels_L4
    have K := for_run (f := fun s : Int32 × Int32 => F_X7_wheels_L15 (o + 8) m (nI (sWh V b)) (nI b) s.1 s.2) (fun i => (nI (sTop V b i), nI i)) b (b := nI (sTop V b b)) ?_ ?_ (by omega)
    · have K' : oLoop (fun s : Int32 × Int32 => F_X7_wheels_L15 (o + 8) m (nI (sWh V b)) (nI b) s.1 s.2) oFuel (0, 0) = some (nI (sTop V b b)) := K
      rw [if_neg (show ¬ (6 : Int32) ≤ nI b from nI_ge (b := 6) hb (by omega)), K', o_b, c_len h ho hb, o_b, o_b, nI_sub ht, show (2 : Int32) = nI 2 from rfl, nI_mul, nI_add, nI_1]
    · intro k hk
      have hk0 := sTop_le V b k
      have hs := sShr_le V b k
      show F_X7_wheels_L15 (o + 8) m (nI (sWh V b)) (nI b) (nI (sTop V b k)) (nI k) = some (Sum.inl (nI (max (sTop V b k) (sShr V b k)), nI (k + 1)))
      unfold F_X7_wheels_L15
      rw [if_neg (nI_ge hk (by omega)), c_shr h hw ho hb (by omega), o_b, c_max _ _ (by omega) (by omega), o_b, nI_1]
    · show F_X7_wheels_L15 (o + 8) m (nI (sWh V b)) (nI b) _ (nI b) = _
      unfold F_X7_wheels_L15
      rw [if_pos (nI_le (Nat.le_refl _) (by omega))]
  · show F_X7_wheels_L4 (o + 8) m _ (nI 6) = _
    unfold F_X7_wheels_L4
    rw [if_pos (by decide)]
theorem r_wheels (h : VR 52 m V) (hw : WF V) : F_X9_wheels m = some (nI (sWh V (vnb V))) := by
  have h1 := hw.1
  unfold F_X9_wheels
  have L := for_run (f := fun s : Int32 × Int32 => F_X9_wheels_L4 m s.1 s.2) (fun i => (nI (sWh V i), nI i)) (vnb V) (b := nI (sWh V (vnb V))) ?_ ?_ (by omega)
  · have L' : oLoop (fun s : Int32 × Int32 => F_X9_wheels_L4 m s.1 s.2) oFuel (0, 0) = some (nI (sWh V (vnb V))) := L
    rw [L', o_b]
  · intro b hb
    have h3 := hw.2.2.2.2.1 b
    have hb0 := sWh_le hw b
    have ht := sTop_le V b b
    show F_X9_wheels_L4 m (nI (sWh V b)) (nI b) = some (Sum.inl (nI (sWh V b + 2 * (vln V b - sTop V b b)), nI (b + 1)))
    unfold F_X9_wheels_L4
    have K := for_run (f := fun s : Int32 × Int32 => F_X9_wheels_L19 m (nI (sWh V b)) (nI b) s.1 s.2) (fun i => (nI (sTop V b i), nI i)) b (b := nI (sTop V b b)) ?_ ?_ (by omega)
    · have K' : oLoop (fun s : Int32 × Int32 => F_X9_wheels_L19 m (nI (sWh V b)) (nI b) s.1 s.2) oFuel (0, 0) = some (nI (sTop V b b)) := K
      rw [h.nb, if_neg (nI_ge hb (by omega)), K', o_b, r_ln h hw hb, o_b, o_b, nI_sub ht, show (2 : Int32) = nI 2 from rfl, nI_mul, nI_add, nI_1]
    · intro k hk
      have hk0 := sTop_le V b k
      have hs := sShr_le V b k
      show F_X9_wheels_L19 m (nI (sWh V b)) (nI b) (nI (sTop V b k)) (nI k) = some (Sum.inl (nI (max (sTop V b k) (sShr V b k)), nI (k + 1)))
      unfold F_X9_wheels_L19
      rw [if_neg (nI_ge hk (by omega)), r_shared h hw hb (by omega), o_b, o_b]
      by_cases e : sShr V b k ≤ sTop V b k
      · rw [if_pos (nI_le e (by omega)), Nat.max_eq_left e, nI_1]
      · rw [if_neg (nI_ge (by omega) (by omega)), Nat.max_eq_right (by omega), nI_1]
    · show F_X9_wheels_L19 m (nI (sWh V b)) (nI b) _ (nI b) = _
      unfold F_X9_wheels_L19
      rw [if_pos (nI_le (Nat.le_refl _) (by omega))]
  · show F_X9_wheels_L4 m _ (nI (vnb V)) = _
    unfold F_X9_wheels_L4
    rw [h.nb, if_pos (nI_le (Nat.le_refl _) (by omega))]
theorem c_number {o : Nat} (h : VC o m V) (hw : WF V) (ho : oOb o = true) : F_X7_number (o + 8) m = some (nI (sNum V (vnb V))) := by
  have h1 := hw.1
  have h6 : sNum V 6 = sNum V (vnb V) := by
    have := sNum_all hw (6 - vnb V)
    rwa [show vnb V + (6 - vnb V) = 6 by omega] at this
  unfold F_X7_number
  have L := for_run (f := fun s : Int32 × Int32 => F_X7_number_L4 (o + 8) m s.1 s.2) (fun i => (nI (sNum V i), nI i)) 6 (b := nI (sNum V 6)) ?_ ?_ (by omega)
  · have L' : oLoop (fun s : Int32 × Int32 => F_X7_number_L4 (o + 8) m s.1 s.2) oFuel (0, 0) = some (nI (sNum V 6)) := L
    rw [L', o_b, h6]
  · intro b hb
    have h3 := hw.2.2.2.2.1 b
    show F_X7_number_L4 (o + 8) m (nI (sNum V b)) (nI b) = some (Sum.inl (nI (if vln V b = 0 then sNum V b else sNum V b + 1), nI (b + 1)))
    unfold F_X7_number_L4
    rw [if_neg (show ¬ (6 : Int32) ≤ nI b from nI_ge (b := 6) hb (by omega)), c_len h ho hb, o_b, nI_1, nI_1]
    by_cases e : vln V b = 0
    · rw [if_pos e, if_pos (by rw [e]; decide)]
    · rw [if_neg e, if_neg (show ¬ nI (vln V b) ≤ 0 from nI_nle (by omega) (by omega))]
  · show F_X7_number_L4 (o + 8) m _ (nI 6) = _
    unfold F_X7_number_L4
    rw [if_pos (by decide)]
theorem r_number (h : VR 52 m V) (hw : WF V) : oLoop (fun s : Int32 × Int32 => F_X9_count_L60 m s.1 s.2) oFuel (0, 0) = some (nI (sNum V (vnb V))) := by
  have h1 := hw.1
  refine for_run (f := fun s : Int32 × Int32 => F_X9_count_L60 m s.1 s.2) (fun i => (nI (sNum V i), nI i)) (vnb V) (b := nI (sNum V (vnb V))) ?_ ?_ (by omega)
  · intro b hb
    show F_X9_count_L60 m (nI (sNum V b)) (nI b) = some (Sum.inl (nI (if vln V b = 0 then sNum V b else sNum V b + 1), nI (b + 1)))
    unfold F_X9_count_L60
    rw [h.nb, if_neg (nI_ge hb (by omega))]
    by_cases e : vln V b = 0
    · rw [r_hasTrain0 h hw, o_b, if_pos rfl, if_pos e, o_b, nI_1, show (0 : Int32) = nI 0 from rfl, nI_add]
      · rfl
      · rintro ⟨c, hc, he, hl⟩
        have := (nI_eq (by omega) (by omega)).mp he
        subst this
        omega
    · rw [r_hasTrain1 h hw hb (by omega), o_b, if_neg i10, if_neg e, o_b, nI_1, nI_1]
  · show F_X9_count_L60 m _ (nI (vnb V)) = _
    unfold F_X9_count_L60
    rw [h.nb, if_pos (nI_le (Nat.le_refl _) (by omega))]
theorem p_count (h : Inv m) (x : Int32) : Same (F_X8_count m x) (F_X9_count m x) := by
  obtain ⟨⟨V, hw, hc, hr⟩, -, ⟨n, -, t1, t2, -⟩, ⟨k, -, q1, q2, -⟩, -⟩ := h
  have e1 : m.1 4 0 = nI (vnp V) := hc.np
  have e2 : m.1 12 0 = nI (vps V) := hc.ps
  have e3 : F_X7_number 9 m = _ := c_number (o := 1) hc hw rfl
  have e4 : F_X7_wheels 9 m = _ := c_wheels (o := 1) hc hw rfl
  unfold F_X8_count F_X9_count
  rw [hc.nb, hr.nb, e1, hr.np, e2, hr.ps, e3, e4, r_number hr hw, r_wheels hr hw, t1, t2, q1, q2]
  by_cases h0 : x = 0
  · rw [if_pos h0]
    exact ⟨_, rfl, rfl⟩
  rw [if_neg h0]
  by_cases h0 : x = 1
  · rw [if_pos h0]
    exact ⟨_, rfl, rfl⟩
  rw [if_neg h0]
  by_cases h0 : x = 2
  · rw [if_pos h0]
    exact ⟨_, rfl, rfl⟩
  rw [if_neg h0]
  by_cases h0 : x = 3
  · rw [if_pos h0]
    exact ⟨_, rfl, rfl⟩
  rw [if_neg h0]
  by_cases h0 : x = 4
  · rw [if_pos h0]
    exact ⟨_, rfl, rfl⟩
  rw [if_neg h0]
  by_cases h0 : x = 5
  · rw [if_pos h0]
    exact ⟨_, rfl, rfl⟩
  rw [if_neg h0]
  by_cases h0 : x = 6
  · rw [if_pos h0]
    exact ⟨_, rfl, rfl⟩
  rw [if_neg h0]
  exact ⟨_, rfl, rfl⟩
end COUNT
