/-! pairs, the call -/
def fA (a b c d : Nat → Int32) (n0 : Nat) (m : oM) : Nat → oM
  | 0 => m
  | i + 1 => oSI (oSI (oSI (oSI (oSI (fA a b c d n0 m i) 5 (n0 + i) (a i)) 6 (n0 + i) (b i)) 7 (n0 + i) (c i)) 8 (n0 + i) (d i)) 4 0 (nI (n0 + i + 1))
theorem fA_ag (a b c d : Nat → Int32) (n0 : Nat) (m : oM) : ∀ i, oAg (fun q k => (q = 4 ∧ k = 0) ∨ (5 ≤ q ∧ q ≤ 8 ∧ n0 ≤ k)) m (fA a b c d n0 m i)
  | 0 => oAg.rf
  | i + 1 => (((((fA_ag a b c d n0 m i).tr (oAg.SI (by omega))).tr (oAg.SI (by omega))).tr (oAg.SI (by omega))).tr (oAg.SI (by omega))).tr (oAg.SI (by omega))
theorem fA_n (a b c d : Nat → Int32) {n0 : Nat} {m : oM} (h : m.1 4 0 = nI n0) : ∀ i, (fA a b c d n0 m i).1 4 0 = nI (n0 + i)
  | 0 => h
  | i + 1 => SI_eq
theorem fA_at (a b c d : Nat → Int32) (n0 : Nat) (m : oM) (j : Nat) : ∀ i, j < i → (fA a b c d n0 m i).1 5 (n0 + j) = a j ∧ (fA a b c d n0 m i).1 6 (n0 + j) = b j ∧ (fA a b c d n0 m i).1 7 (n0 + j) = c j ∧ (fA a b c d n0 m i).1 8 (n0 + j) = d j
  | 0, h => absurd h (by omega)
  | i + 1, h => by
    by_cases e : j = i
    · subst e
      exact ⟨(SI_ne (by omega)).trans ((SI_ne (by omega)).trans ((SI_ne (by omega)).trans ((SI_ne (by omega)).trans SI_eq))), (SI_ne (by omega)).trans ((SI_ne (by omega)).trans ((SI_ne (by omega)).trans SI_eq)), (SI_ne (by omega)).trans ((SI_ne (by omega)).trans SI_eq), (SI_ne (by omega)).trans SI_eq⟩
    · obtain ⟨h1, h2, h3, h4⟩ := fA_at a b c d n0 m j i (by omega)
      have o : ∀ {q : Nat}, q ≠ 4 → (fA a b c d n0 m (i + 1)).1 q (n0 + j) = (fA a b c d n0 m i).1 q (n0 + j) := fun z => (SI_ne (by omega)).trans ((SI_ne (by omega)).trans ((SI_ne (by omega)).trans ((SI_ne (by omega)).trans (SI_ne (by omega)))))
      exact ⟨(o (by omega)).trans h1, (o (by omega)).trans h2, (o (by omega)).trans h3, (o (by omega)).trans h4⟩
def fB (a b c d : Nat → Int32) (n0 : Nat) (m : oM) : Nat → oM
  | 0 => m
  | i + 1 => oSI (oSI (oSI (oSI (oSI (fB a b c d n0 m i) 52 (43 + (n0 + i)) (a i)) 52 (53 + (n0 + i)) (b i)) 52 (63 + (n0 + i)) (c i)) 52 (73 + (n0 + i)) (d i)) 52 3 (nI (n0 + i + 1))
theorem fB_ag (a b c d : Nat → Int32) (n0 : Nat) (m : oM) : ∀ i, n0 + i ≤ 10 → oAg (fun q k => q = 52 ∧ (k = 3 ∨ (43 + n0 ≤ k ∧ k < 53) ∨ (53 + n0 ≤ k ∧ k < 63) ∨ (63 + n0 ≤ k ∧ k < 73) ∨ (73 + n0 ≤ k ∧ k < 83))) m (fB a b c d n0 m i)
  | 0, _ => oAg.rf
  | i + 1, h => (((((fB_ag a b c d n0 m i (by omega)).tr (oAg.SI (by omega))).tr (oAg.SI (by omega))).tr (oAg.SI (by omega))).tr (oAg.SI (by omega))).tr (oAg.SI (by omega))
theorem fB_n (a b c d : Nat → Int32) {n0 : Nat} {m : oM} (h : m.1 52 3 = nI n0) : ∀ i, (fB a b c d n0 m i).1 52 3 = nI (n0 + i)
  | 0 => h
  | i + 1 => SI_eq
theorem fB_at (a b c d : Nat → Int32) (n0 : Nat) (m : oM) (j : Nat) : ∀ i, j < i → n0 + i ≤ 10 → (fB a b c d n0 m i).1 52 (43 + (n0 + j)) = a j ∧ (fB a b c d n0 m i).1 52 (53 + (n0 + j)) = b j ∧ (fB a b c d n0 m i).1 52 (63 + (n0 + j)) = c j ∧ (fB a b c d n0 m i).1 52 (73 + (n0 + j)) = d j
  | 0, h, _ => absurd h (by omega)
  | i + 1, h, hn => by
    by_cases e : j = i
    · subst e
      exact ⟨(SI_ne (by omega)).trans ((SI_ne (by omega)).trans ((SI_ne (by omega)).trans ((SI_ne (by omega)).trans SI_eq))), (SI_ne (by omega)).trans ((SI_ne (by omega)).trans ((SI_ne (by omega)).trans SI_eq)), (SI_ne (by omega)).trans ((SI_ne (by omega)).trans SI_eq), (SI_ne (by omega)).trans SI_eq⟩
    · obtain ⟨h1, h2, h3, h4⟩ := fB_at a b c d n0 m j i (by omega) (by omega)
      have o : ∀ {k : Nat}, k ≠ 3 → k ≠ 43 + (n0 + i) → k ≠ 53 + (n0 + i) → k ≠ 63 + (n0 + i) → k ≠ 73 + (n0 + i) → (fB a b c d n0 m (i + 1)).1 52 k = (fB a b c d n0 m i).1 52 k := fun z1 z2 z3 z4 z5 => (SI_ne (by omega)).trans ((SI_ne (by omega)).trans ((SI_ne (by omega)).trans ((SI_ne (by omega)).trans (SI_ne (by omega)))))
      exact ⟨(o (by omega) (by omega) (by omega) (by omega) (by omega)).trans h1, (o (by omega) (by omega) (by omega) (by omega) (by omega)).trans h2, (o (by omega) (by omega) (by omega) (by omega) (by omega)).trans h3, (o (by omega) (by omega) (by omega) (by omega) (by omega)).trans h4⟩
def vPr (V : oV) (c : Nat) (a b d e : Nat → Int32) : oV := ((vnb V, vnp V + c, vps V), V.2.1, V.2.2.1, (fun q => if q < vnp V then vkd V q else a (q - vnp V), fun q => if q < vnp V then vfg V q else b (q - vnp V), fun q => if q < vnp V then vdr V q else d (q - vnp V), fun q => if q < vnp V then vdn V q else e (q - vnp V)), V.2.2.2.2)
section PAIRS
variable {m : oM} {V : oV}
theorem vPr_wf (hw : WF V) {c : Nat} {a b d e : Nat → Int32} (h10 : vnp V + c ≤ 10) (h : ∀ i, i < c → iB (a i) 0 5 ∧ iB (b i) 0 9 ∧ iB (d i) 10 99 ∧ iB (e i) 10 99) : WF (vPr V c a b d e) := by
  obtain ⟨a1, a2, a3, a4, a5, a6, a7, a8, a9⟩ := hw
  refine ⟨a1, h10, a3, a4, a5, a6, fun b k hb hk => Nat.lt_of_lt_of_le (a7 b k hb hk) (Nat.le_add_right _ _), fun q (hq : q < vnp V + c) => ?_, a9⟩
  show iB (if q < vnp V then vkd V q else a (q - vnp V)) 0 5 ∧ iB (if q < vnp V then vfg V q else b (q - vnp V)) 0 9 ∧ iB (if q < vnp V then vdr V q else d (q - vnp V)) 10 99 ∧ iB (if q < vnp V then vdn V q else e (q - vnp V)) 10 99
  by_cases z : q < vnp V
  · simp only [if_pos z]
    exact a8 q z
  · simp only [if_neg z]
    exact h _ (by omega)
theorem vPr_c {m1 : oM} (hc : VC 1 m V) {c : Nat} {a b d e : Nat → Int32} (ag : oAg (fun q k => (q = 4 ∧ k = 0) ∨ (5 ≤ q ∧ q ≤ 8 ∧ vnp V ≤ k) ∨ q = 43) m m1) (n1 : m1.1 4 0 = nI (vnp V + c)) (v : ∀ j, j < c → m1.1 5 (vnp V + j) = a j ∧ m1.1 6 (vnp V + j) = b j ∧ m1.1 7 (vnp V + j) = d j ∧ m1.1 8 (vnp V + j) = e j) : VC 1 m1 (vPr V c a b d e) := by
  obtain ⟨c1, c2, c3, c4, c5, c6, c7, c8, c9, c10, c11, c12⟩ := hc
  have E : ∀ {q k : Nat} {v : Int32}, m.1 q k = v → ¬ ((q = 4 ∧ k = 0) ∨ (5 ≤ q ∧ q ≤ 8 ∧ vnp V ≤ k) ∨ q = 43) → m1.1 q k = v := fun a b => (ag _ _ b).1.trans a
  refine ⟨E c1 (by omega), n1, E c3 (by omega), fun c hcb => ⟨E (c4 c hcb).1 (by omega), E (c4 c hcb).2 (by omega)⟩, fun c hcb => E (c5 c hcb) (by omega), fun c k hcb hk => E (c6 c k hcb hk) (by omega), fun q (hq : q < vnp V + c) => ?_, E c8 (by omega), E c9 (by omega), E c10 (by omega), E c11 (by omega), fun i hi => ⟨E (c12 i hi).1 (by omega), E (c12 i hi).2 (by omega)⟩⟩
  show m1.1 5 q = (if q < vnp V then vkd V q else a (q - vnp V)) ∧ m1.1 6 q = (if q < vnp V then vfg V q else b (q - vnp V)) ∧ m1.1 7 q = (if q < vnp V then vdr V q else d (q - vnp V)) ∧ m1.1 8 q = (if q < vnp V then vdn V q else e (q - vnp V))
  by_cases z : q < vnp V
  · simp only [if_pos z]
    exact ⟨E (c7 q z).1 (by omega), E (c7 q z).2.1 (by omega), E (c7 q z).2.2.1 (by omega), E (c7 q z).2.2.2 (by omega)⟩
  · simp only [if_neg z]
    have w := v (q - vnp V) (by omega)
    rw [show vnp V + (q - vnp V) = q by omega] at w
    exact w
theorem vPr_r {m1 : oM} (hw : WF V) (hr : VR 52 m V) {c : Nat} {a b d e : Nat → Int32} (ag : ∀ k, ¬ (k = 3 ∨ (43 + vnp V ≤ k ∧ k < 53) ∨ (53 + vnp V ≤ k ∧ k < 63) ∨ (63 + vnp V ≤ k ∧ k < 73) ∨ (73 + vnp V ≤ k ∧ k < 83)) → m1.1 52 k = m.1 52 k) (n1 : m1.1 52 3 = nI (vnp V + c)) (v : ∀ j, j < c → m1.1 52 (43 + (vnp V + j)) = a j ∧ m1.1 52 (53 + (vnp V + j)) = b j ∧ m1.1 52 (63 + (vnp V + j)) = d j ∧ m1.1 52 (73 + (vnp V + j)) = e j) : VR 52 m1 (vPr V c a b d e) := by
  obtain ⟨r1, r2, r3, r4, r5, r6, r7, r8, r9, r10, r11, r12⟩ := hr
  obtain ⟨w1, w2, w3, -, w5, -⟩ := hw
  have E : ∀ {k : Nat} {v : Int32}, m.1 52 k = v → ¬ (k = 3 ∨ (43 + vnp V ≤ k ∧ k < 53) ∨ (53 + vnp V ≤ k ∧ k < 63) ∨ (63 + vnp V ≤ k ∧ k < 73) ∨ (73 + vnp V ≤ k ∧ k < 83)) → m1.1 52 k = v := fun a b => (ag _ b).trans a
  refine ⟨E r1 (by omega), n1, E r3 (by omega), fun c (hcb : c < vnb V) => ⟨E (r4 c hcb).1 (by omega), E (r4 c hcb).2 (by omega)⟩, fun c (hcb : c < vnb V) => E (r5 c hcb) (by omega), fun c k (hcb : c < vnb V) (hk : k < vln V c) => E (r6 c k hcb hk) (by have := w5 c; omega), fun q (hq : q < vnp V + c) => ?_, E r8 (by omega), E r9 (by omega), E r10 (by omega), E r11 (by omega), fun i (hi : i < vps V) => ⟨E (r12 i hi).1 (by omega), E (r12 i hi).2 (by omega)⟩⟩
  show m1.1 52 (43 + q) = (if q < vnp V then vkd V q else a (q - vnp V)) ∧ m1.1 52 (53 + q) = (if q < vnp V then vfg V q else b (q - vnp V)) ∧ m1.1 52 (63 + q) = (if q < vnp V then vdr V q else d (q - vnp V)) ∧ m1.1 52 (73 + q) = (if q < vnp V then vdn V q else e (q - vnp V))
  by_cases z : q < vnp V
  · simp only [if_pos z]
    exact ⟨E (r7 q z).1 (by omega), E (r7 q z).2.1 (by omega), E (r7 q z).2.2.1 (by omega), E (r7 q z).2.2.2 (by omega)⟩
  · simp only [if_neg z]
    have w := v (q - vnp V) (by omega)
    rw [show vnp V + (q - vnp V) = q by omega] at w
    exact w
theorem c_figA {t : Nat → Int32} {k : Nat} (hk : k < 60) (he : ∀ j, m.1 44 j = t j) : F_X6_figureAt m (nI k) = some (t k - 48) := by
  unfold F_X6_figureAt
  rw [f_at (n := 60) rfl hk (by omega), o_b, he]
theorem c_numA {t : Nat → Int32} {k : Nat} (hk : k + 1 < 60) (he : ∀ j, m.1 44 j = t j) : F_X6_numberAt m (nI k) = some (10 * (t k - 48) + (t (k + 1) - 48)) := by
  unfold F_X6_numberAt
  rw [c_figA (by omega) he, o_b, nI_1, c_figA hk he, o_b]
theorem c_addP {q : Nat} (hq : q < 10) (h4 : m.1 4 0 = nI q) (a b c d : Int32) : F_X2_add 4 m a b c d = some (oSI (oSI (oSI (oSI (oSI m 5 q a) 6 q b) 7 q c) 8 q d) 4 0 (nI (q + 1))) := by
  have e1 : (oSI m 5 q a).1 4 0 = nI q := (SI_ne (by omega)).trans h4
  have e2 : (oSI (oSI m 5 q a) 6 q b).1 4 0 = nI q := (SI_ne (by omega)).trans e1
  have e3 : (oSI (oSI (oSI m 5 q a) 6 q b) 7 q c).1 4 0 = nI q := (SI_ne (by omega)).trans e2
  have e4 : (oSI (oSI (oSI (oSI m 5 q a) 6 q b) 7 q c) 8 q d).1 4 0 = nI q := (SI_ne (by omega)).trans e3
  unfold F_X2_add
  rw [show (4 + 1 : Nat) = 5 from rfl, show (4 + 2 : Nat) = 6 from rfl, show (4 + 3 : Nat) = 7 from rfl, show (4 + 4 : Nat) = 8 from rfl, h4, f_set (n := 10) rfl hq (by omega), o_b, e1, f_set (n := 10) rfl hq (by omega), o_b, e2, f_set (n := 10) rfl hq (by omega), o_b, e3, f_set (n := 10) rfl hq (by omega), o_b, e4, nI_1, o_b]
theorem c_tell {t : Nat → Int32} {i j q : Nat} (h9 : 9 * i + 7 < 60) (he : ∀ j, m.1 44 j = t j) (hK : KO (t (9 * i)) j) (hq : q < 10) (h4 : m.1 4 0 = nI q) :
    F_X6_tellPair 4 m (nI i) = some (oSI (oSI (oSI (oSI (oSI m 5 q (pK t i)) 6 q (pF t i)) 7 q (pD t i)) 8 q (pN t i)) 4 0 (nI (q + 1))) := by
  have x9 : nI i * 9 = nI (9 * i) := by rw [show (9 : Int32) = nI 9 from rfl, nI_mul, Nat.mul_comm]
  have y1 : nI (9 * i) + 1 = nI (9 * i + 1) := nI_add _ 1
  have y3 : nI (9 * i) + 3 = nI (9 * i + 3) := nI_add _ 3
  have y6 : nI (9 * i) + 6 = nI (9 * i + 6) := nI_add _ 6
  have k0 : pK t i = nI j := vK_of hK
  unfold F_X6_tellPair
  rw [o_b, x9, y1, y3, y6, f_at (n := 60) rfl (by omega) (by omega), o_b, he, c_kindOf1 hK, o_b, c_figA (by omega) he, o_b, c_numA (by omega) he, o_b, c_numA (by omega) he, o_b, c_addP hq h4, o_b, k0]
  rfl
theorem r_take {t : Nat → Int32} {c i q : Nat} (hi : i < c) (hc : c < 10) (hq : q < 10) (h3 : m.1 52 3 = nI q) (hR : RD t c m) :
    F_X9_pairs_L54 (nI c) (nI i) m = some (.inl (nI (i + 1), oSI (oSI (oSI (oSI (oSI m 52 (43 + q) (pK t i)) 52 (53 + q) (pF t i)) 52 (63 + q) (pD t i)) 52 (73 + q) (pN t i)) 52 3 (nI (q + 1)))) := by
  obtain ⟨d0, d1, d2, d3⟩ := hR i hi
  have y1 : nI (4 * i) + 1 = nI (4 * i + 1) := nI_add _ 1
  have y2 : nI (4 * i) + 2 = nI (4 * i + 2) := nI_add _ 2
  have y3 : nI (4 * i) + 3 = nI (4 * i + 3) := nI_add _ 3
  have nn : ∀ {a : oM} {k j : Nat} {x : Int32}, (oSI a 52 k x).1 60 j = a.1 60 j := SI_ne (by omega)
  have e4 : (oSI (oSI (oSI (oSI m 52 (43 + q) (pK t i)) 52 (53 + q) (pF t i)) 52 (63 + q) (pD t i)) 52 (73 + q) (pN t i)).1 52 3 = nI q := (SI_ne (by omega)).trans ((SI_ne (by omega)).trans ((SI_ne (by omega)).trans ((SI_ne (by omega)).trans h3)))
  unfold F_X9_pairs_L54
  rw [if_neg (nI_ge hi (by omega)), h3, o_b, ix4, y1, y2, y3, a_ld (n := 240) rfl (by omega) (by omega), o_b, d0, ix (c := 43) (n := 43) rfl, a_st sh52 (by omega) (by omega), o_b, a_ld (n := 240) rfl (by omega) (by omega), o_b, nn, d1, ix (c := 53) (n := 53) rfl, a_st sh52 (by omega) (by omega), o_b,
    a_ld (n := 240) rfl (by omega) (by omega), o_b, nn, nn, d2, ix (c := 63) (n := 63) rfl, a_st sh52 (by omega) (by omega), o_b, a_ld (n := 240) rfl (by omega) (by omega), o_b, nn, nn, nn, d3, ix (c := 73) (n := 73) rfl, a_st sh52 (by omega) (by omega), o_b, e4, nI_1, nI_1, o_b]
def S61 (q k : Nat) : Prop := (q = 51 ∧ (k = 8 ∨ k = 11 ∨ k = 12)) ∨ q = 60
theorem r_pairs {n : Nat} {t : Nat → Int32} {m1 : oM} (hM : rM n t m1) : ∃ c m17, F_X9_pairs m1 = (if m17.1 51 12 = -1 then if m17.1 52 3 + nI c ≤ 10 then (oLoop (fun s : Int32 × oM => F_X9_pairs_L54 (nI c) s.1 s.2) oFuel (0, m17)).bind fun b54 => some (b54.1 52 3, b54) else some (-4, m17) else some (-100 - m17.1 51 12, m17)) ∧
    oAg S61 m1 m17 ∧ m17.1 51 8 = 0 ∧ ((∃ f, IsF n t f ∧ m17.1 51 12 = nI f) ∨ (9 * c = n + 1 ∧ (∀ i, i < n → fitT t i) ∧ m17.1 51 12 = -1 ∧ RD t c m17)) := by
  have g0 : oAg S51 m1 (oSI (oSI m1 51 11 0) 51 12 (-1)) := (oAg.SI ⟨rfl, Or.inl rfl⟩).tr (oAg.SI ⟨rfl, Or.inr rfl⟩)
  obtain ⟨c, mr, e, g, z⟩ := r_clauses (hM.ag g0 (by unfold S51; omega) (by unfold S51; omega)) ((SI_ne (by omega)).trans SI_eq) SI_eq
  have k12 : (oSI mr 51 8 0).1 51 12 = mr.1 51 12 := SI_ne (by omega)
  refine ⟨c, oSI mr 51 8 0, ?_, ((g0.wk (by unfold S51 S61; omega)).tr (g.wk (by unfold S60 S61; omega))).tr (oAg.SI (by unfold S61; omega)), SI_eq, ?_⟩
  · unfold F_X9_pairs
    rw [o_b, o_b, e, o_b, o_b]
  · rw [k12]
    rcases z with z | ⟨z1, z2, z3, z4⟩
    · exact Or.inl z
    · exact Or.inr ⟨z1, z2, z3, z4.ag (fun k _ => SI_ne (by omega))⟩
theorem fig_b {x : Int32} {a : Int} (h1 : a ≤ x.toInt) (h2 : x.toInt ≤ 57) (ha : 0 ≤ a) : (x - 48).toInt = x.toInt - 48 := by
  have : (48 : Int32).toInt = 48 := by decide
  rw [i_sub] <;> rw [this] <;> omega
theorem num_b {x y : Int32} (h1 : 49 ≤ x.toInt) (h2 : x.toInt ≤ 57) (h3 : 48 ≤ y.toInt) (h4 : y.toInt ≤ 57) : iB (10 * (x - 48) + (y - 48)) 10 99 := by
  have e1 := fig_b (a := 49) h1 h2 (by omega)
  have e2 := fig_b (a := 48) h3 h4 (by omega)
  have e3 : (10 : Int32).toInt = 10 := by decide
  have e4 : (10 * (x - 48)).toInt = 10 * (x.toInt - 48) := by rw [i_mul] <;> rw [e1, e3] <;> omega
  unfold iB
  rw [i_add] <;> rw [e4, e2] <;> omega
theorem p_vals {n : Nat} {t : Nat → Int32} (h : ∀ i, i < n → fitT t i) {i : Nat} (hi : 9 * i + 7 < n) : (∃ j, KO (t (9 * i)) j) ∧ iB (pK t i) 0 5 ∧ iB (pF t i) 0 9 ∧ iB (pD t i) 10 99 ∧ iB (pN t i) 10 99 := by
  have get : ∀ j, j < 8 → fitP j (t (9 * i + j)) := fun j hj => by
    have := h (9 * i + j) (by omega)
    unfold fitT at this
    rwa [show (9 * i + j) % 9 = j by omega] at this
  obtain ⟨j, hj⟩ : ∃ j, KO (t (9 * i)) j := get 0 (by omega)
  have f1 : 48 ≤ (t (9 * i + 1)).toInt ∧ (t (9 * i + 1)).toInt ≤ 57 := get 1 (by omega)
  have f3 : 49 ≤ (t (9 * i + 3)).toInt ∧ (t (9 * i + 3)).toInt ≤ 57 := get 3 (by omega)
  have f4 : 48 ≤ (t (9 * i + 4)).toInt ∧ (t (9 * i + 4)).toInt ≤ 57 := get 4 (by omega)
  have f6 : 49 ≤ (t (9 * i + 6)).toInt ∧ (t (9 * i + 6)).toInt ≤ 57 := get 6 (by omega)
  have f7 : 48 ≤ (t (9 * i + 7)).toInt ∧ (t (9 * i + 7)).toInt ≤ 57 := get 7 (by omega)
  refine ⟨⟨j, hj⟩, ?_, ?_, num_b f3.1 f3.2 f4.1 f4.2, num_b f6.1 f6.2 f7.1 f7.2⟩
  · have := hj.1
    unfold pK iB
    rw [vK_of hj, nI_toInt (by omega)]
    omega
  · unfold pF iB
    rw [fig_b (a := 48) f1.1 f1.2 (by omega)]
    omega
theorem p_pairs (h : Inv m) : Wr (F_X8_pairs m) (fun m => F_X9_pairs m) := by
  obtain ⟨⟨V, hw, hc, hr⟩, hk, ⟨n, hn, t1, t2, t3⟩, hp, hl, hf⟩ := h
  have hnp := hw.2.1
  have cl : F_X6_clauses m = some (nI ((n + 1) / 9)) := by
    unfold F_X6_clauses
    rw [t1, nI_1, show (9 : Int32) = nI 9 from rfl, nI_div (by omega) (by omega) (by omega)]
  have tM : ∀ m1, oAg (fun q _ => (1 ≤ q ∧ q ≤ 14) ∨ q = 43) m m1 → rM n (m.1 44) m1 := fun m1 g => ⟨hn, (g 51 8 (by omega)).1.trans t2, fun i hi => (g 55 i (by omega)).1.trans (t3 i hi).1⟩
  have g43 : oAg (fun q _ => (1 ≤ q ∧ q ≤ 14) ∨ q = 43) m (oSI m 43 0 0) := oAg.SI (by omega)
  have empt : ∀ m2, oAg S61 (oSI m 43 0 0) m2 → m2.1 51 8 = 0 → Inv m2 := fun m2 g z => by
    have ag : oAg (fun q k => q = 43 ∨ S61 q k) m m2 := (oAg.SI (S := fun q k => q = 43 ∨ S61 q k) (Or.inl rfl)).tr (g.wk (fun _ _ z => Or.inr z))
    unfold S61 at ag g
    exact ⟨⟨V, hw, hc.ag ag (by omega), hr.ag ag (by omega)⟩, hk.ag ag (by omega) (by omega) (by omega) (by omega), ⟨0, by omega, (g 43 0 (by omega)).1.trans SI_eq, z, fun i hi => absurd hi (by omega)⟩, hp.ag ag (by omega) (by omega) (by omega) (by omega), hl.ag ag (by omega) (by omega) (by omega) (by omega), hf.ag ag (by omega)⟩
  rcases c_fault hn t1 with ⟨f, e1, e2⟩ | ⟨e1, e2, e3⟩
  · obtain ⟨c, m17, q1, q2, q3, q4⟩ := r_pairs (tM _ g43)
    have fm : ¬ nI f = -1 := nm1 (e2.lt hn)
    refine ⟨-100 - nI f, oSI m 43 0 0, m17, ?_, ?_, empt m17 q2 q3⟩
    · unfold F_X8_pairs
      rw [e1, o_b, cl, o_b, o_b, if_neg fm]
    · show F_X9_pairs (oSI m 43 0 0) = _
      rcases q4 with ⟨g, y1, y2⟩ | ⟨y1, y2, -⟩
      · rw [q1, y2, y1.uniq e2, if_neg fm]
      · exact (e2.none y2 (by omega)).elim
  · by_cases h10 : vnp V + (n + 1) / 9 ≤ 10
    · generalize hcc : (n + 1) / 9 = c at *
      have c9 : 9 * c = n + 1 := by omega
      generalize ht : m.1 44 = t at *
      have np4 : (oSI m 43 0 0).1 4 0 = nI (vnp V) := (SI_ne (by omega)).trans hc.np
      have gi := fun i => fA_ag (pK t) (pF t) (pD t) (pN t) (vnp V) (oSI m 43 0 0) i
      have ni := fA_n (pK t) (pF t) (pD t) (pN t) np4
      have L := for_run (f := fun s : Int32 × oM => F_X8_pairs_L56 (nI c) s.1 s.2) (fun i => (nI i, fA (pK t) (pF t) (pD t) (pN t) (vnp V) (oSI m 43 0 0) i)) c (b := fA (pK t) (pF t) (pD t) (pN t) (vnp V) (oSI m 43 0 0) c) (by
        intro i hi
        obtain ⟨⟨j, hj⟩, -⟩ := p_vals e2 (i := i) (by omega)
        have he : ∀ k, (fA (pK t) (pF t) (pD t) (pN t) (vnp V) (oSI m 43 0 0) i).1 44 k = t k := fun k => (gi i 44 k (by omega)).1.trans ((SI_ne (by omega)).trans (congrFun ht k))
        show F_X8_pairs_L56 (nI c) (nI i) (fA (pK t) (pF t) (pD t) (pN t) (vnp V) (oSI m 43 0 0) i) = _
        unfold F_X8_pairs_L56
        rw [if_neg (nI_ge hi (by omega)), c_tell (q := vnp V + i) (by omega) he hj (by omega) (ni i), o_b, nI_1]
        rfl) (by
        show F_X8_pairs_L56 (nI c) (nI c) _ = _
        unfold F_X8_pairs_L56
        rw [if_pos (nI_le (Nat.le_refl _) (by omega))]) (by omega)
      have L' : oLoop (fun s : Int32 × oM => F_X8_pairs_L56 (nI c) s.1 s.2) oFuel (0, oSI m 43 0 0) = some (fA (pK t) (pF t) (pD t) (pN t) (vnp V) (oSI m 43 0 0) c) := L
      have gn := gi c
      have nn := ni c
      have an := fun j (hj : j < c) => fA_at (pK t) (pF t) (pD t) (pN t) (vnp V) (oSI m 43 0 0) j c hj
      generalize hm1 : fA (pK t) (pF t) (pD t) (pN t) (vnp V) (oSI m 43 0 0) c = m1 at L' gn nn an
      have g1 : oAg (fun q k => (q = 4 ∧ k = 0) ∨ (5 ≤ q ∧ q ≤ 8 ∧ vnp V ≤ k) ∨ q = 43) m m1 := (oAg.SI (by omega)).tr (gn.wk (by omega))
      have e43 : m1.1 43 0 = 0 := (gn 43 0 (by omega)).1.trans SI_eq
      obtain ⟨c', m17, q1, q2, q3, q4⟩ := r_pairs (tM m1 (g1.wk (by omega)))
      rcases q4 with ⟨f, y1, -⟩ | ⟨y1, -, y3, y4⟩
      · exact (y1.none e2 e3).elim
      · have cc : c' = c := by omega
        subst cc
        have q2' := q2
        unfold S61 at q2'
        have np3 : m17.1 52 3 = nI (vnp V) := (q2' 52 3 (by omega)).1.trans ((g1 52 3 (by omega)).1.trans hr.np)
        have hj := fun i (hi : vnp V + i ≤ 10) => fB_ag (pK t) (pF t) (pD t) (pN t) (vnp V) m17 i hi
        have nj := fB_n (pK t) (pF t) (pD t) (pN t) np3
        have K := for_run (f := fun s : Int32 × oM => F_X9_pairs_L54 (nI c') s.1 s.2) (fun i => (nI i, fB (pK t) (pF t) (pD t) (pN t) (vnp V) m17 i)) c' (b := fB (pK t) (pF t) (pD t) (pN t) (vnp V) m17 c') (by
          intro i hi
          exact r_take hi (by omega) (by omega) (nj i) (y4.ag (fun k _ => (hj i (by omega) 60 k (by omega)).1))) (by
          show F_X9_pairs_L54 (nI c') (nI c') _ = _
          unfold F_X9_pairs_L54
          rw [if_pos (nI_le (Nat.le_refl _) (by omega))]) (by omega)
        have K' : oLoop (fun s : Int32 × oM => F_X9_pairs_L54 (nI c') s.1 s.2) oFuel (0, m17) = some (fB (pK t) (pF t) (pD t) (pN t) (vnp V) m17 c') := K
        have hjn := hj c' h10
        have njn := nj c'
        have bn := fun j (hj : j < c') => fB_at (pK t) (pF t) (pD t) (pN t) (vnp V) m17 j c' hj h10
        generalize hm2 : fB (pK t) (pF t) (pD t) (pN t) (vnp V) m17 c' = m2 at K' hjn njn bn
        have ag2 : oAg (fun q k => q = 52 ∨ (q = 51 ∧ (k = 8 ∨ k = 11 ∨ k = 12)) ∨ q = 60) m1 m2 := (q2'.wk (by omega)).tr (hjn.wk (by omega))
        have ag : oAg (fun q k => (4 ≤ q ∧ q ≤ 8) ∨ q = 43 ∨ q = 52 ∨ (q = 51 ∧ (k = 8 ∨ k = 11 ∨ k = 12)) ∨ q = 60) m m2 := (g1.wk (by omega)).tr (ag2.wk (by omega))
        have le : nI (vnp V) + nI c' ≤ 10 := by
          rw [nI_add]
          exact nI_le (b := 10) h10 (by omega)
        refine ⟨nI (vnp V + c'), m1, m2, ?_, ?_, ⟨vPr V c' (pK t) (pF t) (pD t) (pN t), vPr_wf hw h10 (fun i hi => (p_vals e2 (i := i) (by omega)).2), ?_, ?_⟩, hk.ag ag (by omega) (by omega) (by omega) (by omega), ⟨0, by omega, (ag2 43 0 (by omega)).1.trans e43, (hjn 51 8 (by omega)).1.trans q3, fun i hi => absurd hi (by omega)⟩, hp.ag ag (by omega) (by omega) (by omega) (by omega), hl.ag ag (by omega) (by omega) (by omega) (by omega), hf.ag ag (by omega)⟩
        · unfold F_X8_pairs
          rw [e1, o_b, cl, o_b, o_b, if_pos rfl, np4, if_pos le, L', o_b, nn]
        · show F_X9_pairs m1 = _
          rw [q1, y3, if_pos rfl, np3, if_pos le, K', o_b, njn]
        · exact (vPr_c hc g1 nn an).ag ag2 (by omega)
        · exact vPr_r hw hr (fun k hk => ((hjn 52 k (by omega)).1.trans (q2' 52 k (by omega)).1).trans (g1 52 k (by omega)).1) njn bn
    · obtain ⟨c, m17, q1, q2, q3, q4⟩ := r_pairs (tM _ g43)
      have np4 : (oSI m 43 0 0).1 4 0 = nI (vnp V) := (SI_ne (by omega)).trans hc.np
      refine ⟨-4, oSI m 43 0 0, m17, ?_, ?_, empt m17 q2 q3⟩
      · unfold F_X8_pairs
        rw [e1, o_b, cl, o_b, o_b, if_pos rfl, np4, nI_add, if_neg (show ¬ nI (vnp V + (n + 1) / 9) ≤ 10 from nI_ge (a := 10) (by omega) (by omega))]
      · show F_X9_pairs (oSI m 43 0 0) = _
        rcases q4 with ⟨g, y1, -⟩ | ⟨y1, -, y3, -⟩
        · exact (y1.none e2 e3).elim
        · have q2' := q2
          unfold S61 at q2'
          have np3 : m17.1 52 3 = nI (vnp V) := (q2' 52 3 (by omega)).1.trans ((SI_ne (by omega)).trans hr.np)
          rw [q1, y3, if_pos rfl, np3, nI_add, if_neg (show ¬ nI (vnp V + c) ≤ 10 from nI_ge (a := 10) (by omega) (by omega))]
end PAIRS
