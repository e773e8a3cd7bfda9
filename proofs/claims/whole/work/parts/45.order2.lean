/-! order: the reference -/
def pk (a b c x : Int32) : Int32 := if x = 0 then a else if x = 1 then b else c
theorem i_012 (x : Int32) : x = 0 ∨ x = 1 ∨ (¬ x = 0 ∧ ¬ x = 1) := by
  by_cases h : x = 0
  · exact Or.inl h
  · by_cases k : x = 1
    · exact Or.inr (Or.inl k)
    · exact Or.inr (Or.inr ⟨h, k⟩)
set_option maxHeartbeats 4000000 in
theorem r_J167 (m : oM) (x1 x2 x3 x4 x5 x6 x7 x8 x9 x10 x11 x12 : Int32) : F_X9_order_J167 m x1 x2 x3 x4 x5 x6 x7 x8 x9 x10 x11 x12 =
    (oAS m 52 ((25 + (3 * x1))) (pk x4 x5 x6 x10)).bind fun m200 => (oAS m200 52 (((25 + (3 * x1)) + 1)) (pk x4 x5 x6 x11)).bind fun m236 => (oAS m236 52 (((25 + (3 * x1)) + 2)) (pk x4 x5 x6 x12)).bind fun m272 => (F_X9_wheels m272).bind fun r274 =>
      if x7 = (-1) then F_X9_order_J295 m272 x1 x2 x3 x4 x5 x6 x8 x9 r274 else if r274 < x7 then F_X9_order_J295 m272 x1 x2 x3 x4 x5 x6 x8 x9 r274 else some (.inl (x7, x8, (x9 + 1), m272)) := by
  unfold F_X9_order_J167 pk
  rcases i_012 x10 with rfl | rfl | ⟨h1, h2⟩ <;> rcases i_012 x11 with rfl | rfl | ⟨k1, k2⟩ <;> rcases i_012 x12 with rfl | rfl | ⟨l1, l2⟩ <;> simp only [*, i10, if_true, if_false]
def nJ (c : Nat) : Nat := if c ≤ 5 then 0 else if c ≤ 7 then 1 else if c ≤ 11 then 2 else if c ≤ 15 then 3 else if c ≤ 19 then 4 else if c ≤ 21 then 5 else 6
theorem nJ_F : ∀ c, c < 27 → ((c / 9 = c / 3 % 3 ∨ c / 3 % 3 = c % 3 ∨ c / 9 = c % 3) ∧ nJ (c + 1) = nJ c) ∨ (nJ c < 6 ∧ c / 9 = pm (nJ c) 0 ∧ c / 3 % 3 = pm (nJ c) 1 ∧ c % 3 = pm (nJ c) 2 ∧ nJ (c + 1) = nJ c + 1) := by decide
theorem pm_ne : ∀ j, j < 6 → pm j 0 ≠ pm j 1 ∧ pm j 1 ≠ pm j 2 ∧ pm j 0 ≠ pm j 2 := by decide
theorem okD_t : ∀ n, n < 4 → ∀ j, j < 6 → okD n j = true → (n = 3 ∨ pm j 2 = 2) ∧ (2 ≤ n ∨ pm j 1 = 1) := by decide
theorem okD_f0 : ∀ n, n < 4 → ∀ j, j < 6 → (okD n j = true ∨ n = 0) ∨ (n < 3 ∧ (¬ pm j 2 = 2 ∨ (n < 2 ∧ ¬ pm j 1 = 1))) := by decide
theorem okD_f {n : Nat} (hn : n < 4) {j : Nat} (hj : j < 6) (h : okD n j = false) (h0 : 0 < n) : n < 3 ∧ (¬ pm j 2 = 2 ∨ (n < 2 ∧ ¬ pm j 1 = 1)) := by
  rcases okD_f0 n hn j hj with (z | z) | z
  · rw [h] at z
    cases z
  · omega
  · exact z
section ORDER2
variable {m : oM} {V : oV}
theorem pk_at (f : Nat → Int32) : ∀ x, x < 3 → pk (f 0) (f 1) (f 2) (nI x) = f x := by
  intro x hx
  have h : x = 0 ∨ x = 1 ∨ x = 2 := by omega
  unfold pk
  rcases h with rfl | rfl | rfl
  · rw [if_pos (by decide)]
  · rw [if_neg (by decide), if_pos (by decide)]
  · rw [if_neg (by decide), if_neg (by decide)]
theorem vTr_r3 {m1 : oM} (hw : WF V) (hr : VR 52 m V) {b n : Nat} (hb : b < vnb V) (h3 : n ≤ 3) {p : Nat → Int32} (h : ∀ k, k < n → isQ V (p k)) (ag : ∀ k, ¬ (k = 19 + b ∨ (25 + 3 * b ≤ k ∧ k < 28 + 3 * b)) → m1.1 52 k = m.1 52 k) (e1 : m1.1 52 (19 + b) = nI n) (e2 : ∀ k, k < n → m1.1 52 (25 + 3 * b + k) = p k) : VR 52 m1 (vTr V b n p) := by
  obtain ⟨r1, r2, r3, r4, r5, r6, r7, r8, r9, r10, r11, r12⟩ := hr
  obtain ⟨w1, w2, w3, -, w5, -⟩ := hw
  have e : ∀ {k : Nat} {v : Int32}, m.1 52 k = v → ¬ (k = 19 + b ∨ (25 + 3 * b ≤ k ∧ k < 28 + 3 * b)) → m1.1 52 k = v := fun a b => (ag _ b).trans a
  refine ⟨e r1 (by omega), e r2 (by omega), e r3 (by omega), fun c (hcb : c < vnb V) => ⟨e (r4 c hcb).1 (by omega), e (r4 c hcb).2 (by omega)⟩, fun c (hcb : c < vnb V) => ?_, fun c k (hcb : c < vnb V) hk => ?_, fun q (hq : q < vnp V) => ⟨e (r7 q hq).1 (by omega), e (r7 q hq).2.1 (by omega), e (r7 q hq).2.2.1 (by omega), e (r7 q hq).2.2.2 (by omega)⟩, e r8 (by omega), e r9 (by omega), e r10 (by omega), e r11 (by omega), fun i (hi : i < vps V) => ⟨e (r12 i hi).1 (by omega), e (r12 i hi).2 (by omega)⟩⟩
  · show m1.1 52 (19 + c) = nI (if c = b then n else vln V c)
    by_cases k : c = b
    · rw [if_pos k, k, e1]
    · rw [if_neg k]
      exact e (r5 c hcb) (by omega)
  · show m1.1 52 (25 + 3 * c + k) = nI (if c = b then (p k).toInt.toNat else vpl V c k)
    replace hk : k < (if c = b then n else vln V c) := hk
    by_cases z : c = b
    · rw [if_pos z] at hk ⊢
      rw [z, e2 k hk, (tr_pl (h k hk)).1]
    · rw [if_neg z] at hk ⊢
      have := w5 c
      exact e (r6 c k hcb hk) (by omega)
/-- what the reference remembers ahead of the code c -/
def oIB (V : oV) (b : Nat) (isF : Nat → Int32) (c : Nat) (best is : Int32) : Prop := (nJ c = 0 ∧ best = -1 ∧ is = 0) ∨ (∃ i, nJ c = i + 1 ∧ best = nI (sW V b (sel V b i)) ∧ is = isF (sel V b i))
def oIS (V : oV) (b : Nat) (x2 : Int32) (isF : Nat → Int32) : Prop := (x2 = 0 ∧ ∀ j, isF j = 0) ∨ ∃ k, k < vln V b ∧ x2 = nI (k + 10) ∧ ∀ j, isF j = nI (vpl V b (pm j k))
theorem r_J295 {V : oV} {b j : Nat} {isF : Nat → Int32} {x2 : Int32} (hb : b < 6) (h3 : vln V b ≤ 3) (hI : oIS V b x2 isF) (e2 : ∀ k, k < vln V b → m.1 52 (25 + 3 * b + k) = nI (vpl V b (pm j k))) (x3 x4 x5 x6 x13 : Int32) {c : Nat} : F_X9_order_J295 m (nI b) x2 x3 x4 x5 x6 0 (nI c) x13 = some (.inl (x13, isF j, nI (c + 1), m)) ∨ ¬ x2 = 0 ∧ ∀ x8, F_X9_order_J295 m (nI b) x2 x3 x4 x5 x6 x8 (nI c) x13 = some (.inl (x13, isF j, nI (c + 1), m)) := by
  rcases hI with ⟨h, hf⟩ | ⟨k, hk, h, hf⟩
  · left
    unfold F_X9_order_J295
    rw [h, if_pos (by decide), hf, nI_1]
  · right
    have n0 : ¬ nI (k + 10) ≤ 0 := nI_nle (by omega) (by omega)
    have e : nI (k + 10) - 10 = nI k := by
      rw [show (10 : Int32) = nI 10 from rfl, nI_sub (by omega), Nat.add_sub_cancel]
    refine ⟨by rw [h]; exact nI_ne0 (by omega) (by omega), fun x8 => ?_⟩
    unfold F_X9_order_J295 F_X9_pairAt
    rw [h, if_neg n0, e, ix_p, a_ld sh52 (by omega) (by omega), o_b, o_b, e2 k hk, hf, nI_1]
theorem r_ordK (hw : WF V) (hr : VR 52 m V) {b : Nat} (hb : b < vnb V) (hl : 0 < vln V b) {x2 : Int32} {isF : Nat → Int32} (hI : oIS V b x2 isF) {R : Nat → Int32} (hR : ∀ k, m.1 52 (25 + 3 * b + k) = R k) :
    ∀ r c mem best is, c + r = 27 → oAg (fun p k => p = 52 ∧ 25 + 3 * b ≤ k ∧ k < 28 + 3 * b) m mem → oIB V b isF c best is →
      ∃ mem', oTo (fun s : Int32 × Int32 × Int32 × oM => F_X9_order_L93 (nI b) x2 (nI (vln V b)) (R 0) (R 1) (R 2) s.1 s.2.1 s.2.2.1 s.2.2.2) (best, is, nI c, mem) (nI (sW V b (sel V b 5)), isF (sel V b 5), mem') r ∧ oAg (fun p k => p = 52 ∧ 25 + 3 * b ≤ k ∧ k < 28 + 3 * b) m mem'
  | 0, c, mem, best, is, e, g, B => by
    have c27 : c = 27 := by omega
    subst c27
    refine ⟨mem, oTo.done _ ?_, g⟩
    rcases B with ⟨z, -⟩ | ⟨i, z1, z2, z3⟩
    · exact absurd z (by decide)
    · have i5 : i = 5 := by
        have : nJ 27 = 6 := by decide
        omega
      subst i5
      show F_X9_order_L93 (nI b) x2 (nI (vln V b)) (R 0) (R 1) (R 2) best is (nI 27) mem = _
      unfold F_X9_order_L93
      rw [if_pos (by decide), z2, z3]
  | r + 1, c, mem, best, is, e, g, B => by
    have h1 := hw.1
    have h3 := hw.2.2.2.2.1 b
    have d1 : nI c / 9 = nI (c / 9) := by rw [show (9 : Int32) = nI 9 from rfl, nI_div (by omega) (by omega) (by omega)]
    have d2 : oRI (nI c / 3) 3 = nI (c / 3 % 3) := by rw [show (3 : Int32) = nI 3 from rfl, nI_div (by omega) (by omega) (by omega), oRI_nat (by omega) (by omega) (by omega)]
    have d3 : oRI (nI c) 3 = nI (c % 3) := by rw [show (3 : Int32) = nI 3 from rfl, oRI_nat (by omega) (by omega) (by omega)]
    have E : F_X9_order_L93 (nI b) x2 (nI (vln V b)) (R 0) (R 1) (R 2) best is (nI c) mem = if nI (c / 9) = nI (c / 3 % 3) then some (.inl (best, is, nI (c + 1), mem)) else if nI (c / 3 % 3) = nI (c % 3) then some (.inl (best, is, nI (c + 1), mem)) else if nI (c / 9) = nI (c % 3) then some (.inl (best, is, nI (c + 1), mem)) else
        if 3 ≤ nI (vln V b) then F_X9_order_J153 mem (nI b) x2 (nI (vln V b)) (R 0) (R 1) (R 2) best is (nI c) (nI (c / 9)) (nI (c / 3 % 3)) (nI (c % 3)) else if nI (c % 3) = 2 then F_X9_order_J153 mem (nI b) x2 (nI (vln V b)) (R 0) (R 1) (R 2) best is (nI c) (nI (c / 9)) (nI (c / 3 % 3)) (nI (c % 3)) else some (.inl (best, is, nI (c + 1), mem)) := by
      unfold F_X9_order_L93
      rw [if_neg (show ¬ (27 : Int32) ≤ nI c from nI_ge (b := 27) (by omega) (by omega)), d1, d2, d3, o_b, o_b, o_b, nI_1]
    have skip : F_X9_order_L93 (nI b) x2 (nI (vln V b)) (R 0) (R 1) (R 2) best is (nI c) mem = some (.inl (best, is, nI (c + 1), mem)) → oIB V b isF (c + 1) best is → ∃ mem', oTo (fun s : Int32 × Int32 × Int32 × oM => F_X9_order_L93 (nI b) x2 (nI (vln V b)) (R 0) (R 1) (R 2) s.1 s.2.1 s.2.2.1 s.2.2.2) (best, is, nI c, mem) (nI (sW V b (sel V b 5)), isF (sel V b 5), mem') (r + 1) ∧ oAg (fun p k => p = 52 ∧ 25 + 3 * b ≤ k ∧ k < 28 + 3 * b) m mem' := by
      intro q B'
      obtain ⟨m', y1, y2⟩ := r_ordK hw hr hb hl hI hR r (c + 1) mem best is (by omega) g B'
      exact ⟨m', oTo.step q y1, y2⟩
    rcases nJ_F c (by omega) with ⟨z, zn⟩ | ⟨j6, zx, zy, zz, zn⟩
    · have B' : oIB V b isF (c + 1) best is := by
        unfold oIB at B ⊢
        rw [zn]
        exact B
      refine skip ?_ B'
      rw [E]
      by_cases k1 : c / 9 = c / 3 % 3
      · rw [if_pos (congrArg nI k1)]
      · rw [if_neg (fun y => k1 ((nI_eq (by omega) (by omega)).mp y))]
        by_cases k2 : c / 3 % 3 = c % 3
        · rw [if_pos (congrArg nI k2)]
        · rw [if_neg (fun y => k2 ((nI_eq (by omega) (by omega)).mp y)), if_pos (congrArg nI (by omega))]
    · generalize hj : nJ c = j at *
      obtain ⟨n1, n2, n3⟩ := pm_ne j j6
      have l0 := pm_3 j j6 0 (by omega)
      have l1 := pm_3 j j6 1 (by omega)
      have l2 := pm_3 j j6 2 (by omega)
      rw [zx, zy, zz, if_neg (fun y => n1 ((nI_eq (by omega) (by omega)).mp y)), if_neg (fun y => n2 ((nI_eq (by omega) (by omega)).mp y)), if_neg (fun y => n3 ((nI_eq (by omega) (by omega)).mp y))] at E
      cases ok : okD (vln V b) j with
      | false =>
        obtain ⟨o1, o2⟩ := okD_f (by omega) j6 ok hl
        have B' : oIB V b isF (c + 1) best is := by
          rcases B with ⟨y1, -⟩ | ⟨i, y1, y2, y3⟩
          · rw [hj] at y1
            rw [y1, okD_0 _ (by omega) hl] at ok
            cases ok
          · rw [hj] at y1
            have es : sel V b j = sel V b i := by
              rw [y1]
              show (if okD (vln V b) (i + 1) = true ∧ sW V b (i + 1) < sW V b (sel V b i) then i + 1 else sel V b i) = _
              rw [if_neg]
              rintro ⟨w, -⟩
              rw [← y1, ok] at w
              cases w
            exact Or.inr ⟨j, zn, by rw [es]; exact y2, by rw [es]; exact y3⟩
        refine skip ?_ B'
        rw [E, if_neg (show ¬ (3 : Int32) ≤ nI (vln V b) from nI_ge (b := 3) o1 (by omega))]
        by_cases k2 : pm j 2 = 2
        · rw [if_pos (show nI (pm j 2) = 2 by rw [k2]; rfl)]
          unfold F_X9_order_J153
          have o3 : vln V b < 2 ∧ ¬ pm j 1 = 1 := by omega
          rw [if_neg (show ¬ (2 : Int32) ≤ nI (vln V b) from nI_ge (b := 2) o3.1 (by omega)), if_neg (show ¬ nI (pm j 1) = 1 from fun y => o3.2 ((nI_eq (b := 1) (by omega) (by omega)).mp y)), nI_1]
        · rw [if_neg (show ¬ nI (pm j 2) = 2 from fun y => k2 ((nI_eq (b := 2) (by omega) (by omega)).mp y))]
      | true =>
        obtain ⟨o1, o2⟩ := okD_t _ (by omega) j j6 ok
        have okn := okD_n _ (by omega) j j6 ok
        have wb := sW_b6 hw hb okn
        have x1 : 25 + 3 * nI b = nI (25 + 3 * b) := by rw [show (3 : Int32) = nI 3 from rfl, nI_mul, show (25 : Int32) = nI 25 from rfl, nI_add]
        have x11 : nI (25 + 3 * b) + 1 = nI (25 + 3 * b + 1) := nI_add _ 1
        have x12 : nI (25 + 3 * b) + 2 = nI (25 + 3 * b + 2) := nI_add _ 2
        generalize hme : oSI (oSI (oSI mem 52 (25 + 3 * b) (R (pm j 0))) 52 (25 + 3 * b + 1) (R (pm j 1))) 52 (25 + 3 * b + 2) (R (pm j 2)) = me
        have g2 : oAg (fun p k => p = 52 ∧ 25 + 3 * b ≤ k ∧ k < 28 + 3 * b) m me := by
          rw [← hme]
          exact ((g.tr (oAg.SI (by omega))).tr (oAg.SI (by omega))).tr (oAg.SI (by omega))
        have e2 : ∀ k, k < vln V b → me.1 52 (25 + 3 * b + k) = nI (vpl V b (pm j k)) := by
          intro k hk
          have w : R (pm j k) = nI (vpl V b (pm j k)) := (hR _).symm.trans (hr.2.2.2.2.2.1 b _ hb (okn k hk))
          rw [← w, ← hme]
          have k3 : k = 0 ∨ k = 1 ∨ k = 2 := by omega
          rcases k3 with rfl | rfl | rfl
          · exact (SI_ne (by omega)).trans ((SI_ne (by omega)).trans SI_eq)
          · exact (SI_ne (by omega)).trans SI_eq
          · exact SI_eq
        have vr : VR 52 me (vOr V b j) := vTr_r3 hw hr hb h3 (oP_q hw hb okn) (fun k hk => (g2 52 k (by omega)).1) ((g2 52 (19 + b) (by omega)).1.trans (hr.2.2.2.2.1 b hb)) (fun k hk => (e2 k hk).trans (oP_at hk).symm)
        have wh : F_X9_wheels me = some (nI (sW V b j)) := r_wheels vr (vOr_wf hw hb okn)
        have E2 : F_X9_order_L93 (nI b) x2 (nI (vln V b)) (R 0) (R 1) (R 2) best is (nI c) mem = if best = -1 then F_X9_order_J295 me (nI b) x2 (nI (vln V b)) (R 0) (R 1) (R 2) is (nI c) (nI (sW V b j)) else if nI (sW V b j) < best then F_X9_order_J295 me (nI b) x2 (nI (vln V b)) (R 0) (R 1) (R 2) is (nI c) (nI (sW V b j)) else some (.inl (best, is, nI (c + 1), me)) := by
          have J : F_X9_order_J153 mem (nI b) x2 (nI (vln V b)) (R 0) (R 1) (R 2) best is (nI c) (nI (pm j 0)) (nI (pm j 1)) (nI (pm j 2)) = if best = -1 then F_X9_order_J295 me (nI b) x2 (nI (vln V b)) (R 0) (R 1) (R 2) is (nI c) (nI (sW V b j)) else if nI (sW V b j) < best then F_X9_order_J295 me (nI b) x2 (nI (vln V b)) (R 0) (R 1) (R 2) is (nI c) (nI (sW V b j)) else some (.inl (best, is, nI (c + 1), me)) := by
            have J7 : F_X9_order_J167 mem (nI b) x2 (nI (vln V b)) (R 0) (R 1) (R 2) best is (nI c) (nI (pm j 0)) (nI (pm j 1)) (nI (pm j 2)) = if best = -1 then F_X9_order_J295 me (nI b) x2 (nI (vln V b)) (R 0) (R 1) (R 2) is (nI c) (nI (sW V b j)) else if nI (sW V b j) < best then F_X9_order_J295 me (nI b) x2 (nI (vln V b)) (R 0) (R 1) (R 2) is (nI c) (nI (sW V b j)) else some (.inl (best, is, nI (c + 1), me)) := by
              rw [r_J167, pk_at R _ l0, pk_at R _ l1, pk_at R _ l2, x1, x11, x12, a_st sh52 (by omega) (by omega), o_b, a_st sh52 (by omega) (by omega), o_b, a_st sh52 (by omega) (by omega), o_b, hme, wh, o_b, nI_1]
            unfold F_X9_order_J153
            by_cases y : 2 ≤ vln V b
            · rw [if_pos (show (2 : Int32) ≤ nI (vln V b) from nI_le (a := 2) y (by omega)), J7]
            · rw [if_neg (show ¬ (2 : Int32) ≤ nI (vln V b) from nI_ge (b := 2) (by omega) (by omega)), if_pos (show nI (pm j 1) = 1 by rw [show pm j 1 = 1 by omega]; rfl), J7]
          rw [E, J]
          by_cases y : vln V b = 3
          · rw [if_pos (show (3 : Int32) ≤ nI (vln V b) from nI_le (a := 3) (by omega) (by omega))]
          · rw [if_neg (show ¬ (3 : Int32) ≤ nI (vln V b) from nI_ge (b := 3) (by omega) (by omega)), if_pos (show nI (pm j 2) = 2 by rw [show pm j 2 = 2 by omega]; rfl)]
        have go : ∀ best' is' : Int32, F_X9_order_L93 (nI b) x2 (nI (vln V b)) (R 0) (R 1) (R 2) best is (nI c) mem = some (.inl (best', is', nI (c + 1), me)) → oIB V b isF (c + 1) best' is' → ∃ mem', oTo (fun s : Int32 × Int32 × Int32 × oM => F_X9_order_L93 (nI b) x2 (nI (vln V b)) (R 0) (R 1) (R 2) s.1 s.2.1 s.2.2.1 s.2.2.2) (best, is, nI c, mem) (nI (sW V b (sel V b 5)), isF (sel V b 5), mem') (r + 1) ∧ oAg (fun p k => p = 52 ∧ 25 + 3 * b ≤ k ∧ k < 28 + 3 * b) m mem' := by
          intro best' is' q B'
          obtain ⟨m', y1, y2⟩ := r_ordK hw hr hb hl hI hR r (c + 1) me best' is' (by omega) g2 B'
          exact ⟨m', oTo.step q y1, y2⟩
        have is0 : x2 = 0 → is = 0 := by
          intro y
          rcases hI with ⟨-, hf⟩ | ⟨k, hk, y2, -⟩
          · rcases B with ⟨-, -, y3⟩ | ⟨i, -, -, y3⟩
            · exact y3
            · rw [y3, hf]
          · rw [y] at y2
            exact absurd y2.symm (nI_ne0 (by omega) (by omega))
        have J2 : F_X9_order_J295 me (nI b) x2 (nI (vln V b)) (R 0) (R 1) (R 2) is (nI c) (nI (sW V b j)) = some (.inl (nI (sW V b j), isF j, nI (c + 1), me)) := by
          by_cases y : x2 = 0
          · rw [is0 y]
            rcases r_J295 (m := me) (j := j) (by omega) h3 hI e2 (nI (vln V b)) (R 0) (R 1) (R 2) (nI (sW V b j)) (c := c) with q | ⟨q, -⟩
            · exact q
            · exact absurd y q
          · rcases r_J295 (m := me) (j := j) (by omega) h3 hI e2 (nI (vln V b)) (R 0) (R 1) (R 2) (nI (sW V b j)) (c := c) with q | ⟨-, q⟩
            · rcases hI with ⟨y2, -⟩ | ⟨k, hk, y2, hf⟩
              · exact absurd y2 y
              · have n0 : ¬ nI (k + 10) ≤ 0 := nI_nle (by omega) (by omega)
                unfold F_X9_order_J295 at q ⊢
                rw [y2, if_neg n0] at q ⊢
                exact q
            · exact q is
        rcases B with ⟨y1, y2, y3⟩ | ⟨i, y1, y2, y3⟩
        · rw [if_pos y2, J2] at E2
          rw [hj] at y1
          rw [y1] at E2 zn
          exact go _ _ E2 (Or.inr ⟨0, zn, rfl, rfl⟩)
        · rw [hj] at y1
          have si := sel_ok V b (okD_0 _ (by omega) hl) i
          have sl := sel_le V b i
          have sb := sW_b6 hw hb (okD_n _ (by omega) _ (by omega) si)
          rw [y2, if_neg (nm1 (by omega)), J2] at E2
          have es : sel V b j = if sW V b j < sW V b (sel V b i) then j else sel V b i := by
            rw [y1] at ok ⊢
            show (if okD (vln V b) (i + 1) = true ∧ sW V b (i + 1) < sW V b (sel V b i) then i + 1 else sel V b i) = _
            by_cases k : sW V b (i + 1) < sW V b (sel V b i)
            · rw [if_pos ⟨ok, k⟩, if_pos k]
            · rw [if_neg (fun z => k z.2), if_neg k]
          by_cases k : sW V b j < sW V b (sel V b i)
          · rw [if_pos (nI_lt k (by omega))] at E2
            rw [if_pos k] at es
            rw [← y2] at E2
            exact go _ _ E2 (Or.inr ⟨j, zn, by rw [es], by rw [es]⟩)
          · rw [if_neg (nI_nlt (by omega) (by omega)), ← y2] at E2
            rw [if_neg k] at es
            exact go _ _ E2 (Or.inr ⟨j, zn, by rw [es]; exact y2, by rw [es]; exact y3⟩)
end ORDER2
