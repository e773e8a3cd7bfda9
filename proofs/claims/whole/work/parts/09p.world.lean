theorem oFm_full (b : Nat) (f : Nat → Int32) (g : Nat → Int64) : ∀ (l : List (Nat × Nat)) (k : Nat), (∀ j q, l[j]? = some q → q.1 ≠ 0 → q.1 ≠ 1 → f (k + j) = 1) → oFm b f g k l = oFs b f g k l
  | [], _, _ => rfl
  | a :: l, k, h => by
    have ih := oFm_full b f g l (k + 1) (fun j q hq h0 h1 => by
      have := h (j + 1) q (by simpa using hq) h0 h1
      rwa [show k + (j + 1) = k + 1 + j by omega] at this)
    simp only [oFm, oFs]
    rw [ih]
    congr 1
    unfold oFv
    by_cases h0 : a.1 = 0
    · rw [if_pos h0, if_pos h0]
    · rw [if_neg h0, if_neg h0]
      by_cases h1 : a.1 = 1
      · rw [if_pos h1, if_pos h1]
      · rw [if_neg h1, if_neg h1]
        have := h 0 a rfl h0 h1
        rw [Nat.add_zero] at this
        rw [this, if_neg (by decide)]
def oFlg (m : oM) (p : Nat) : Bool := match oShp p with
  | .inl o => (List.range o.2.length).all (fun j => (o.2.getD j (0, 0)).1 == 0 || (o.2.getD j (0, 0)).1 == 1 || m.1 p j == 1)
  | .inr o => decide (o.1 = 0 ∨ o.1 = 1)
theorem oEm_full {G : oG} {m : oM} {p : Nat} (h : oFlg m p = true) : oEm G m p = oE G m p := by
  unfold oEm oE
  unfold oFlg at h
  cases hs : oShp p with
  | inl o =>
    rw [hs] at h
    show Sum.inr (o.1, oFm (oB G) (m.1 p) (m.2 p) 0 o.2) = Sum.inr (o.1, oFs (oB G) (m.1 p) (m.2 p) 0 o.2)
    rw [oFm_full]
    intro j q hq h0 h1
    have hj := (List.getElem?_eq_some_iff.mp hq).1
    have h2 := List.all_eq_true.mp h j (List.mem_range.mpr hj)
    rw [List.getD_eq_getElem?_getD, hq] at h2
    simp only [Option.getD_some, Bool.or_eq_true, beq_iff_eq] at h2
    rw [Nat.zero_add]
    rcases h2 with (h2 | h2) | h2
    · exact absurd h2 h0
    · exact absurd h2 h1
    · exact h2
  | inr o => rfl
set_option maxRecDepth 100000 in
theorem oM1_flg : ∀ p, p < 61 → oFlg oM1 p = true := by decide +kernel
theorem oWm_full (G : oG) : oWm G 61 oM1 = oWl G oM1 := by
  unfold oWm oWl
  apply List.map_congr_left
  intro p hp
  rw [oEm_full (oM1_flg p (List.mem_range.mp hp))]
set_option maxRecDepth 100000 in
set_option maxHeartbeats 4000000 in
theorem oG_of {s : State} {args : Array Value} (l : Launch) {b L : Nat} {xs : Nat → Int32} (hts0 : ∀ w ∈ lw_tbl, w.before args s = true) (hX : va_X b L xs s s.heap) (hbl : b < s.heap.size) (hgv : (Jvm.Cond.and given_1 narrow_1).before args s = true) :
    ∃ G : oG, oL G = l ∧ oB G = s.heap.size ∧ oXL G = L ∧ oXs G = xs ∧ oCv G (.ref 64) = .ref b ∧ oW G s := by
  have hs := flat_of_before _ hgv
  have hts : ∀ w ∈ oTB, w.before args s = true := fun w h => hts0 w (oTB_lw h)
  have hA : ∀ a : Nat, a < s.heap.size → ¬ (fun q : Nat => s.heap.size ≤ q) a := fun a h => Nat.not_le.mpr h
  obtain ⟨c0, i0, hk0⟩ := u_known (C := RX0) (T := TX0) (N := 10) (n := 10) hts inX0 (hts0 (.instantiable RX0 10) (by decide +kernel))
  obtain ⟨c1, i1, hk1⟩ := u_known (C := RX1) (T := TX1) (N := 10) (n := 10) hts inX1 (hts0 (.instantiable RX1 10) (by decide +kernel))
  obtain ⟨c2, i2, hk2⟩ := u_known (C := RX2) (T := TX2) (N := 5) (n := 5) hts inX2 (hts0 (.instantiable RX2 5) (by decide +kernel))
  obtain ⟨c3, i3, hk3⟩ := u_known (C := RX3) (T := TX3) (N := 3) (n := 3) hts inX3 (hts0 (.instantiable RX3 3) (by decide +kernel))
  obtain ⟨c4, i4, hk4⟩ := u_known (C := RX4) (T := TX4) (N := 2) (n := 2) hts inX4 (hts0 (.instantiable RX4 2) (by decide +kernel))
  obtain ⟨c5, i5, hk5⟩ := u_known (C := RX5) (T := TX5) (N := 2) (n := 2) hts inX5 (hts0 (.instantiable RX5 2) (by decide +kernel))
  obtain ⟨c6, i6, hk6⟩ := u_known (C := RX6) (T := TX6) (N := 2) (n := 2) hts inX6 (hts0 (.instantiable RX6 2) (by decide +kernel))
  obtain ⟨c7, i7, hk7⟩ := u_known (C := RX7) (T := TX7) (N := 2) (n := 2) hts inX7 (hts0 (.instantiable RX7 2) (by decide +kernel))
  obtain ⟨c8, i8, hk8⟩ := u_known (C := RX8) (T := TX8) (N := 8) (n := 8) hts inX8 (hts0 (.instantiable RX8 8) (by decide +kernel))
  obtain ⟨c9, i9, hk9⟩ := u_known (C := RX9) (T := TX9) (N := 22) (n := 22) hts inX9 (hts0 (.instantiable RX9 22) (by decide +kernel))
  obtain ⟨cI, kI, compI, a1, a2, a3⟩ := Cond.arrayClass_spec (hts _ acI)
  obtain ⟨cL, kL, compL, b1, b2, b3⟩ := Cond.arrayClass_spec (hts _ acL)
  obtain ⟨tK, eK, hTK⟩ := va_Tof (N := 6) (f := fun k => .int (oKL k)) (A := fun q => s.heap.size ≤ q) (tm := (.static "OrreryTrains" "KIND_LETTERS" "[C")) (by decide) (hs (.arrayOf (.static "OrreryTrains" "KIND_LETTERS" "[C") .char) (by decide +kernel)) (va_eqt (hs (.eq (.length (.static "OrreryTrains" "KIND_LETTERS" "[C")) (.int 6)) (by decide +kernel)))
    (fun j hj => match j, hj with
      | 0, _ => va_eqt (hs (.eq (.elem (.static "OrreryTrains" "KIND_LETTERS" "[C") (.int 0)) (.int 99)) (by decide +kernel))
      | 1, _ => va_eqt (hs (.eq (.elem (.static "OrreryTrains" "KIND_LETTERS" "[C") (.int 1)) (.int 102)) (by decide +kernel))
      | 2, _ => va_eqt (hs (.eq (.elem (.static "OrreryTrains" "KIND_LETTERS" "[C") (.int 2)) (.int 112)) (by decide +kernel))
      | 3, _ => va_eqt (hs (.eq (.elem (.static "OrreryTrains" "KIND_LETTERS" "[C") (.int 3)) (.int 119)) (by decide +kernel))
      | 4, _ => va_eqt (hs (.eq (.elem (.static "OrreryTrains" "KIND_LETTERS" "[C") (.int 4)) (.int 115)) (by decide +kernel))
      | 5, _ => va_eqt (hs (.eq (.elem (.static "OrreryTrains" "KIND_LETTERS" "[C") (.int 5)) (.int 107)) (by decide +kernel))
      | k + 6, h => absurd h (by omega)) hA
  obtain ⟨tO, eO, hTO⟩ := va_Tof (N := 18) (f := fun k => .int (oOR k)) (A := fun q => s.heap.size ≤ q) (tm := (.static "OrreryTrains" "ORDERS" "[I")) (by decide) (hs (.arrayOf (.static "OrreryTrains" "ORDERS" "[I") .int) (by decide +kernel)) (va_eqt (hs (.eq (.length (.static "OrreryTrains" "ORDERS" "[I")) (.int 18)) (by decide +kernel)))
    (fun j hj => match j, hj with
      | 0, _ => va_eqt (hs (.eq (.elem (.static "OrreryTrains" "ORDERS" "[I") (.int 0)) (.int 0)) (by decide +kernel))
      | 1, _ => va_eqt (hs (.eq (.elem (.static "OrreryTrains" "ORDERS" "[I") (.int 1)) (.int 1)) (by decide +kernel))
      | 2, _ => va_eqt (hs (.eq (.elem (.static "OrreryTrains" "ORDERS" "[I") (.int 2)) (.int 2)) (by decide +kernel))
      | 3, _ => va_eqt (hs (.eq (.elem (.static "OrreryTrains" "ORDERS" "[I") (.int 3)) (.int 0)) (by decide +kernel))
      | 4, _ => va_eqt (hs (.eq (.elem (.static "OrreryTrains" "ORDERS" "[I") (.int 4)) (.int 2)) (by decide +kernel))
      | 5, _ => va_eqt (hs (.eq (.elem (.static "OrreryTrains" "ORDERS" "[I") (.int 5)) (.int 1)) (by decide +kernel))
      | 6, _ => va_eqt (hs (.eq (.elem (.static "OrreryTrains" "ORDERS" "[I") (.int 6)) (.int 1)) (by decide +kernel))
      | 7, _ => va_eqt (hs (.eq (.elem (.static "OrreryTrains" "ORDERS" "[I") (.int 7)) (.int 0)) (by decide +kernel))
      | 8, _ => va_eqt (hs (.eq (.elem (.static "OrreryTrains" "ORDERS" "[I") (.int 8)) (.int 2)) (by decide +kernel))
      | 9, _ => va_eqt (hs (.eq (.elem (.static "OrreryTrains" "ORDERS" "[I") (.int 9)) (.int 1)) (by decide +kernel))
      | 10, _ => va_eqt (hs (.eq (.elem (.static "OrreryTrains" "ORDERS" "[I") (.int 10)) (.int 2)) (by decide +kernel))
      | 11, _ => va_eqt (hs (.eq (.elem (.static "OrreryTrains" "ORDERS" "[I") (.int 11)) (.int 0)) (by decide +kernel))
      | 12, _ => va_eqt (hs (.eq (.elem (.static "OrreryTrains" "ORDERS" "[I") (.int 12)) (.int 2)) (by decide +kernel))
      | 13, _ => va_eqt (hs (.eq (.elem (.static "OrreryTrains" "ORDERS" "[I") (.int 13)) (.int 0)) (by decide +kernel))
      | 14, _ => va_eqt (hs (.eq (.elem (.static "OrreryTrains" "ORDERS" "[I") (.int 14)) (.int 1)) (by decide +kernel))
      | 15, _ => va_eqt (hs (.eq (.elem (.static "OrreryTrains" "ORDERS" "[I") (.int 15)) (.int 2)) (by decide +kernel))
      | 16, _ => va_eqt (hs (.eq (.elem (.static "OrreryTrains" "ORDERS" "[I") (.int 16)) (.int 1)) (by decide +kernel))
      | 17, _ => va_eqt (hs (.eq (.elem (.static "OrreryTrains" "ORDERS" "[I") (.int 17)) (.int 0)) (by decide +kernel))
      | k + 18, h => absurd h (by omega)) hA
  have hZK := va_Zref (A := fun q => s.heap.size ≤ q) (hts0 (.laysStatic "OrreryTrains" "KIND_LETTERS" "[C") (by decide +kernel)) (hts0 (.initialized "OrreryTrains") (by decide +kernel)) eK hA
  have hZO := va_Zref (A := fun q => s.heap.size ≤ q) (hts0 (.laysStatic "OrreryTrains" "ORDERS" "[I") (by decide +kernel)) (hts0 (.initialized "OrreryTrains") (by decide +kernel)) eO hA
  have hZC := va_Zof (A := fun q => s.heap.size ≤ q) (v := .int 1) (hts0 (.laysStatic "java/lang/String" "COMPACT_STRINGS" "Z") (by decide +kernel)) (hts0 (.initialized "java/lang/String") (by decide +kernel)) (va_eqt (hs (.eq (.static "java/lang/String" "COMPACT_STRINGS" "Z") (.int 1)) (by decide +kernel))) hA
  have hZF := va_Zqof (A := fun q => s.heap.size ≤ q) (hts0 (.laysStatic "jdk/internal/util/Preconditions" "SIOOBE_FORMATTER" "Ljava/util/function/BiFunction;") (by decide +kernel)) (hts0 (.initialized "jdk/internal/util/Preconditions") (by decide +kernel)) (hs (.isRef (.static "jdk/internal/util/Preconditions" "SIOOBE_FORMATTER" "Ljava/util/function/BiFunction;")) (by decide +kernel)) hA
  obtain ⟨vF, hvF, hcF⟩ : ∃ v : Value, va_Z "jdk/internal/util/Preconditions" "SIOOBE_FORMATTER" "Ljava/util/function/BiFunction;" v (fun q => s.heap.size ≤ q) s s.heap ∧ v.category = 1 := by
    rcases hZF with h | ⟨t, h⟩
    · exact ⟨_, h, rfl⟩
    · exact ⟨_, h, rfl⟩
  have hel : ∀ j : Nat, j < 6 → (Cond.eq (.elem (.field (.string "OrreryTrainsModel" 111) "java/lang/String" "value" "[B") (.int (Int32.ofNat j))) (.int ([99, 102, 112, 119, 115, 107].getD j 0))).before args s = true := fun j hj => match j, hj with
        | 0, _ => hs (.eq (.elem (.field (.string "OrreryTrainsModel" 111) "java/lang/String" "value" "[B") (.int 0)) (.int 99)) (by decide +kernel)
        | 1, _ => hs (.eq (.elem (.field (.string "OrreryTrainsModel" 111) "java/lang/String" "value" "[B") (.int 1)) (.int 102)) (by decide +kernel)
        | 2, _ => hs (.eq (.elem (.field (.string "OrreryTrainsModel" 111) "java/lang/String" "value" "[B") (.int 2)) (.int 112)) (by decide +kernel)
        | 3, _ => hs (.eq (.elem (.field (.string "OrreryTrainsModel" 111) "java/lang/String" "value" "[B") (.int 3)) (.int 119)) (by decide +kernel)
        | 4, _ => hs (.eq (.elem (.field (.string "OrreryTrainsModel" 111) "java/lang/String" "value" "[B") (.int 4)) (.int 115)) (by decide +kernel)
        | 5, _ => hs (.eq (.elem (.field (.string "OrreryTrainsModel" 111) "java/lang/String" "value" "[B") (.int 5)) (.int 107)) (by decide +kernel)
        | k + 6, h => absurd h (by omega)
  obtain ⟨adK, adV, hSt, eSt⟩ := vk_Sof (args := args) (s := s) (N := 1) (tm := fun _ => (.string "OrreryTrainsModel" 111)) (len := [6]) (byt := [[99, 102, 112, 119, 115, 107]]) (A := fun q => s.heap.size ≤ q) (fun i hi => by
      obtain rfl : i = 0 := by omega
      decide) (fun i hi => hs (.exactly (.string "OrreryTrainsModel" 111) "java/lang/String") (by decide +kernel)) (fun i hi => hs (.eq (.field (.string "OrreryTrainsModel" 111) "java/lang/String" "coder" "B") (.int 0)) (by decide +kernel))
    (fun i hi => hs (.arrayOf (.field (.string "OrreryTrainsModel" 111) "java/lang/String" "value" "[B") .byte) (by decide +kernel)) (fun i hi => by
      obtain rfl : i = 0 := by omega
      exact hs (.eq (.length (.field (.string "OrreryTrainsModel" 111) "java/lang/String" "value" "[B")) (.int 6)) (by decide +kernel))
    (fun i hi j hj => by
      obtain rfl : i = 0 := by omega
      exact hel j hj) (fun i j hi hj hij => absurd (show i = j by omega) hij) hA
  obtain ⟨s1, s2, s3, s4⟩ := hSt.1 0 (by decide)
  have hRS : vk_R RX9 111 "cfpwsk" (adK 0) s := vk_R.of (hts0 (.stringRef "OrreryTrainsModel" 111 "cfpwsk") (by decide +kernel)) (eSt 0 (by decide))
  refine ⟨(l, (fun k => match k with | 0 => c0 | 1 => c1 | 2 => c2 | 3 => c3 | 4 => c4 | 5 => c5 | 6 => c6 | 7 => c7 | 8 => c8 | _ => c9, fun k => match k with | 0 => i0 | 1 => i1 | 2 => i2 | 3 => i3 | 4 => i4 | 5 => i5 | 6 => i6 | 7 => i7 | 8 => i8 | _ => i9), s.heap.size, cI, cL, (fun p => if p = 61 then .ref tK else if p = 62 then .ref tO else if p = 63 then .ref (adK 0) else if p = 64 then .ref b else if p = 65 then .ref (adV 0) else if p = 66 then vF else .null), L, xs), rfl, rfl, rfl, rfl, rfl, ⟨?_, ?_⟩, ?_⟩
  · intro k q hq
    match k, hq with
    | 0, hq => cases hq; exact hk0
    | 1, hq => cases hq; exact hk1
    | 2, hq => cases hq; exact hk2
    | 3, hq => cases hq; exact hk3
    | 4, hq => cases hq; exact hk4
    | 5, hq => cases hq; exact hk5
    | 6, hq => cases hq; exact hk6
    | 7, hq => cases hq; exact hk7
    | 8, hq => cases hq; exact hk8
    | 9, hq => cases hq; exact hk9
    | k + 10, hq => simp [vwCl] at hq
  · intro k q hq
    match k, hq with
    | 0, hq => cases hq; exact ⟨fun n z => ⟨fun k h => (by cases h), kI, a2, compI, a3⟩, a1⟩
    | 1, hq => cases hq; exact ⟨fun n z => ⟨fun k h => (by cases h), kL, b2, compL, b3⟩, b1⟩
    | k + 2, hq => simp [oTy] at hq
  · refine ⟨⟨tK, rfl, hZK, hTK⟩, ⟨tO, rfl, hZO, hTO⟩, ⟨b, rfl, ?_⟩, ⟨adK 0, adV 0, rfl, rfl, hRS, s1, s2, s3, s4⟩, hZC, hvF, ?_, ?_⟩
    · obtain ⟨scr, x1, x2, x3, x4, x5⟩ := hX
      exact ⟨scr, x1, x2, x3, Nat.le_of_eq x4.symm, by rw [x4], x5, Nat.not_le.mpr hbl⟩
    · intro p
      show Value.category (if p = 61 then .ref tK else if p = 62 then .ref tO else if p = 63 then .ref (adK 0) else if p = 64 then .ref b else if p = 65 then .ref (adV 0) else if p = 66 then vF else .null) = 1
      repeat' split
      all_goals first | rfl | exact hcF
    · have hall : ∀ q ∈ oNW, Cond.methodLinkNest q.1 q.2.1 q.2.2 "OrreryTrains" ∈ tables_1 := by decide +kernel
      exact fun q hq => va_Nw.of rfl (hts0 _ (List.mem_append_right _ (hall q hq)))
