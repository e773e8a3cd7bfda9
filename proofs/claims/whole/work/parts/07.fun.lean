/-! THE METHODS AS FUNCTIONS, by program out of their bytecode: none where a read is out of its row, a divisor 0 or a loop does not end within oFuel -/
def oFuel : Nat := 1000000
def oLoop {σ β : Type} (f : σ → Option (σ ⊕ β)) : Nat → σ → Option β
  | 0, _ => none
  | n + 1, s => (f s).bind fun q => match q with
    | .inl s' => oLoop f n s'
    | .inr b => some b
def oXA (L : Nat) (xs : Nat → Int32) (i : Int32) : Option Int32 := if i < 0 ∨ L ≤ i.toNatClampNeg then none else some (xs i.toNatClampNeg)
def oPZ (m : oM) (p k : Nat) (x : Int32) : Option oM := if x = 0 ∨ x = 1 then some (oSI m p k x) else none
def oZ (x : Int32) : Option Int32 := if x = 0 ∨ x = 1 then some x else none
def oZc (x : Int32) : Option Int32 := if narrow .char (.int x) = .int x then some x else none
def F_X8_isRatio (x0 : Int32) (x1 : Int32) : Option (Int32) :=
  if x0 < 1 then
    some 0
  else
    if 9999 < x0 then
      some 0
    else
      if x1 < 1 then
        some 0
      else
        if 9999 < x1 then
          some 0
        else
          some 1
def F_J9_abs_067f4 (x0 : Int64) : Option (Int64) :=
  if 0 ≤ x0 then
    some x0
  else
    some ((-x0))
def F_X8_greatestCommon_L9 (x4 : Int64) (x6 : Int64) (x8 : Int32) : Option ((Int64 × Int64 × Int32) ⊕ (Int64)) :=
  if 100 ≤ x8 then
    some (.inr x4)
  else
    if x6 = 0 then
      some (.inr x4)
    else
      (if x6 = 0 then none else some (oRG x4 x6)).bind fun v27 =>
      some (.inl (x6, v27, (x8 + 1)))
def F_X8_greatestCommon (x0 : Int64) (x2 : Int64) : Option (Int64) :=
  (oLoop (fun s : Int64 × Int64 × Int32 => F_X8_greatestCommon_L9 s.1 s.2.1 s.2.2) oFuel (x0, x2, 0)).bind fun b9 =>
  some b9
def F_X8_quotient (x0 : Int64) (x2 : Int64) : Option (Int64) :=
  if x2 = 0 then
    some 0
  else
    (if x2 = 0 then none else some (x0 / x2)).bind fun v12 =>
    some v12
def F_X8_lowest (x0 : Int64) (x2 : Int64) (x4 : Int32) : Option (Int64) :=
  (F_J9_abs_067f4 x0).bind fun r1 =>
  (F_X8_greatestCommon r1 x2).bind fun r5 =>
  if x4 = 0 then
    (F_X8_quotient x0 r5).bind fun r22 =>
    some r22
  else
    (F_X8_quotient x2 r5).bind fun r22 =>
    some r22
def F_X8_set (p0 : Nat) (m : oM) (x1 : Int32) (x2 : Int32) : Option (oM) :=
  if x1 < 0 then
    some m
  else
    if (Int32.ofNat (oLn p0)) ≤ x1 then
      some m
    else
      (oAS m p0 x1 x2).bind fun m13 =>
      some m13
def F_X1_wish (o : Nat) (m : oM) (x1 : Int32) (x2 : Int32) (x3 : Int32) : Option (oM) :=
  (F_X8_lowest (x2.toInt64) (x3.toInt64) 0).bind fun r10 =>
  (F_X8_set (o + 1) m x1 (r10.toInt32)).bind fun r14 =>
  (F_X8_lowest (x2.toInt64) (x3.toInt64) 1).bind fun r27 =>
  (F_X8_set (o + 2) r14 x1 (r27.toInt32)).bind fun r31 =>
  some r31
def F_X8_body (m : oM) (x1 : Int32) (x2 : Int32) : Option (Int32 × oM) :=
  (F_X8_isRatio x1 x2).bind fun r2 =>
  if r2 = 0 then
    some ((-2), m)
  else
    if (m.1 1 0) < 6 then
      (some (oSI m 1 0 (((m.1 1 0) + 1))) : Option oM).bind fun m36 =>
      (F_X1_wish 1 m36 (((m36.1 1 0) - 1)) x1 x2).bind fun r54 =>
      some (((r54.1 1 0) - 1), r54)
    else
      some ((-4), m)
def F_X9_isIn (x0 : Int64) (x2 : Int64) (x4 : Int64) : Option (Int32) :=
  if x0 < x2 then
    some 0
  else
    if x4 < x0 then
      some 0
    else
      some 1
def F_X9_isRatio (x0 : Int32) (x1 : Int32) : Option (Int32) :=
  (F_X9_isIn (x0.toInt64) 1 9999).bind fun r6 =>
  if r6 = 0 then
    some 0
  else
    (F_X9_isIn (x1.toInt64) 1 9999).bind fun r18 =>
    if r18 = 0 then
      some 0
    else
      some 1
def F_X9_common_L17 (x4 : Int64) (x6 : Int64) : Option ((Int64 × Int64) ⊕ (Int64)) :=
  if x6 = 0 then
    some (.inr x4)
  else
    (if x6 = 0 then none else some (oRG x4 x6)).bind fun v28 =>
    some (.inl (x6, v28))
def F_X9_common (x0 : Int64) (x2 : Int64) : Option (Int64) :=
  if 0 ≤ x0 then
    (oLoop (fun s : Int64 × Int64 => F_X9_common_L17 s.1 s.2) oFuel (x0, x2)).bind fun b17 =>
    some b17
  else
    (some ((-x0)) : Option Int64).bind fun x4_12 =>
    (oLoop (fun s : Int64 × Int64 => F_X9_common_L17 s.1 s.2) oFuel (x4_12, x2)).bind fun b17 =>
    some b17
def F_X9_told (x0 : Int64) (x2 : Int64) (x4 : Int32) : Option (Int64) :=
  (F_X9_common x0 x2).bind fun r2 =>
  if x4 = 0 then
    (if r2 = 0 then none else some (x0 / r2)).bind fun v19 =>
    some v19
  else
    (if r2 = 0 then none else some (x2 / r2)).bind fun v19 =>
    some v19
def F_X9_becomesRatio (m : oM) (x1 : Int32) (x2 : Int32) (x3 : Int32) : Option (oM) :=
  (F_X9_told (x2.toInt64) (x3.toInt64) 0).bind fun r13 =>
  (oAS m 52 ((7 + x1)) (r13.toInt32)).bind fun m17 =>
  (F_X9_told (x2.toInt64) (x3.toInt64) 1).bind fun r31 =>
  (oAS m17 52 ((13 + x1)) (r31.toInt32)).bind fun m35 =>
  some m35
def F_X9_body (m : oM) (x1 : Int32) (x2 : Int32) : Option (Int32 × oM) :=
  (F_X9_isRatio x1 x2).bind fun r2 =>
  if r2 = 0 then
    some ((-2), m)
  else
    if (m.1 52 0) = 6 then
      some ((-4), m)
    else
      (F_X9_becomesRatio m ((m.1 52 0)) x1 x2).bind fun r34 =>
      (oAS r34 52 ((19 + (r34.1 52 0))) 0).bind fun m51 =>
      (some (oSI m51 52 0 (((m51.1 52 0) + 1))) : Option oM).bind fun m61 =>
      some (((m61.1 52 0) - 1), m61)
def F_X1_hasBody (o : Nat) (m : oM) (x1 : Int32) : Option (Int32) :=
  if x1 < 0 then
    some 0
  else
    if (m.1 o 0) ≤ x1 then
      some 0
    else
      some 1
def F_X8_at (p0 : Nat) (m : oM) (x1 : Int32) : Option (Int32) :=
  if x1 < 0 then
    some 0
  else
    if (Int32.ofNat (oLn p0)) ≤ x1 then
      some 0
    else
      (oAL m p0 x1).bind fun v12 =>
      some v12
def F_X8_ratio (m : oM) (x1 : Int32) (x2 : Int32) (x3 : Int32) : Option (Int32 × oM) :=
  (F_X1_hasBody 1 m x1).bind fun r5 =>
  if r5 = 0 then
    some ((-1), m)
  else
    (F_X8_isRatio x2 x3).bind fun r15 =>
    if r15 = 0 then
      some ((-2), m)
    else
      (F_X8_at 2 m x1).bind fun r35 =>
      (F_X8_at 3 m x1).bind fun r47 =>
      (some (((10000 * r35) + r47)) : Option Int32).bind fun x4_51 =>
      (F_X1_wish 1 m x1 x2 x3).bind fun r60 =>
      some (x4_51, r60)
def F_X9_isBody (m : oM) (x1 : Int32) : Option (Int32) :=
  (F_X9_isIn (x1.toInt64) 0 ((((m.1 52 0) - 1)).toInt64)).bind fun r12 =>
  some r12
def F_X9_ratio (m : oM) (x1 : Int32) (x2 : Int32) (x3 : Int32) : Option (Int32 × oM) :=
  (F_X9_isBody m x1).bind fun r2 =>
  if r2 = 0 then
    some ((-1), m)
  else
    (F_X9_isRatio x2 x3).bind fun r12 =>
    if r12 = 0 then
      some ((-2), m)
    else
      (oAL m 52 ((7 + x1))).bind fun v32 =>
      (oAL m 52 ((13 + x1))).bind fun v42 =>
      (some (((10000 * v32) + v42)) : Option Int32).bind fun x4_44 =>
      (F_X9_becomesRatio m x1 x2 x3).bind fun r50 =>
      some (x4_44, r50)
def F_X8_term_L44 (m : oM) (x2 : Int32) (x3 : Int32) (x4 : Int32) (x5 : Int32) (x6 : Int32) : Option ((Int32 × Int32 × Int32 × Int32) ⊕ ((Int32) ⊕ (Int32))) :=
  if 100 ≤ x6 then
    some (.inr (.inl x5))
  else
    if x4 = 0 then
      some (.inr (.inl x5))
    else
      if x6 = x2 then
        (if x4 = 0 then none else some (x3 / x4)).bind fun v65 =>
        some (.inr (.inr v65))
      else
        (if x4 = 0 then none else some (oRI x3 x4)).bind fun v70 =>
        some (.inl (x4, v70, (x5 + 1), (x6 + 1)))
def F_X8_term (m : oM) (x1 : Int32) (x2 : Int32) : Option (Int32) :=
  (F_X1_hasBody 1 m x1).bind fun r5 =>
  if r5 = 0 then
    some ((-1))
  else
    (F_X8_at 2 m x1).bind fun r21 =>
    (F_X8_at 3 m x1).bind fun r33 =>
    (oLoop (fun s : Int32 × Int32 × Int32 × Int32 => F_X8_term_L44 m x2 s.1 s.2.1 s.2.2.1 s.2.2.2) oFuel (r21, r33, 0, 0)).bind fun b44 => Sum.elim (fun y44 =>
      if x2 = (-1) then
        some y44
      else
        some ((-5))) (fun z44 => some z44) b44
def F_X9_terms_L23 (x2 : Int32) (x3 : Int32) (x4 : Int32) (m : oM) : Option ((Int32 × Int32 × Int32 × oM) ⊕ (Int32 × oM)) :=
  if x3 = 0 then
    some (.inr (x4, m))
  else
    (if x3 = 0 then none else some (x2 / x3)).bind fun v35 =>
    (oAS m 59 x4 v35).bind fun m36 =>
    (if x3 = 0 then none else some (oRI x2 x3)).bind fun v42 =>
    some (.inl (x3, v42, (x4 + 1), m36))
def F_X9_terms (m : oM) (x1 : Int32) : Option (Int32 × oM) :=
  (oAL m 52 ((7 + x1))).bind fun v8 =>
  (oAL m 52 ((13 + x1))).bind fun v18 =>
  (oLoop (fun s : Int32 × Int32 × Int32 × oM => F_X9_terms_L23 s.1 s.2.1 s.2.2.1 s.2.2.2) oFuel (v8, v18, 0, m)).bind fun b23 =>
  some (b23.1, b23.2)
def F_X9_term (m : oM) (x1 : Int32) (x2 : Int32) : Option (Int32 × oM) :=
  (F_X9_isBody m x1).bind fun r2 =>
  if r2 = 0 then
    some ((-1), m)
  else
    (F_X9_terms m x1).bind fun r12 =>
    if x2 = (-1) then
      some (r12.1, r12.2)
    else
      (F_X9_isIn (x2.toInt64) 0 (((r12.1 - 1)).toInt64)).bind fun r30 =>
      if r30 = 0 then
        some ((-5), r12.2)
      else
        (oAL r12.2 59 x2).bind fun v41 =>
        some (v41, r12.2)
def F_X8_isPart (x0 : Int32) : Option (Int32) :=
  if x0 = 0 then
    some 1
  else
    if x0 = 1 then
      some 1
    else
      some 0
def F_X8_convergent_L63 (m : oM) (x2 : Int32) (x3 : Int32) (x4 : Int32) (x5 : Int32) (x6 : Int64) (x8 : Int64) (x10 : Int64) (x12 : Int64) (x14 : Int32) : Option ((Int32 × Int32 × Int64 × Int64 × Int64 × Int64 × Int32) ⊕ ((Unit) ⊕ (Int64))) :=
  if 100 ≤ x14 then
    some (.inr (.inl ()))
  else
    if x5 = 0 then
      some (.inr (.inl ()))
    else
      (if x5 = 0 then none else some (x4 / x5)).bind fun v79 =>
      (some (((v79.toInt64 * x6) + x10)) : Option Int64).bind fun x17_91 =>
      (some (((v79.toInt64 * x8) + x12)) : Option Int64).bind fun x19_101 =>
      if x14 = x2 then
        (F_X8_lowest x17_91 x19_101 x3).bind fun r114 =>
        some (.inr (.inr r114))
      else
        (if x5 = 0 then none else some (oRI x4 x5)).bind fun v138 =>
        some (.inl (x5, v138, x17_91, x19_101, x6, x8, (x14 + 1)))
def F_X8_convergent (m : oM) (x1 : Int32) (x2 : Int32) (x3 : Int32) : Option (Int64) :=
  (F_X1_hasBody 1 m x1).bind fun r5 =>
  if r5 = 0 then
    some ((-9223372036854775808))
  else
    (F_X8_isPart x3).bind fun r12 =>
    if r12 = 0 then
      some ((-9223372036854775808))
    else
      (F_X8_at 2 m x1).bind fun r30 =>
      (F_X8_at 3 m x1).bind fun r43 =>
      (oLoop (fun s : Int32 × Int32 × Int64 × Int64 × Int64 × Int64 × Int32 => F_X8_convergent_L63 m x2 x3 s.1 s.2.1 s.2.2.1 s.2.2.2.1 s.2.2.2.2.1 s.2.2.2.2.2.1 s.2.2.2.2.2.2) oFuel (r30, r43, 1, 0, 0, 1, 0)).bind fun b63 => Sum.elim (fun y63 =>
        some ((-9223372036854775808))) (fun z63 => some z63) b63
def F_X9_isPart (x0 : Int32) : Option (Int32) :=
  (F_X9_isIn (x0.toInt64) 0 1).bind fun r4 =>
  some r4
def F_X9_convergent_L45 (m : oM) (x3 : Int32) (x4 : Int64) (x6 : Int64) (x8 : Int32) : Option ((Int64 × Int64 × Int32) ⊕ (Int64 × Int64)) :=
  if x8 < 0 then
    some (.inr (x4, x6))
  else
    (oAL m 59 x8).bind fun v56 =>
    (some (((v56.toInt64 * x4) + x6)) : Option Int64).bind fun x9_64 =>
    some (.inl (x9_64, x4, (x8 + (-1))))
def F_X9_convergent (m : oM) (x1 : Int32) (x2 : Int32) (x3 : Int32) : Option (Int64 × oM) :=
  (F_X9_isBody m x1).bind fun r2 =>
  if r2 = 0 then
    some ((-9223372036854775808), m)
  else
    (F_X9_isPart x3).bind fun r9 =>
    if r9 = 0 then
      some ((-9223372036854775808), m)
    else
      (F_X9_terms m x1).bind fun r20 =>
      (F_X9_isIn (x2.toInt64) 0 (((r20.1 - 1)).toInt64)).bind fun r26 =>
      if r26 = 0 then
        some ((-9223372036854775808), r20.2)
      else
        (oLoop (fun s : Int64 × Int64 × Int32 => F_X9_convergent_L45 r20.2 x3 s.1 s.2.1 s.2.2) oFuel (1, 0, x2)).bind fun b45 =>
        (F_X9_told (b45.1) (b45.2) x3).bind fun r85 =>
        some (r85, r20.2)
def F_X8_near_L100 (m : oM) (x2 : Int32) (x3 : Int32) (x4 : Int64) (x6 : Int64) (x12 : Int64) (x14 : Int64) (x8 : Int64) (x10 : Int64) (x16 : Int64) : Option ((Int64 × Int64 × Int64) ⊕ (Int64 × Int64)) :=
  if (x14 + 1) < x16 then
    some (.inr (x8, x10))
  else
    (F_J9_abs_067f4 (((x16 * x6) - (x4 * x12)))).bind fun r121 =>
    (F_J9_abs_067f4 (((x8 * x6) - (x4 * x10)))).bind fun r138 =>
    if (r138 * x12) ≤ (r121 * x10) then
      (some ((x16 + 1)) : Option Int64).bind fun x16_160 =>
      some (.inl (x8, x10, x16_160))
    else
      (some ((x16 + 1)) : Option Int64).bind fun x16_160 =>
      some (.inl (x16, x12, x16_160))
def F_X8_near_L76 (m : oM) (x2 : Int32) (x3 : Int32) (x4 : Int64) (x6 : Int64) (x8 : Int64) (x10 : Int64) (x12 : Int64) : Option ((Int64 × Int64 × Int64) ⊕ (Int64 × Int64)) :=
  if x2.toInt64 < x12 then
    some (.inr (x8, x10))
  else
    (F_X8_quotient ((x4 * x12)) x6).bind fun r91 =>
    (oLoop (fun s : Int64 × Int64 × Int64 => F_X8_near_L100 m x2 x3 x4 x6 x12 r91 s.1 s.2.1 s.2.2) oFuel (x8, x10, r91)).bind fun b100 =>
    (some ((x12 + 1)) : Option Int64).bind fun x12_169 =>
    some (.inl (b100.1, b100.2, x12_169))
def F_X8_near (m : oM) (x1 : Int32) (x2 : Int32) (x3 : Int32) : Option (Int64) :=
  (F_X1_hasBody 1 m x1).bind fun r5 =>
  if r5 = 0 then
    some ((-9223372036854775808))
  else
    if x2 < 1 then
      some ((-9223372036854775808))
    else
      if 99 < x2 then
        some ((-9223372036854775808))
      else
        (F_X8_isPart x3).bind fun r23 =>
        if r23 = 0 then
          some ((-9223372036854775808))
        else
          (F_X8_at 2 m x1).bind fun r41 =>
          (F_X8_at 3 m x1).bind fun r55 =>
          (F_X8_quotient (r41.toInt64) (r55.toInt64)).bind fun r65 =>
          (oLoop (fun s : Int64 × Int64 × Int64 => F_X8_near_L76 m x2 x3 (r41.toInt64) (r55.toInt64) s.1 s.2.1 s.2.2) oFuel (r65, 1, 1)).bind fun b76 =>
          (F_X8_lowest (b76.1) (b76.2) x3).bind fun r179 =>
          some r179
def F_X9_near_J127 (m : oM) (x2 : Int32) (x3 : Int32) (x4 : Int64) (x6 : Int64) (x8 : Int64) (x10 : Int64) (x12 : Int64) (x14 : Int32) (x15 : Int64) (x17 : Int64) : Option ((Int64 × Int64 × Int64 × Int64) ⊕ (Int64 × Int64 × Int64)) :=
  if x10 ≤ 0 then
    (some ((x15 + 1)) : Option Int64).bind fun x15_169 =>
    some (.inl (x15, x14.toInt64, x17, x15_169))
  else
    if (x17 * x10) < (x12 * x14.toInt64) then
      (some ((x15 + 1)) : Option Int64).bind fun x15_169 =>
      some (.inl (x15, x14.toInt64, x17, x15_169))
    else
      (some ((x15 + 1)) : Option Int64).bind fun x15_169 =>
      some (.inl (x8, x10, x12, x15_169))
def F_X9_near_L84 (m : oM) (x2 : Int32) (x3 : Int32) (x4 : Int64) (x6 : Int64) (x14 : Int32) (x8 : Int64) (x10 : Int64) (x12 : Int64) (x15 : Int64) : Option ((Int64 × Int64 × Int64 × Int64) ⊕ (Int64 × Int64 × Int64)) :=
  (if x6 = 0 then none else some ((x4 * x14.toInt64) / x6)).bind fun v94 =>
  if (v94 + 1) < x15 then
    some (.inr (x8, x10, x12))
  else
    (some (((x15 * x6) - (x4 * x14.toInt64))) : Option Int64).bind fun x17_113 =>
    if 0 ≤ x17_113 then
      F_X9_near_J127 m x2 x3 x4 x6 x8 x10 x12 x14 x15 x17_113
    else
      (some ((-x17_113)) : Option Int64).bind fun x17_125 =>
      F_X9_near_J127 m x2 x3 x4 x6 x8 x10 x12 x14 x15 x17_125
def F_X9_near_L67 (m : oM) (x2 : Int32) (x3 : Int32) (x4 : Int64) (x6 : Int64) (x8 : Int64) (x10 : Int64) (x12 : Int64) (x14 : Int32) : Option ((Int64 × Int64 × Int64 × Int32) ⊕ (Int64 × Int64)) :=
  if x2 < x14 then
    some (.inr (x8, x10))
  else
    (if x6 = 0 then none else some ((x4 * x14.toInt64) / x6)).bind fun v81 =>
    (oLoop (fun s : Int64 × Int64 × Int64 × Int64 => F_X9_near_L84 m x2 x3 x4 x6 x14 s.1 s.2.1 s.2.2.1 s.2.2.2) oFuel (x8, x10, x12, v81)).bind fun b84 =>
    some (.inl (b84.1, b84.2.1, b84.2.2, (x14 + 1)))
def F_X9_near (m : oM) (x1 : Int32) (x2 : Int32) (x3 : Int32) : Option (Int64) :=
  (F_X9_isBody m x1).bind fun r2 =>
  if r2 = 0 then
    some ((-9223372036854775808))
  else
    (F_X9_isIn (x2.toInt64) 1 99).bind fun r14 =>
    if r14 = 0 then
      some ((-9223372036854775808))
    else
      (F_X9_isPart x3).bind fun r21 =>
      if r21 = 0 then
        some ((-9223372036854775808))
      else
        (oAL m 52 ((7 + x1))).bind fun v39 =>
        (oAL m 52 ((13 + x1))).bind fun v51 =>
        (oLoop (fun s : Int64 × Int64 × Int64 × Int32 => F_X9_near_L67 m x2 x3 (v39.toInt64) (v51.toInt64) s.1 s.2.1 s.2.2.1 s.2.2.2) oFuel (0, 0, 0, 1)).bind fun b67 =>
        (F_X9_told (b67.1) (b67.2) x3).bind fun r185 =>
        some r185
def F_X8_isTeeth (x0 : Int32) : Option (Int32) :=
  if x0 < 10 then
    some 0
  else
    if 99 < x0 then
      some 0
    else
      some 1
def F_X8_bounds (m : oM) (x1 : Int32) (x2 : Int32) : Option (Int32 × oM) :=
  (F_X8_isTeeth x1).bind fun r1 =>
  if r1 = 0 then
    some ((-2), m)
  else
    (F_X8_isTeeth x2).bind fun r8 =>
    if r8 = 0 then
      some ((-2), m)
    else
      if x2 < x1 then
        some ((-2), m)
      else
        if x2 ≤ (x1 + 14) then
          (some (((100 * (m.1 1 3)) + (m.1 1 4))) : Option Int32).bind fun x3_48 =>
          (some (oSI m 1 3 x1) : Option oM).bind fun m54 =>
          (some (oSI m54 1 4 x2) : Option oM).bind fun m62 =>
          some (x3_48, m62)
        else
          some ((-2), m)
def F_X9_bounds (m : oM) (x1 : Int32) (x2 : Int32) : Option (Int32 × oM) :=
  (F_X9_isIn (x1.toInt64) 10 99).bind fun r8 =>
  if r8 = 0 then
    some ((-2), m)
  else
    (F_X9_isIn (x2.toInt64) (x1.toInt64) (((x1 + 14)).toInt64)).bind fun r23 =>
    if r23 = 0 then
      some ((-2), m)
    else
      if x2 ≤ 99 then
        (some (((100 * (m.1 52 1)) + (m.1 52 2))) : Option Int32).bind fun x3_54 =>
        (some (oSI m 52 1 x1) : Option oM).bind fun m61 =>
        (some (oSI m61 52 2 x2) : Option oM).bind fun m68 =>
        some (x3_54, m68)
      else
        some ((-2), m)
def F_X8_splitIntoOne (x1 : Int32) (x2 : Int32) : Option (Int32) :=
  if x1 = x2 then
    some x1
  else
    some 0
def F_X8_splitIntoTwo (m : oM) (x1 : Int32) (x2 : Int32) : Option (Int32) :=
  if x2 < 1 then
    some 0
  else
    (if x2 = 0 then none else some (oRI x1 x2)).bind fun v7 =>
    if v7 = 0 then
      (if x2 = 0 then none else some (x1 / x2)).bind fun v15 =>
      if v15 < x2 then
        some 0
      else
        if (m.1 1 4) < v15 then
          some 0
        else
          some (((100 * x2) + v15))
    else
      some 0
def F_X8_split_J71 (m : oM) (x1 : Int32) (x2 : Int32) (x3 : Int32) (x4 : Int32) (x5 : Int32) (t0 : Int32) : Option ((Int32 × Int32) ⊕ ((Int32) ⊕ (Int32))) :=
  if t0 = 0 then
    some (.inl (x4, (x5 + 1)))
  else
    if x4 = x3 then
      some (.inr (.inr t0))
    else
      some (.inl ((x4 + 1), (x5 + 1)))
def F_X8_split_L37 (m : oM) (x1 : Int32) (x2 : Int32) (x3 : Int32) (x4 : Int32) (x5 : Int32) : Option ((Int32 × Int32) ⊕ ((Int32) ⊕ (Int32))) :=
  if (m.1 1 4) < x5 then
    some (.inr (.inl x4))
  else
    if x2 = 1 then
      (F_X8_splitIntoOne x1 x5).bind fun r58 =>
      F_X8_split_J71 m x1 x2 x3 x4 x5 r58
    else
      (F_X8_splitIntoTwo m x1 x5).bind fun r68 =>
      F_X8_split_J71 m x1 x2 x3 x4 x5 r68
def F_X8_split (m : oM) (x1 : Int32) (x2 : Int32) (x3 : Int32) : Option (Int32) :=
  if x1 < 1 then
    some ((-2))
  else
    if 9999 < x1 then
      some ((-2))
    else
      if x2 < 1 then
        some ((-2))
      else
        if x2 ≤ 2 then
          (some ((m.1 1 3)) : Option Int32).bind fun x5_35 =>
          (oLoop (fun s : Int32 × Int32 => F_X8_split_L37 m x1 x2 x3 s.1 s.2) oFuel (0, x5_35)).bind fun b37 => Sum.elim (fun y37 =>
            if x3 = (-1) then
              some y37
            else
              some ((-5))) (fun z37 => some z37) b37
        else
          some ((-2))
def F_X9_isWithin (m : oM) (x1 : Int32) : Option (Int32) :=
  (F_X9_isIn (x1.toInt64) (((m.1 52 1)).toInt64) (((m.1 52 2)).toInt64)).bind fun r16 =>
  some r16
def F_X9_split_J104 (m : oM) (x1 : Int32) (x2 : Int32) (x3 : Int32) (x4 : Int32) (x5 : Int32) (x6 : Int32) (t0 : Int32) : Option ((Int32 × Int32 × Int32) ⊕ (Int32 × Int32)) :=
  if t0 = 0 then
    some (.inl (x4, x5, (x6 + 1)))
  else
    if x4 = x3 then
      if x2 = 1 then
        some (.inl ((x4 + 1), x1, (x6 + 1)))
      else
        (if x6 = 0 then none else some (x1 / x6)).bind fun v137 =>
        (some (((100 * x6) + v137)) : Option Int32).bind fun x5_139 =>
        some (.inl ((x4 + 1), x5_139, (x6 + 1)))
    else
      some (.inl ((x4 + 1), x5, (x6 + 1)))
def F_X9_split_J103 (m : oM) (x1 : Int32) (x2 : Int32) (x3 : Int32) (x4 : Int32) (x5 : Int32) (x6 : Int32) : Option ((Int32 × Int32 × Int32) ⊕ (Int32 × Int32)) :=
  F_X9_split_J104 m x1 x2 x3 x4 x5 x6 0
def F_X9_split_L42 (m : oM) (x1 : Int32) (x2 : Int32) (x3 : Int32) (x4 : Int32) (x5 : Int32) (x6 : Int32) : Option ((Int32 × Int32 × Int32) ⊕ (Int32 × Int32)) :=
  if (m.1 52 2) < x6 then
    some (.inr (x4, x5))
  else
    if x2 = 1 then
      if x6 = x1 then
        F_X9_split_J104 m x1 x2 x3 x4 x5 x6 1
      else
        F_X9_split_J104 m x1 x2 x3 x4 x5 x6 0
    else
      (if x6 = 0 then none else some (oRI x1 x6)).bind fun v75 =>
      if v75 = 0 then
        (if x6 = 0 then none else some (x1 / x6)).bind fun v82 =>
        if v82 < x6 then
          F_X9_split_J103 m x1 x2 x3 x4 x5 x6
        else
          (if x6 = 0 then none else some (x1 / x6)).bind fun v92 =>
          (F_X9_isWithin m v92).bind fun r93 =>
          if r93 = 0 then
            F_X9_split_J103 m x1 x2 x3 x4 x5 x6
          else
            F_X9_split_J104 m x1 x2 x3 x4 x5 x6 1
      else
        F_X9_split_J103 m x1 x2 x3 x4 x5 x6
def F_X9_split (m : oM) (x1 : Int32) (x2 : Int32) (x3 : Int32) : Option (Int32) :=
  (F_X9_isIn (x1.toInt64) 1 9999).bind fun r6 =>
  if r6 = 0 then
    some ((-2))
  else
    (F_X9_isIn (x2.toInt64) 1 2).bind fun r18 =>
    if r18 = 0 then
      some ((-2))
    else
      (some ((m.1 52 1)) : Option Int32).bind fun x6_40 =>
      (oLoop (fun s : Int32 × Int32 × Int32 => F_X9_split_L42 m x1 x2 x3 s.1 s.2.1 s.2.2) oFuel (0, (-5), x6_40)).bind fun b42 =>
      if x3 = (-1) then
        some (b42.1)
      else
        some (b42.2)
def F_X8_prime_L26 (x2 : Int32) (x3 : Int32) (x4 : Int32) (x5 : Int32) (x6 : Int32) : Option ((Int32 × Int32 × Int32 × Int32) ⊕ ((Int32) ⊕ (Int32))) :=
  if 4094 ≤ x6 then
    some (.inr (.inl x5))
  else
    if x3 ≤ 1 then
      some (.inr (.inl x5))
    else
      if x4 ≤ 1 then
        some (.inr (.inl x5))
      else
        (if x4 = 0 then none else some (oRI x3 x4)).bind fun v48 =>
        if v48 = 0 then
          if x5 = x2 then
            some (.inr (.inr x4))
          else
            (if x4 = 0 then none else some (x3 / x4)).bind fun v73 =>
            some (.inl (v73, x4, (x5 + 1), (x6 + 1)))
        else
          some (.inl (x3, (x4 + 1), x5, (x6 + 1)))
def F_X8_prime (x1 : Int32) (x2 : Int32) : Option (Int32) :=
  if x1 < 1 then
    some ((-2))
  else
    if x1 ≤ 2047 then
      (oLoop (fun s : Int32 × Int32 × Int32 × Int32 => F_X8_prime_L26 x2 s.1 s.2.1 s.2.2.1 s.2.2.2) oFuel (x1, 2, 0, 0)).bind fun b26 => Sum.elim (fun y26 =>
        if x2 = (-1) then
          some y26
        else
          some ((-5))) (fun z26 => some z26) b26
    else
      some ((-2))
def F_X9_prime_L23 (x2 : Int32) (x3 : Int32) (x4 : Int32) (x5 : Int32) : Option ((Int32 × Int32 × Int32) ⊕ ((Int32) ⊕ (Int32))) :=
  if x3 ≤ 1 then
    some (.inr (.inl x4))
  else
    (if x5 = 0 then none else some (oRI x3 x5)).bind fun v31 =>
    if v31 = 0 then
      if x4 = x2 then
        some (.inr (.inr x5))
      else
        (if x5 = 0 then none else some (x3 / x5)).bind fun v53 =>
        some (.inl (v53, (x4 + 1), x5))
    else
      some (.inl (x3, x4, (x5 + 1)))
def F_X9_prime (x1 : Int32) (x2 : Int32) : Option (Int32) :=
  (F_X9_isIn (x1.toInt64) 1 2047).bind fun r6 =>
  if r6 = 0 then
    some ((-2))
  else
    (oLoop (fun s : Int32 × Int32 × Int32 => F_X9_prime_L23 x2 s.1 s.2.1 s.2.2) oFuel (x1, 0, 2)).bind fun b23 => Sum.elim (fun y23 =>
      if x2 = (-1) then
        some y23
      else
        some ((-5))) (fun z23 => some z23) b23
def F_X8_feed (m : oM) (x1 : Int32) : Option (Int32 × oM) :=
  if x1 < 1 then
    some ((-2), m)
  else
    if x1 ≤ 127 then
      if (m.1 43 0) < 60 then
        (F_X8_set 44 m ((m.1 43 0)) x1).bind fun r44 =>
        (some (oSI r44 43 0 (((r44.1 43 0) + 1))) : Option oM).bind fun m57 =>
        some ((m57.1 43 0), m57)
      else
        some ((-4), m)
    else
      some ((-2), m)
def F_X9_feed (m : oM) (x1 : Int32) : Option (Int32 × oM) :=
  (F_X9_isIn (x1.toInt64) 1 127).bind fun r6 =>
  if r6 = 0 then
    some ((-2), m)
  else
    if (m.1 51 8) = 60 then
      some ((-4), m)
    else
      (oAS m 55 ((m.1 51 8)) x1).bind fun m36 =>
      (some (oSI m36 51 8 (((m36.1 51 8) + 1))) : Option oM).bind fun m44 =>
      some ((m44.1 51 8), m44)
def F_X8_kindOf_L2 (x0 : Int32) (x1 : Int32) : Option ((Int32) ⊕ ((Unit) ⊕ (Int32))) :=
  if 6 ≤ x1 then
    some (.inr (.inl ()))
  else
    (oXA 6 oKL x1).bind fun v14 =>
    if v14 = x0 then
      some (.inr (.inr x1))
    else
      some (.inl (x1 + 1))
def F_X8_kindOf (x0 : Int32) : Option (Int32) :=
  (oLoop (fun s : Int32 => F_X8_kindOf_L2 x0 s) oFuel 0).bind fun b2 => Sum.elim (fun y2 =>
    some ((-1))) (fun z2 => some z2) b2
def F_X6_fitsClause (x0 : Int32) (x1 : Int32) : Option (Int32) :=
  if x0 = 0 then
    (F_X8_kindOf x1).bind fun r53 =>
    if r53 = (-1) then
      some 0
    else
      some 1
  else
    if x0 = 2 then
      if x1 = 32 then
        some 1
      else
        some 0
    else
      if x0 = 3 then
        if x1 < 49 then
          some 0
        else
          if 57 < x1 then
            some 0
          else
            some 1
      else
        if x0 = 5 then
          if x1 = 47 then
            some 1
          else
            some 0
        else
          if x0 = 6 then
            if x1 < 49 then
              some 0
            else
              if 57 < x1 then
                some 0
              else
                some 1
          else
            if x0 = 8 then
              if x1 = 59 then
                some 1
              else
                some 0
            else
              if x1 < 48 then
                some 0
              else
                if 57 < x1 then
                  some 0
                else
                  some 1
def F_X6_faultAsPairs_L2 (m : oM) (x1 : Int32) : Option ((Int32) ⊕ ((Unit) ⊕ (Int32))) :=
  if (m.1 43 0) ≤ x1 then
    some (.inr (.inl ()))
  else
    (F_X8_at 44 m x1).bind fun r19 =>
    (F_X6_fitsClause ((oRI x1 9)) r19).bind fun r22 =>
    if r22 = 0 then
      some (.inr (.inr x1))
    else
      some (.inl (x1 + 1))
def F_X6_faultAsPairs (m : oM) : Option (Int32) :=
  (oLoop (fun s : Int32 => F_X6_faultAsPairs_L2 m s) oFuel 0).bind fun b2 => Sum.elim (fun y2 =>
    if (oRI ((m.1 43 0)) 9) = 8 then
      some ((-1))
    else
      some ((m.1 43 0))) (fun z2 => some z2) b2
def F_X6_clauses (m : oM) : Option (Int32) :=
  some ((((m.1 43 0) + 1) / 9))
def F_X6_figureAt (m : oM) (x1 : Int32) : Option (Int32) :=
  (F_X8_at 44 m x1).bind fun r5 =>
  some ((r5 - 48))
def F_X6_numberAt (m : oM) (x1 : Int32) : Option (Int32) :=
  (F_X6_figureAt m x1).bind fun r4 =>
  (F_X6_figureAt m ((x1 + 1))).bind fun r12 =>
  some (((10 * r4) + r12))
def F_X2_add (o : Nat) (m : oM) (x1 : Int32) (x2 : Int32) (x3 : Int32) (x4 : Int32) : Option (oM) :=
  (F_X8_set (o + 1) m ((m.1 o 0)) x1).bind fun r9 =>
  (F_X8_set (o + 2) r9 ((r9.1 o 0)) x2).bind fun r21 =>
  (F_X8_set (o + 3) r21 ((r21.1 o 0)) x3).bind fun r33 =>
  (F_X8_set (o + 4) r33 ((r33.1 o 0)) x4).bind fun r46 =>
  (some (oSI r46 o 0 (((r46.1 o 0) + 1))) : Option oM).bind fun m56 =>
  some m56
def F_X6_tellPair (q : Nat) (m : oM) (x1 : Int32) : Option (oM) :=
  (some ((x1 * 9)) : Option Int32).bind fun x3_4 =>
  (F_X8_at 44 m x3_4).bind fun r11 =>
  (F_X8_kindOf r11).bind fun r14 =>
  (F_X6_figureAt m ((x3_4 + 1))).bind fun r21 =>
  (F_X6_numberAt m ((x3_4 + 3))).bind fun r28 =>
  (F_X6_numberAt m ((x3_4 + 6))).bind fun r36 =>
  (F_X2_add q m r14 r21 r28 r36).bind fun r39 =>
  some r39
def F_X8_pairs_L56 (x2 : Int32) (x3 : Int32) (m : oM) : Option ((Int32 × oM) ⊕ (oM)) :=
  if x2 ≤ x3 then
    some (.inr m)
  else
    (F_X6_tellPair 4 m x3).bind fun r73 =>
    some (.inl ((x3 + 1), r73))
def F_X8_pairs (m : oM) : Option (Int32 × oM) :=
  (F_X6_faultAsPairs m).bind fun r4 =>
  (F_X6_clauses m).bind fun r12 =>
  (some (oSI m 43 0 0) : Option oM).bind fun m21 =>
  if r4 = (-1) then
    if ((m21.1 4 0) + r12) ≤ 10 then
      (oLoop (fun s : Int32 × oM => F_X8_pairs_L56 r12 s.1 s.2) oFuel (0, m21)).bind fun b56 =>
      some ((b56.1 4 0), b56)
    else
      some ((-4), m21)
  else
    some (((-100) - r4), m21)
def F_X9_here (m : oM) : Option (Int32) :=
  if (m.1 51 8) ≤ (m.1 51 11) then
    some 0
  else
    (oAL m 55 ((m.1 51 11))).bind fun v19 =>
    some v19
def F_J0_isLatin1_aae02  : Option (Int32) :=
  some 1
def F_J3_checkIndex_8e157 (x0 : Int32) (x1 : Int32) : Option (Int32) :=
  if x0 < 0 then
    none
  else
    if x0 < x1 then
      some x0
    else
      none
def F_J0_checkIndex_df160 (x0 : Int32) (x1 : Int32) : Option (Unit) :=
  (F_J3_checkIndex_8e157 x0 x1).bind fun r5 =>
  some ()
def F_J1_charAt_3b067 (x1 : Int32) : Option (Int32) :=
  (F_J0_checkIndex_df160 x1 6).bind fun r3 =>
  (oXA 6 oKL x1).bind fun v8 =>
  oZc ((((v8 &&& 255)).toUInt32 % 65536).toInt32)
def F_J0_charAt_5068e (x1 : Int32) : Option (Int32) :=
  (F_J0_isLatin1_aae02).bind fun r1 =>
  if r1 = 0 then
    none
  else
    (F_J1_charAt_3b067 x1).bind fun r12 =>
    oZc r12
def F_X9_fails (m : oM) : Option (oM) :=
  if (m.1 51 12) = (-1) then
    (some (oSI m 51 12 ((m.1 51 11))) : Option oM).bind fun m13 =>
    some m13
  else
    some m
def F_X9_kindHere_L2 (x1 : Int32) (m : oM) : Option ((Int32 × oM) ⊕ ((oM) ⊕ (Int32 × oM))) :=
  if 6 ≤ x1 then
    some (.inr (.inl m))
  else
    if (m.1 51 12) = (-1) then
      (F_X9_here m).bind fun r17 =>
      (F_J0_charAt_5068e x1).bind fun r23 =>
      if r17 = r23 then
        (some (oSI m 51 11 (((m.1 51 11) + 1))) : Option oM).bind fun m39 =>
        some (.inr (.inr (x1, m39)))
      else
        some (.inl ((x1 + 1), m))
    else
      some (.inl ((x1 + 1), m))
def F_X9_kindHere (m : oM) : Option (Int32 × oM) :=
  (oLoop (fun s : Int32 × oM => F_X9_kindHere_L2 s.1 s.2) oFuel (0, m)).bind fun b2 => Sum.elim (fun y2 =>
    (F_X9_fails y2).bind fun r51 =>
    some (0, r51)) (fun z2 => some (z2.1, z2.2)) b2
def F_X9_figure (m : oM) (x1 : Int32) : Option (Int32 × oM) :=
  (F_X9_here m).bind fun r1 =>
  if (m.1 51 12) = (-1) then
    (F_X9_isIn (r1.toInt64) (((48 + x1)).toInt64) 57).bind fun r23 =>
    if r23 = 0 then
      (F_X9_fails m).bind fun r30 =>
      some (0, r30)
    else
      (some (oSI m 51 11 (((m.1 51 11) + 1))) : Option oM).bind fun m42 =>
      some ((r1 - 48), m42)
  else
    (F_X9_fails m).bind fun r30 =>
    some (0, r30)
def F_X9_must (m : oM) (x1 : Int32) : Option (oM) :=
  if (m.1 51 12) = (-1) then
    (F_X9_here m).bind fun r9 =>
    if r9 = x1 then
      (some (oSI m 51 11 (((m.1 51 11) + 1))) : Option oM).bind fun m30 =>
      some m30
    else
      (F_X9_fails m).bind fun r17 =>
      some r17
  else
    (F_X9_fails m).bind fun r17 =>
    some r17
def F_X9_clauses_J120 (m : oM) (x1 : Int32) (t0 : Int32) : Option ((Int32 × Int32 × oM) ⊕ (Int32 × oM)) :=
  if t0 = 0 then
    (some (oSI m 51 11 (((m.1 51 11) + 0))) : Option oM).bind fun m136 =>
    some (.inl (x1, t0, m136))
  else
    (some (oSI m 51 11 (((m.1 51 11) + 1))) : Option oM).bind fun m136 =>
    some (.inl (x1, t0, m136))
def F_X9_clauses_J119 (m : oM) (x1 : Int32) : Option ((Int32 × Int32 × oM) ⊕ (Int32 × oM)) :=
  F_X9_clauses_J120 m x1 0
def F_X9_clauses_L4 (x1 : Int32) (x2 : Int32) (m : oM) : Option ((Int32 × Int32 × oM) ⊕ (Int32 × oM)) :=
  if x2 = 0 then
    some (.inr (x1, m))
  else
    (F_X9_kindHere m).bind fun r16 =>
    (oAS r16.2 60 ((4 * x1)) (r16.1)).bind fun m19 =>
    (F_X9_figure m19 0).bind fun r31 =>
    (oAS r31.2 60 (((4 * x1) + 1)) (r31.1)).bind fun m34 =>
    (F_X9_must m34 32).bind fun r38 =>
    (F_X9_figure r38 1).bind fun r54 =>
    (F_X9_figure r54.2 0).bind fun r60 =>
    (oAS r60.2 60 (((4 * x1) + 2)) (((10 * r54.1) + r60.1))).bind fun m64 =>
    (F_X9_must m64 47).bind fun r68 =>
    (F_X9_figure r68 1).bind fun r84 =>
    (F_X9_figure r84.2 0).bind fun r90 =>
    (oAS r90.2 60 (((4 * x1) + 3)) (((10 * r84.1) + r90.1))).bind fun m94 =>
    if (m94.1 51 12) = (-1) then
      (F_X9_here m94).bind fun r107 =>
      if r107 = 59 then
        F_X9_clauses_J120 m94 ((x1 + 1)) 1
      else
        F_X9_clauses_J119 m94 ((x1 + 1))
    else
      F_X9_clauses_J119 m94 ((x1 + 1))
def F_X9_clauses (m : oM) : Option (Int32 × oM) :=
  (oLoop (fun s : Int32 × Int32 × oM => F_X9_clauses_L4 s.1 s.2.1 s.2.2) oFuel (0, 1, m)).bind fun b4 =>
  if (b4.2.1 51 8) ≤ (b4.2.1 51 11) then
    some (b4.1, b4.2)
  else
    (F_X9_fails b4.2).bind fun r154 =>
    some (b4.1, r154)
def F_X9_pairs_L54 (x1 : Int32) (x2 : Int32) (m : oM) : Option ((Int32 × oM) ⊕ (oM)) :=
  if x1 ≤ x2 then
    some (.inr m)
  else
    (some ((m.1 52 3)) : Option Int32).bind fun x3_65 =>
    (oAL m 60 ((4 * x2))).bind fun v81 =>
    (oAS m 52 ((43 + x3_65)) v81).bind fun m82 =>
    (oAL m82 60 (((4 * x2) + 1))).bind fun v100 =>
    (oAS m82 52 ((53 + x3_65)) v100).bind fun m101 =>
    (oAL m101 60 (((4 * x2) + 2))).bind fun v119 =>
    (oAS m101 52 ((63 + x3_65)) v119).bind fun m120 =>
    (oAL m120 60 (((4 * x2) + 3))).bind fun v138 =>
    (oAS m120 52 ((73 + x3_65)) v138).bind fun m139 =>
    (some (oSI m139 52 3 (((m139.1 52 3) + 1))) : Option oM).bind fun m149 =>
    some (.inl ((x2 + 1), m149))
def F_X9_pairs (m : oM) : Option (Int32 × oM) :=
  (some (oSI m 51 11 0) : Option oM).bind fun m2 =>
  (some (oSI m2 51 12 ((-1))) : Option oM).bind fun m7 =>
  (F_X9_clauses m7).bind fun r11 =>
  (some (oSI r11.2 51 8 0) : Option oM).bind fun m17 =>
  if (m17.1 51 12) = (-1) then
    if ((m17.1 52 3) + r11.1) ≤ 10 then
      (oLoop (fun s : Int32 × oM => F_X9_pairs_L54 (r11.1) s.1 s.2) oFuel (0, m17)).bind fun b54 =>
      some ((b54.1 52 3), b54)
    else
      some ((-4), m17)
  else
    some (((-100) - (m17.1 51 12)), m17)
def F_X2_has (o : Nat) (m : oM) (x1 : Int32) : Option (Int32) :=
  if x1 < 0 then
    some 0
  else
    if (m.1 o 0) ≤ x1 then
      some 0
    else
      some 1
def F_X8_becomes (m : oM) (x1 : Int32) (x2 : Int32) (x3 : Int32) : Option (Int32 × oM) :=
  (F_X2_has 4 m x1).bind fun r8 =>
  if r8 = 0 then
    some ((-1), m)
  else
    if x2 < 0 then
      some ((-1), m)
    else
      if x2 < 6 then
        if x3 < 0 then
          some ((-2), m)
        else
          if x3 ≤ 9 then
            (F_X8_at 5 m x1).bind fun r52 =>
            (F_X8_at 6 m x1).bind fun r67 =>
            (some (((10 * r52) + r67)) : Option Int32).bind fun x4_71 =>
            (F_X8_set 5 m x1 x2).bind fun r85 =>
            (F_X8_set 6 r85 x1 x3).bind fun r100 =>
            some (x4_71, r100)
          else
            some ((-2), m)
      else
        some ((-1), m)
def F_X9_isPair (m : oM) (x1 : Int32) : Option (Int32) :=
  (F_X9_isIn (x1.toInt64) 0 ((((m.1 52 3) - 1)).toInt64)).bind fun r12 =>
  some r12
def F_X9_becomes (m : oM) (x1 : Int32) (x2 : Int32) (x3 : Int32) : Option (Int32 × oM) :=
  (F_X9_isPair m x1).bind fun r2 =>
  if r2 = 0 then
    some ((-1), m)
  else
    (F_X9_isIn (x2.toInt64) 0 5).bind fun r14 =>
    if r14 = 0 then
      some ((-1), m)
    else
      (F_X9_isIn (x3.toInt64) 0 9).bind fun r28 =>
      if r28 = 0 then
        some ((-2), m)
      else
        (oAL m 52 ((43 + x1))).bind fun v47 =>
        (oAL m 52 ((53 + x1))).bind fun v57 =>
        (some (((10 * v47) + v57)) : Option Int32).bind fun x4_59 =>
        (oAS m 52 ((43 + x1)) x2).bind fun m70 =>
        (oAS m70 52 ((53 + x1)) x3).bind fun m80 =>
        some (x4_59, m80)
def F_X8_teeth (m : oM) (x1 : Int32) (x2 : Int32) (x3 : Int32) : Option (Int32 × oM) :=
  (F_X2_has 4 m x1).bind fun r8 =>
  if r8 = 0 then
    some ((-1), m)
  else
    if x2 < 0 then
      some ((-1), m)
    else
      if x2 ≤ 1 then
        (F_X8_isTeeth x3).bind fun r26 =>
        if r26 = 0 then
          some ((-2), m)
        else
          if x2 = 0 then
            (F_X8_at 7 m x1).bind fun r67 =>
            (F_X8_set 7 m x1 x3).bind fun r76 =>
            some (r67, r76)
          else
            (F_X8_at 8 m x1).bind fun r67 =>
            (F_X8_set 8 m x1 x3).bind fun r76 =>
            some (r67, r76)
      else
        some ((-1), m)
def F_X9_teeth (m : oM) (x1 : Int32) (x2 : Int32) (x3 : Int32) : Option (Int32 × oM) :=
  (F_X9_isPair m x1).bind fun r2 =>
  if r2 = 0 then
    some ((-1), m)
  else
    (F_X9_isIn (x2.toInt64) 0 1).bind fun r12 =>
    if r12 = 0 then
      some ((-1), m)
    else
      (F_X9_isIn (x3.toInt64) 10 99).bind fun r28 =>
      if r28 = 0 then
        some ((-2), m)
      else
        if x2 = 0 then
          (some ((63 + x1)) : Option Int32).bind fun x4_52 =>
          (oAL m 52 x4_52).bind fun v60 =>
          (oAS m 52 x4_52 x3).bind fun m70 =>
          some (v60, m70)
        else
          (some ((73 + x1)) : Option Int32).bind fun x4_52 =>
          (oAL m 52 x4_52).bind fun v60 =>
          (oAS m 52 x4_52 x3).bind fun m70 =>
          some (v60, m70)
def F_X2_play (o : Nat) (m : oM) (x1 : Int32) : Option (Int32) :=
  (F_X8_at (o + 2) m x1).bind fun r5 =>
  (F_X8_at (o + 1) m x1).bind fun r14 =>
  if r14 = 1 then
    some ((r5 + 3))
  else
    if r14 = 2 then
      some ((r5 / 2))
    else
      if r14 = 3 then
        some ((2 * (r5 + 3)))
      else
        if r14 = 4 then
          if (oRI r5 2) = 0 then
            some 0
          else
            some ((r5 / 2))
        else
          some r5
def F_X2_goesRound (o : Nat) (m : oM) (x1 : Int32) : Option (Int32) :=
  (F_X8_at (o + 1) m x1).bind fun r5 =>
  if r5 = 5 then
    some 0
  else
    some 1
def F_X7_length (o : Nat) (m : oM) (x1 : Int32) : Option (Int32) :=
  (F_X8_at (o + 1) m x1).bind fun r5 =>
  some r5
def F_X7_pairAt (o : Nat) (m : oM) (x1 : Int32) (x2 : Int32) : Option (Int32) :=
  (F_X8_at (o + 2) m (((x1 * 3) + x2))).bind fun r9 =>
  some r9
def F_X7_holding_L13 (o : Nat) (m : oM) (x1 : Int32) (x3 : Int32) (x2 : Int32) (x4 : Int32) : Option ((Int32 × Int32) ⊕ (Int32)) :=
  (F_X7_length o m x3).bind fun r17 =>
  if r17 ≤ x4 then
    some (.inr x2)
  else
    (F_X7_pairAt o m x3 x4).bind fun r27 =>
    if r27 = x1 then
      some (.inl ((x2 + 1), (x4 + 1)))
    else
      some (.inl (x2, (x4 + 1)))
def F_X7_holding_L4 (o : Nat) (m : oM) (x1 : Int32) (x2 : Int32) (x3 : Int32) : Option ((Int32 × Int32) ⊕ (Int32)) :=
  if 6 ≤ x3 then
    some (.inr x2)
  else
    (oLoop (fun s : Int32 × Int32 => F_X7_holding_L13 o m x1 x3 s.1 s.2) oFuel (x2, 0)).bind fun b13 =>
    some (.inl (b13, (x3 + 1)))
def F_X7_holding (o : Nat) (m : oM) (x1 : Int32) : Option (Int32) :=
  (oLoop (fun s : Int32 × Int32 => F_X7_holding_L4 o m x1 s.1 s.2) oFuel (0, 0)).bind fun b4 =>
  some b4
def F_X8_pair (m : oM) (x1 : Int32) (x2 : Int32) : Option (Int32) :=
  (F_X2_has 4 m x1).bind fun r8 =>
  if r8 = 0 then
    some ((-1))
  else
    if x2 = 0 then
      (F_X8_at 5 m x1).bind fun r71 =>
      some r71
    else
      if x2 = 1 then
        (F_X8_at 6 m x1).bind fun r86 =>
        some r86
      else
        if x2 = 2 then
          (F_X8_at 7 m x1).bind fun r101 =>
          some r101
        else
          if x2 = 3 then
            (F_X8_at 8 m x1).bind fun r116 =>
            some r116
          else
            if x2 = 4 then
              (F_X2_play 4 m x1).bind fun r128 =>
              some r128
            else
              if x2 = 5 then
                (F_X2_goesRound 4 m x1).bind fun r140 =>
                if r140 = 0 then
                  some 0
                else
                  some 1
              else
                if x2 = 6 then
                  (F_X7_holding 9 m x1).bind fun r160 =>
                  some r160
                else
                  some ((-1))
def F_X9_play (m : oM) (x1 : Int32) : Option (Int32) :=
  (oAL m 52 ((53 + x1))).bind fun v8 =>
  (oAL m 52 ((43 + x1))).bind fun v18 =>
  if v18 = 1 then
    some ((v8 + 3))
  else
    if v18 = 2 then
      some ((v8 / 2))
    else
      if v18 = 3 then
        some ((2 * (v8 + 3)))
      else
        if v18 = 4 then
          if (oRI v8 2) = 0 then
            some 0
          else
            some ((v8 / 2))
        else
          some v8
def F_X9_pairAt (m : oM) (x1 : Int32) (x2 : Int32) : Option (Int32) :=
  (oAL m 52 (((25 + (3 * x1)) + x2))).bind fun v12 =>
  some v12
def F_X9_trainsOf_L17 (m : oM) (x1 : Int32) (x3 : Int32) (x2 : Int32) (x4 : Int32) : Option ((Int32 × Int32) ⊕ (Int32)) :=
  (oAL m 52 ((19 + x3))).bind fun v27 =>
  if v27 ≤ x4 then
    some (.inr x2)
  else
    (F_X9_pairAt m x3 x4).bind fun r36 =>
    if r36 = x1 then
      (some ((x2 + 1)) : Option Int32).bind fun x2_49 =>
      some (.inl (x2_49, (x4 + 1)))
    else
      (some ((x2 + 0)) : Option Int32).bind fun x2_49 =>
      some (.inl (x2_49, (x4 + 1)))
def F_X9_trainsOf_L4 (m : oM) (x1 : Int32) (x2 : Int32) (x3 : Int32) : Option ((Int32 × Int32) ⊕ (Int32)) :=
  if (m.1 52 0) ≤ x3 then
    some (.inr x2)
  else
    (oLoop (fun s : Int32 × Int32 => F_X9_trainsOf_L17 m x1 x3 s.1 s.2) oFuel (x2, 0)).bind fun b17 =>
    some (.inl (b17, (x3 + 1)))
def F_X9_trainsOf (m : oM) (x1 : Int32) : Option (Int32) :=
  (oLoop (fun s : Int32 × Int32 => F_X9_trainsOf_L4 m x1 s.1 s.2) oFuel (0, 0)).bind fun b4 =>
  some b4
def F_X9_pair (m : oM) (x1 : Int32) (x2 : Int32) : Option (Int32) :=
  (F_X9_isPair m x1).bind fun r2 =>
  if r2 = 0 then
    some ((-1))
  else
    if x2 = 0 then
      (oAL m 52 ((43 + x1))).bind fun v60 =>
      some v60
    else
      if x2 = 1 then
        (oAL m 52 ((53 + x1))).bind fun v70 =>
        some v70
      else
        if x2 = 2 then
          (oAL m 52 ((63 + x1))).bind fun v80 =>
          some v80
        else
          if x2 = 3 then
            (oAL m 52 ((73 + x1))).bind fun v90 =>
            some v90
          else
            if x2 = 4 then
              (F_X9_play m x1).bind fun r94 =>
              some r94
            else
              if x2 = 5 then
                (oAL m 52 ((43 + x1))).bind fun v106 =>
                if v106 = 5 then
                  some 0
                else
                  some 1
              else
                if x2 = 6 then
                  (F_X9_trainsOf m x1).bind fun r119 =>
                  some r119
                else
                  some ((-1))
def F_X6_pairTold (m : oM) (x1 : Int32) : Option (Int32) :=
  (F_X8_at 44 m x1).bind fun r5 =>
  some ((r5 - 97))
def F_X6_isToldAhead_L2 (m : oM) (x1 : Int32) (x2 : Int32) : Option ((Int32) ⊕ ((Unit) ⊕ (Int32))) :=
  if x1 ≤ x2 then
    some (.inr (.inl ()))
  else
    (F_X8_at 44 m x2).bind fun r12 =>
    (F_X8_at 44 m x1).bind fun r20 =>
    if r12 = r20 then
      some (.inr (.inr 1))
    else
      some (.inl (x2 + 1))
def F_X6_isToldAhead (m : oM) (x1 : Int32) : Option (Int32) :=
  (oLoop (fun s : Int32 => F_X6_isToldAhead_L2 m x1 s) oFuel 0).bind fun b2 => Sum.elim (fun y2 =>
    some 0) (fun z2 => oZ z2) b2
def F_X6_faultAsTrain_L2 (m : oM) (x1 : Int32) (x2 : Int32) : Option ((Int32) ⊕ ((Unit) ⊕ (Int32))) :=
  if (m.1 43 0) ≤ x2 then
    some (.inr (.inl ()))
  else
    (F_X6_pairTold m x2).bind fun r12 =>
    if 3 ≤ x2 then
      some (.inr (.inr x2))
    else
      if r12 < 0 then
        some (.inr (.inr x2))
      else
        if x1 ≤ r12 then
          some (.inr (.inr x2))
        else
          (F_X6_isToldAhead m x2).bind fun r32 =>
          if r32 = 0 then
            some (.inl (x2 + 1))
          else
            some (.inr (.inr x2))
def F_X6_faultAsTrain (m : oM) (x1 : Int32) : Option (Int32) :=
  (oLoop (fun s : Int32 => F_X6_faultAsTrain_L2 m x1 s) oFuel 0).bind fun b2 => Sum.elim (fun y2 =>
    if (m.1 43 0) = 0 then
      some 0
    else
      some ((-1))) (fun z2 => some z2) b2
def F_X7_cut (o : Nat) (m : oM) (x1 : Int32) (x2 : Int32) : Option (oM) :=
  (F_X8_set (o + 1) m x1 x2).bind fun r6 =>
  some r6
def F_X7_become (o : Nat) (m : oM) (x1 : Int32) (x2 : Int32) (x3 : Int32) : Option (oM) :=
  (F_X8_set (o + 2) m (((x1 * 3) + x2)) x3).bind fun r10 =>
  some r10
def F_X8_train_L72 (x1 : Int32) (x3 : Int32) (x4 : Int32) (m : oM) : Option ((Int32 × oM) ⊕ (oM)) :=
  if x3 ≤ x4 then
    some (.inr m)
  else
    (F_X6_pairTold m x4).bind fun r94 =>
    (F_X7_become 9 m x1 x4 r94).bind fun r97 =>
    some (.inl ((x4 + 1), r97))
def F_X8_train (m : oM) (x1 : Int32) : Option (Int32 × oM) :=
  (F_X1_hasBody 1 m x1).bind fun r5 =>
  if r5 = 0 then
    some ((-1), m)
  else
    (F_X6_faultAsTrain m ((m.1 4 0))).bind fun r27 =>
    (some ((m.1 43 0)) : Option Int32).bind fun x3_38 =>
    (some (oSI m 43 0 0) : Option oM).bind fun m44 =>
    if r27 = (-1) then
      (F_X7_cut 9 m44 x1 x3_38).bind fun r66 =>
      (oLoop (fun s : Int32 × oM => F_X8_train_L72 x1 x3_38 s.1 s.2) oFuel (0, r66)).bind fun b72 =>
      some (x3_38, b72)
    else
      some (((-100) - r27), m44)
def F_X9_train_L28 (m : oM) (x1 : Int32) (x2 : Int32) (x3 : Int32) (x4 : Int32) : Option ((Int32 × Int32 × Int32) ⊕ (Int32)) :=
  if (m.1 51 8) ≤ x4 then
    some (.inr x3)
  else
    if x3 = (-1) then
      (oAL m 55 x4).bind fun v48 =>
      (some ((v48 - 97)) : Option Int32).bind fun x5_52 =>
      (F_X9_isPair m x5_52).bind fun r57 =>
      if r57 = 0 then
        some (.inl (x2, x4, (x4 + 1)))
      else
        if x4 = 3 then
          some (.inl (x2, x4, (x4 + 1)))
        else
          if ((x2 >>> (x5_52 &&& 31)) &&& 1) = 1 then
            some (.inl (x2, x4, (x4 + 1)))
          else
            (some ((x2 ||| (1 <<< (x5_52 &&& 31)))) : Option Int32).bind fun x2_91 =>
            some (.inl (x2_91, x3, (x4 + 1)))
    else
      some (.inr x3)
def F_X9_train_L122 (x1 : Int32) (x4 : Int32) (x5 : Int32) (m : oM) : Option ((Int32 × oM) ⊕ (oM)) :=
  if x4 ≤ x5 then
    some (.inr m)
  else
    (oAL m 55 x5).bind fun v148 =>
    (oAS m 52 (((25 + (3 * x1)) + x5)) ((v148 - 97))).bind fun m152 =>
    some (.inl ((x5 + 1), m152))
def F_X9_train_J24 (m : oM) (x1 : Int32) (x2 : Int32) (t0 : Int32) : Option (Int32 × oM) :=
  (oLoop (fun s : Int32 × Int32 × Int32 => F_X9_train_L28 m x1 s.1 s.2.1 s.2.2) oFuel (x2, t0, 0)).bind fun b28 =>
  (some ((m.1 51 8)) : Option Int32).bind fun x4_102 =>
  (some (oSI m 51 8 0) : Option oM).bind fun m106 =>
  if b28 = (-1) then
    (oLoop (fun s : Int32 × oM => F_X9_train_L122 x1 x4_102 s.1 s.2) oFuel (0, m106)).bind fun b122 =>
    (oAS b122 52 ((19 + x1)) x4_102).bind fun m169 =>
    some (x4_102, m169)
  else
    some (((-100) - b28), m106)
def F_X9_train (m : oM) (x1 : Int32) : Option (Int32 × oM) :=
  (F_X9_isBody m x1).bind fun r2 =>
  if r2 = 0 then
    some ((-1), m)
  else
    if (m.1 51 8) = 0 then
      F_X9_train_J24 m x1 0 0
    else
      F_X9_train_J24 m x1 0 ((-1))
def F_X1_hasTrain (o : Nat) (m : oM) (x1 : Int32) : Option (Int32) :=
  (F_X1_hasBody o m x1).bind fun r2 =>
  if r2 = 0 then
    some 0
  else
    (F_X7_length (o + 8) m x1).bind fun r13 =>
    if r13 ≤ 0 then
      some 0
    else
      some 1
def F_X8_drop (m : oM) (x1 : Int32) : Option (Int32 × oM) :=
  (F_X1_hasBody 1 m x1).bind fun r5 =>
  if r5 = 0 then
    some ((-1), m)
  else
    (F_X1_hasTrain 1 m x1).bind fun r18 =>
    if r18 = 0 then
      some ((-3), m)
    else
      (F_X7_length 9 m x1).bind fun r35 =>
      (F_X7_cut 9 m x1 0).bind fun r48 =>
      some (r35, r48)
def F_X9_drop (m : oM) (x1 : Int32) : Option (Int32 × oM) :=
  (F_X9_isBody m x1).bind fun r2 =>
  if r2 = 0 then
    some ((-1), m)
  else
    (oAL m 52 ((19 + x1))).bind fun v18 =>
    if v18 = 0 then
      some ((-3), m)
    else
      (oAS m 52 ((19 + x1)) 0).bind fun m36 =>
      some (v18, m36)
def F_X8_asksPlace (x0 : Int32) : Option (Int32) :=
  if x0 < 10 then
    some 0
  else
    if 13 ≤ x0 then
      some 0
    else
      some 1
def F_X1_isRound_L4 (o : Nat) (m : oM) (x1 : Int32) (x2 : Int32) (x3 : Int32) : Option ((Int32 × Int32) ⊕ (Int32)) :=
  (F_X7_length (o + 8) m x1).bind fun r10 =>
  if r10 ≤ x3 then
    some (.inr x2)
  else
    (F_X7_pairAt (o + 8) m x1 x3).bind fun r26 =>
    (F_X2_goesRound (o + 3) m r26).bind fun r29 =>
    if r29 = 0 then
      some (.inl (x2, (x3 + 1)))
    else
      if x2 = 0 then
        some (.inl (1, (x3 + 1)))
      else
        some (.inl (0, (x3 + 1)))
def F_X1_isRound (o : Nat) (m : oM) (x1 : Int32) : Option (Int32) :=
  (oLoop (fun s : Int32 × Int32 => F_X1_isRound_L4 o m x1 s.1 s.2) oFuel (0, 0)).bind fun b4 =>
  oZ b4
def F_X8_of_J29 (m : oM) (x1 : Int32) (x2 : Int32) : Option (Int32) :=
  if x2 = 0 then
    (F_X7_length 9 m x1).bind fun r41 =>
    some r41
  else
    if x2 = 1 then
      (F_X1_isRound 1 m x1).bind fun r55 =>
      if r55 = 0 then
        some 0
      else
        some 1
    else
      (F_X7_length 9 m x1).bind fun r79 =>
      if r79 ≤ (x2 - 10) then
        some ((-5))
      else
        (F_X7_pairAt 9 m x1 ((x2 - 10))).bind fun r97 =>
        some r97
def F_X8_of (m : oM) (x1 : Int32) (x2 : Int32) : Option (Int32) :=
  (F_X1_hasBody 1 m x1).bind fun r5 =>
  if r5 = 0 then
    some ((-1))
  else
    if x2 = 0 then
      F_X8_of_J29 m x1 x2
    else
      if x2 = 1 then
        F_X8_of_J29 m x1 x2
      else
        (F_X8_asksPlace x2).bind fun r21 =>
        if r21 = 0 then
          some ((-1))
        else
          F_X8_of_J29 m x1 x2
def F_X9_isRound_L4 (m : oM) (x1 : Int32) (x2 : Int32) (x3 : Int32) : Option ((Int32 × Int32) ⊕ (Int32)) :=
  (oAL m 52 ((19 + x1))).bind fun v13 =>
  if v13 ≤ x3 then
    some (.inr x2)
  else
    (F_X9_pairAt m x1 x3).bind fun r27 =>
    (oAL m 52 ((43 + r27))).bind fun v31 =>
    if v31 = 5 then
      (some ((x2 + 0)) : Option Int32).bind fun x2_42 =>
      some (.inl (x2_42, (x3 + 1)))
    else
      (some ((x2 + 1)) : Option Int32).bind fun x2_42 =>
      some (.inl (x2_42, (x3 + 1)))
def F_X9_isRound (m : oM) (x1 : Int32) : Option (Int32) :=
  (oLoop (fun s : Int32 × Int32 => F_X9_isRound_L4 m x1 s.1 s.2) oFuel (0, 0)).bind fun b4 =>
  if (oRI b4 2) = 1 then
    some 1
  else
    some 0
def F_X9_of_J34 (m : oM) (x1 : Int32) (x2 : Int32) : Option (Int32) :=
  if 2 ≤ x2 then
    (oAL m 52 ((19 + x1))).bind fun v81 =>
    if v81 ≤ (x2 - 10) then
      some ((-5))
    else
      (F_X9_pairAt m x1 ((x2 - 10))).bind fun r91 =>
      some r91
  else
    if x2 = 0 then
      (oAL m 52 ((19 + x1))).bind fun v51 =>
      some v51
    else
      (F_X9_isRound m x1).bind fun r57 =>
      if r57 = 0 then
        some 0
      else
        some 1
def F_X9_of (m : oM) (x1 : Int32) (x2 : Int32) : Option (Int32) :=
  (F_X9_isBody m x1).bind fun r2 =>
  if r2 = 0 then
    some ((-1))
  else
    (F_X9_isIn (x2.toInt64) 0 1).bind fun r12 =>
    if r12 = 0 then
      (F_X9_isIn (x2.toInt64) 10 12).bind fun r26 =>
      if r26 = 0 then
        some ((-1))
      else
        F_X9_of_J34 m x1 x2
    else
      F_X9_of_J34 m x1 x2
def F_X1_drivers_L5 (o : Nat) (m : oM) (x1 : Int32) (x2 : Int64) (x4 : Int32) : Option ((Int64 × Int32) ⊕ (Int64)) :=
  (F_X7_length (o + 8) m x1).bind fun r12 =>
  if r12 ≤ x4 then
    some (.inr x2)
  else
    (F_X7_pairAt (o + 8) m x1 x4).bind fun r33 =>
    (F_X8_at (o + 6) m r33).bind fun r36 =>
    (some ((x2 * r36.toInt64)) : Option Int64).bind fun x2_41 =>
    some (.inl (x2_41, (x4 + 1)))
def F_X1_drivers (o : Nat) (m : oM) (x1 : Int32) : Option (Int64) :=
  (oLoop (fun s : Int64 × Int32 => F_X1_drivers_L5 o m x1 s.1 s.2) oFuel (1, 0)).bind fun b5 =>
  some b5
def F_X1_drivens_L5 (o : Nat) (m : oM) (x1 : Int32) (x2 : Int64) (x4 : Int32) : Option ((Int64 × Int32) ⊕ (Int64)) :=
  (F_X7_length (o + 8) m x1).bind fun r12 =>
  if r12 ≤ x4 then
    some (.inr x2)
  else
    (F_X7_pairAt (o + 8) m x1 x4).bind fun r33 =>
    (F_X8_at (o + 7) m r33).bind fun r36 =>
    (some ((x2 * r36.toInt64)) : Option Int64).bind fun x2_41 =>
    some (.inl (x2_41, (x4 + 1)))
def F_X1_drivens (o : Nat) (m : oM) (x1 : Int32) : Option (Int64) :=
  (oLoop (fun s : Int64 × Int32 => F_X1_drivens_L5 o m x1 s.1 s.2) oFuel (1, 0)).bind fun b5 =>
  some b5
def F_X8_turns (m : oM) (x1 : Int32) (x2 : Int32) : Option (Int64) :=
  (F_X1_hasTrain 1 m x1).bind fun r5 =>
  if r5 = 0 then
    some ((-9223372036854775808))
  else
    (F_X8_isPart x2).bind fun r12 =>
    if r12 = 0 then
      some ((-9223372036854775808))
    else
      (F_X1_drivers 1 m x1).bind fun r27 =>
      (F_X1_drivens 1 m x1).bind fun r35 =>
      (F_X8_lowest r27 r35 x2).bind fun r39 =>
      some r39
def F_X9_hasTrain (m : oM) (x1 : Int32) : Option (Int32) :=
  (F_X9_isBody m x1).bind fun r2 =>
  if r2 = 0 then
    some 0
  else
    (oAL m 52 ((19 + x1))).bind fun v16 =>
    if v16 ≤ 0 then
      some 0
    else
      some 1
def F_X9_product_L6 (m : oM) (x1 : Int32) (x2 : Int32) (x4 : Int32) (x5 : Int64) (x7 : Int32) : Option ((Int64 × Int32) ⊕ (Int64)) :=
  if x4 ≤ x7 then
    some (.inr x5)
  else
    (F_X9_pairAt m x1 x7).bind fun r24 =>
    (oAL m 52 ((x2 + r24))).bind fun v28 =>
    (some ((x5 * v28.toInt64)) : Option Int64).bind fun x5_31 =>
    some (.inl (x5_31, (x7 + 1)))
def F_X9_product (m : oM) (x1 : Int32) (x2 : Int32) (x3 : Int32) (x4 : Int32) : Option (Int64) :=
  (oLoop (fun s : Int64 × Int32 => F_X9_product_L6 m x1 x2 x4 s.1 s.2) oFuel (1, x3)).bind fun b6 =>
  some b6
def F_X9_drivers (m : oM) (x1 : Int32) : Option (Int64) :=
  (oAL m 52 ((19 + x1))).bind fun v13 =>
  (F_X9_product m x1 63 0 v13).bind fun r14 =>
  some r14
def F_X9_drivens (m : oM) (x1 : Int32) : Option (Int64) :=
  (oAL m 52 ((19 + x1))).bind fun v13 =>
  (F_X9_product m x1 73 0 v13).bind fun r14 =>
  some r14
def F_X9_turns (m : oM) (x1 : Int32) (x2 : Int32) : Option (Int64) :=
  (F_X9_hasTrain m x1).bind fun r2 =>
  if r2 = 0 then
    some ((-9223372036854775808))
  else
    (F_X9_isPart x2).bind fun r9 =>
    if r9 = 0 then
      some ((-9223372036854775808))
    else
      (F_X9_drivers m x1).bind fun r17 =>
      (F_X9_drivens m x1).bind fun r22 =>
      (F_X9_told r17 r22 x2).bind fun r26 =>
      some r26
def F_X1_wrongAbove (o : Nat) (m : oM) (x1 : Int32) : Option (Int64) :=
  (F_X1_drivers o m x1).bind fun r2 =>
  (F_X8_at (o + 2) m x1).bind fun r10 =>
  (F_X8_at (o + 1) m x1).bind fun r20 =>
  (F_X1_drivens o m x1).bind fun r26 =>
  some (((r2 * r10.toInt64) - (r20.toInt64 * r26)))
def F_X1_wrongBelow (o : Nat) (m : oM) (x1 : Int32) : Option (Int64) :=
  (F_X1_drivens o m x1).bind fun r2 =>
  (F_X8_at (o + 2) m x1).bind fun r10 =>
  some ((r2 * r10.toInt64))
def F_X8_wrong (m : oM) (x1 : Int32) (x2 : Int32) : Option (Int64) :=
  (F_X1_hasTrain 1 m x1).bind fun r5 =>
  if r5 = 0 then
    some ((-9223372036854775808))
  else
    (F_X8_isPart x2).bind fun r12 =>
    if r12 = 0 then
      some ((-9223372036854775808))
    else
      (F_X1_wrongAbove 1 m x1).bind fun r27 =>
      (F_X1_wrongBelow 1 m x1).bind fun r35 =>
      (F_X8_lowest r27 r35 x2).bind fun r39 =>
      some r39
def F_X9_off (m : oM) (x1 : Int32) (x2 : Int64) (x4 : Int64) : Option (Int64) :=
  (oAL m 52 ((13 + x1))).bind fun v9 =>
  (oAL m 52 ((7 + x1))).bind fun v22 =>
  some (((x2 * v9.toInt64) - (x4 * v22.toInt64)))
def F_X9_wrong (m : oM) (x1 : Int32) (x2 : Int32) : Option (Int64) :=
  (F_X9_hasTrain m x1).bind fun r2 =>
  if r2 = 0 then
    some ((-9223372036854775808))
  else
    (F_X9_isPart x2).bind fun r9 =>
    if r9 = 0 then
      some ((-9223372036854775808))
    else
      (F_X9_drivens m x1).bind fun r21 =>
      (F_X9_drivers m x1).bind fun r29 =>
      (F_X9_off m x1 r29 r21).bind fun r33 =>
      (oAL m 52 ((13 + x1))).bind fun v45 =>
      (F_X9_told r33 ((r21 * v45.toInt64)) x2).bind fun r49 =>
      some r49
def F_X1_slackAbove_L8 (o : Nat) (m : oM) (x1 : Int32) (x2 : Int64) (x4 : Int64) (x6 : Int32) : Option ((Int64 × Int64 × Int32) ⊕ (Int64)) :=
  (F_X7_length (o + 8) m x1).bind fun r15 =>
  if r15 ≤ x6 then
    some (.inr x2)
  else
    (F_X7_pairAt (o + 8) m x1 x6).bind fun r28 =>
    (F_X8_at (o + 6) m r28).bind fun r43 =>
    (F_X2_play (o + 3) m r28).bind fun r54 =>
    (some (((x2 * r43.toInt64) + (r54.toInt64 * x4))) : Option Int64).bind fun x2_62 =>
    (F_X8_at (o + 7) m r28).bind fun r74 =>
    (some ((x4 * r74.toInt64)) : Option Int64).bind fun x4_79 =>
    some (.inl (x2_62, x4_79, (x6 + 1)))
def F_X1_slackAbove (o : Nat) (m : oM) (x1 : Int32) : Option (Int64) :=
  (oLoop (fun s : Int64 × Int64 × Int32 => F_X1_slackAbove_L8 o m x1 s.1 s.2.1 s.2.2) oFuel (0, 1, 0)).bind fun b8 =>
  some b8
def F_X1_slackBelow (o : Nat) (m : oM) (x1 : Int32) : Option (Int64) :=
  (F_X1_drivens o m x1).bind fun r5 =>
  some ((100 * r5))
def F_X8_backlash (m : oM) (x1 : Int32) (x2 : Int32) : Option (Int64) :=
  (F_X1_hasTrain 1 m x1).bind fun r5 =>
  if r5 = 0 then
    some ((-9223372036854775808))
  else
    (F_X8_isPart x2).bind fun r12 =>
    if r12 = 0 then
      some ((-9223372036854775808))
    else
      (F_X1_slackAbove 1 m x1).bind fun r27 =>
      (F_X1_slackBelow 1 m x1).bind fun r35 =>
      (F_X8_lowest r27 r35 x2).bind fun r39 =>
      some r39
def F_X9_lag_L15 (m : oM) (x1 : Int32) (x2 : Int32) (x3 : Int64) (x5 : Int32) : Option ((Int64 × Int32) ⊕ (Int64)) :=
  if x2 ≤ x5 then
    some (.inr x3)
  else
    (F_X9_pairAt m x1 x5).bind fun r27 =>
    (F_X9_play m r27).bind fun r30 =>
    (F_X9_product m x1 73 0 x5).bind fun r41 =>
    (F_X9_product m x1 63 ((x5 + 1)) x2).bind fun r54 =>
    (some ((x3 + ((r30.toInt64 * r41) * r54))) : Option Int64).bind fun x3_59 =>
    some (.inl (x3_59, (x5 + 1)))
def F_X9_lag (m : oM) (x1 : Int32) : Option (Int64) :=
  (oAL m 52 ((19 + x1))).bind fun v8 =>
  (oLoop (fun s : Int64 × Int32 => F_X9_lag_L15 m x1 v8 s.1 s.2) oFuel (0, 0)).bind fun b15 =>
  some b15
def F_X9_backlash (m : oM) (x1 : Int32) (x2 : Int32) : Option (Int64) :=
  (F_X9_hasTrain m x1).bind fun r2 =>
  if r2 = 0 then
    some ((-9223372036854775808))
  else
    (F_X9_isPart x2).bind fun r9 =>
    if r9 = 0 then
      some ((-9223372036854775808))
    else
      (F_X9_lag m x1).bind fun r17 =>
      (F_X9_drivens m x1).bind fun r25 =>
      (F_X9_told r17 ((100 * r25)) x2).bind fun r30 =>
      some r30
def F_X8_areTwo (m : oM) (x1 : Int32) (x2 : Int32) : Option (Int32) :=
  (F_X1_hasBody 1 m x1).bind fun r5 =>
  if r5 = 0 then
    some 0
  else
    (F_X1_hasBody 1 m x2).bind fun r16 =>
    if r16 = 0 then
      some 0
    else
      if x1 = x2 then
        some 0
      else
        some 1
def F_J9_min_7cf53 (x0 : Int32) (x1 : Int32) : Option (Int32) :=
  if x1 < x0 then
    some x1
  else
    some x0
def F_X7_shared_L17 (o : Nat) (m : oM) (x1 : Int32) (x2 : Int32) (x3 : Int32) (x4 : Int32) : Option ((Int32) ⊕ ((Unit) ⊕ (Int32))) :=
  if x3 ≤ x4 then
    some (.inr (.inl ()))
  else
    (F_X7_pairAt o m x1 x4).bind fun r27 =>
    (F_X7_pairAt o m x2 x4).bind fun r34 =>
    if r27 = r34 then
      some (.inl (x4 + 1))
    else
      some (.inr (.inr x4))
def F_X7_shared (o : Nat) (m : oM) (x1 : Int32) (x2 : Int32) : Option (Int32) :=
  (F_X7_length o m x1).bind fun r2 =>
  (F_X7_length o m x2).bind fun r7 =>
  (F_J9_min_7cf53 r2 r7).bind fun r10 =>
  (oLoop (fun s : Int32 => F_X7_shared_L17 o m x1 x2 r10 s) oFuel 0).bind fun b17 => Sum.elim (fun y17 =>
    some r10) (fun z17 => some z17) b17
def F_X8_share (m : oM) (x1 : Int32) (x2 : Int32) : Option (Int32) :=
  (F_X8_areTwo m x1 x2).bind fun r3 =>
  if r3 = 0 then
    some ((-1))
  else
    (F_X1_hasTrain 1 m x1).bind fun r16 =>
    if r16 = 0 then
      some ((-3))
    else
      (F_X1_hasTrain 1 m x2).bind fun r27 =>
      if r27 = 0 then
        some ((-3))
      else
        (F_X7_shared 9 m x1 x2).bind fun r45 =>
        some r45
def F_X9_areTwo (m : oM) (x1 : Int32) (x2 : Int32) : Option (Int32) :=
  (F_X9_isBody m x1).bind fun r2 =>
  if r2 = 0 then
    some 0
  else
    (F_X9_isBody m x2).bind fun r10 =>
    if r10 = 0 then
      some 0
    else
      if x1 = x2 then
        some 0
      else
        some 1
def F_X9_shared_L2 (m : oM) (x1 : Int32) (x2 : Int32) (x3 : Int32) : Option ((Int32) ⊕ (Int32)) :=
  (oAL m 52 ((19 + x1))).bind fun v11 =>
  if v11 ≤ x3 then
    some (.inr x3)
  else
    (oAL m 52 ((19 + x2))).bind fun v24 =>
    if v24 ≤ x3 then
      some (.inr x3)
    else
      (F_X9_pairAt m x1 x3).bind fun r31 =>
      (F_X9_pairAt m x2 x3).bind fun r37 =>
      if r31 = r37 then
        some (.inl (x3 + 1))
      else
        some (.inr x3)
def F_X9_shared (m : oM) (x1 : Int32) (x2 : Int32) : Option (Int32) :=
  (oLoop (fun s : Int32 => F_X9_shared_L2 m x1 x2 s) oFuel 0).bind fun b2 =>
  some b2
def F_X9_share (m : oM) (x1 : Int32) (x2 : Int32) : Option (Int32) :=
  (F_X9_areTwo m x1 x2).bind fun r3 =>
  if r3 = 0 then
    some ((-1))
  else
    (F_X9_hasTrain m x1).bind fun r13 =>
    if r13 = 0 then
      some ((-3))
    else
      (F_X9_hasTrain m x2).bind fun r21 =>
      if r21 = 0 then
        some ((-3))
      else
        (F_X9_shared m x1 x2).bind fun r30 =>
        some r30
def F_X8_copy_L2 (p0 : Nat) (p1 : Nat) (x2 : Int32) (m : oM) : Option ((Int32 × oM) ⊕ (oM)) :=
  if (Int32.ofNat (oLn p0)) ≤ x2 then
    some (.inr m)
  else
    if (Int32.ofNat (oLn p1)) ≤ x2 then
      some (.inr m)
    else
      (oAL m p0 x2).bind fun v18 =>
      (oAS m p1 x2 v18).bind fun m19 =>
      some (.inl ((x2 + 1), m19))
def F_X8_copy (p0 : Nat) (p1 : Nat) (m : oM) : Option (oM) :=
  (oLoop (fun s : Int32 × oM => F_X8_copy_L2 p0 p1 s.1 s.2) oFuel (0, m)).bind fun b2 =>
  some b2
def F_X2_copyFrom (o : Nat) (q : Nat) (m : oM) : Option (oM) :=
  (some (oSI m o 0 ((m.1 q 0))) : Option oM).bind fun m5 =>
  (F_X8_copy (q + 1) (o + 1) m5).bind fun r16 =>
  (F_X8_copy (q + 2) (o + 2) r16).bind fun r27 =>
  (F_X8_copy (q + 3) (o + 3) r27).bind fun r38 =>
  (F_X8_copy (q + 4) (o + 4) r38).bind fun r49 =>
  some r49
def F_X7_copyFrom (o : Nat) (q : Nat) (m : oM) : Option (oM) :=
  (F_X8_copy (q + 1) (o + 1) m).bind fun r8 =>
  (F_X8_copy (q + 2) (o + 2) r8).bind fun r19 =>
  some r19
def F_X3_copyFrom (o : Nat) (q : Nat) (m : oM) : Option (oM) :=
  (some (oSI m o 0 ((m.1 q 0))) : Option oM).bind fun m5 =>
  (F_X8_copy (q + 1) (o + 1) m5).bind fun r16 =>
  (F_X8_copy (q + 2) (o + 2) r16).bind fun r27 =>
  some r27
def F_X1_copyFrom (o : Nat) (q : Nat) (m : oM) : Option (oM) :=
  (some (oSI m o 0 ((m.1 q 0))) : Option oM).bind fun m5 =>
  (F_X8_copy (q + 1) (o + 1) m5).bind fun r16 =>
  (F_X8_copy (q + 2) (o + 2) r16).bind fun r27 =>
  (some (oSI r27 o 3 ((r27.1 q 3))) : Option oM).bind fun m35 =>
  (some (oSI m35 o 4 ((m35.1 q 4))) : Option oM).bind fun m43 =>
  (F_X2_copyFrom (o + 3) (q + 3) m43).bind fun r54 =>
  (F_X7_copyFrom (o + 8) (q + 8) r54).bind fun r65 =>
  (some (oSI r65 o 7 ((r65.1 q 7))) : Option oM).bind fun m73 =>
  (oPZ m73 o 8 ((m73.1 q 8))).bind fun m81 =>
  (F_X3_copyFrom (o + 11) (q + 11) m81).bind fun r92 =>
  some r92
def F_X8_placeBy (m : oM) (x0 : Int32) (x1 : Int32) : Option (Int32) :=
  (F_X8_at 62 m (((x0 * 3) + x1))).bind fun r8 =>
  some r8
def F_J9_max_7cf53 (x0 : Int32) (x1 : Int32) : Option (Int32) :=
  if x0 < x1 then
    some x1
  else
    some x0
def F_X7_wheels_L15 (o : Nat) (m : oM) (x1 : Int32) (x2 : Int32) (x3 : Int32) (x4 : Int32) : Option ((Int32 × Int32) ⊕ (Int32)) :=
  if x2 ≤ x4 then
    some (.inr x3)
  else
    (F_X7_shared o m x2 x4).bind fun r26 =>
    (F_J9_max_7cf53 x3 r26).bind fun r29 =>
    some (.inl (r29, (x4 + 1)))
def F_X7_wheels_L4 (o : Nat) (m : oM) (x1 : Int32) (x2 : Int32) : Option ((Int32 × Int32) ⊕ (Int32)) :=
  if 6 ≤ x2 then
    some (.inr x1)
  else
    (oLoop (fun s : Int32 × Int32 => F_X7_wheels_L15 o m x1 x2 s.1 s.2) oFuel (0, 0)).bind fun b15 =>
    (F_X7_length o m x2).bind fun r43 =>
    (some ((x1 + (2 * (r43 - b15)))) : Option Int32).bind fun x1_50 =>
    some (.inl (x1_50, (x2 + 1)))
def F_X7_wheels (o : Nat) (m : oM) : Option (Int32) :=
  (oLoop (fun s : Int32 × Int32 => F_X7_wheels_L4 o m s.1 s.2) oFuel (0, 0)).bind fun b4 =>
  some b4
def F_X8_wheelsBy_L13 (x1 : Int32) (x2 : Int32) (x3 : Int32) (m : oM) : Option ((Int32 × oM) ⊕ (oM)) :=
  (F_X7_length 9 m x1).bind fun r22 =>
  if r22 ≤ x3 then
    some (.inr m)
  else
    (F_X8_placeBy m x2 x3).bind fun r47 =>
    (F_X7_pairAt 9 m x1 r47).bind fun r50 =>
    (F_X7_become 37 m x1 x3 r50).bind fun r53 =>
    some (.inl ((x3 + 1), r53))
def F_X8_wheelsBy (m : oM) (x1 : Int32) (x2 : Int32) : Option (Int32 × oM) :=
  (F_X1_copyFrom 29 1 m).bind fun r8 =>
  (oLoop (fun s : Int32 × oM => F_X8_wheelsBy_L13 x1 x2 s.1 s.2) oFuel (0, r8)).bind fun b13 =>
  (F_X7_wheels 37 b13).bind fun r69 =>
  some (r69, b13)
def F_X8_isOrderOf_L2 (m : oM) (x0 : Int32) (x1 : Int32) (x2 : Int32) : Option ((Int32) ⊕ ((Unit) ⊕ (Int32))) :=
  if x1 ≤ x2 then
    some (.inr (.inl ()))
  else
    (F_X8_placeBy m x0 x2).bind fun r9 =>
    if r9 < x1 then
      some (.inl (x2 + 1))
    else
      some (.inr (.inr 0))
def F_X8_isOrderOf (m : oM) (x0 : Int32) (x1 : Int32) : Option (Int32) :=
  (oLoop (fun s : Int32 => F_X8_isOrderOf_L2 m x0 x1 s) oFuel 0).bind fun b2 => Sum.elim (fun y2 =>
    some 1) (fun z2 => oZ z2) b2
def F_X8_bestOrder_L12 (x1 : Int32) (x2 : Int32) (x3 : Int32) (x4 : Int32) (m : oM) : Option ((Int32 × Int32 × Int32 × oM) ⊕ (Int32 × oM)) :=
  if (18 / 3) ≤ x4 then
    some (.inr (x2, m))
  else
    (F_X7_length 9 m x1).bind fun r33 =>
    (F_X8_isOrderOf m x4 r33).bind fun r36 =>
    if r36 = 0 then
      some (.inl (x2, x3, (x4 + 1), m))
    else
      (F_X8_wheelsBy m x1 x4).bind fun r46 =>
      if x3 ≤ r46.1 then
        some (.inl (x2, x3, (x4 + 1), r46.2))
      else
        some (.inl (x4, r46.1, (x4 + 1), r46.2))
def F_X8_bestOrder (m : oM) (x1 : Int32) : Option (Int32 × oM) :=
  (F_X8_wheelsBy m x1 0).bind fun r5 =>
  (oLoop (fun s : Int32 × Int32 × Int32 × oM => F_X8_bestOrder_L12 x1 s.1 s.2.1 s.2.2.1 s.2.2.2) oFuel (0, r5.1, 1, r5.2)).bind fun b12 =>
  some (b12.1, b12.2)
def F_X8_order_J24 (m : oM) (x1 : Int32) (x2 : Int32) : Option (Int32 × oM) :=
  (F_X1_hasTrain 1 m x1).bind fun r29 =>
  if r29 = 0 then
    some ((-3), m)
  else
    (F_X8_bestOrder m x1).bind fun r40 =>
    if x2 = 0 then
      (F_X8_wheelsBy r40.2 x1 (r40.1)).bind fun r51 =>
      some (r51.1, r51.2)
    else
      (F_X7_length 9 r40.2 x1).bind fun r67 =>
      if (x2 - 10) < r67 then
        (F_X8_placeBy r40.2 (r40.1) ((x2 - 10))).bind fun r89 =>
        (F_X7_pairAt 9 r40.2 x1 r89).bind fun r92 =>
        some (r92, r40.2)
      else
        some ((-5), r40.2)
def F_X8_order (m : oM) (x1 : Int32) (x2 : Int32) : Option (Int32 × oM) :=
  (F_X1_hasBody 1 m x1).bind fun r5 =>
  if r5 = 0 then
    some ((-1), m)
  else
    if x2 = 0 then
      F_X8_order_J24 m x1 x2
    else
      (F_X8_asksPlace x2).bind fun r16 =>
      if r16 = 0 then
        some ((-1), m)
      else
        F_X8_order_J24 m x1 x2
def F_X9_wheels_L19 (m : oM) (x1 : Int32) (x2 : Int32) (x3 : Int32) (x4 : Int32) : Option ((Int32 × Int32) ⊕ (Int32)) :=
  if x2 ≤ x4 then
    some (.inr x3)
  else
    (F_X9_shared m x2 x4).bind fun r29 =>
    if r29 ≤ x3 then
      some (.inl (x3, (x4 + 1)))
    else
      (F_X9_shared m x2 x4).bind fun r40 =>
      some (.inl (r40, (x4 + 1)))
def F_X9_wheels_L4 (m : oM) (x1 : Int32) (x2 : Int32) : Option ((Int32 × Int32) ⊕ (Int32)) :=
  if (m.1 52 0) ≤ x2 then
    some (.inr x1)
  else
    (oLoop (fun s : Int32 × Int32 => F_X9_wheels_L19 m x1 x2 s.1 s.2) oFuel (0, 0)).bind fun b19 =>
    (oAL m 52 ((19 + x2))).bind fun v64 =>
    (some ((x1 + (2 * (v64 - b19)))) : Option Int32).bind fun x1_69 =>
    some (.inl (x1_69, (x2 + 1)))
def F_X9_wheels (m : oM) : Option (Int32) :=
  (oLoop (fun s : Int32 × Int32 => F_X9_wheels_L4 m s.1 s.2) oFuel (0, 0)).bind fun b4 =>
  some b4
def F_X9_order_J295 (m : oM) (x1 : Int32) (x2 : Int32) (x3 : Int32) (x4 : Int32) (x5 : Int32) (x6 : Int32) (x8 : Int32) (x9 : Int32) (x13 : Int32) : Option ((Int32 × Int32 × Int32 × oM) ⊕ (Int32 × Int32 × oM)) :=
  if x2 ≤ 0 then
    some (.inl (x13, x8, (x9 + 1), m))
  else
    (F_X9_pairAt m x1 ((x2 - 10))).bind fun r309 =>
    some (.inl (x13, r309, (x9 + 1), m))
def F_X9_order_J167 (m : oM) (x1 : Int32) (x2 : Int32) (x3 : Int32) (x4 : Int32) (x5 : Int32) (x6 : Int32) (x7 : Int32) (x8 : Int32) (x9 : Int32) (x10 : Int32) (x11 : Int32) (x12 : Int32) : Option ((Int32 × Int32 × Int32 × oM) ⊕ (Int32 × Int32 × oM)) :=
  if x10 = 0 then
    (oAS m 52 ((25 + (3 * x1))) x4).bind fun m200 =>
    if x11 = 0 then
      (oAS m200 52 (((25 + (3 * x1)) + 1)) x4).bind fun m236 =>
      if x12 = 0 then
        (oAS m236 52 (((25 + (3 * x1)) + 2)) x4).bind fun m272 =>
        (F_X9_wheels m272).bind fun r274 =>
        if x7 = (-1) then
          F_X9_order_J295 m272 x1 x2 x3 x4 x5 x6 x8 x9 r274
        else
          if r274 < x7 then
            F_X9_order_J295 m272 x1 x2 x3 x4 x5 x6 x8 x9 r274
          else
            some (.inl (x7, x8, (x9 + 1), m272))
      else
        if x12 = 1 then
          (oAS m236 52 (((25 + (3 * x1)) + 2)) x5).bind fun m272 =>
          (F_X9_wheels m272).bind fun r274 =>
          if x7 = (-1) then
            F_X9_order_J295 m272 x1 x2 x3 x4 x5 x6 x8 x9 r274
          else
            if r274 < x7 then
              F_X9_order_J295 m272 x1 x2 x3 x4 x5 x6 x8 x9 r274
            else
              some (.inl (x7, x8, (x9 + 1), m272))
        else
          (oAS m236 52 (((25 + (3 * x1)) + 2)) x6).bind fun m272 =>
          (F_X9_wheels m272).bind fun r274 =>
          if x7 = (-1) then
            F_X9_order_J295 m272 x1 x2 x3 x4 x5 x6 x8 x9 r274
          else
            if r274 < x7 then
              F_X9_order_J295 m272 x1 x2 x3 x4 x5 x6 x8 x9 r274
            else
              some (.inl (x7, x8, (x9 + 1), m272))
    else
      if x11 = 1 then
        (oAS m200 52 (((25 + (3 * x1)) + 1)) x5).bind fun m236 =>
        if x12 = 0 then
          (oAS m236 52 (((25 + (3 * x1)) + 2)) x4).bind fun m272 =>
          (F_X9_wheels m272).bind fun r274 =>
          if x7 = (-1) then
            F_X9_order_J295 m272 x1 x2 x3 x4 x5 x6 x8 x9 r274
          else
            if r274 < x7 then
              F_X9_order_J295 m272 x1 x2 x3 x4 x5 x6 x8 x9 r274
            else
              some (.inl (x7, x8, (x9 + 1), m272))
        else
          if x12 = 1 then
            (oAS m236 52 (((25 + (3 * x1)) + 2)) x5).bind fun m272 =>
            (F_X9_wheels m272).bind fun r274 =>
            if x7 = (-1) then
              F_X9_order_J295 m272 x1 x2 x3 x4 x5 x6 x8 x9 r274
            else
              if r274 < x7 then
                F_X9_order_J295 m272 x1 x2 x3 x4 x5 x6 x8 x9 r274
              else
                some (.inl (x7, x8, (x9 + 1), m272))
          else
            (oAS m236 52 (((25 + (3 * x1)) + 2)) x6).bind fun m272 =>
            (F_X9_wheels m272).bind fun r274 =>
            if x7 = (-1) then
              F_X9_order_J295 m272 x1 x2 x3 x4 x5 x6 x8 x9 r274
            else
              if r274 < x7 then
                F_X9_order_J295 m272 x1 x2 x3 x4 x5 x6 x8 x9 r274
              else
                some (.inl (x7, x8, (x9 + 1), m272))
      else
        (oAS m200 52 (((25 + (3 * x1)) + 1)) x6).bind fun m236 =>
        if x12 = 0 then
          (oAS m236 52 (((25 + (3 * x1)) + 2)) x4).bind fun m272 =>
          (F_X9_wheels m272).bind fun r274 =>
          if x7 = (-1) then
            F_X9_order_J295 m272 x1 x2 x3 x4 x5 x6 x8 x9 r274
          else
            if r274 < x7 then
              F_X9_order_J295 m272 x1 x2 x3 x4 x5 x6 x8 x9 r274
            else
              some (.inl (x7, x8, (x9 + 1), m272))
        else
          if x12 = 1 then
            (oAS m236 52 (((25 + (3 * x1)) + 2)) x5).bind fun m272 =>
            (F_X9_wheels m272).bind fun r274 =>
            if x7 = (-1) then
              F_X9_order_J295 m272 x1 x2 x3 x4 x5 x6 x8 x9 r274
            else
              if r274 < x7 then
                F_X9_order_J295 m272 x1 x2 x3 x4 x5 x6 x8 x9 r274
              else
                some (.inl (x7, x8, (x9 + 1), m272))
          else
            (oAS m236 52 (((25 + (3 * x1)) + 2)) x6).bind fun m272 =>
            (F_X9_wheels m272).bind fun r274 =>
            if x7 = (-1) then
              F_X9_order_J295 m272 x1 x2 x3 x4 x5 x6 x8 x9 r274
            else
              if r274 < x7 then
                F_X9_order_J295 m272 x1 x2 x3 x4 x5 x6 x8 x9 r274
              else
                some (.inl (x7, x8, (x9 + 1), m272))
  else
    if x10 = 1 then
      (oAS m 52 ((25 + (3 * x1))) x5).bind fun m200 =>
      if x11 = 0 then
        (oAS m200 52 (((25 + (3 * x1)) + 1)) x4).bind fun m236 =>
        if x12 = 0 then
          (oAS m236 52 (((25 + (3 * x1)) + 2)) x4).bind fun m272 =>
          (F_X9_wheels m272).bind fun r274 =>
          if x7 = (-1) then
            F_X9_order_J295 m272 x1 x2 x3 x4 x5 x6 x8 x9 r274
          else
            if r274 < x7 then
              F_X9_order_J295 m272 x1 x2 x3 x4 x5 x6 x8 x9 r274
            else
              some (.inl (x7, x8, (x9 + 1), m272))
        else
          if x12 = 1 then
            (oAS m236 52 (((25 + (3 * x1)) + 2)) x5).bind fun m272 =>
            (F_X9_wheels m272).bind fun r274 =>
            if x7 = (-1) then
              F_X9_order_J295 m272 x1 x2 x3 x4 x5 x6 x8 x9 r274
            else
              if r274 < x7 then
                F_X9_order_J295 m272 x1 x2 x3 x4 x5 x6 x8 x9 r274
              else
                some (.inl (x7, x8, (x9 + 1), m272))
          else
            (oAS m236 52 (((25 + (3 * x1)) + 2)) x6).bind fun m272 =>
            (F_X9_wheels m272).bind fun r274 =>
            if x7 = (-1) then
              F_X9_order_J295 m272 x1 x2 x3 x4 x5 x6 x8 x9 r274
            else
              if r274 < x7 then
                F_X9_order_J295 m272 x1 x2 x3 x4 x5 x6 x8 x9 r274
              else
                some (.inl (x7, x8, (x9 + 1), m272))
      else
        if x11 = 1 then
          (oAS m200 52 (((25 + (3 * x1)) + 1)) x5).bind fun m236 =>
          if x12 = 0 then
            (oAS m236 52 (((25 + (3 * x1)) + 2)) x4).bind fun m272 =>
            (F_X9_wheels m272).bind fun r274 =>
            if x7 = (-1) then
              F_X9_order_J295 m272 x1 x2 x3 x4 x5 x6 x8 x9 r274
            else
              if r274 < x7 then
                F_X9_order_J295 m272 x1 x2 x3 x4 x5 x6 x8 x9 r274
              else
                some (.inl (x7, x8, (x9 + 1), m272))
          else
            if x12 = 1 then
              (oAS m236 52 (((25 + (3 * x1)) + 2)) x5).bind fun m272 =>
              (F_X9_wheels m272).bind fun r274 =>
              if x7 = (-1) then
                F_X9_order_J295 m272 x1 x2 x3 x4 x5 x6 x8 x9 r274
              else
                if r274 < x7 then
                  F_X9_order_J295 m272 x1 x2 x3 x4 x5 x6 x8 x9 r274
                else
                  some (.inl (x7, x8, (x9 + 1), m272))
            else
              (oAS m236 52 (((25 + (3 * x1)) + 2)) x6).bind fun m272 =>
              (F_X9_wheels m272).bind fun r274 =>
              if x7 = (-1) then
                F_X9_order_J295 m272 x1 x2 x3 x4 x5 x6 x8 x9 r274
              else
                if r274 < x7 then
                  F_X9_order_J295 m272 x1 x2 x3 x4 x5 x6 x8 x9 r274
                else
                  some (.inl (x7, x8, (x9 + 1), m272))
        else
          (oAS m200 52 (((25 + (3 * x1)) + 1)) x6).bind fun m236 =>
          if x12 = 0 then
            (oAS m236 52 (((25 + (3 * x1)) + 2)) x4).bind fun m272 =>
            (F_X9_wheels m272).bind fun r274 =>
            if x7 = (-1) then
              F_X9_order_J295 m272 x1 x2 x3 x4 x5 x6 x8 x9 r274
            else
              if r274 < x7 then
                F_X9_order_J295 m272 x1 x2 x3 x4 x5 x6 x8 x9 r274
              else
                some (.inl (x7, x8, (x9 + 1), m272))
          else
            if x12 = 1 then
              (oAS m236 52 (((25 + (3 * x1)) + 2)) x5).bind fun m272 =>
              (F_X9_wheels m272).bind fun r274 =>
              if x7 = (-1) then
                F_X9_order_J295 m272 x1 x2 x3 x4 x5 x6 x8 x9 r274
              else
                if r274 < x7 then
                  F_X9_order_J295 m272 x1 x2 x3 x4 x5 x6 x8 x9 r274
                else
                  some (.inl (x7, x8, (x9 + 1), m272))
            else
              (oAS m236 52 (((25 + (3 * x1)) + 2)) x6).bind fun m272 =>
              (F_X9_wheels m272).bind fun r274 =>
              if x7 = (-1) then
                F_X9_order_J295 m272 x1 x2 x3 x4 x5 x6 x8 x9 r274
              else
                if r274 < x7 then
                  F_X9_order_J295 m272 x1 x2 x3 x4 x5 x6 x8 x9 r274
                else
                  some (.inl (x7, x8, (x9 + 1), m272))
    else
      (oAS m 52 ((25 + (3 * x1))) x6).bind fun m200 =>
      if x11 = 0 then
        (oAS m200 52 (((25 + (3 * x1)) + 1)) x4).bind fun m236 =>
        if x12 = 0 then
          (oAS m236 52 (((25 + (3 * x1)) + 2)) x4).bind fun m272 =>
          (F_X9_wheels m272).bind fun r274 =>
          if x7 = (-1) then
            F_X9_order_J295 m272 x1 x2 x3 x4 x5 x6 x8 x9 r274
          else
            if r274 < x7 then
              F_X9_order_J295 m272 x1 x2 x3 x4 x5 x6 x8 x9 r274
            else
              some (.inl (x7, x8, (x9 + 1), m272))
        else
          if x12 = 1 then
            (oAS m236 52 (((25 + (3 * x1)) + 2)) x5).bind fun m272 =>
            (F_X9_wheels m272).bind fun r274 =>
            if x7 = (-1) then
              F_X9_order_J295 m272 x1 x2 x3 x4 x5 x6 x8 x9 r274
            else
              if r274 < x7 then
                F_X9_order_J295 m272 x1 x2 x3 x4 x5 x6 x8 x9 r274
              else
                some (.inl (x7, x8, (x9 + 1), m272))
          else
            (oAS m236 52 (((25 + (3 * x1)) + 2)) x6).bind fun m272 =>
            (F_X9_wheels m272).bind fun r274 =>
            if x7 = (-1) then
              F_X9_order_J295 m272 x1 x2 x3 x4 x5 x6 x8 x9 r274
            else
              if r274 < x7 then
                F_X9_order_J295 m272 x1 x2 x3 x4 x5 x6 x8 x9 r274
              else
                some (.inl (x7, x8, (x9 + 1), m272))
      else
        if x11 = 1 then
          (oAS m200 52 (((25 + (3 * x1)) + 1)) x5).bind fun m236 =>
          if x12 = 0 then
            (oAS m236 52 (((25 + (3 * x1)) + 2)) x4).bind fun m272 =>
            (F_X9_wheels m272).bind fun r274 =>
            if x7 = (-1) then
              F_X9_order_J295 m272 x1 x2 x3 x4 x5 x6 x8 x9 r274
            else
              if r274 < x7 then
                F_X9_order_J295 m272 x1 x2 x3 x4 x5 x6 x8 x9 r274
              else
                some (.inl (x7, x8, (x9 + 1), m272))
          else
            if x12 = 1 then
              (oAS m236 52 (((25 + (3 * x1)) + 2)) x5).bind fun m272 =>
              (F_X9_wheels m272).bind fun r274 =>
              if x7 = (-1) then
                F_X9_order_J295 m272 x1 x2 x3 x4 x5 x6 x8 x9 r274
              else
                if r274 < x7 then
                  F_X9_order_J295 m272 x1 x2 x3 x4 x5 x6 x8 x9 r274
                else
                  some (.inl (x7, x8, (x9 + 1), m272))
            else
              (oAS m236 52 (((25 + (3 * x1)) + 2)) x6).bind fun m272 =>
              (F_X9_wheels m272).bind fun r274 =>
              if x7 = (-1) then
                F_X9_order_J295 m272 x1 x2 x3 x4 x5 x6 x8 x9 r274
              else
                if r274 < x7 then
                  F_X9_order_J295 m272 x1 x2 x3 x4 x5 x6 x8 x9 r274
                else
                  some (.inl (x7, x8, (x9 + 1), m272))
        else
          (oAS m200 52 (((25 + (3 * x1)) + 1)) x6).bind fun m236 =>
          if x12 = 0 then
            (oAS m236 52 (((25 + (3 * x1)) + 2)) x4).bind fun m272 =>
            (F_X9_wheels m272).bind fun r274 =>
            if x7 = (-1) then
              F_X9_order_J295 m272 x1 x2 x3 x4 x5 x6 x8 x9 r274
            else
              if r274 < x7 then
                F_X9_order_J295 m272 x1 x2 x3 x4 x5 x6 x8 x9 r274
              else
                some (.inl (x7, x8, (x9 + 1), m272))
          else
            if x12 = 1 then
              (oAS m236 52 (((25 + (3 * x1)) + 2)) x5).bind fun m272 =>
              (F_X9_wheels m272).bind fun r274 =>
              if x7 = (-1) then
                F_X9_order_J295 m272 x1 x2 x3 x4 x5 x6 x8 x9 r274
              else
                if r274 < x7 then
                  F_X9_order_J295 m272 x1 x2 x3 x4 x5 x6 x8 x9 r274
                else
                  some (.inl (x7, x8, (x9 + 1), m272))
            else
              (oAS m236 52 (((25 + (3 * x1)) + 2)) x6).bind fun m272 =>
              (F_X9_wheels m272).bind fun r274 =>
              if x7 = (-1) then
                F_X9_order_J295 m272 x1 x2 x3 x4 x5 x6 x8 x9 r274
              else
                if r274 < x7 then
                  F_X9_order_J295 m272 x1 x2 x3 x4 x5 x6 x8 x9 r274
                else
                  some (.inl (x7, x8, (x9 + 1), m272))
def F_X9_order_J153 (m : oM) (x1 : Int32) (x2 : Int32) (x3 : Int32) (x4 : Int32) (x5 : Int32) (x6 : Int32) (x7 : Int32) (x8 : Int32) (x9 : Int32) (x10 : Int32) (x11 : Int32) (x12 : Int32) : Option ((Int32 × Int32 × Int32 × oM) ⊕ (Int32 × Int32 × oM)) :=
  if 2 ≤ x3 then
    F_X9_order_J167 m x1 x2 x3 x4 x5 x6 x7 x8 x9 x10 x11 x12
  else
    if x11 = 1 then
      F_X9_order_J167 m x1 x2 x3 x4 x5 x6 x7 x8 x9 x10 x11 x12
    else
      some (.inl (x7, x8, (x9 + 1), m))
def F_X9_order_L93 (x1 : Int32) (x2 : Int32) (x3 : Int32) (x4 : Int32) (x5 : Int32) (x6 : Int32) (x7 : Int32) (x8 : Int32) (x9 : Int32) (m : oM) : Option ((Int32 × Int32 × Int32 × oM) ⊕ (Int32 × Int32 × oM)) :=
  if 27 ≤ x9 then
    some (.inr (x7, x8, m))
  else
    (some ((x9 / 9)) : Option Int32).bind fun x10_105 =>
    (some ((oRI ((x9 / 3)) 3)) : Option Int32).bind fun x11_113 =>
    (some ((oRI x9 3)) : Option Int32).bind fun x12_119 =>
    if x10_105 = x11_113 then
      some (.inl (x7, x8, (x9 + 1), m))
    else
      if x11_113 = x12_119 then
        some (.inl (x7, x8, (x9 + 1), m))
      else
        if x10_105 = x12_119 then
          some (.inl (x7, x8, (x9 + 1), m))
        else
          if 3 ≤ x3 then
            F_X9_order_J153 m x1 x2 x3 x4 x5 x6 x7 x8 x9 x10_105 x11_113 x12_119
          else
            if x12_119 = 2 then
              F_X9_order_J153 m x1 x2 x3 x4 x5 x6 x7 x8 x9 x10_105 x11_113 x12_119
            else
              some (.inl (x7, x8, (x9 + 1), m))
def F_X9_order_J60 (m : oM) (x1 : Int32) (x2 : Int32) (x3 : Int32) : Option (Int32 × oM) :=
  (F_X9_pairAt m x1 0).bind fun r63 =>
  (F_X9_pairAt m x1 1).bind fun r71 =>
  (F_X9_pairAt m x1 2).bind fun r79 =>
  (oLoop (fun s : Int32 × Int32 × Int32 × oM => F_X9_order_L93 x1 x2 x3 r63 r71 r79 s.1 s.2.1 s.2.2.1 s.2.2.2) oFuel ((-1), 0, 0, m)).bind fun b93 =>
  (oAS b93.2.2 52 ((25 + (3 * x1))) r63).bind fun m332 =>
  (oAS m332 52 (((25 + (3 * x1)) + 1)) r71).bind fun m347 =>
  (oAS m347 52 (((25 + (3 * x1)) + 2)) r79).bind fun m362 =>
  if x2 = 0 then
    some (b93.1, m362)
  else
    some (b93.2.1, m362)
def F_X9_order_J28 (m : oM) (x1 : Int32) (x2 : Int32) : Option (Int32 × oM) :=
  (oAL m 52 ((19 + x1))).bind fun v36 =>
  if v36 = 0 then
    some ((-3), m)
  else
    if x2 ≤ 0 then
      F_X9_order_J60 m x1 x2 v36
    else
      if (x2 - 10) < v36 then
        F_X9_order_J60 m x1 x2 v36
      else
        some ((-5), m)
def F_X9_order (m : oM) (x1 : Int32) (x2 : Int32) : Option (Int32 × oM) :=
  (F_X9_isBody m x1).bind fun r2 =>
  if r2 = 0 then
    some ((-1), m)
  else
    if x2 = 0 then
      F_X9_order_J28 m x1 x2
    else
      (F_X9_isIn (x2.toInt64) 10 12).bind fun r20 =>
      if r20 = 0 then
        some ((-1), m)
      else
        F_X9_order_J28 m x1 x2
def F_X0_product (x0 : Int32) (x1 : Int32) : Option (Int64) :=
  if x1 = 0 then
    some (x0.toInt64)
  else
    some ((x0.toInt64 * x1.toInt64))
def F_X0_isOnePair (m : oM) : Option (Int32) :=
  if (m.1 50 5) = 0 then
    some 1
  else
    some 0
def F_X0_allTeeth (m : oM) : Option (Int32) :=
  some (((((m.1 50 4) + (m.1 50 5)) + (m.1 50 6)) + (m.1 50 7)))
def F_X0_isAhead_J9 (m : oM) (x1 : Int32) (x2 : Int32) (x3 : Int32) (x4 : Int32) (t0 : Int32) : Option (Int32) :=
  (F_X0_isOnePair m).bind fun r10 =>
  if t0 = r10 then
    (some ((((x1 + x2) + x3) + x4)) : Option Int32).bind fun x5_34 =>
    (F_X0_allTeeth m).bind fun r39 =>
    if x5_34 = r39 then
      if x1 = (m.1 50 4) then
        if x2 = (m.1 50 5) then
          if (m.1 50 6) ≤ x3 then
            some 0
          else
            some 1
        else
          if (m.1 50 5) ≤ x2 then
            some 0
          else
            some 1
      else
        if (m.1 50 4) ≤ x1 then
          some 0
        else
          some 1
    else
      (F_X0_allTeeth m).bind fun r48 =>
      if r48 ≤ x5_34 then
        some 0
      else
        some 1
  else
    if x2 = 0 then
      some 1
    else
      some 0
def F_X0_isAhead (m : oM) (x1 : Int32) (x2 : Int32) (x3 : Int32) (x4 : Int32) : Option (Int32) :=
  if x2 = 0 then
    F_X0_isAhead_J9 m x1 x2 x3 x4 1
  else
    F_X0_isAhead_J9 m x1 x2 x3 x4 0
def F_X0_offer_J80 (m : oM) (x1 : Int32) (x2 : Int32) (x3 : Int32) (x4 : Int32) (x5 : Int64) (x7 : Int64) : Option (oM) :=
  (some (oSI m 50 4 x1) : Option oM).bind fun m82 =>
  (some (oSI m82 50 5 x2) : Option oM).bind fun m87 =>
  (some (oSI m87 50 6 x3) : Option oM).bind fun m92 =>
  (some (oSI m92 50 7 x4) : Option oM).bind fun m98 =>
  (some (oSL m98 50 8 x7) : Option oM).bind fun m104 =>
  (some (oSL m104 50 9 x5) : Option oM).bind fun m110 =>
  some m110
def F_X0_offer (m : oM) (x1 : Int32) (x2 : Int32) (x3 : Int32) (x4 : Int32) : Option (oM) :=
  (F_X0_product x3 x4).bind fun r3 =>
  (F_X0_product x1 x2).bind fun r10 =>
  (some (((r10 * (m.2 50 1)) - ((m.2 50 0) * r3))) : Option Int64).bind fun x7_26 =>
  (F_J9_abs_067f4 x7_26).bind fun r30 =>
  (some ((r30 * (m.2 50 9))) : Option Int64).bind fun x9_38 =>
  (F_J9_abs_067f4 ((m.2 50 8))).bind fun r44 =>
  (some ((r44 * r3)) : Option Int64).bind fun x11_50 =>
  if x9_38 < x11_50 then
    F_X0_offer_J80 m x1 x2 x3 x4 r3 x7_26
  else
    if x9_38 = x11_50 then
      (F_X0_isAhead m x1 x2 x3 x4).bind fun r74 =>
      if r74 = 0 then
        some m
      else
        F_X0_offer_J80 m x1 x2 x3 x4 r3 x7_26
    else
      some m
def F_X0_seekOnePair_L18 (x1 : Int32) (x2 : Int32) (m : oM) : Option ((Int32 × oM) ⊕ (oM)) :=
  if (m.1 50 3) < x2 then
    some (.inr m)
  else
    (F_X0_offer m x1 0 x2 0).bind fun r31 =>
    some (.inl ((x2 + 1), r31))
def F_X0_seekOnePair_L5 (x1 : Int32) (m : oM) : Option ((Int32 × oM) ⊕ (oM)) :=
  if (m.1 50 3) < x1 then
    some (.inr m)
  else
    (some ((m.1 50 2)) : Option Int32).bind fun x2_17 =>
    (oLoop (fun s : Int32 × oM => F_X0_seekOnePair_L18 x1 s.1 s.2) oFuel (x2_17, m)).bind fun b18 =>
    some (.inl ((x1 + 1), b18))
def F_X0_seekOnePair (m : oM) : Option (oM) :=
  (some ((m.1 50 2)) : Option Int32).bind fun x1_4 =>
  (oLoop (fun s : Int32 × oM => F_X0_seekOnePair_L5 s.1 s.2) oFuel (x1_4, m)).bind fun b5 =>
  some b5
def F_J9_min_f86c9 (x0 : Int64) (x2 : Int64) : Option (Int64) :=
  if x2 < x0 then
    some x2
  else
    some x0
def F_J9_max_f86c9 (x0 : Int64) (x2 : Int64) : Option (Int64) :=
  if x0 < x2 then
    some x2
  else
    some x0
def F_X0_within (x0 : Int64) (x2 : Int32) (x3 : Int32) : Option (Int32) :=
  (F_J9_min_f86c9 (x3.toInt64) x0).bind fun r5 =>
  (F_J9_max_f86c9 (x2.toInt64) r5).bind fun r8 =>
  some (r8.toInt32)
def F_X0_offerFourth (m : oM) (x1 : Int32) (x2 : Int32) (x3 : Int32) : Option (oM) :=
  (F_X8_quotient ((((m.2 50 0) * x2.toInt64) * x3.toInt64)) (((m.2 50 1) * x1.toInt64))).bind fun r17 =>
  (F_X0_within r17 x1 ((m.1 50 3))).bind fun r29 =>
  (F_X0_within ((r17 + 1)) x1 ((m.1 50 3))).bind fun r43 =>
  (F_X0_offer m x1 r29 x2 x3).bind fun r54 =>
  if r43 = r29 then
    some r54
  else
    (F_X0_offer r54 x1 r43 x2 x3).bind fun r70 =>
    some r70
def F_X0_seekTwoPairs_L28 (x1 : Int32) (x2 : Int32) (x3 : Int32) (m : oM) : Option ((Int32 × oM) ⊕ (oM)) :=
  if (m.1 50 3) < x3 then
    some (.inr m)
  else
    (F_X0_offerFourth m x1 x2 x3).bind fun r40 =>
    some (.inl ((x3 + 1), r40))
def F_X0_seekTwoPairs_L18 (x1 : Int32) (x2 : Int32) (m : oM) : Option ((Int32 × oM) ⊕ (oM)) :=
  if (m.1 50 3) < x2 then
    some (.inr m)
  else
    (oLoop (fun s : Int32 × oM => F_X0_seekTwoPairs_L28 x1 x2 s.1 s.2) oFuel (x2, m)).bind fun b28 =>
    some (.inl ((x2 + 1), b28))
def F_X0_seekTwoPairs_L5 (x1 : Int32) (m : oM) : Option ((Int32 × oM) ⊕ (oM)) :=
  if (m.1 50 3) < x1 then
    some (.inr m)
  else
    (some ((m.1 50 2)) : Option Int32).bind fun x2_17 =>
    (oLoop (fun s : Int32 × oM => F_X0_seekTwoPairs_L18 x1 s.1 s.2) oFuel (x2_17, m)).bind fun b18 =>
    some (.inl ((x1 + 1), b18))
def F_X0_seekTwoPairs (m : oM) : Option (oM) :=
  (some ((m.1 50 2)) : Option Int32).bind fun x1_4 =>
  (oLoop (fun s : Int32 × oM => F_X0_seekTwoPairs_L5 s.1 s.2) oFuel (x1_4, m)).bind fun b5 =>
  some b5
def F_X0_seek_J38 (m : oM) (x1 : Int32) (x2 : Int32) (x3 : Int32) (x4 : Int32) : Option (oM) :=
  (some (oSL m 50 0 (x1.toInt64)) : Option oM).bind fun m41 =>
  (some (oSL m41 50 1 (x2.toInt64)) : Option oM).bind fun m47 =>
  (some (oSI m47 50 2 x3) : Option oM).bind fun m52 =>
  (some (oSI m52 50 3 x4) : Option oM).bind fun m58 =>
  (some (oSL m58 50 8 1) : Option oM).bind fun m63 =>
  (some (oSL m63 50 9 0) : Option oM).bind fun m68 =>
  (F_X0_seekOnePair m68).bind fun r72 =>
  (F_X0_seekTwoPairs r72).bind fun r76 =>
  some r76
def F_X0_seek (m : oM) (x1 : Int32) (x2 : Int32) (x3 : Int32) (x4 : Int32) : Option (oM) :=
  if x1.toInt64 = (m.2 50 0) then
    if x2.toInt64 = (m.2 50 1) then
      if x3 = (m.1 50 2) then
        if x4 = (m.1 50 3) then
          some m
        else
          F_X0_seek_J38 m x1 x2 x3 x4
      else
        F_X0_seek_J38 m x1 x2 x3 x4
    else
      F_X0_seek_J38 m x1 x2 x3 x4
  else
    F_X0_seek_J38 m x1 x2 x3 x4
def F_X0_wheel (m : oM) (x1 : Int32) : Option (Int32) :=
  if x1 = 0 then
    some ((m.1 50 4))
  else
    if x1 = 1 then
      some ((m.1 50 6))
    else
      if x1 = 2 then
        some ((m.1 50 5))
      else
        some ((m.1 50 7))
def F_X8_found_J44 (m : oM) (x1 : Int32) (x2 : Int32) : Option (Int32 × oM) :=
  (F_X8_at 2 m x1).bind fun r56 =>
  (F_X8_at 3 m x1).bind fun r67 =>
  (F_X0_seek m r56 r67 ((m.1 1 3)) ((m.1 1 4))).bind fun r84 =>
  if x2 = 0 then
    (F_X0_isOnePair r84).bind fun r95 =>
    if r95 = 0 then
      some (2, r84)
    else
      some (1, r84)
  else
    if x2 = 1 then
      (F_X0_allTeeth r84).bind fun r116 =>
      some (r116, r84)
    else
      if x2 < 12 then
        (F_X0_wheel r84 ((x2 - 10))).bind fun r147 =>
        some (r147, r84)
      else
        (F_X0_isOnePair r84).bind fun r130 =>
        if r130 = 0 then
          (F_X0_wheel r84 ((x2 - 10))).bind fun r147 =>
          some (r147, r84)
        else
          some ((-5), r84)
def F_X8_found_J17 (m : oM) (x1 : Int32) (x2 : Int32) (t0 : Int32) : Option (Int32 × oM) :=
  (F_X1_hasBody 1 m x1).bind fun r23 =>
  if r23 = 0 then
    some ((-1), m)
  else
    if x2 = 0 then
      F_X8_found_J44 m x1 x2
    else
      if x2 = 1 then
        F_X8_found_J44 m x1 x2
      else
        if t0 = 0 then
          some ((-1), m)
        else
          F_X8_found_J44 m x1 x2
def F_X8_found_J16 (m : oM) (x1 : Int32) (x2 : Int32) : Option (Int32 × oM) :=
  F_X8_found_J17 m x1 x2 0
def F_X8_found (m : oM) (x1 : Int32) (x2 : Int32) : Option (Int32 × oM) :=
  if x2 < 10 then
    F_X8_found_J16 m x1 x2
  else
    if 13 < x2 then
      F_X8_found_J16 m x1 x2
    else
      F_X8_found_J17 m x1 x2 1
def F_X9_tries_J139 (m : oM) (x2 : Int32) (x3 : Int32) (x4 : Int32) (x5 : Int32) (x6 : Int32) (x9 : Int64) (x11 : Int64) (x13 : Int32) : Option (oM) :=
  (some (oSI m 51 14 x2) : Option oM).bind fun m141 =>
  (some (oSI m141 51 15 x13) : Option oM).bind fun m147 =>
  (some (oSI m147 51 16 x3) : Option oM).bind fun m152 =>
  (some (oSI m152 51 17 x4) : Option oM).bind fun m158 =>
  (some (oSI m158 51 18 x5) : Option oM).bind fun m164 =>
  (some (oSI m164 51 19 x6) : Option oM).bind fun m170 =>
  (some (oSL m170 51 20 x11) : Option oM).bind fun m176 =>
  (some (oSL m176 51 21 x9) : Option oM).bind fun m182 =>
  some m182
def F_X9_tries_J77 (m : oM) (x2 : Int32) (x3 : Int32) (x4 : Int32) (x5 : Int32) (x6 : Int32) (x9 : Int64) (x11 : Int64) (t0 : Int32) (t1 : Int32) : Option (oM) :=
  (some ((t0 + t1)) : Option Int32).bind fun x13_78 =>
  if (m.1 51 14) ≤ 0 then
    F_X9_tries_J139 m x2 x3 x4 x5 x6 x9 x11 x13_78
  else
    (some ((x11 * (m.2 51 21))) : Option Int64).bind fun x14_94 =>
    (some (((m.2 51 20) * x9)) : Option Int64).bind fun x16_103 =>
    if x16_103 < x14_94 then
      some m
    else
      if x14_94 = x16_103 then
        if (m.1 51 14) < x2 then
          some m
        else
          if x13_78 < (m.1 51 15) then
            F_X9_tries_J139 m x2 x3 x4 x5 x6 x9 x11 x13_78
          else
            some m
      else
        F_X9_tries_J139 m x2 x3 x4 x5 x6 x9 x11 x13_78
def F_X9_tries_J59 (m : oM) (x2 : Int32) (x3 : Int32) (x4 : Int32) (x5 : Int32) (x6 : Int32) (x9 : Int64) (x11 : Int64) : Option (oM) :=
  if x2 = 1 then
    F_X9_tries_J77 m x2 x3 x4 x5 x6 x9 x11 ((x3 + x5)) 0
  else
    F_X9_tries_J77 m x2 x3 x4 x5 x6 x9 x11 ((x3 + x5)) ((x4 + x6))
def F_X9_tries_J34 (m : oM) (x1 : Int32) (x2 : Int32) (x3 : Int32) (x4 : Int32) (x5 : Int32) (x6 : Int32) (x7 : Int64) (t0 : Int64) : Option (oM) :=
  (F_X9_off m x1 x7 t0).bind fun r42 =>
  if 0 ≤ r42 then
    F_X9_tries_J59 m x2 x3 x4 x5 x6 t0 r42
  else
    (some ((-r42)) : Option Int64).bind fun x11_57 =>
    F_X9_tries_J59 m x2 x3 x4 x5 x6 t0 x11_57
def F_X9_tries_J15 (m : oM) (x1 : Int32) (x2 : Int32) (x3 : Int32) (x4 : Int32) (x5 : Int32) (x6 : Int32) (t0 : Int64) : Option (oM) :=
  if x2 = 1 then
    F_X9_tries_J34 m x1 x2 x3 x4 x5 x6 t0 (x5.toInt64)
  else
    F_X9_tries_J34 m x1 x2 x3 x4 x5 x6 t0 (((x5 * x6)).toInt64)
def F_X9_tries (m : oM) (x1 : Int32) (x2 : Int32) (x3 : Int32) (x4 : Int32) (x5 : Int32) (x6 : Int32) : Option (oM) :=
  if x2 = 1 then
    F_X9_tries_J15 m x1 x2 x3 x4 x5 x6 (x3.toInt64)
  else
    F_X9_tries_J15 m x1 x2 x3 x4 x5 x6 (((x3 * x4)).toInt64)
def F_X9_finds_L29 (x1 : Int32) (x2 : Int32) (x3 : Int32) (m : oM) : Option ((Int32 × oM) ⊕ (oM)) :=
  if (m.1 52 2) < x3 then
    some (.inr m)
  else
    (F_X9_tries m x1 1 x2 1 x3 1).bind fun r46 =>
    some (.inl ((x3 + 1), r46))
def F_X9_finds_L12 (x1 : Int32) (x2 : Int32) (m : oM) : Option ((Int32 × oM) ⊕ (oM)) :=
  if (m.1 52 2) < x2 then
    some (.inr m)
  else
    (some ((m.1 52 1)) : Option Int32).bind fun x3_28 =>
    (oLoop (fun s : Int32 × oM => F_X9_finds_L29 x1 x2 s.1 s.2) oFuel (x3_28, m)).bind fun b29 =>
    some (.inl ((x2 + 1), b29))
def F_X9_finds_L113 (x1 : Int32) (x2 : Int32) (x3 : Int32) (x4 : Int32) (x5 : Int32) (m : oM) : Option ((Int32 × oM) ⊕ (oM)) :=
  if (m.1 52 2) < x5 then
    some (.inr m)
  else
    (F_X9_tries m x1 2 x2 x3 x4 x5).bind fun r133 =>
    some (.inl ((x5 + 1), r133))
def F_X9_finds_L98 (x1 : Int32) (x2 : Int32) (x3 : Int32) (x4 : Int32) (m : oM) : Option ((Int32 × oM) ⊕ (oM)) :=
  if (m.1 52 2) < x4 then
    some (.inr m)
  else
    (oLoop (fun s : Int32 × oM => F_X9_finds_L113 x1 x2 x3 x4 s.1 s.2) oFuel (x4, m)).bind fun b113 =>
    some (.inl ((x4 + 1), b113))
def F_X9_finds_L80 (x1 : Int32) (x2 : Int32) (x3 : Int32) (m : oM) : Option ((Int32 × oM) ⊕ (oM)) :=
  if (m.1 52 2) < x3 then
    some (.inr m)
  else
    (some ((m.1 52 1)) : Option Int32).bind fun x4_96 =>
    (oLoop (fun s : Int32 × oM => F_X9_finds_L98 x1 x2 x3 s.1 s.2) oFuel (x4_96, m)).bind fun b98 =>
    some (.inl ((x3 + 1), b98))
def F_X9_finds_L68 (x1 : Int32) (x2 : Int32) (m : oM) : Option ((Int32 × oM) ⊕ (oM)) :=
  if (m.1 52 2) < x2 then
    some (.inr m)
  else
    (oLoop (fun s : Int32 × oM => F_X9_finds_L80 x1 x2 s.1 s.2) oFuel (x2, m)).bind fun b80 =>
    some (.inl ((x2 + 1), b80))
def F_X9_finds (m : oM) (x1 : Int32) : Option (oM) :=
  (some (oSI m 51 14 0) : Option oM).bind fun m2 =>
  (some ((m2.1 52 1)) : Option Int32).bind fun x2_11 =>
  (oLoop (fun s : Int32 × oM => F_X9_finds_L12 x1 s.1 s.2) oFuel (x2_11, m2)).bind fun b12 =>
  (some ((b12.1 52 1)) : Option Int32).bind fun x2_67 =>
  (oLoop (fun s : Int32 × oM => F_X9_finds_L68 x1 s.1 s.2) oFuel (x2_67, b12)).bind fun b68 =>
  some b68
def F_X9_found_J34 (m : oM) (x1 : Int32) (x2 : Int32) : Option (Int32 × oM) :=
  (F_X9_finds m x1).bind fun r36 =>
  if x2 = 0 then
    some ((r36.1 51 14), r36)
  else
    if x2 = 1 then
      some ((r36.1 51 15), r36)
    else
      if x2 = 10 then
        some ((r36.1 51 16), r36)
      else
        if x2 = 11 then
          some ((r36.1 51 18), r36)
        else
          if x2 = 12 then
            if (r36.1 51 14) = 2 then
              some ((r36.1 51 17), r36)
            else
              some ((-5), r36)
          else
            if (r36.1 51 14) = 2 then
              some ((r36.1 51 19), r36)
            else
              some ((-5), r36)
def F_X9_found (m : oM) (x1 : Int32) (x2 : Int32) : Option (Int32 × oM) :=
  (F_X9_isBody m x1).bind fun r2 =>
  if r2 = 0 then
    some ((-1), m)
  else
    (F_X9_isIn (x2.toInt64) 0 1).bind fun r12 =>
    if r12 = 0 then
      (F_X9_isIn (x2.toInt64) 10 13).bind fun r26 =>
      if r26 = 0 then
        some ((-1), m)
      else
        F_X9_found_J34 m x1 x2
    else
      F_X9_found_J34 m x1 x2
def F_X0_wrongAbove (m : oM) : Option (Int64) :=
  some ((m.2 50 8))
def F_X0_wrongBelow (m : oM) : Option (Int64) :=
  some (((m.2 50 9) * (m.2 50 1)))
def F_X8_foundWrong (m : oM) (x1 : Int32) (x2 : Int32) : Option (Int64 × oM) :=
  (F_X1_hasBody 1 m x1).bind fun r5 =>
  if r5 = 0 then
    some ((-9223372036854775808), m)
  else
    (F_X8_isPart x2).bind fun r12 =>
    if r12 = 0 then
      some ((-9223372036854775808), m)
    else
      (F_X8_at 2 m x1).bind fun r34 =>
      (F_X8_at 3 m x1).bind fun r45 =>
      (F_X0_seek m r34 r45 ((m.1 1 3)) ((m.1 1 4))).bind fun r62 =>
      (F_X0_wrongAbove r62).bind fun r69 =>
      (F_X0_wrongBelow r62).bind fun r76 =>
      (F_X8_lowest r69 r76 x2).bind fun r80 =>
      some (r80, r62)
def F_X9_foundWrong (m : oM) (x1 : Int32) (x2 : Int32) : Option (Int64 × oM) :=
  (F_X9_isBody m x1).bind fun r2 =>
  if r2 = 0 then
    some ((-9223372036854775808), m)
  else
    (F_X9_isPart x2).bind fun r9 =>
    if r9 = 0 then
      some ((-9223372036854775808), m)
    else
      (F_X9_finds m x1).bind fun r21 =>
      (some ((((r21.1 51 16)).toInt64 * ((r21.1 51 17)).toInt64)) : Option Int64).bind fun x3_35 =>
      (some ((((r21.1 51 18)).toInt64 * ((r21.1 51 19)).toInt64)) : Option Int64).bind fun x5_47 =>
      (F_X9_off r21 x1 x3_35 x5_47).bind fun r54 =>
      (oAL r21 52 ((13 + x1))).bind fun v67 =>
      (F_X9_told r54 ((x5_47 * v67.toInt64)) x2).bind fun r71 =>
      some (r71, r21)
def F_X8_isCranked (x0 : Int32) : Option (Int32) :=
  if x0 < (-99) then
    some 0
  else
    if 99 < x0 then
      some 0
    else
      if x0 = 0 then
        some 0
      else
        some 1
def F_X1_crankBy (o : Nat) (m : oM) (x1 : Int32) : Option (oM) :=
  (F_J9_min_7cf53 9999 (((m.1 o 7) + x1))).bind fun r13 =>
  (F_J9_max_7cf53 ((-9999)) r13).bind fun r16 =>
  (some (oSI m o 7 r16) : Option oM).bind fun m19 =>
  if 0 ≤ x1 then
    (some (oSI m19 o 8 0) : Option oM).bind fun m32 =>
    some m32
  else
    (some (oSI m19 o 8 1) : Option oM).bind fun m32 =>
    some m32
def F_X8_turn (m : oM) (x1 : Int32) : Option (Int32 × oM) :=
  (F_X8_isCranked x1).bind fun r1 =>
  if r1 = 0 then
    some ((-2), m)
  else
    if ((m.1 1 7) + x1) < (-9999) then
      some ((-3), m)
    else
      if ((m.1 1 7) + x1) ≤ 9999 then
        (F_X1_crankBy 1 m x1).bind fun r48 =>
        some (((r48.1 1 7) + 10000), r48)
      else
        some ((-3), m)
def F_X9_goes (m : oM) (x1 : Int32) : Option (oM) :=
  (some (((m.1 52 4) + x1)) : Option Int32).bind fun x2_8 =>
  if x2_8 ≤ 9999 then
    if (-9999) ≤ x2_8 then
      (some (oSI m 52 4 x2_8) : Option oM).bind fun m41 =>
      if 0 ≤ x1 then
        (some (oSI m41 52 5 0) : Option oM).bind fun m56 =>
        some m56
      else
        (some (oSI m41 52 5 1) : Option oM).bind fun m56 =>
        some m56
    else
      (some (oSI m 52 4 ((-9999))) : Option oM).bind fun m41 =>
      if 0 ≤ x1 then
        (some (oSI m41 52 5 0) : Option oM).bind fun m56 =>
        some m56
      else
        (some (oSI m41 52 5 1) : Option oM).bind fun m56 =>
        some m56
  else
    (some (oSI m 52 4 9999) : Option oM).bind fun m41 =>
    if 0 ≤ x1 then
      (some (oSI m41 52 5 0) : Option oM).bind fun m56 =>
      some m56
    else
      (some (oSI m41 52 5 1) : Option oM).bind fun m56 =>
      some m56
def F_X9_turn (m : oM) (x1 : Int32) : Option (Int32 × oM) :=
  (F_X9_isIn (x1.toInt64) ((-99)) 99).bind fun r8 =>
  if r8 = 0 then
    some ((-2), m)
  else
    if x1 = 0 then
      some ((-2), m)
    else
      (F_X9_isIn ((((m.1 52 4) + x1)).toInt64) ((-9999)) 9999).bind fun r36 =>
      if r36 = 0 then
        some ((-3), m)
      else
        (F_X9_goes m x1).bind fun r47 =>
        some (((r47.1 52 4) + 10000), r47)
def F_X8_crank (m : oM) (x1 : Int32) : Option (Int32) :=
  if x1 = 0 then
    some (((m.1 1 7) + 10000))
  else
    if x1 = 1 then
      if (m.1 1 8) = 0 then
        some 0
      else
        some 1
    else
      some ((-1))
def F_X9_crank (m : oM) (x1 : Int32) : Option (Int32) :=
  (F_X9_isIn (x1.toInt64) 0 1).bind fun r4 =>
  if r4 = 0 then
    some ((-1))
  else
    if x1 = 0 then
      some (((m.1 52 4) + 10000))
    else
      some ((m.1 52 5))
def F_X1_standing (o : Nat) (m : oM) (x1 : Int32) : Option (Int64) :=
  (F_X1_drivers o m x1).bind fun r11 =>
  (F_X1_drivens o m x1).bind fun r17 =>
  (F_X8_quotient (((1000000 * ((m.1 o 7)).toInt64) * r11)) r17).bind fun r20 =>
  if (m.1 o 8) = 0 then
    (F_X1_isRound o m x1).bind fun r53 =>
    if r53 = 0 then
      some r20
    else
      some ((-r20))
  else
    (F_X1_slackAbove o m x1).bind fun r37 =>
    (F_X1_slackBelow o m x1).bind fun r43 =>
    (F_X8_quotient ((1000000 * r37)) r43).bind fun r46 =>
    (some ((r20 + r46)) : Option Int64).bind fun x2_50 =>
    (F_X1_isRound o m x1).bind fun r53 =>
    if r53 = 0 then
      some x2_50
    else
      some ((-x2_50))
def F_X8_stands (m : oM) (x1 : Int32) : Option (Int64) :=
  (F_X1_hasTrain 1 m x1).bind fun r5 =>
  if r5 = 0 then
    some ((-9223372036854775808))
  else
    (F_X1_standing 1 m x1).bind fun r16 =>
    some r16
def F_X9_standsAt (m : oM) (x1 : Int32) : Option (Int64) :=
  (F_X9_drivens m x1).bind fun r2 =>
  (F_X9_drivers m x1).bind fun r19 =>
  (if r2 = 0 then none else some (((1000000 * ((m.1 52 4)).toInt64) * r19) / r2)).bind fun v24 =>
  if (m.1 52 5) = 1 then
    (F_X9_lag m x1).bind fun r44 =>
    (if (100 * r2) = 0 then none else some ((1000000 * r44) / (100 * r2))).bind fun v53 =>
    (some ((v24 + v53)) : Option Int64).bind fun x4_55 =>
    (F_X9_isRound m x1).bind fun r59 =>
    if r59 = 0 then
      some x4_55
    else
      some ((-x4_55))
  else
    (F_X9_isRound m x1).bind fun r59 =>
    if r59 = 0 then
      some v24
    else
      some ((-v24))
def F_X9_stands (m : oM) (x1 : Int32) : Option (Int64) :=
  (F_X9_hasTrain m x1).bind fun r2 =>
  if r2 = 0 then
    some ((-9223372036854775808))
  else
    (F_X9_standsAt m x1).bind fun r10 =>
    some r10
def F_X8_meet (m : oM) (x1 : Int32) (x2 : Int32) : Option (Int64) :=
  (F_X8_areTwo m x1 x2).bind fun r3 =>
  if r3 = 0 then
    some ((-9223372036854775808))
  else
    (F_X1_hasTrain 1 m x1).bind fun r14 =>
    if r14 = 0 then
      some ((-9223372036854775808))
    else
      (F_X1_hasTrain 1 m x2).bind fun r25 =>
      if r25 = 0 then
        some ((-9223372036854775808))
      else
        (F_X1_drivers 1 m x1).bind fun r40 =>
        (F_X1_drivens 1 m x1).bind fun r48 =>
        (F_X8_lowest r40 r48 1).bind fun r52 =>
        (F_X1_drivers 1 m x2).bind fun r61 =>
        (F_X1_drivens 1 m x2).bind fun r69 =>
        (F_X8_lowest r61 r69 1).bind fun r73 =>
        (F_X8_greatestCommon r52 r73).bind fun r84 =>
        (F_X8_quotient r73 r84).bind fun r87 =>
        some ((r52 * r87))
def F_X9_meet (m : oM) (x1 : Int32) (x2 : Int32) : Option (Int64) :=
  (F_X9_areTwo m x1 x2).bind fun r3 =>
  if r3 = 0 then
    some ((-9223372036854775808))
  else
    (F_X9_hasTrain m x1).bind fun r11 =>
    if r11 = 0 then
      some ((-9223372036854775808))
    else
      (F_X9_hasTrain m x2).bind fun r19 =>
      if r19 = 0 then
        some ((-9223372036854775808))
      else
        (F_X9_turns m x1 1).bind fun r32 =>
        (F_X9_turns m x2 1).bind fun r39 =>
        (F_X9_common r32 r39).bind fun r48 =>
        (if r48 = 0 then none else some (r32 / r48)).bind fun v51 =>
        some ((v51 * r39))
def F_J9_floorMod_f86c9 (x0 : Int64) (x2 : Int64) : Option (Int64) :=
  (if x2 = 0 then none else some (oRG x0 x2)).bind fun v2 =>
  if 0 ≤ (x0 ^^^ x2) then
    some v2
  else
    if v2 = 0 then
      some v2
    else
      some ((v2 + x2))
def F_X8_turnsUntilJoined_L113 (m : oM) (x3 : Int32) (x4 : Int64) (x6 : Int64) (x8 : Int64) (x10 : Int64) (x12 : Int64) (x14 : Int32) : Option ((Int32) ⊕ ((Unit) ⊕ (Int32))) :=
  if 999 < x14 then
    some (.inr (.inl ()))
  else
    (F_J9_floorMod_f86c9 (((((m.1 1 7) + x14)).toInt64 * x8)) x4).bind fun r137 =>
    (F_J9_floorMod_f86c9 (((((m.1 1 7) + x14)).toInt64 * x10)) x6).bind fun r158 =>
    (F_J9_abs_067f4 (((r137 * x6) - (r158 * x4)))).bind fun r174 =>
    (F_J9_min_f86c9 r174 ((x12 - r174))).bind fun r186 =>
    if (x3.toInt64 * x12) < (r186 * 1000) then
      some (.inl (x14 + 1))
    else
      some (.inr (.inr x14))
def F_X8_turnsUntilJoined_J101 (m : oM) (x3 : Int32) (x4 : Int64) (x6 : Int64) (x8 : Int64) (t0 : Int64) : Option (Int32) :=
  (some ((x4 * x6)) : Option Int64).bind fun x12_108 =>
  (oLoop (fun s : Int32 => F_X8_turnsUntilJoined_L113 m x3 x4 x6 x8 t0 x12_108 s) oFuel 1).bind fun b113 => Sum.elim (fun y113 =>
    some ((-5))) (fun z113 => some z113) b113
def F_X8_turnsUntilJoined_J68 (m : oM) (x2 : Int32) (x3 : Int32) (x4 : Int64) (x6 : Int64) (t0 : Int64) : Option (Int32) :=
  (F_X1_isRound 1 m x2).bind fun r75 =>
  if r75 = 0 then
    (F_X1_drivers 1 m x2).bind fun r98 =>
    F_X8_turnsUntilJoined_J101 m x3 x4 x6 t0 r98
  else
    (F_X1_drivers 1 m x2).bind fun r86 =>
    F_X8_turnsUntilJoined_J101 m x3 x4 x6 t0 ((-r86))
def F_X8_turnsUntilJoined (m : oM) (x1 : Int32) (x2 : Int32) (x3 : Int32) : Option (Int32) :=
  (F_X1_drivens 1 m x1).bind fun r5 =>
  (F_X1_drivens 1 m x2).bind fun r15 =>
  if r5 < 1 then
    some ((-5))
  else
    if 1 ≤ r15 then
      (F_X1_isRound 1 m x1).bind fun r42 =>
      if r42 = 0 then
        (F_X1_drivers 1 m x1).bind fun r65 =>
        F_X8_turnsUntilJoined_J68 m x2 x3 r5 r15 r65
      else
        (F_X1_drivers 1 m x1).bind fun r53 =>
        F_X8_turnsUntilJoined_J68 m x2 x3 r5 r15 ((-r53))
    else
      some ((-5))
def F_X8_join (m : oM) (x1 : Int32) (x2 : Int32) (x3 : Int32) : Option (Int32) :=
  (F_X8_areTwo m x1 x2).bind fun r3 =>
  if r3 = 0 then
    some ((-1))
  else
    if x3 < 0 then
      some ((-2))
    else
      if x3 ≤ 499 then
        (F_X1_hasTrain 1 m x1).bind fun r30 =>
        if r30 = 0 then
          some ((-3))
        else
          (F_X1_hasTrain 1 m x2).bind fun r41 =>
          if r41 = 0 then
            some ((-3))
          else
            (F_X8_turnsUntilJoined m x1 x2 x3).bind fun r54 =>
            some r54
      else
        some ((-2))
def F_X9_partOf (m : oM) (x1 : Int32) (x2 : Int32) : Option (Int64) :=
  (F_X9_drivens m x1).bind fun r2 =>
  (F_X9_drivers m x1).bind fun r10 =>
  (if r2 = 0 then none else some (oRG ((x2.toInt64 * r10)) r2)).bind fun v15 =>
  (F_X9_isRound m x1).bind fun r20 =>
  if r20 = 0 then
    if 0 ≤ v15 then
      some v15
    else
      some ((v15 + r2))
  else
    (some ((-v15)) : Option Int64).bind fun x5_29 =>
    if 0 ≤ x5_29 then
      some x5_29
    else
      some ((x5_29 + r2))
def F_X9_join_J143 (m : oM) (x1 : Int32) (x2 : Int32) (x3 : Int32) (x4 : Int64) (x6 : Int64) (x8 : Int32) (x9 : Int64) : Option ((Int32) ⊕ ((Unit) ⊕ (Int32))) :=
  if (x3.toInt64 * (x4 * x6)) < (1000 * x9) then
    some (.inl (x8 + 1))
  else
    some (.inr (.inr x8))
def F_X9_join_J119 (m : oM) (x1 : Int32) (x2 : Int32) (x3 : Int32) (x4 : Int64) (x6 : Int64) (x8 : Int32) (x9 : Int64) : Option ((Int32) ⊕ ((Unit) ⊕ (Int32))) :=
  if x9 ≤ ((x4 * x6) - x9) then
    F_X9_join_J143 m x1 x2 x3 x4 x6 x8 x9
  else
    (some (((x4 * x6) - x9)) : Option Int64).bind fun x9_141 =>
    F_X9_join_J143 m x1 x2 x3 x4 x6 x8 x9_141
def F_X9_join_L62 (m : oM) (x1 : Int32) (x2 : Int32) (x3 : Int32) (x4 : Int64) (x6 : Int64) (x8 : Int32) : Option ((Int32) ⊕ ((Unit) ⊕ (Int32))) :=
  if 999 < x8 then
    some (.inr (.inl ()))
  else
    (F_X9_partOf m x1 (((m.1 52 4) + x8))).bind fun r81 =>
    (F_X9_partOf m x2 (((m.1 52 4) + x8))).bind fun r98 =>
    (some (((r81 * x6) - (r98 * x4))) : Option Int64).bind fun x9_105 =>
    if 0 ≤ x9_105 then
      F_X9_join_J119 m x1 x2 x3 x4 x6 x8 x9_105
    else
      (some ((-x9_105)) : Option Int64).bind fun x9_117 =>
      F_X9_join_J119 m x1 x2 x3 x4 x6 x8 x9_117
def F_X9_join (m : oM) (x1 : Int32) (x2 : Int32) (x3 : Int32) : Option (Int32) :=
  (F_X9_areTwo m x1 x2).bind fun r3 =>
  if r3 = 0 then
    some ((-1))
  else
    (F_X9_isIn (x3.toInt64) 0 499).bind fun r17 =>
    if r17 = 0 then
      some ((-2))
    else
      (F_X9_hasTrain m x1).bind fun r28 =>
      if r28 = 0 then
        some ((-3))
      else
        (F_X9_hasTrain m x2).bind fun r36 =>
        if r36 = 0 then
          some ((-3))
        else
          (F_X9_drivens m x1).bind fun r47 =>
          (F_X9_drivens m x2).bind fun r54 =>
          (oLoop (fun s : Int32 => F_X9_join_L62 m x1 x2 x3 r47 r54 s) oFuel 1).bind fun b62 => Sum.elim (fun y62 =>
            some ((-5))) (fun z62 => some z62) b62
def F_X8_drift (m : oM) (x1 : Int32) (x2 : Int32) : Option (Int64) :=
  (F_X1_hasTrain 1 m x1).bind fun r5 =>
  if r5 = 0 then
    some ((-9223372036854775808))
  else
    if x2 < 0 then
      some ((-9223372036854775808))
    else
      if x2 ≤ 9999 then
        (F_X1_wrongAbove 1 m x1).bind fun r37 =>
        (F_X1_wrongBelow 1 m x1).bind fun r46 =>
        (F_X8_quotient (((1000 * x2.toInt64) * r37)) r46).bind fun r49 =>
        some r49
      else
        some ((-9223372036854775808))
def F_X9_drift (m : oM) (x1 : Int32) (x2 : Int32) : Option (Int64) :=
  (F_X9_hasTrain m x1).bind fun r2 =>
  if r2 = 0 then
    some ((-9223372036854775808))
  else
    (F_X9_isIn (x2.toInt64) 0 9999).bind fun r14 =>
    if r14 = 0 then
      some ((-9223372036854775808))
    else
      (F_X9_wrong m x1 0).bind fun r33 =>
      (F_X9_wrong m x1 1).bind fun r40 =>
      (if r40 = 0 then none else some (((1000 * x2.toInt64) * r33) / r40)).bind fun v43 =>
      some v43
def F_X8_were_L87 (x1 : Int32) (x3 : Int64) (x5 : Int32) (x6 : Int32) (x7 : Int32) (x8 : Int32) (x9 : Int32) (m : oM) : Option ((Int32 × Int32 × Int32 × oM) ⊕ (Int32 × Int32 × oM)) :=
  if x9 < 10 then
    some (.inr (x7, x8, m))
  else
    (F_X8_set 35 m x6 x9).bind fun r108 =>
    (F_X1_standing 29 r108 x1).bind fun r116 =>
    if r116 = x3 then
      some (.inl ((x7 + 1), x9, (x9 + (-1)), r108))
    else
      some (.inl (x7, x8, (x9 + (-1)), r108))
def F_X8_were (m : oM) (x1 : Int32) (x2 : Int32) (x3 : Int64) (x5 : Int32) : Option (Int32 × oM) :=
  (F_X1_hasBody 1 m x1).bind fun r5 =>
  if r5 = 0 then
    some ((-1), m)
  else
    if x2 < 0 then
      some ((-1), m)
    else
      if 3 ≤ x2 then
        some ((-1), m)
      else
        if x5 < 0 then
          some ((-1), m)
        else
          if x5 ≤ 1 then
            (F_X7_length 9 m x1).bind fun r42 =>
            if x2 < r42 then
              (F_X1_copyFrom 29 1 m).bind fun r59 =>
              (F_X7_pairAt 9 r59 x1 x2).bind fun r71 =>
              (oLoop (fun s : Int32 × Int32 × Int32 × oM => F_X8_were_L87 x1 x3 x5 r71 s.1 s.2.1 s.2.2.1 s.2.2.2) oFuel (0, (-5), 99, r59)).bind fun b87 =>
              if x5 = 0 then
                some (b87.1, b87.2.2)
              else
                some (b87.2.1, b87.2.2)
            else
              some ((-3), m)
          else
            some ((-1), m)
def F_X9_were_L80 (x1 : Int32) (x3 : Int64) (x5 : Int32) (x6 : Int32) (x7 : Int32) (x8 : Int32) (x9 : Int32) (x10 : Int32) (m : oM) : Option ((Int32 × Int32 × Int32 × oM) ⊕ (Int32 × Int32 × oM)) :=
  if x10 < 10 then
    some (.inr (x8, x9, m))
  else
    (oAS m 52 x6 x10).bind fun m95 =>
    (F_X9_standsAt m95 x1).bind fun r98 =>
    if r98 = x3 then
      some (.inl ((x8 + 1), x10, (x10 + (-1)), m95))
    else
      some (.inl (x8, x9, (x10 + (-1)), m95))
def F_X9_were (m : oM) (x1 : Int32) (x2 : Int32) (x3 : Int64) (x5 : Int32) : Option (Int32 × oM) :=
  (F_X9_isBody m x1).bind fun r2 =>
  if r2 = 0 then
    some ((-1), m)
  else
    (F_X9_isIn (x2.toInt64) 0 2).bind fun r14 =>
    if r14 = 0 then
      some ((-1), m)
    else
      (F_X9_isIn (x5.toInt64) 0 1).bind fun r25 =>
      if r25 = 0 then
        some ((-1), m)
      else
        (oAL m 52 ((19 + x1))).bind fun v42 =>
        if x2 < v42 then
          (F_X9_pairAt m x1 x2).bind fun r54 =>
          (some ((63 + r54)) : Option Int32).bind fun x6_58 =>
          (oAL m 52 x6_58).bind fun v66 =>
          (oLoop (fun s : Int32 × Int32 × Int32 × oM => F_X9_were_L80 x1 x3 x5 x6_58 v66 s.1 s.2.1 s.2.2.1 s.2.2.2) oFuel (0, (-5), 99, m)).bind fun b80 =>
          (oAS b80.2.2 52 x6_58 v66).bind fun m130 =>
          if x5 = 0 then
            some (b80.1, m130)
          else
            some (b80.2.1, m130)
        else
          some ((-3), m)
def F_X1_slips_L5 (o : Nat) (m : oM) (x1 : Int32) (x3 : Int32) (x4 : Int32) : Option ((Int32 × Int32) ⊕ ((Unit) ⊕ (Int32))) :=
  (F_X7_length (o + 8) m x1).bind fun r12 =>
  if r12 ≤ x4 then
    some (.inr (.inl ()))
  else
    (some (((x3 * 1103515245) + 12345)) : Option Int32).bind fun x3_26 =>
    (F_X7_pairAt (o + 8) m x1 x4).bind fun r45 =>
    (F_X2_play (o + 3) m r45).bind fun r48 =>
    if r48 ≤ (oRI ((oUS x3_26 16)) 100) then
      some (.inl (x3_26, (x4 + 1)))
    else
      some (.inr (.inr 1))
def F_X1_slips (o : Nat) (m : oM) (x1 : Int32) (x2 : Int32) : Option (Int32) :=
  (oLoop (fun s : Int32 × Int32 => F_X1_slips_L5 o m x1 s.1 s.2) oFuel (x2, 0)).bind fun b5 => Sum.elim (fun y5 =>
    some 0) (fun z5 => oZ z5) b5
def F_X8_odds_L40 (m : oM) (x1 : Int32) (x2 : Int32) (x3 : Int32) (x4 : Int32) (x5 : Int32) (x6 : Int32) : Option ((Int32 × Int32) ⊕ (Int32)) :=
  if x3 ≤ x6 then
    some (.inr x5)
  else
    (F_X1_slips 1 m x1 ((x2 + x6))).bind fun r55 =>
    if r55 = 0 then
      some (.inl ((x5 + 1), (x6 + 1)))
    else
      some (.inl (x5, (x6 + 1)))
def F_X8_odds (m : oM) (x1 : Int32) (x2 : Int32) (x3 : Int32) (x4 : Int32) : Option (Int64) :=
  (F_X1_hasTrain 1 m x1).bind fun r5 =>
  if r5 = 0 then
    some ((-9223372036854775808))
  else
    if x3 < 1 then
      some ((-9223372036854775808))
    else
      if 30 < x3 then
        some ((-9223372036854775808))
      else
        (F_X8_isPart x4).bind fun r24 =>
        if r24 = 0 then
          some ((-9223372036854775808))
        else
          (oLoop (fun s : Int32 × Int32 => F_X8_odds_L40 m x1 x2 x3 x4 s.1 s.2) oFuel (0, 0)).bind fun b40 =>
          (F_X8_lowest (b40.toInt64) (x3.toInt64) x4).bind fun r77 =>
          some r77
def F_X9_slips_L8 (m : oM) (x1 : Int32) (x3 : Int32) (x4 : Int32) (x5 : Int32) : Option ((Int32 × Int32 × Int32) ⊕ (Int32)) :=
  (oAL m 52 ((19 + x1))).bind fun v18 =>
  if v18 ≤ x5 then
    some (.inr x4)
  else
    (some (((x3 * 1103515245) + 12345)) : Option Int32).bind fun x3_30 =>
    (F_X9_pairAt m x1 x5).bind fun r45 =>
    (F_X9_play m r45).bind fun r48 =>
    if r48 ≤ (oRI ((oUS x3_30 16)) 100) then
      (some ((x4 ||| 0)) : Option Int32).bind fun x4_60 =>
      some (.inl (x3_30, x4_60, (x5 + 1)))
    else
      (some ((x4 ||| 1)) : Option Int32).bind fun x4_60 =>
      some (.inl (x3_30, x4_60, (x5 + 1)))
def F_X9_slips (m : oM) (x1 : Int32) (x2 : Int32) : Option (Int32) :=
  (oLoop (fun s : Int32 × Int32 × Int32 => F_X9_slips_L8 m x1 s.1 s.2.1 s.2.2) oFuel (x2, 0, 0)).bind fun b8 =>
  oZ b8
def F_X9_odds_L38 (m : oM) (x1 : Int32) (x2 : Int32) (x3 : Int32) (x4 : Int32) (x5 : Int32) (x6 : Int32) : Option ((Int32 × Int32) ⊕ (Int32)) :=
  if x3 ≤ x6 then
    some (.inr x5)
  else
    (F_X9_slips m x1 ((x2 + x6))).bind fun r52 =>
    if r52 = 0 then
      (some ((x5 + 1)) : Option Int32).bind fun x5_64 =>
      some (.inl (x5_64, (x6 + 1)))
    else
      (some ((x5 + 0)) : Option Int32).bind fun x5_64 =>
      some (.inl (x5_64, (x6 + 1)))
def F_X9_odds (m : oM) (x1 : Int32) (x2 : Int32) (x3 : Int32) (x4 : Int32) : Option (Int64) :=
  (F_X9_hasTrain m x1).bind fun r2 =>
  if r2 = 0 then
    some ((-9223372036854775808))
  else
    (F_X9_isIn (x3.toInt64) 1 30).bind fun r14 =>
    if r14 = 0 then
      some ((-9223372036854775808))
    else
      (F_X9_isPart x4).bind fun r22 =>
      if r22 = 0 then
        some ((-9223372036854775808))
      else
        (oLoop (fun s : Int32 × Int32 => F_X9_odds_L38 m x1 x2 x3 x4 s.1 s.2) oFuel (0, 0)).bind fun b38 =>
        (F_X9_told (b38.toInt64) (x3.toInt64) x4).bind fun r79 =>
        some r79
def F_X8_isPlanned (x0 : Int32) (x1 : Int32) : Option (Int32) :=
  if x0 = 0 then
    (F_X8_isCranked x1).bind fun r5 =>
    some r5
  else
    if x1 < 0 then
      some 0
    else
      if x0 = 1 then
        if 6 ≤ x1 then
          some 0
        else
          some 1
      else
        if 10 ≤ x1 then
          some 0
        else
          some 1
def F_X3_add (o : Nat) (m : oM) (x1 : Int32) (x2 : Int32) : Option (oM) :=
  (F_X8_set (o + 1) m ((m.1 o 0)) x1).bind fun r9 =>
  (F_X8_set (o + 2) r9 ((r9.1 o 0)) x2).bind fun r21 =>
  (some (oSI r21 o 0 (((r21.1 o 0) + 1))) : Option oM).bind fun m31 =>
  some m31
def F_X8_plan (m : oM) (x1 : Int32) (x2 : Int32) : Option (Int32 × oM) :=
  if x1 = (-1) then
    (some (oSI m 12 0 0) : Option oM).bind fun m13 =>
    some (0, m13)
  else
    if x1 < 0 then
      some ((-1), m)
    else
      if x1 ≤ 2 then
        (F_X8_isPlanned x1 x2).bind fun r31 =>
        if r31 = 0 then
          some ((-2), m)
        else
          if (m.1 12 0) < 8 then
            (F_X3_add 12 m x1 x2).bind fun r67 =>
            some ((r67.1 12 0), r67)
          else
            some ((-4), m)
      else
        some ((-1), m)
def F_X9_plan_J80 (m : oM) (x1 : Int32) (x2 : Int32) : Option (Int32 × oM) :=
  if (m.1 52 6) = 8 then
    some ((-4), m)
  else
    (oAS m 52 ((83 + (m.1 52 6))) x1).bind fun m110 =>
    (oAS m110 52 ((91 + (m110.1 52 6))) x2).bind fun m126 =>
    (some (oSI m126 52 6 (((m126.1 52 6) + 1))) : Option oM).bind fun m137 =>
    some ((m137.1 52 6), m137)
def F_X9_plan_J71 (m : oM) (x1 : Int32) (x2 : Int32) (t0 : Int64) (t1 : Int64) (t2 : Int64) : Option (Int32 × oM) :=
  (F_X9_isIn t0 t1 t2).bind fun r71 =>
  if r71 = 0 then
    some ((-2), m)
  else
    F_X9_plan_J80 m x1 x2
def F_X9_plan (m : oM) (x1 : Int32) (x2 : Int32) : Option (Int32 × oM) :=
  if x1 = (-1) then
    (some (oSI m 52 6 0) : Option oM).bind fun m12 =>
    some (0, m12)
  else
    (F_X9_isIn (x1.toInt64) 0 2).bind fun r21 =>
    if r21 = 0 then
      some ((-1), m)
    else
      if x1 = 0 then
        (F_X9_isIn (x2.toInt64) ((-99)) 99).bind fun r41 =>
        if r41 = 0 then
          some ((-2), m)
        else
          if x2 = 0 then
            some ((-2), m)
          else
            F_X9_plan_J80 m x1 x2
      else
        if x1 = 1 then
          F_X9_plan_J71 m x1 x2 (x2.toInt64) 0 5
        else
          F_X9_plan_J71 m x1 x2 (x2.toInt64) 0 9
def F_X7_turnAbout (o : Nat) (m : oM) (x1 : Int32) : Option (oM) :=
  (F_X7_length o m x1).bind fun r2 =>
  (some ((r2 - 1)) : Option Int32).bind fun x2_7 =>
  (F_X7_pairAt o m x1 0).bind fun r11 =>
  (F_X7_pairAt o m x1 x2_7).bind fun r21 =>
  (F_X7_become o m x1 0 r21).bind fun r24 =>
  (F_X7_become o r24 x1 x2_7 r11).bind fun r31 =>
  some r31
def F_X2_changeWheels (o : Nat) (m : oM) (x1 : Int32) : Option (oM) :=
  (F_X8_at (o + 3) m x1).bind fun r5 =>
  (F_X8_at (o + 4) m x1).bind fun r19 =>
  (F_X8_set (o + 3) m x1 r19).bind fun r22 =>
  (F_X8_set (o + 4) r22 x1 r5).bind fun r31 =>
  some r31
def F_X1_followPlan_J73 (o : Nat) (m : oM) (x1 : Int32) (x2 : Int32) (x3 : Int32) : Option ((Int32 × oM) ⊕ (oM)) :=
  if x2 = 2 then
    (F_X2_has (o + 3) m x3).bind fun r83 =>
    if r83 = 0 then
      some (.inl ((x1 + 1), m))
    else
      (F_X2_changeWheels (o + 3) m x3).bind fun r94 =>
      some (.inl ((x1 + 1), r94))
  else
    some (.inl ((x1 + 1), m))
def F_X1_followPlan_L2 (o : Nat) (x1 : Int32) (m : oM) : Option ((Int32 × oM) ⊕ (oM)) :=
  if (m.1 (o + 11) 0) ≤ x1 then
    some (.inr m)
  else
    (F_X8_at (o + 12) m x1).bind fun r21 =>
    (F_X8_at (o + 13) m x1).bind fun r33 =>
    if r21 = 0 then
      (F_X1_crankBy o m r33).bind fun r43 =>
      some (.inl ((x1 + 1), r43))
    else
      if r21 = 1 then
        (F_X1_hasTrain o m r33).bind fun r56 =>
        if r56 = 0 then
          F_X1_followPlan_J73 o m x1 r21 r33
        else
          (F_X7_turnAbout (o + 8) m r33).bind fun r67 =>
          some (.inl ((x1 + 1), r67))
      else
        F_X1_followPlan_J73 o m x1 r21 r33
def F_X1_followPlan (o : Nat) (m : oM) : Option (oM) :=
  (oLoop (fun s : Int32 × oM => F_X1_followPlan_L2 o s.1 s.2) oFuel (0, m)).bind fun b2 =>
  some b2
def F_X8_ends_J44 (m : oM) (x1 : Int32) : Option (Int64 × oM) :=
  (F_X1_copyFrom 29 1 m).bind fun r52 =>
  (F_X1_followPlan 29 r52).bind fun r59 =>
  if x1 = 0 then
    some (((r59.1 29 7)).toInt64, r59)
  else
    (F_X1_standing 29 r59 ((x1 - 10))).bind fun r85 =>
    some (r85, r59)
def F_X8_ends_J17 (m : oM) (x1 : Int32) (t0 : Int32) : Option (Int64 × oM) :=
  if x1 = 0 then
    F_X8_ends_J44 m x1
  else
    if t0 = 0 then
      some ((-9223372036854775808), m)
    else
      (F_X1_hasTrain 1 m ((x1 - 10))).bind fun r34 =>
      if r34 = 0 then
        some ((-9223372036854775808), m)
      else
        F_X8_ends_J44 m x1
def F_X8_ends_J16 (m : oM) (x1 : Int32) : Option (Int64 × oM) :=
  F_X8_ends_J17 m x1 0
def F_X8_ends (m : oM) (x1 : Int32) : Option (Int64 × oM) :=
  if x1 < 10 then
    F_X8_ends_J16 m x1
  else
    if 16 ≤ x1 then
      F_X8_ends_J16 m x1
    else
      F_X8_ends_J17 m x1 1
def F_X9_copies_L2 (p0 : Nat) (p1 : Nat) (x2 : Int32) (m : oM) : Option ((Int32 × oM) ⊕ (oM)) :=
  if 99 ≤ x2 then
    some (.inr m)
  else
    (oAL m p0 x2).bind fun v12 =>
    (oAS m p1 x2 v12).bind fun m13 =>
    some (.inl ((x2 + 1), m13))
def F_X9_copies (p0 : Nat) (p1 : Nat) (m : oM) : Option (oM) :=
  (oLoop (fun s : Int32 × oM => F_X9_copies_L2 p0 p1 s.1 s.2) oFuel (0, m)).bind fun b2 =>
  some b2
def F_X9_changes (m : oM) (x1 : Int32) (x2 : Int32) : Option (oM) :=
  (oAL m 52 x1).bind fun v5 =>
  (oAL m 52 x2).bind fun v17 =>
  (oAS m 52 x1 v17).bind fun m18 =>
  (oAS m18 52 x2 v5).bind fun m25 =>
  some m25
def F_X9_done_J56 (m : oM) (x1 : Int32) (x2 : Int32) : Option (oM) :=
  if x1 = 2 then
    (F_X9_isPair m x2).bind fun r63 =>
    if r63 = 0 then
      some m
    else
      (F_X9_changes m ((63 + x2)) ((73 + x2))).bind fun r78 =>
      some r78
  else
    some m
def F_X9_done (m : oM) (x1 : Int32) (x2 : Int32) : Option (oM) :=
  if x1 = 0 then
    (F_X9_goes m x2).bind fun r6 =>
    some r6
  else
    if x1 = 1 then
      (F_X9_hasTrain m x2).bind fun r19 =>
      if r19 = 0 then
        F_X9_done_J56 m x1 x2
      else
        (oAL m 52 ((19 + x2))).bind fun v46 =>
        (F_X9_changes m ((25 + (3 * x2))) ((((25 + (3 * x2)) + v46) - 1))).bind fun r50 =>
        some r50
    else
      F_X9_done_J56 m x1 x2
def F_X9_ends_L32 (x1 : Int32) (x2 : Int32) (m : oM) : Option ((Int32 × oM) ⊕ (oM)) :=
  if (m.1 52 6) ≤ x2 then
    some (.inr m)
  else
    (oAL m 52 ((83 + x2))).bind fun v52 =>
    (oAL m 52 ((91 + x2))).bind fun v61 =>
    (F_X9_done m v52 v61).bind fun r62 =>
    some (.inl ((x2 + 1), r62))
def F_X9_ends_J19 (m : oM) (x1 : Int32) : Option (Int64 × oM) :=
  (F_X9_copies 52 54 m).bind fun r27 =>
  (oLoop (fun s : Int32 × oM => F_X9_ends_L32 x1 s.1 s.2) oFuel (0, r27)).bind fun b32 =>
  if x1 = 0 then
    (some (((b32.1 52 4)).toInt64) : Option Int64).bind fun x2_93 =>
    (F_X9_copies 54 52 b32).bind fun r102 =>
    some (x2_93, r102)
  else
    (F_X9_standsAt b32 ((x1 - 10))).bind fun r90 =>
    (F_X9_copies 54 52 b32).bind fun r102 =>
    some (r90, r102)
def F_X9_ends (m : oM) (x1 : Int32) : Option (Int64 × oM) :=
  if x1 = 0 then
    F_X9_ends_J19 m x1
  else
    (F_X9_hasTrain m ((x1 - 10))).bind fun r9 =>
    if r9 = 0 then
      some ((-9223372036854775808), m)
    else
      F_X9_ends_J19 m x1
def F_X8_kindLetter (x0 : Int32) : Option (Int32) :=
  if x0 < 0 then
    some 0
  else
    if 6 ≤ x0 then
      some 0
    else
      (oXA 6 oKL x0).bind fun v16 =>
      some v16
def F_X5_add (m : oM) (x1 : Int32) : Option (oM) :=
  (F_X8_set 46 m ((m.1 45 0)) x1).bind fun r9 =>
  (some (oSI r9 45 0 (((r9.1 45 0) + 1))) : Option oM).bind fun m19 =>
  some m19
def F_X5_addTwoFigures (m : oM) (x1 : Int32) : Option (oM) :=
  (F_X5_add m ((48 + (x1 / 10)))).bind fun r8 =>
  (F_X5_add r8 ((48 + (oRI x1 10)))).bind fun r19 =>
  some r19
def F_X8_writePair (m : oM) (x1 : Int32) : Option (Int32 × oM) :=
  (F_X2_has 4 m x1).bind fun r8 =>
  if r8 = 0 then
    some ((-1), m)
  else
    (some (oSI m 45 0 0) : Option oM).bind fun m21 =>
    (F_X8_at 5 m21 x1).bind fun r39 =>
    (F_X8_kindLetter r39).bind fun r42 =>
    (F_X5_add m21 r42).bind fun r45 =>
    (F_X8_at 6 r45 x1).bind fun r65 =>
    (F_X5_add r45 ((48 + r65))).bind fun r69 =>
    (F_X5_add r69 32).bind fun r78 =>
    (F_X8_at 7 r78 x1).bind fun r96 =>
    (F_X5_addTwoFigures r78 r96).bind fun r99 =>
    (F_X5_add r99 47).bind fun r108 =>
    (F_X8_at 8 r108 x1).bind fun r126 =>
    (F_X5_addTwoFigures r108 r126).bind fun r129 =>
    some ((r129.1 45 0), r129)
def F_X9_two (m : oM) (x1 : Int32) (x2 : Int32) : Option (oM) :=
  (oAS m 56 x1 ((48 + (x2 / 10)))).bind fun m12 =>
  (oAS m12 56 ((x1 + 1)) ((48 + (oRI x2 10)))).bind fun m27 =>
  some m27
def F_X9_writePair (m : oM) (x1 : Int32) : Option (Int32 × oM) :=
  (F_X9_isPair m x1).bind fun r2 =>
  if r2 = 0 then
    some ((-1), m)
  else
    (oAL m 52 ((43 + x1))).bind fun v25 =>
    (F_J0_charAt_5068e v25).bind fun r26 =>
    (some (oSI m 56 0 r26) : Option oM).bind fun m29 =>
    (oAL m29 52 ((53 + x1))).bind fun v45 =>
    (some (oSI m29 56 1 ((48 + v45))) : Option oM).bind fun m47 =>
    (some (oSI m47 56 2 32) : Option oM).bind fun m55 =>
    (oAL m55 52 ((63 + x1))).bind fun v66 =>
    (F_X9_two m55 3 v66).bind fun r67 =>
    (some (oSI r67 56 5 47) : Option oM).bind fun m77 =>
    (oAL m77 52 ((73 + x1))).bind fun v89 =>
    (F_X9_two m77 6 v89).bind fun r90 =>
    (some (oSI r90 51 9 8) : Option oM).bind fun m96 =>
    some ((m96.1 51 9), m96)
def F_X8_writeTrain_L37 (x1 : Int32) (x2 : Int32) (m : oM) : Option ((Int32 × oM) ⊕ (oM)) :=
  (F_X7_length 9 m x1).bind fun r46 =>
  if r46 ≤ x2 then
    some (.inr m)
  else
    (F_X7_pairAt 9 m x1 x2).bind fun r67 =>
    (F_X5_add m ((97 + r67))).bind fun r71 =>
    some (.inl ((x2 + 1), r71))
def F_X8_writeTrain (m : oM) (x1 : Int32) : Option (Int32 × oM) :=
  (F_X1_hasBody 1 m x1).bind fun r5 =>
  if r5 = 0 then
    some ((-1), m)
  else
    (F_X1_hasTrain 1 m x1).bind fun r18 =>
    if r18 = 0 then
      some ((-3), m)
    else
      (some (oSI m 45 0 0) : Option oM).bind fun m32 =>
      (oLoop (fun s : Int32 × oM => F_X8_writeTrain_L37 x1 s.1 s.2) oFuel (0, m32)).bind fun b37 =>
      some ((b37.1 45 0), b37)
def F_X9_writeTrain_L36 (x1 : Int32) (x2 : Int32) (m : oM) : Option ((Int32 × oM) ⊕ (oM)) :=
  if (m.1 51 9) ≤ x2 then
    some (.inr m)
  else
    (F_X9_pairAt m x1 x2).bind fun r54 =>
    (oAS m 56 x2 ((97 + r54))).bind fun m58 =>
    some (.inl ((x2 + 1), m58))
def F_X9_writeTrain (m : oM) (x1 : Int32) : Option (Int32 × oM) :=
  (F_X9_isBody m x1).bind fun r2 =>
  if r2 = 0 then
    some ((-1), m)
  else
    (F_X9_hasTrain m x1).bind fun r12 =>
    if r12 = 0 then
      some ((-3), m)
    else
      (oAL m 52 ((19 + x1))).bind fun v30 =>
      (some (oSI m 51 9 v30) : Option oM).bind fun m31 =>
      (oLoop (fun s : Int32 × oM => F_X9_writeTrain_L36 x1 s.1 s.2) oFuel (0, m31)).bind fun b36 =>
      some ((b36.1 51 9), b36)
def F_X8_paper (m : oM) (x1 : Int32) : Option (Int32) :=
  if x1 < 0 then
    some ((-1))
  else
    if (m.1 45 0) ≤ x1 then
      some ((-1))
    else
      (F_X8_at 46 m x1).bind fun r23 =>
      some r23
def F_X9_paper (m : oM) (x1 : Int32) : Option (Int32) :=
  (F_X9_isIn (x1.toInt64) 0 ((((m.1 51 9) - 1)).toInt64)).bind fun r10 =>
  if r10 = 0 then
    some ((-1))
  else
    (oAL m 56 x1).bind fun v21 =>
    some v21
def F_X4_has (x1 : Int32) : Option (Int32) :=
  if x1 < 0 then
    some 0
  else
    if 4 ≤ x1 then
      some 0
    else
      some 1
def F_X4_isHeld (m : oM) (x1 : Int32) : Option (Int32) :=
  (F_X8_at 48 m x1).bind fun r5 =>
  if r5 ≤ 0 then
    some 0
  else
    some 1
def F_X4_size (m : oM) (x1 : Int32) : Option (Int32) :=
  (F_X4_isHeld m x1).bind fun r2 =>
  if r2 = 0 then
    some 0
  else
    (F_X8_at 48 m x1).bind fun r13 =>
    some ((r13 - 1))
def F_X4_cell (m : oM) (x1 : Int32) (x2 : Int32) : Option (Int64) :=
  (some (((x1 * 12) + x2)) : Option Int32).bind fun x3_6 =>
  if x3_6 < 0 then
    some 0
  else
    if 48 ≤ x3_6 then
      some 0
    else
      (oALL m 49 x3_6).bind fun v25 =>
      some v25
def F_X8_judge_L29 (m : oM) (x1 : Int32) (x2 : Int32) : Option ((Int32) ⊕ ((Unit) ⊕ (Int32))) :=
  (F_X4_size m x1).bind fun r35 =>
  if r35 ≤ x2 then
    some (.inr (.inl ()))
  else
    (F_X1_hasTrain 1 m x2).bind fun r46 =>
    if r46 = 0 then
      (F_X4_cell m x1 x2).bind fun r71 =>
      if r71 = 0 then
        some (.inl (x2 + 1))
      else
        some (.inr (.inr x2))
    else
      (F_X1_standing 1 m x2).bind fun r57 =>
      (F_X4_cell m x1 x2).bind fun r71 =>
      if r71 = r57 then
        some (.inl (x2 + 1))
      else
        some (.inr (.inr x2))
def F_X8_judge (m : oM) (x1 : Int32) : Option (Int32) :=
  (F_X4_has x1).bind fun r5 =>
  if r5 = 0 then
    some ((-1))
  else
    (F_X4_isHeld m x1).bind fun r18 =>
    if r18 = 0 then
      some ((-11))
    else
      (oLoop (fun s : Int32 => F_X8_judge_L29 m x1 s) oFuel 0).bind fun b29 => Sum.elim (fun y29 =>
        some ((-5))) (fun z29 => some z29) b29
def F_X9_isList (x0 : Int32) : Option (Int32) :=
  (F_X9_isIn (x0.toInt64) 0 3).bind fun r6 =>
  some r6
def F_X9_judge_L24 (m : oM) (x1 : Int32) (x2 : Int32) : Option ((Int32) ⊕ ((Unit) ⊕ (Int32))) :=
  (oAL m 57 x1).bind fun v30 =>
  if v30 ≤ x2 then
    some (.inr (.inl ()))
  else
    (oALL m 58 (((12 * x1) + x2))).bind fun v44 =>
    (F_X9_hasTrain m x2).bind fun r47 =>
    if r47 = 0 then
      if v44 = 0 then
        some (.inl (x2 + 1))
      else
        some (.inr (.inr x2))
    else
      (F_X9_standsAt m x2).bind fun r55 =>
      if v44 = r55 then
        some (.inl (x2 + 1))
      else
        some (.inr (.inr x2))
def F_X9_judge (m : oM) (x1 : Int32) : Option (Int32) :=
  (F_X9_isList x1).bind fun r1 =>
  if r1 = 0 then
    some ((-1))
  else
    (oAL m 57 x1).bind fun v14 =>
    if v14 = (-1) then
      some ((-11))
    else
      (oLoop (fun s : Int32 => F_X9_judge_L24 m x1 s) oFuel 0).bind fun b24 => Sum.elim (fun y24 =>
        some ((-5))) (fun z24 => some z24) b24
def F_X4_fill (m : oM) (x1 : Int32) (x2 : Int32) (x3 : Int64) : Option (oM) :=
  (some (((x1 * 12) + x2)) : Option Int32).bind fun x5_6 =>
  if x5_6 < 0 then
    some m
  else
    if 48 ≤ x5_6 then
      some m
    else
      (oASL m 49 x5_6 x3).bind fun m30 =>
      some m30
def F_X4_hold_L13 (x1 : Int32) (x2 : Int32) (x3 : Int32) (m : oM) : Option ((Int32 × oM) ⊕ (oM)) :=
  if x2 ≤ x3 then
    some (.inr m)
  else
    (F_X4_fill m x1 x3 0).bind fun r22 =>
    some (.inl ((x3 + 1), r22))
def F_X4_hold (m : oM) (x1 : Int32) (x2 : Int32) : Option (oM) :=
  (F_X8_set 48 m x1 ((x2 + 1))).bind fun r8 =>
  (oLoop (fun s : Int32 × oM => F_X4_hold_L13 x1 x2 s.1 s.2) oFuel (0, r8)).bind fun b13 =>
  some b13
def F_X8_list (m : oM) (x1 : Int32) (x2 : Int32) : Option (Int32 × oM) :=
  (F_X4_has x1).bind fun r5 =>
  if r5 = 0 then
    some ((-1), m)
  else
    if x2 ≤ 12 then
      if 0 ≤ x2 then
        (F_X4_hold m x1 x2).bind fun r35 =>
        some (1, r35)
      else
        some ((-14), m)
    else
      some ((-2), m)
def F_X9_list_L34 (x1 : Int32) (x3 : Int32) (m : oM) : Option ((Int32 × oM) ⊕ (oM)) :=
  if 12 ≤ x3 then
    some (.inr m)
  else
    (oASL m 58 (((12 * x1) + x3)) 0).bind fun m51 =>
    some (.inl ((x3 + 1), m51))
def F_X9_list (m : oM) (x1 : Int32) (x2 : Int32) : Option (Int32 × oM) :=
  (F_X9_isList x1).bind fun r1 =>
  if r1 = 0 then
    some ((-1), m)
  else
    if x2 ≤ 12 then
      if 0 ≤ x2 then
        (oAS m 57 x1 x2).bind fun m31 =>
        (oLoop (fun s : Int32 × oM => F_X9_list_L34 x1 s.1 s.2) oFuel (0, m31)).bind fun b34 =>
        some (1, b34)
      else
        some ((-14), m)
    else
      some ((-2), m)
def F_X8_put (m : oM) (x1 : Int32) (x2 : Int32) (x3 : Int64) : Option (Int32 × oM) :=
  (F_X4_has x1).bind fun r5 =>
  if r5 = 0 then
    some ((-1), m)
  else
    (F_X4_isHeld m x1).bind fun r18 =>
    if r18 = 0 then
      some ((-11), m)
    else
      if x2 < 0 then
        some ((-13), m)
      else
        (F_X4_size m x1).bind fun r37 =>
        if x2 < r37 then
          (F_X4_fill m x1 x2 x3).bind fun r53 =>
          some (1, r53)
        else
          some ((-13), m)
def F_X9_put (m : oM) (x1 : Int32) (x2 : Int32) (x3 : Int64) : Option (Int32 × oM) :=
  (F_X9_isList x1).bind fun r1 =>
  if r1 = 0 then
    some ((-1), m)
  else
    (oAL m 57 x1).bind fun v14 =>
    if v14 = (-1) then
      some ((-11), m)
    else
      (oAL m 57 x1).bind fun v30 =>
      (F_X9_isIn (x2.toInt64) 0 (((v30 - 1)).toInt64)).bind fun r34 =>
      if r34 = 0 then
        some ((-13), m)
      else
        (oASL m 58 (((12 * x1) + x2)) x3).bind fun m54 =>
        some (1, m54)
def F_X8_get (m : oM) (x1 : Int32) (x2 : Int32) : Option (Int64) :=
  (F_X4_has x1).bind fun r5 =>
  if r5 = 0 then
    some ((-9223372036854775808))
  else
    if x2 < 0 then
      some ((-9223372036854775808))
    else
      (F_X4_size m x1).bind fun r21 =>
      if x2 < r21 then
        (F_X4_cell m x1 x2).bind fun r37 =>
        some r37
      else
        some ((-9223372036854775808))
def F_X9_get (m : oM) (x1 : Int32) (x2 : Int32) : Option (Int64) :=
  (F_X9_isList x1).bind fun r1 =>
  if r1 = 0 then
    some ((-9223372036854775808))
  else
    (oAL m 57 x1).bind fun v15 =>
    (F_X9_isIn (x2.toInt64) 0 (((v15 - 1)).toInt64)).bind fun r19 =>
    if r19 = 0 then
      some ((-9223372036854775808))
    else
      (oALL m 58 (((12 * x1) + x2))).bind fun v35 =>
      some v35
def F_X8_image (m : oM) : Option (Int32 × oM) :=
  (F_X1_copyFrom 15 1 m).bind fun r8 =>
  (some (oSI r8 0 3 1) : Option oM).bind fun m13 =>
  some ((m13.1 1 0), m13)
def F_X9_image (m : oM) : Option (Int32 × oM) :=
  (F_X9_copies 52 53 m).bind fun r8 =>
  (some (oSI r8 51 3 1) : Option oM).bind fun m13 =>
  some ((m13.1 52 0), m13)
def F_X8_undo (m : oM) : Option (Int32 × oM) :=
  if (m.1 0 3) = 0 then
    some ((-3), m)
  else
    (F_X1_copyFrom 1 15 m).bind fun r18 =>
    some ((r18.1 1 0), r18)
def F_X9_undo (m : oM) : Option (Int32 × oM) :=
  if (m.1 51 3) = 0 then
    some ((-3), m)
  else
    (F_X9_copies 53 52 m).bind fun r18 =>
    some ((r18.1 52 0), r18)
def F_X7_number_L4 (o : Nat) (m : oM) (x1 : Int32) (x2 : Int32) : Option ((Int32 × Int32) ⊕ (Int32)) :=
  if 6 ≤ x2 then
    some (.inr x1)
  else
    (F_X7_length o m x2).bind fun r12 =>
    if r12 ≤ 0 then
      some (.inl (x1, (x2 + 1)))
    else
      some (.inl ((x1 + 1), (x2 + 1)))
def F_X7_number (o : Nat) (m : oM) : Option (Int32) :=
  (oLoop (fun s : Int32 × Int32 => F_X7_number_L4 o m s.1 s.2) oFuel (0, 0)).bind fun b4 =>
  some b4
def F_X8_count (m : oM) (x1 : Int32) : Option (Int32) :=
  if x1 = 0 then
    some ((m.1 1 0))
  else
    if x1 = 1 then
      some ((m.1 4 0))
    else
      if x1 = 2 then
        (F_X7_number 9 m).bind fun r70 =>
        some r70
      else
        if x1 = 3 then
          (F_X7_wheels 9 m).bind fun r81 =>
          some r81
        else
          if x1 = 4 then
            some ((m.1 43 0))
          else
            if x1 = 5 then
              some ((m.1 45 0))
            else
              if x1 = 6 then
                some ((m.1 12 0))
              else
                some ((-2))
def F_X9_count_L60 (m : oM) (x2 : Int32) (x3 : Int32) : Option ((Int32 × Int32) ⊕ (Int32)) :=
  if (m.1 52 0) ≤ x3 then
    some (.inr x2)
  else
    (F_X9_hasTrain m x3).bind fun r73 =>
    if r73 = 0 then
      (some ((x2 + 0)) : Option Int32).bind fun x2_85 =>
      some (.inl (x2_85, (x3 + 1)))
    else
      (some ((x2 + 1)) : Option Int32).bind fun x2_85 =>
      some (.inl (x2_85, (x3 + 1)))
def F_X9_count (m : oM) (x1 : Int32) : Option (Int32) :=
  if x1 = 0 then
    some ((m.1 52 0))
  else
    if x1 = 1 then
      some ((m.1 52 3))
    else
      if x1 = 2 then
        (oLoop (fun s : Int32 × Int32 => F_X9_count_L60 m s.1 s.2) oFuel (0, 0)).bind fun b60 =>
        some b60
      else
        if x1 = 3 then
          (F_X9_wheels m).bind fun r95 =>
          some r95
        else
          if x1 = 4 then
            some ((m.1 51 8))
          else
            if x1 = 5 then
              some ((m.1 51 9))
            else
              if x1 = 6 then
                some ((m.1 52 6))
              else
                some ((-2))
def F_L_law_L18 (L : Nat) (xs : Nat → Int32) (x3 : Int32) (m : oM) : Option ((Int32 × oM) ⊕ ((oM) ⊕ (Int32 × oM))) :=
  if ((Int32.ofNat L) - 6) < x3 then
    some (.inr (.inl m))
  else
    (oXA L xs x3).bind fun v29 =>
    (some ((v29 &&& 63)) : Option Int32).bind fun v33 =>
    if v33 = 0 then
      (oXA L xs ((x3 + 1))).bind fun v225 =>
      (oXA L xs ((x3 + 2))).bind fun v230 =>
      (F_X8_body m v225 v230).bind fun r231 =>
      (oXA L xs ((x3 + 1))).bind fun v239 =>
      (oXA L xs ((x3 + 2))).bind fun v244 =>
      (F_X9_body r231.2 v239 v244).bind fun r245 =>
      if r231.1 = r245.1 then
        some (.inl ((x3 + 6), r245.2))
      else
        some (.inr (.inr (0, r245.2)))
    else
      if v33 = 1 then
        (oXA L xs ((x3 + 1))).bind fun v258 =>
        (oXA L xs ((x3 + 2))).bind fun v263 =>
        (oXA L xs ((x3 + 3))).bind fun v268 =>
        (F_X8_ratio m v258 v263 v268).bind fun r269 =>
        (oXA L xs ((x3 + 1))).bind fun v277 =>
        (oXA L xs ((x3 + 2))).bind fun v282 =>
        (oXA L xs ((x3 + 3))).bind fun v287 =>
        (F_X9_ratio r269.2 v277 v282 v287).bind fun r288 =>
        if r269.1 = r288.1 then
          some (.inl ((x3 + 6), r288.2))
        else
          some (.inr (.inr (0, r288.2)))
      else
        if v33 = 2 then
          (oXA L xs ((x3 + 1))).bind fun v301 =>
          (oXA L xs ((x3 + 2))).bind fun v306 =>
          (F_X8_term m v301 v306).bind fun r307 =>
          (oXA L xs ((x3 + 1))).bind fun v315 =>
          (oXA L xs ((x3 + 2))).bind fun v320 =>
          (F_X9_term m v315 v320).bind fun r321 =>
          if r307 = r321.1 then
            some (.inl ((x3 + 6), r321.2))
          else
            some (.inr (.inr (0, r321.2)))
        else
          if v33 = 3 then
            (oXA L xs ((x3 + 1))).bind fun v334 =>
            (oXA L xs ((x3 + 2))).bind fun v339 =>
            (oXA L xs ((x3 + 3))).bind fun v344 =>
            (F_X8_convergent m v334 v339 v344).bind fun r345 =>
            (oXA L xs ((x3 + 1))).bind fun v353 =>
            (oXA L xs ((x3 + 2))).bind fun v358 =>
            (oXA L xs ((x3 + 3))).bind fun v363 =>
            (F_X9_convergent m v353 v358 v363).bind fun r364 =>
            if r345 = r364.1 then
              some (.inl ((x3 + 6), r364.2))
            else
              some (.inr (.inr (0, r364.2)))
          else
            if v33 = 4 then
              (oXA L xs ((x3 + 1))).bind fun v378 =>
              (oXA L xs ((x3 + 2))).bind fun v383 =>
              (oXA L xs ((x3 + 3))).bind fun v388 =>
              (F_X8_near m v378 v383 v388).bind fun r389 =>
              (oXA L xs ((x3 + 1))).bind fun v397 =>
              (oXA L xs ((x3 + 2))).bind fun v402 =>
              (oXA L xs ((x3 + 3))).bind fun v407 =>
              (F_X9_near m v397 v402 v407).bind fun r408 =>
              if r389 = r408 then
                some (.inl ((x3 + 6), m))
              else
                some (.inr (.inr (0, m)))
            else
              if v33 = 5 then
                (oXA L xs ((x3 + 1))).bind fun v422 =>
                (oXA L xs ((x3 + 2))).bind fun v427 =>
                (F_X8_bounds m v422 v427).bind fun r428 =>
                (oXA L xs ((x3 + 1))).bind fun v436 =>
                (oXA L xs ((x3 + 2))).bind fun v441 =>
                (F_X9_bounds r428.2 v436 v441).bind fun r442 =>
                if r428.1 = r442.1 then
                  some (.inl ((x3 + 6), r442.2))
                else
                  some (.inr (.inr (0, r442.2)))
              else
                if v33 = 6 then
                  (oXA L xs ((x3 + 1))).bind fun v455 =>
                  (oXA L xs ((x3 + 2))).bind fun v460 =>
                  (oXA L xs ((x3 + 3))).bind fun v465 =>
                  (F_X8_split m v455 v460 v465).bind fun r466 =>
                  (oXA L xs ((x3 + 1))).bind fun v474 =>
                  (oXA L xs ((x3 + 2))).bind fun v479 =>
                  (oXA L xs ((x3 + 3))).bind fun v484 =>
                  (F_X9_split m v474 v479 v484).bind fun r485 =>
                  if r466 = r485 then
                    some (.inl ((x3 + 6), m))
                  else
                    some (.inr (.inr (0, m)))
                else
                  if v33 = 7 then
                    (oXA L xs ((x3 + 1))).bind fun v498 =>
                    (oXA L xs ((x3 + 2))).bind fun v503 =>
                    (F_X8_prime v498 v503).bind fun r504 =>
                    (oXA L xs ((x3 + 1))).bind fun v512 =>
                    (oXA L xs ((x3 + 2))).bind fun v517 =>
                    (F_X9_prime v512 v517).bind fun r518 =>
                    if r504 = r518 then
                      some (.inl ((x3 + 6), m))
                    else
                      some (.inr (.inr (0, m)))
                  else
                    if v33 = 8 then
                      (oXA L xs ((x3 + 1))).bind fun v531 =>
                      (F_X8_feed m v531).bind fun r532 =>
                      (oXA L xs ((x3 + 1))).bind fun v540 =>
                      (F_X9_feed r532.2 v540).bind fun r541 =>
                      if r532.1 = r541.1 then
                        some (.inl ((x3 + 6), r541.2))
                      else
                        some (.inr (.inr (0, r541.2)))
                    else
                      if v33 = 9 then
                        (F_X8_pairs m).bind fun r550 =>
                        (F_X9_pairs r550.2).bind fun r554 =>
                        if r550.1 = r554.1 then
                          some (.inl ((x3 + 6), r554.2))
                        else
                          some (.inr (.inr (0, r554.2)))
                      else
                        if v33 = 10 then
                          (oXA L xs ((x3 + 1))).bind fun v567 =>
                          (oXA L xs ((x3 + 2))).bind fun v572 =>
                          (oXA L xs ((x3 + 3))).bind fun v577 =>
                          (F_X8_becomes m v567 v572 v577).bind fun r578 =>
                          (oXA L xs ((x3 + 1))).bind fun v586 =>
                          (oXA L xs ((x3 + 2))).bind fun v591 =>
                          (oXA L xs ((x3 + 3))).bind fun v596 =>
                          (F_X9_becomes r578.2 v586 v591 v596).bind fun r597 =>
                          if r578.1 = r597.1 then
                            some (.inl ((x3 + 6), r597.2))
                          else
                            some (.inr (.inr (0, r597.2)))
                        else
                          if v33 = 11 then
                            (oXA L xs ((x3 + 1))).bind fun v610 =>
                            (oXA L xs ((x3 + 2))).bind fun v615 =>
                            (oXA L xs ((x3 + 3))).bind fun v620 =>
                            (F_X8_teeth m v610 v615 v620).bind fun r621 =>
                            (oXA L xs ((x3 + 1))).bind fun v629 =>
                            (oXA L xs ((x3 + 2))).bind fun v634 =>
                            (oXA L xs ((x3 + 3))).bind fun v639 =>
                            (F_X9_teeth r621.2 v629 v634 v639).bind fun r640 =>
                            if r621.1 = r640.1 then
                              some (.inl ((x3 + 6), r640.2))
                            else
                              some (.inr (.inr (0, r640.2)))
                          else
                            if v33 = 12 then
                              (oXA L xs ((x3 + 1))).bind fun v653 =>
                              (oXA L xs ((x3 + 2))).bind fun v658 =>
                              (F_X8_pair m v653 v658).bind fun r659 =>
                              (oXA L xs ((x3 + 1))).bind fun v667 =>
                              (oXA L xs ((x3 + 2))).bind fun v672 =>
                              (F_X9_pair m v667 v672).bind fun r673 =>
                              if r659 = r673 then
                                some (.inl ((x3 + 6), m))
                              else
                                some (.inr (.inr (0, m)))
                            else
                              if v33 = 13 then
                                (oXA L xs ((x3 + 1))).bind fun v686 =>
                                (F_X8_train m v686).bind fun r687 =>
                                (oXA L xs ((x3 + 1))).bind fun v695 =>
                                (F_X9_train r687.2 v695).bind fun r696 =>
                                if r687.1 = r696.1 then
                                  some (.inl ((x3 + 6), r696.2))
                                else
                                  some (.inr (.inr (0, r696.2)))
                              else
                                if v33 = 14 then
                                  (oXA L xs ((x3 + 1))).bind fun v709 =>
                                  (F_X8_drop m v709).bind fun r710 =>
                                  (oXA L xs ((x3 + 1))).bind fun v718 =>
                                  (F_X9_drop r710.2 v718).bind fun r719 =>
                                  if r710.1 = r719.1 then
                                    some (.inl ((x3 + 6), r719.2))
                                  else
                                    some (.inr (.inr (0, r719.2)))
                                else
                                  if v33 = 15 then
                                    (oXA L xs ((x3 + 1))).bind fun v732 =>
                                    (oXA L xs ((x3 + 2))).bind fun v737 =>
                                    (F_X8_of m v732 v737).bind fun r738 =>
                                    (oXA L xs ((x3 + 1))).bind fun v746 =>
                                    (oXA L xs ((x3 + 2))).bind fun v751 =>
                                    (F_X9_of m v746 v751).bind fun r752 =>
                                    if r738 = r752 then
                                      some (.inl ((x3 + 6), m))
                                    else
                                      some (.inr (.inr (0, m)))
                                  else
                                    if v33 = 16 then
                                      (oXA L xs ((x3 + 1))).bind fun v765 =>
                                      (oXA L xs ((x3 + 2))).bind fun v770 =>
                                      (F_X8_turns m v765 v770).bind fun r771 =>
                                      (oXA L xs ((x3 + 1))).bind fun v779 =>
                                      (oXA L xs ((x3 + 2))).bind fun v784 =>
                                      (F_X9_turns m v779 v784).bind fun r785 =>
                                      if r771 = r785 then
                                        some (.inl ((x3 + 6), m))
                                      else
                                        some (.inr (.inr (0, m)))
                                    else
                                      if v33 = 17 then
                                        (oXA L xs ((x3 + 1))).bind fun v799 =>
                                        (oXA L xs ((x3 + 2))).bind fun v804 =>
                                        (F_X8_wrong m v799 v804).bind fun r805 =>
                                        (oXA L xs ((x3 + 1))).bind fun v813 =>
                                        (oXA L xs ((x3 + 2))).bind fun v818 =>
                                        (F_X9_wrong m v813 v818).bind fun r819 =>
                                        if r805 = r819 then
                                          some (.inl ((x3 + 6), m))
                                        else
                                          some (.inr (.inr (0, m)))
                                      else
                                        if v33 = 18 then
                                          (oXA L xs ((x3 + 1))).bind fun v833 =>
                                          (oXA L xs ((x3 + 2))).bind fun v838 =>
                                          (F_X8_backlash m v833 v838).bind fun r839 =>
                                          (oXA L xs ((x3 + 1))).bind fun v847 =>
                                          (oXA L xs ((x3 + 2))).bind fun v852 =>
                                          (F_X9_backlash m v847 v852).bind fun r853 =>
                                          if r839 = r853 then
                                            some (.inl ((x3 + 6), m))
                                          else
                                            some (.inr (.inr (0, m)))
                                        else
                                          if v33 = 19 then
                                            (oXA L xs ((x3 + 1))).bind fun v867 =>
                                            (oXA L xs ((x3 + 2))).bind fun v872 =>
                                            (F_X8_share m v867 v872).bind fun r873 =>
                                            (oXA L xs ((x3 + 1))).bind fun v881 =>
                                            (oXA L xs ((x3 + 2))).bind fun v886 =>
                                            (F_X9_share m v881 v886).bind fun r887 =>
                                            if r873 = r887 then
                                              some (.inl ((x3 + 6), m))
                                            else
                                              some (.inr (.inr (0, m)))
                                          else
                                            if v33 = 20 then
                                              (oXA L xs ((x3 + 1))).bind fun v900 =>
                                              (oXA L xs ((x3 + 2))).bind fun v905 =>
                                              (F_X8_order m v900 v905).bind fun r906 =>
                                              (oXA L xs ((x3 + 1))).bind fun v914 =>
                                              (oXA L xs ((x3 + 2))).bind fun v919 =>
                                              (F_X9_order r906.2 v914 v919).bind fun r920 =>
                                              if r906.1 = r920.1 then
                                                some (.inl ((x3 + 6), r920.2))
                                              else
                                                some (.inr (.inr (0, r920.2)))
                                            else
                                              if v33 = 21 then
                                                (oXA L xs ((x3 + 1))).bind fun v933 =>
                                                (oXA L xs ((x3 + 2))).bind fun v938 =>
                                                (F_X8_found m v933 v938).bind fun r939 =>
                                                (oXA L xs ((x3 + 1))).bind fun v947 =>
                                                (oXA L xs ((x3 + 2))).bind fun v952 =>
                                                (F_X9_found r939.2 v947 v952).bind fun r953 =>
                                                if r939.1 = r953.1 then
                                                  some (.inl ((x3 + 6), r953.2))
                                                else
                                                  some (.inr (.inr (0, r953.2)))
                                              else
                                                if v33 = 22 then
                                                  (oXA L xs ((x3 + 1))).bind fun v966 =>
                                                  (oXA L xs ((x3 + 2))).bind fun v971 =>
                                                  (F_X8_foundWrong m v966 v971).bind fun r972 =>
                                                  (oXA L xs ((x3 + 1))).bind fun v980 =>
                                                  (oXA L xs ((x3 + 2))).bind fun v985 =>
                                                  (F_X9_foundWrong r972.2 v980 v985).bind fun r986 =>
                                                  if r972.1 = r986.1 then
                                                    some (.inl ((x3 + 6), r986.2))
                                                  else
                                                    some (.inr (.inr (0, r986.2)))
                                                else
                                                  if v33 = 23 then
                                                    (oXA L xs ((x3 + 1))).bind fun v1000 =>
                                                    (F_X8_turn m v1000).bind fun r1001 =>
                                                    (oXA L xs ((x3 + 1))).bind fun v1009 =>
                                                    (F_X9_turn r1001.2 v1009).bind fun r1010 =>
                                                    if r1001.1 = r1010.1 then
                                                      some (.inl ((x3 + 6), r1010.2))
                                                    else
                                                      some (.inr (.inr (0, r1010.2)))
                                                  else
                                                    if v33 = 24 then
                                                      (oXA L xs ((x3 + 1))).bind fun v1023 =>
                                                      (F_X8_crank m v1023).bind fun r1024 =>
                                                      (oXA L xs ((x3 + 1))).bind fun v1032 =>
                                                      (F_X9_crank m v1032).bind fun r1033 =>
                                                      if r1024 = r1033 then
                                                        some (.inl ((x3 + 6), m))
                                                      else
                                                        some (.inr (.inr (0, m)))
                                                    else
                                                      if v33 = 25 then
                                                        (oXA L xs ((x3 + 1))).bind fun v1046 =>
                                                        (F_X8_stands m v1046).bind fun r1047 =>
                                                        (oXA L xs ((x3 + 1))).bind fun v1055 =>
                                                        (F_X9_stands m v1055).bind fun r1056 =>
                                                        if r1047 = r1056 then
                                                          some (.inl ((x3 + 6), m))
                                                        else
                                                          some (.inr (.inr (0, m)))
                                                      else
                                                        if v33 = 26 then
                                                          (oXA L xs ((x3 + 1))).bind fun v1070 =>
                                                          (oXA L xs ((x3 + 2))).bind fun v1075 =>
                                                          (F_X8_meet m v1070 v1075).bind fun r1076 =>
                                                          (oXA L xs ((x3 + 1))).bind fun v1084 =>
                                                          (oXA L xs ((x3 + 2))).bind fun v1089 =>
                                                          (F_X9_meet m v1084 v1089).bind fun r1090 =>
                                                          if r1076 = r1090 then
                                                            some (.inl ((x3 + 6), m))
                                                          else
                                                            some (.inr (.inr (0, m)))
                                                        else
                                                          if v33 = 27 then
                                                            (oXA L xs ((x3 + 1))).bind fun v1104 =>
                                                            (oXA L xs ((x3 + 2))).bind fun v1109 =>
                                                            (oXA L xs ((x3 + 3))).bind fun v1114 =>
                                                            (F_X8_join m v1104 v1109 v1114).bind fun r1115 =>
                                                            (oXA L xs ((x3 + 1))).bind fun v1123 =>
                                                            (oXA L xs ((x3 + 2))).bind fun v1128 =>
                                                            (oXA L xs ((x3 + 3))).bind fun v1133 =>
                                                            (F_X9_join m v1123 v1128 v1133).bind fun r1134 =>
                                                            if r1115 = r1134 then
                                                              some (.inl ((x3 + 6), m))
                                                            else
                                                              some (.inr (.inr (0, m)))
                                                          else
                                                            if v33 = 28 then
                                                              (oXA L xs ((x3 + 1))).bind fun v1147 =>
                                                              (oXA L xs ((x3 + 2))).bind fun v1152 =>
                                                              (F_X8_drift m v1147 v1152).bind fun r1153 =>
                                                              (oXA L xs ((x3 + 1))).bind fun v1161 =>
                                                              (oXA L xs ((x3 + 2))).bind fun v1166 =>
                                                              (F_X9_drift m v1161 v1166).bind fun r1167 =>
                                                              if r1153 = r1167 then
                                                                some (.inl ((x3 + 6), m))
                                                              else
                                                                some (.inr (.inr (0, m)))
                                                            else
                                                              if v33 = 29 then
                                                                (oXA L xs ((x3 + 1))).bind fun v1181 =>
                                                                (oXA L xs ((x3 + 2))).bind fun v1186 =>
                                                                (oXA L xs ((x3 + 3))).bind fun v1191 =>
                                                                (oXA L xs ((x3 + 4))).bind fun v1200 =>
                                                                (oXA L xs ((x3 + 5))).bind fun v1211 =>
                                                                (F_X8_were m v1181 v1186 (((oLS (v1191.toInt64) 32) ||| (v1200.toInt64 &&& 4294967295))) v1211).bind fun r1212 =>
                                                                (oXA L xs ((x3 + 1))).bind fun v1220 =>
                                                                (oXA L xs ((x3 + 2))).bind fun v1225 =>
                                                                (oXA L xs ((x3 + 3))).bind fun v1230 =>
                                                                (oXA L xs ((x3 + 4))).bind fun v1239 =>
                                                                (oXA L xs ((x3 + 5))).bind fun v1250 =>
                                                                (F_X9_were r1212.2 v1220 v1225 (((oLS (v1230.toInt64) 32) ||| (v1239.toInt64 &&& 4294967295))) v1250).bind fun r1251 =>
                                                                if r1212.1 = r1251.1 then
                                                                  some (.inl ((x3 + 6), r1251.2))
                                                                else
                                                                  some (.inr (.inr (0, r1251.2)))
                                                              else
                                                                if v33 = 30 then
                                                                  (oXA L xs ((x3 + 1))).bind fun v1264 =>
                                                                  (oXA L xs ((x3 + 2))).bind fun v1269 =>
                                                                  (oXA L xs ((x3 + 3))).bind fun v1274 =>
                                                                  (oXA L xs ((x3 + 4))).bind fun v1279 =>
                                                                  (F_X8_odds m v1264 v1269 v1274 v1279).bind fun r1280 =>
                                                                  (oXA L xs ((x3 + 1))).bind fun v1288 =>
                                                                  (oXA L xs ((x3 + 2))).bind fun v1293 =>
                                                                  (oXA L xs ((x3 + 3))).bind fun v1298 =>
                                                                  (oXA L xs ((x3 + 4))).bind fun v1303 =>
                                                                  (F_X9_odds m v1288 v1293 v1298 v1303).bind fun r1304 =>
                                                                  if r1280 = r1304 then
                                                                    some (.inl ((x3 + 6), m))
                                                                  else
                                                                    some (.inr (.inr (0, m)))
                                                                else
                                                                  if v33 = 31 then
                                                                    (oXA L xs ((x3 + 1))).bind fun v1318 =>
                                                                    (oXA L xs ((x3 + 2))).bind fun v1323 =>
                                                                    (F_X8_plan m v1318 v1323).bind fun r1324 =>
                                                                    (oXA L xs ((x3 + 1))).bind fun v1332 =>
                                                                    (oXA L xs ((x3 + 2))).bind fun v1337 =>
                                                                    (F_X9_plan r1324.2 v1332 v1337).bind fun r1338 =>
                                                                    if r1324.1 = r1338.1 then
                                                                      some (.inl ((x3 + 6), r1338.2))
                                                                    else
                                                                      some (.inr (.inr (0, r1338.2)))
                                                                  else
                                                                    if v33 = 32 then
                                                                      (oXA L xs ((x3 + 1))).bind fun v1351 =>
                                                                      (F_X8_ends m v1351).bind fun r1352 =>
                                                                      (oXA L xs ((x3 + 1))).bind fun v1360 =>
                                                                      (F_X9_ends r1352.2 v1360).bind fun r1361 =>
                                                                      if r1352.1 = r1361.1 then
                                                                        some (.inl ((x3 + 6), r1361.2))
                                                                      else
                                                                        some (.inr (.inr (0, r1361.2)))
                                                                    else
                                                                      if v33 = 33 then
                                                                        (oXA L xs ((x3 + 1))).bind fun v1375 =>
                                                                        (F_X8_writePair m v1375).bind fun r1376 =>
                                                                        (oXA L xs ((x3 + 1))).bind fun v1384 =>
                                                                        (F_X9_writePair r1376.2 v1384).bind fun r1385 =>
                                                                        if r1376.1 = r1385.1 then
                                                                          some (.inl ((x3 + 6), r1385.2))
                                                                        else
                                                                          some (.inr (.inr (0, r1385.2)))
                                                                      else
                                                                        if v33 = 34 then
                                                                          (oXA L xs ((x3 + 1))).bind fun v1398 =>
                                                                          (F_X8_writeTrain m v1398).bind fun r1399 =>
                                                                          (oXA L xs ((x3 + 1))).bind fun v1407 =>
                                                                          (F_X9_writeTrain r1399.2 v1407).bind fun r1408 =>
                                                                          if r1399.1 = r1408.1 then
                                                                            some (.inl ((x3 + 6), r1408.2))
                                                                          else
                                                                            some (.inr (.inr (0, r1408.2)))
                                                                        else
                                                                          if v33 = 35 then
                                                                            (oXA L xs ((x3 + 1))).bind fun v1421 =>
                                                                            (F_X8_paper m v1421).bind fun r1422 =>
                                                                            (oXA L xs ((x3 + 1))).bind fun v1430 =>
                                                                            (F_X9_paper m v1430).bind fun r1431 =>
                                                                            if r1422 = r1431 then
                                                                              some (.inl ((x3 + 6), m))
                                                                            else
                                                                              some (.inr (.inr (0, m)))
                                                                          else
                                                                            if v33 = 36 then
                                                                              (oXA L xs ((x3 + 1))).bind fun v1444 =>
                                                                              (F_X8_judge m v1444).bind fun r1445 =>
                                                                              (oXA L xs ((x3 + 1))).bind fun v1453 =>
                                                                              (F_X9_judge m v1453).bind fun r1454 =>
                                                                              if r1445 = r1454 then
                                                                                some (.inl ((x3 + 6), m))
                                                                              else
                                                                                some (.inr (.inr (0, m)))
                                                                            else
                                                                              if v33 = 37 then
                                                                                (oXA L xs ((x3 + 1))).bind fun v1467 =>
                                                                                (oXA L xs ((x3 + 2))).bind fun v1472 =>
                                                                                (F_X8_list m v1467 v1472).bind fun r1473 =>
                                                                                (oXA L xs ((x3 + 1))).bind fun v1481 =>
                                                                                (oXA L xs ((x3 + 2))).bind fun v1486 =>
                                                                                (F_X9_list r1473.2 v1481 v1486).bind fun r1487 =>
                                                                                if r1473.1 = r1487.1 then
                                                                                  some (.inl ((x3 + 6), r1487.2))
                                                                                else
                                                                                  some (.inr (.inr (0, r1487.2)))
                                                                              else
                                                                                if v33 = 38 then
                                                                                  (oXA L xs ((x3 + 1))).bind fun v1500 =>
                                                                                  (oXA L xs ((x3 + 2))).bind fun v1505 =>
                                                                                  (oXA L xs ((x3 + 3))).bind fun v1510 =>
                                                                                  (oXA L xs ((x3 + 4))).bind fun v1519 =>
                                                                                  (F_X8_put m v1500 v1505 (((oLS (v1510.toInt64) 32) ||| (v1519.toInt64 &&& 4294967295)))).bind fun r1526 =>
                                                                                  (oXA L xs ((x3 + 1))).bind fun v1534 =>
                                                                                  (oXA L xs ((x3 + 2))).bind fun v1539 =>
                                                                                  (oXA L xs ((x3 + 3))).bind fun v1544 =>
                                                                                  (oXA L xs ((x3 + 4))).bind fun v1553 =>
                                                                                  (F_X9_put r1526.2 v1534 v1539 (((oLS (v1544.toInt64) 32) ||| (v1553.toInt64 &&& 4294967295)))).bind fun r1560 =>
                                                                                  if r1526.1 = r1560.1 then
                                                                                    some (.inl ((x3 + 6), r1560.2))
                                                                                  else
                                                                                    some (.inr (.inr (0, r1560.2)))
                                                                                else
                                                                                  if v33 = 39 then
                                                                                    (oXA L xs ((x3 + 1))).bind fun v1573 =>
                                                                                    (oXA L xs ((x3 + 2))).bind fun v1578 =>
                                                                                    (F_X8_get m v1573 v1578).bind fun r1579 =>
                                                                                    (oXA L xs ((x3 + 1))).bind fun v1587 =>
                                                                                    (oXA L xs ((x3 + 2))).bind fun v1592 =>
                                                                                    (F_X9_get m v1587 v1592).bind fun r1593 =>
                                                                                    if r1579 = r1593 then
                                                                                      some (.inl ((x3 + 6), m))
                                                                                    else
                                                                                      some (.inr (.inr (0, m)))
                                                                                  else
                                                                                    if v33 = 40 then
                                                                                      (F_X8_image m).bind fun r1603 =>
                                                                                      (F_X9_image r1603.2).bind fun r1607 =>
                                                                                      if r1603.1 = r1607.1 then
                                                                                        some (.inl ((x3 + 6), r1607.2))
                                                                                      else
                                                                                        some (.inr (.inr (0, r1607.2)))
                                                                                    else
                                                                                      if v33 = 41 then
                                                                                        (F_X8_undo m).bind fun r1616 =>
                                                                                        (F_X9_undo r1616.2).bind fun r1620 =>
                                                                                        if r1616.1 = r1620.1 then
                                                                                          some (.inl ((x3 + 6), r1620.2))
                                                                                        else
                                                                                          some (.inr (.inr (0, r1620.2)))
                                                                                      else
                                                                                        if v33 = 42 then
                                                                                          (oXA L xs ((x3 + 1))).bind fun v1633 =>
                                                                                          (F_X8_count m v1633).bind fun r1634 =>
                                                                                          (oXA L xs ((x3 + 1))).bind fun v1642 =>
                                                                                          (F_X9_count m v1642).bind fun r1643 =>
                                                                                          if r1634 = r1643 then
                                                                                            some (.inl ((x3 + 6), m))
                                                                                          else
                                                                                            some (.inr (.inr (0, m)))
                                                                                        else
                                                                                          some (.inl ((x3 + 6), m))
def F_L_law (L : Nat) (xs : Nat → Int32) (m : oM) : Option (Int32 × oM) :=
  (oLoop (fun s : Int32 × oM => F_L_law_L18 L xs s.1 s.2) oFuel (0, m)).bind fun b18 => Sum.elim (fun y18 =>
    some (1, y18)) (fun z18 => some (z18.1, z18.2)) b18
