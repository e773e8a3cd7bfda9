section OTAB
theorem oB1 {α β : Type} {a : Option α} {f : α → Option β} {b : β} (h : a.bind f = some b) : ∃ x, a = some x ∧ f x = some b := by
  cases a with
  | none => cases h
  | some x => exact ⟨x, rfl, h⟩
theorem oIp {α : Type} {c : Prop} {_ : Decidable c} {a b q : α} (hc : c) (h : (if c then a else b) = q) : a = q := by rwa [if_pos hc] at h
theorem oIn {α : Type} {c : Prop} {_ : Decidable c} {a b q : α} (hc : ¬ c) (h : (if c then a else b) = q) : b = q := by rwa [if_neg hc] at h
theorem oSl {α β γ : Type} {f : α → γ} {g : β → γ} {x : α} {q : γ} (h : Sum.elim f g (.inl x) = q) : f x = q := h
theorem oSr {α β γ : Type} {f : α → γ} {g : β → γ} {x : β} {q : γ} (h : Sum.elim f g (.inr x) = q) : g x = q := h
theorem oDz {α : Type} {c : Prop} {_ : Decidable c} {a b : α} (h : (if c then none else some a) = some b) : ¬ c ∧ some a = some b := by
  by_cases hc : c
  · rw [if_pos hc] at h; cases h
  · rw [if_neg hc] at h; exact ⟨hc, h⟩
theorem oXA_ok {L : Nat} {xs : Nat → Int32} {i v : Int32} (h : oXA L xs i = some v) : vp_in i L ∧ some (xs i.toNatClampNeg) = some v := oDz h
theorem oPZ_ok {m m1 : oM} {p k : Nat} {x : Int32} (h : oPZ m p k x = some m1) : (x = 0 ∨ x = 1) ∧ some (oSI m p k x) = some m1 := by
  unfold oPZ at h
  by_cases hc : x = 0 ∨ x = 1
  · rw [if_pos hc] at h; exact ⟨hc, h⟩
  · rw [if_neg hc] at h; cases h
theorem oZ_eq {x w : Int32} (h : oZ x = some w) : w = x := by
  unfold oZ at h
  split at h
  · exact (Option.some.inj h).symm
  · cases h
theorem oZ_ok {x w : Int32} (h : oZ x = some w) : w = 0 ∨ w = 1 := by
  have e := oZ_eq h
  subst e
  unfold oZ at h
  split at h
  · assumption
  · cases h
theorem oZc_eq {x w : Int32} (h : oZc x = some w) : w = x := by
  unfold oZc at h
  split at h
  · exact (Option.some.inj h).symm
  · cases h
theorem oZc_ok {x w : Int32} (h : oZc x = some w) : narrow .char (.int w) = .int w := by
  have e := oZc_eq h
  subst e
  unfold oZc at h
  split at h
  · assumption
  · cases h
theorem oLoop_zero {σ β : Type} {f : σ → Option (σ ⊕ β)} {s : σ} {b : β} (h : oLoop f 0 s = some b) : False := by cases h
def oNx {σ β : Type} (f : σ → Option (σ ⊕ β)) (n : Nat) (b : β) : σ ⊕ β → Prop
  | .inl s' => oLoop f n s' = some b
  | .inr b' => b' = b
theorem oLoop_succ {σ β : Type} {f : σ → Option (σ ⊕ β)} {n : Nat} {s : σ} {b : β} (h : oLoop f (n + 1) s = some b) : ∃ q, f s = some q ∧ oNx f n b q := by
  obtain ⟨q, h1, h2⟩ := oB1 h
  refine ⟨q, h1, ?_⟩
  cases q with
  | inl s' => exact h2
  | inr b' => exact Option.some.inj h2
theorem oAL_lit {m : oM} {p : Nat} {i : Int32} (hi : decide (i < 0 ∨ oLn p ≤ i.toNatClampNeg) = false) : oAL m p i = some (oRd m p i.toNatClampNeg) := by
  unfold oAL
  rw [if_neg (by simpa using hi)]
theorem oAS_lit {m m1 : oM} {p : Nat} {i v : Int32} (hi : decide (i < 0 ∨ oLn p ≤ i.toNatClampNeg) = false) (h : some (oSI m p i.toNatClampNeg v) = some m1) : oAS m p i v = some m1 := by
  unfold oAS
  rw [if_neg (by simpa using hi)]
  exact h
theorem oAddC {x c : Int32} {d : Int} (h : Int32.ofInt d = c) : x + Int32.ofInt d = x + c := by rw [h]
theorem oTs {x : Int32} {q : Int} {k : Int32} (hk : k.toInt = q) (h : x.toInt = q) : x = k := Int32.toInt_inj.mp (h.trans hk.symm)
theorem oLt66 {p : Nat} (h : p < 61) : p < 66 := by omega
theorem oFit_i {N M : oD} (h1 : N.2.2.2.2.frames + 1 ≤ M.2.2.2.2.frames) (h2 : 8 + (N.2.2.1 + 11) + N.2.2.2.2.locals ≤ M.2.2.2.2.locals) : oFit N M := ⟨h1, h2⟩
def oWA (p : Nat) : Prop := ∃ n, oShp p = .inr (0, n)
theorem oWA_i {p n : Nat} (h : oShp p = .inr (0, n)) : oWA p := ⟨n, h⟩
theorem oIA_lt {p : Nat} (h : oIA p) : p < 66 := by
  rcases h with rfl | ⟨n, h⟩
  · omega
  · exact oLt66 (oShp_lt h (by intro q; cases q))
theorem oWA_lt {p : Nat} (h : oWA p) : p < 66 := oIA_lt (Or.inr h)
section ONAME
variable {G : oG} {M : oD} {pc : Nat} {lv : List (Nat × Value)} {st : List Value} {m m' : oM} {r : Option Value}
theorem oRun.nameI {x y : Int32} (h : some x = some y) (k : oRun G M pc lv (.int y :: st) m r m') : oRun G M pc lv (.int x :: st) m r m' := by
  rw [Option.some.inj h]; exact k
theorem oRun.nameJ {x y : Int64} (h : some x = some y) (k : oRun G M pc lv (.long y :: st) m r m') : oRun G M pc lv (.long x :: st) m r m' := by
  rw [Option.some.inj h]; exact k
theorem oRun.nameM {m1 : oM} (h : some m = some m1) (k : oRun G M pc lv st m1 r m') : oRun G M pc lv st m r m' := by
  rw [Option.some.inj h]; exact k
end ONAME
def oOb (o : Nat) : Bool := o == 1 || o == 15 || o == 29
theorem oO_c {o : Nat} (h : oOb o = true) : o = 1 ∨ o = 15 ∨ o = 29 := by
  simp only [oOb, Bool.or_eq_true, beq_iff_eq] at h
  omega
def oPb (o : Nat) : Bool := o == 4 || o == 18 || o == 32
theorem oP_c {o : Nat} (h : oPb o = true) : o = 4 ∨ o = 18 ∨ o = 32 := by
  simp only [oPb, Bool.or_eq_true, beq_iff_eq] at h
  omega
def oTb (o : Nat) : Bool := o == 9 || o == 23 || o == 37
theorem oT_c {o : Nat} (h : oTb o = true) : o = 9 ∨ o = 23 ∨ o = 37 := by
  simp only [oTb, Bool.or_eq_true, beq_iff_eq] at h
  omega
def oNb (o : Nat) : Bool := o == 12 || o == 26 || o == 40
theorem oN_c {o : Nat} (h : oNb o = true) : o = 12 ∨ o = 26 ∨ o = 40 := by
  simp only [oNb, Bool.or_eq_true, beq_iff_eq] at h
  omega
theorem oO_sh {o : Nat} (h : oOb o = true) : oShp o = .inl (1, [(0, 0), (2, o + 1), (2, o + 2), (0, 0), (0, 0), (2, o + 3), (2, o + 8), (0, 0), (0, 0), (2, o + 11)]) := by
  rcases oO_c h with rfl | rfl | rfl <;> rfl
theorem oO_lt {o : Nat} (h : oOb o = true) : o < 61 := by
  rcases oO_c h with rfl | rfl | rfl <;> decide
theorem oO_l1 {o : Nat} (h : oOb o = true) : o + 1 < 61 := by
  rcases oO_c h with rfl | rfl | rfl <;> decide
theorem oO_a1 {o : Nat} (h : oOb o = true) : oShp (o + 1) = .inr (0, 6) := by
  rcases oO_c h with rfl | rfl | rfl <;> rfl
theorem oO_l2 {o : Nat} (h : oOb o = true) : o + 2 < 61 := by
  rcases oO_c h with rfl | rfl | rfl <;> decide
theorem oO_a2 {o : Nat} (h : oOb o = true) : oShp (o + 2) = .inr (0, 6) := by
  rcases oO_c h with rfl | rfl | rfl <;> rfl
theorem oO_l3 {o : Nat} (h : oOb o = true) : o + 3 < 61 := by
  rcases oO_c h with rfl | rfl | rfl <;> decide
theorem oO_P {o : Nat} (h : oOb o = true) : oPb (o + 3) = true := by
  rcases oO_c h with rfl | rfl | rfl <;> rfl
theorem oO_l8 {o : Nat} (h : oOb o = true) : o + 8 < 61 := by
  rcases oO_c h with rfl | rfl | rfl <;> decide
theorem oO_T {o : Nat} (h : oOb o = true) : oTb (o + 8) = true := by
  rcases oO_c h with rfl | rfl | rfl <;> rfl
theorem oO_l11 {o : Nat} (h : oOb o = true) : o + 11 < 61 := by
  rcases oO_c h with rfl | rfl | rfl <;> decide
theorem oO_N {o : Nat} (h : oOb o = true) : oNb (o + 11) = true := by
  rcases oO_c h with rfl | rfl | rfl <;> rfl
theorem oP_sh {o : Nat} (h : oPb o = true) : oShp o = .inl (2, [(0, 0), (2, o + 1), (2, o + 2), (2, o + 3), (2, o + 4)]) := by
  rcases oP_c h with rfl | rfl | rfl <;> rfl
theorem oP_lt {o : Nat} (h : oPb o = true) : o < 61 := by
  rcases oP_c h with rfl | rfl | rfl <;> decide
theorem oP_l1 {o : Nat} (h : oPb o = true) : o + 1 < 61 := by
  rcases oP_c h with rfl | rfl | rfl <;> decide
theorem oP_a1 {o : Nat} (h : oPb o = true) : oShp (o + 1) = .inr (0, 10) := by
  rcases oP_c h with rfl | rfl | rfl <;> rfl
theorem oP_l2 {o : Nat} (h : oPb o = true) : o + 2 < 61 := by
  rcases oP_c h with rfl | rfl | rfl <;> decide
theorem oP_a2 {o : Nat} (h : oPb o = true) : oShp (o + 2) = .inr (0, 10) := by
  rcases oP_c h with rfl | rfl | rfl <;> rfl
theorem oP_l3 {o : Nat} (h : oPb o = true) : o + 3 < 61 := by
  rcases oP_c h with rfl | rfl | rfl <;> decide
theorem oP_a3 {o : Nat} (h : oPb o = true) : oShp (o + 3) = .inr (0, 10) := by
  rcases oP_c h with rfl | rfl | rfl <;> rfl
theorem oP_l4 {o : Nat} (h : oPb o = true) : o + 4 < 61 := by
  rcases oP_c h with rfl | rfl | rfl <;> decide
theorem oP_a4 {o : Nat} (h : oPb o = true) : oShp (o + 4) = .inr (0, 10) := by
  rcases oP_c h with rfl | rfl | rfl <;> rfl
theorem oT_sh {o : Nat} (h : oTb o = true) : oShp o = .inl (7, [(2, o + 1), (2, o + 2)]) := by
  rcases oT_c h with rfl | rfl | rfl <;> rfl
theorem oT_lt {o : Nat} (h : oTb o = true) : o < 61 := by
  rcases oT_c h with rfl | rfl | rfl <;> decide
theorem oT_l1 {o : Nat} (h : oTb o = true) : o + 1 < 61 := by
  rcases oT_c h with rfl | rfl | rfl <;> decide
theorem oT_a1 {o : Nat} (h : oTb o = true) : oShp (o + 1) = .inr (0, 6) := by
  rcases oT_c h with rfl | rfl | rfl <;> rfl
theorem oT_l2 {o : Nat} (h : oTb o = true) : o + 2 < 61 := by
  rcases oT_c h with rfl | rfl | rfl <;> decide
theorem oT_a2 {o : Nat} (h : oTb o = true) : oShp (o + 2) = .inr (0, 18) := by
  rcases oT_c h with rfl | rfl | rfl <;> rfl
theorem oN_sh {o : Nat} (h : oNb o = true) : oShp o = .inl (3, [(0, 0), (2, o + 1), (2, o + 2)]) := by
  rcases oN_c h with rfl | rfl | rfl <;> rfl
theorem oN_lt {o : Nat} (h : oNb o = true) : o < 61 := by
  rcases oN_c h with rfl | rfl | rfl <;> decide
theorem oN_l1 {o : Nat} (h : oNb o = true) : o + 1 < 61 := by
  rcases oN_c h with rfl | rfl | rfl <;> decide
theorem oN_a1 {o : Nat} (h : oNb o = true) : oShp (o + 1) = .inr (0, 8) := by
  rcases oN_c h with rfl | rfl | rfl <;> rfl
theorem oN_l2 {o : Nat} (h : oNb o = true) : o + 2 < 61 := by
  rcases oN_c h with rfl | rfl | rfl <;> decide
theorem oN_a2 {o : Nat} (h : oNb o = true) : oShp (o + 2) = .inr (0, 8) := by
  rcases oN_c h with rfl | rfl | rfl <;> rfl
theorem oc_bm100 : (Int8.ofInt (-100)).toInt32 = (-100) := by decide +kernel
theorem oc_bm99 : (Int8.ofInt (-99)).toInt32 = (-99) := by decide +kernel
theorem oc_bm14 : (Int8.ofInt (-14)).toInt32 = (-14) := by decide +kernel
theorem oc_bm13 : (Int8.ofInt (-13)).toInt32 = (-13) := by decide +kernel
theorem oc_bm11 : (Int8.ofInt (-11)).toInt32 = (-11) := by decide +kernel
theorem oc_bm5 : (Int8.ofInt (-5)).toInt32 = (-5) := by decide +kernel
theorem oc_bm4 : (Int8.ofInt (-4)).toInt32 = (-4) := by decide +kernel
theorem oc_bm3 : (Int8.ofInt (-3)).toInt32 = (-3) := by decide +kernel
theorem oc_bm2 : (Int8.ofInt (-2)).toInt32 = (-2) := by decide +kernel
theorem oc_b6 : (Int8.ofInt 6).toInt32 = 6 := by decide +kernel
theorem oc_b7 : (Int8.ofInt 7).toInt32 = 7 := by decide +kernel
theorem oc_b8 : (Int8.ofInt 8).toInt32 = 8 := by decide +kernel
theorem oc_b9 : (Int8.ofInt 9).toInt32 = 9 := by decide +kernel
theorem oc_b10 : (Int8.ofInt 10).toInt32 = 10 := by decide +kernel
theorem oc_b12 : (Int8.ofInt 12).toInt32 = 12 := by decide +kernel
theorem oc_b13 : (Int8.ofInt 13).toInt32 = 13 := by decide +kernel
theorem oc_b14 : (Int8.ofInt 14).toInt32 = 14 := by decide +kernel
theorem oc_b16 : (Int8.ofInt 16).toInt32 = 16 := by decide +kernel
theorem oc_b19 : (Int8.ofInt 19).toInt32 = 19 := by decide +kernel
theorem oc_b25 : (Int8.ofInt 25).toInt32 = 25 := by decide +kernel
theorem oc_b27 : (Int8.ofInt 27).toInt32 = 27 := by decide +kernel
theorem oc_b30 : (Int8.ofInt 30).toInt32 = 30 := by decide +kernel
theorem oc_b32 : (Int8.ofInt 32).toInt32 = 32 := by decide +kernel
theorem oc_b43 : (Int8.ofInt 43).toInt32 = 43 := by decide +kernel
theorem oc_b47 : (Int8.ofInt 47).toInt32 = 47 := by decide +kernel
theorem oc_b48 : (Int8.ofInt 48).toInt32 = 48 := by decide +kernel
theorem oc_b49 : (Int8.ofInt 49).toInt32 = 49 := by decide +kernel
theorem oc_b53 : (Int8.ofInt 53).toInt32 = 53 := by decide +kernel
theorem oc_b57 : (Int8.ofInt 57).toInt32 = 57 := by decide +kernel
theorem oc_b59 : (Int8.ofInt 59).toInt32 = 59 := by decide +kernel
theorem oc_b60 : (Int8.ofInt 60).toInt32 = 60 := by decide +kernel
theorem oc_b63 : (Int8.ofInt 63).toInt32 = 63 := by decide +kernel
theorem oc_b73 : (Int8.ofInt 73).toInt32 = 73 := by decide +kernel
theorem oc_b83 : (Int8.ofInt 83).toInt32 = 83 := by decide +kernel
theorem oc_b91 : (Int8.ofInt 91).toInt32 = 91 := by decide +kernel
theorem oc_b97 : (Int8.ofInt 97).toInt32 = 97 := by decide +kernel
theorem oc_b99 : (Int8.ofInt 99).toInt32 = 99 := by decide +kernel
theorem oc_b100 : (Int8.ofInt 100).toInt32 = 100 := by decide +kernel
theorem oc_b127 : (Int8.ofInt 127).toInt32 = 127 := by decide +kernel
theorem oc_im1 : Int32.ofInt (-1) = (-1) := by decide +kernel
theorem oc_i0 : Int32.ofInt 0 = 0 := by decide +kernel
theorem oc_i1 : Int32.ofInt 1 = 1 := by decide +kernel
theorem oc_i2 : Int32.ofInt 2 = 2 := by decide +kernel
theorem oc_i3 : Int32.ofInt 3 = 3 := by decide +kernel
theorem oc_i4 : Int32.ofInt 4 = 4 := by decide +kernel
theorem oc_i5 : Int32.ofInt 5 = 5 := by decide +kernel
theorem oc_i6 : Int32.ofInt 6 = 6 := by decide +kernel
theorem oc_l0 : Int64.ofNat ((0 : Fin 2) : Nat) = 0 := by decide +kernel
theorem oc_l1 : Int64.ofNat ((1 : Fin 2) : Nat) = 1 := by decide +kernel
theorem oc_sm9999 : (Int16.ofInt (-9999)).toInt32 = (-9999) := by decide +kernel
theorem oc_s255 : (Int16.ofInt 255).toInt32 = 255 := by decide +kernel
theorem oc_s499 : (Int16.ofInt 499).toInt32 = 499 := by decide +kernel
theorem oc_s999 : (Int16.ofInt 999).toInt32 = 999 := by decide +kernel
theorem oc_s2047 : (Int16.ofInt 2047).toInt32 = 2047 := by decide +kernel
theorem oc_s4094 : (Int16.ofInt 4094).toInt32 = 4094 := by decide +kernel
theorem oc_s9999 : (Int16.ofInt 9999).toInt32 = 9999 := by decide +kernel
theorem oc_s10000 : (Int16.ofInt 10000).toInt32 = 10000 := by decide +kernel
theorem oc_s12345 : (Int16.ofInt 12345).toInt32 = 12345 := by decide +kernel
abbrev M_X8_isRatio : oD := (yX8_isRatio, cX8_isRatio, 2, (some .boolean), { frames := 0, cells := 0, slots := 0, locals := 0 })
theorem md_X8_isRatio : oMd M_X8_isRatio 2 := ⟨wd_1_1, wd_2_6, ⟨by decide +kernel, by decide +kernel⟩, by decide +kernel, by decide +kernel, rfl, rfl⟩
abbrev M_J9_abs_067f4 : oD := (yJ9_abs_067f4, cJ9_abs_067f4, 2, (some .long), { frames := 0, cells := 0, slots := 0, locals := 0 })
theorem md_J9_abs_067f4 : oMd M_J9_abs_067f4 1 := ⟨wd_1_11, wd_2_16, ⟨by decide +kernel, by decide +kernel⟩, by decide +kernel, by decide +kernel, rfl, rfl⟩
abbrev M_X8_greatestCommon : oD := (yX8_greatestCommon, cX8_greatestCommon, 11, (some .long), { frames := 0, cells := 0, slots := 0, locals := 0 })
theorem md_X8_greatestCommon : oMd M_X8_greatestCommon 2 := ⟨wd_1_1, wd_2_19, ⟨by decide +kernel, by decide +kernel⟩, by decide +kernel, by decide +kernel, rfl, rfl⟩
abbrev M_X8_quotient : oD := (yX8_quotient, cX8_quotient, 4, (some .long), { frames := 0, cells := 0, slots := 0, locals := 0 })
theorem md_X8_quotient : oMd M_X8_quotient 2 := ⟨wd_1_1, wd_2_22, ⟨by decide +kernel, by decide +kernel⟩, by decide +kernel, by decide +kernel, rfl, rfl⟩
abbrev M_X8_lowest : oD := (yX8_lowest, cX8_lowest, 7, (some .long), { frames := 1, cells := 0, slots := 0, locals := 30 })
theorem md_X8_lowest : oMd M_X8_lowest 3 := ⟨wd_1_1, wd_2_13, ⟨by decide +kernel, by decide +kernel⟩, by decide +kernel, by decide +kernel, rfl, rfl⟩
abbrev M_X8_set : oD := (yX8_set, cX8_set, 3, none, { frames := 0, cells := 0, slots := 0, locals := 0 })
theorem md_X8_set : oMd M_X8_set 3 := ⟨wd_1_1, wd_2_25, ⟨by decide +kernel, by decide +kernel⟩, by decide +kernel, by decide +kernel, rfl, rfl⟩
abbrev M_X1_wish : oD := (yX1_wish, cX1_wish, 4, none, { frames := 2, cells := 0, slots := 0, locals := 56 })
theorem md_X1_wish : oMd M_X1_wish 3 := ⟨wd_1_2, wd_2_10, ⟨by decide +kernel, by decide +kernel⟩, by decide +kernel, by decide +kernel, rfl, rfl⟩
abbrev M_X8_body : oD := (yX8_body, cX8_body, 3, (some .int), { frames := 3, cells := 0, slots := 0, locals := 79 })
theorem md_X8_body : oMd M_X8_body 2 := ⟨wd_1_1, wd_2_3, ⟨by decide +kernel, by decide +kernel⟩, by decide +kernel, by decide +kernel, rfl, rfl⟩
abbrev M_X9_isIn : oD := (yX9_isIn, cX9_isIn, 6, (some .boolean), { frames := 0, cells := 0, slots := 0, locals := 0 })
theorem md_X9_isIn : oMd M_X9_isIn 3 := ⟨wd_1_10, wd_4_167, ⟨by decide +kernel, by decide +kernel⟩, by decide +kernel, by decide +kernel, rfl, rfl⟩
abbrev M_X9_isRatio : oD := (yX9_isRatio, cX9_isRatio, 2, (some .boolean), { frames := 1, cells := 0, slots := 0, locals := 25 })
theorem md_X9_isRatio : oMd M_X9_isRatio 2 := ⟨wd_1_10, wd_4_163, ⟨by decide +kernel, by decide +kernel⟩, by decide +kernel, by decide +kernel, rfl, rfl⟩
abbrev M_X9_common : oD := (yX9_common, cX9_common, 10, (some .long), { frames := 0, cells := 0, slots := 0, locals := 0 })
theorem md_X9_common : oMd M_X9_common 2 := ⟨wd_1_10, wd_4_177, ⟨by decide +kernel, by decide +kernel⟩, by decide +kernel, by decide +kernel, rfl, rfl⟩
abbrev M_X9_told : oD := (yX9_told, cX9_told, 7, (some .long), { frames := 1, cells := 0, slots := 0, locals := 29 })
theorem md_X9_told : oMd M_X9_told 3 := ⟨wd_1_10, wd_4_174, ⟨by decide +kernel, by decide +kernel⟩, by decide +kernel, by decide +kernel, rfl, rfl⟩
abbrev M_X9_becomesRatio : oD := (yX9_becomesRatio, cX9_becomesRatio, 4, none, { frames := 2, cells := 0, slots := 0, locals := 55 })
theorem md_X9_becomesRatio : oMd M_X9_becomesRatio 3 := ⟨wd_1_10, wd_4_171, ⟨by decide +kernel, by decide +kernel⟩, by decide +kernel, by decide +kernel, rfl, rfl⟩
abbrev M_X9_body : oD := (yX9_body, cX9_body, 3, (some .int), { frames := 3, cells := 0, slots := 0, locals := 78 })
theorem md_X9_body : oMd M_X9_body 2 := ⟨wd_1_10, wd_4_160, ⟨by decide +kernel, by decide +kernel⟩, by decide +kernel, by decide +kernel, rfl, rfl⟩
abbrev M_X1_hasBody : oD := (yX1_hasBody, cX1_hasBody, 2, (some .boolean), { frames := 0, cells := 0, slots := 0, locals := 0 })
theorem md_X1_hasBody : oMd M_X1_hasBody 1 := ⟨wd_1_2, wd_2_33, ⟨by decide +kernel, by decide +kernel⟩, by decide +kernel, by decide +kernel, rfl, rfl⟩
abbrev M_X8_at : oD := (yX8_at, cX8_at, 2, (some .int), { frames := 0, cells := 0, slots := 0, locals := 0 })
theorem md_X8_at : oMd M_X8_at 2 := ⟨wd_1_1, wd_2_36, ⟨by decide +kernel, by decide +kernel⟩, by decide +kernel, by decide +kernel, rfl, rfl⟩
abbrev M_X8_ratio : oD := (yX8_ratio, cX8_ratio, 5, (some .int), { frames := 3, cells := 0, slots := 0, locals := 79 })
theorem md_X8_ratio : oMd M_X8_ratio 3 := ⟨wd_1_1, wd_2_29, ⟨by decide +kernel, by decide +kernel⟩, by decide +kernel, by decide +kernel, rfl, rfl⟩
abbrev M_X9_isBody : oD := (yX9_isBody, cX9_isBody, 2, (some .boolean), { frames := 1, cells := 0, slots := 0, locals := 25 })
theorem md_X9_isBody : oMd M_X9_isBody 1 := ⟨wd_1_10, wd_4_185, ⟨by decide +kernel, by decide +kernel⟩, by decide +kernel, by decide +kernel, rfl, rfl⟩
abbrev M_X9_ratio : oD := (yX9_ratio, cX9_ratio, 5, (some .int), { frames := 3, cells := 0, slots := 0, locals := 78 })
theorem md_X9_ratio : oMd M_X9_ratio 3 := ⟨wd_1_10, wd_4_181, ⟨by decide +kernel, by decide +kernel⟩, by decide +kernel, by decide +kernel, rfl, rfl⟩
abbrev M_X8_term : oD := (yX8_term, cX8_term, 8, (some .int), { frames := 1, cells := 0, slots := 0, locals := 21 })
theorem md_X8_term : oMd M_X8_term 2 := ⟨wd_1_1, wd_2_40, ⟨by decide +kernel, by decide +kernel⟩, by decide +kernel, by decide +kernel, rfl, rfl⟩
abbrev M_X9_terms : oD := (yX9_terms, cX9_terms, 6, (some .int), { frames := 0, cells := 0, slots := 0, locals := 0 })
theorem md_X9_terms : oMd M_X9_terms 1 := ⟨wd_1_10, wd_4_193, ⟨by decide +kernel, by decide +kernel⟩, by decide +kernel, by decide +kernel, rfl, rfl⟩
abbrev M_X9_term : oD := (yX9_term, cX9_term, 4, (some .int), { frames := 2, cells := 0, slots := 0, locals := 46 })
theorem md_X9_term : oMd M_X9_term 2 := ⟨wd_1_10, wd_4_189, ⟨by decide +kernel, by decide +kernel⟩, by decide +kernel, by decide +kernel, rfl, rfl⟩
abbrev M_X8_isPart : oD := (yX8_isPart, cX8_isPart, 1, (some .boolean), { frames := 0, cells := 0, slots := 0, locals := 0 })
theorem md_X8_isPart : oMd M_X8_isPart 1 := ⟨wd_1_1, wd_2_47, ⟨by decide +kernel, by decide +kernel⟩, by decide +kernel, by decide +kernel, rfl, rfl⟩
abbrev M_X8_convergent : oD := (yX8_convergent, cX8_convergent, 22, (some .long), { frames := 2, cells := 0, slots := 0, locals := 56 })
theorem md_X8_convergent : oMd M_X8_convergent 3 := ⟨wd_1_1, wd_2_44, ⟨by decide +kernel, by decide +kernel⟩, by decide +kernel, by decide +kernel, rfl, rfl⟩
abbrev M_X9_isPart : oD := (yX9_isPart, cX9_isPart, 1, (some .boolean), { frames := 1, cells := 0, slots := 0, locals := 25 })
theorem md_X9_isPart : oMd M_X9_isPart 1 := ⟨wd_1_10, wd_4_200, ⟨by decide +kernel, by decide +kernel⟩, by decide +kernel, by decide +kernel, rfl, rfl⟩
abbrev M_X9_convergent : oD := (yX9_convergent, cX9_convergent, 11, (some .long), { frames := 2, cells := 0, slots := 0, locals := 55 })
theorem md_X9_convergent : oMd M_X9_convergent 3 := ⟨wd_1_10, wd_4_197, ⟨by decide +kernel, by decide +kernel⟩, by decide +kernel, by decide +kernel, rfl, rfl⟩
abbrev M_X8_near : oD := (yX8_near, cX8_near, 18, (some .long), { frames := 2, cells := 0, slots := 0, locals := 56 })
theorem md_X8_near : oMd M_X8_near 3 := ⟨wd_1_1, wd_2_53, ⟨by decide +kernel, by decide +kernel⟩, by decide +kernel, by decide +kernel, rfl, rfl⟩
abbrev M_X9_near : oD := (yX9_near, cX9_near, 19, (some .long), { frames := 2, cells := 0, slots := 0, locals := 55 })
theorem md_X9_near : oMd M_X9_near 3 := ⟨wd_1_10, wd_4_205, ⟨by decide +kernel, by decide +kernel⟩, by decide +kernel, by decide +kernel, rfl, rfl⟩
abbrev M_X8_isTeeth : oD := (yX8_isTeeth, cX8_isTeeth, 1, (some .boolean), { frames := 0, cells := 0, slots := 0, locals := 0 })
theorem md_X8_isTeeth : oMd M_X8_isTeeth 1 := ⟨wd_1_1, wd_2_60, ⟨by decide +kernel, by decide +kernel⟩, by decide +kernel, by decide +kernel, rfl, rfl⟩
abbrev M_X8_bounds : oD := (yX8_bounds, cX8_bounds, 4, (some .int), { frames := 1, cells := 0, slots := 0, locals := 20 })
theorem md_X8_bounds : oMd M_X8_bounds 2 := ⟨wd_1_1, wd_2_57, ⟨by decide +kernel, by decide +kernel⟩, by decide +kernel, by decide +kernel, rfl, rfl⟩
abbrev M_X9_bounds : oD := (yX9_bounds, cX9_bounds, 4, (some .int), { frames := 1, cells := 0, slots := 0, locals := 25 })
theorem md_X9_bounds : oMd M_X9_bounds 2 := ⟨wd_1_10, wd_4_210, ⟨by decide +kernel, by decide +kernel⟩, by decide +kernel, by decide +kernel, rfl, rfl⟩
abbrev M_X8_splitIntoOne : oD := (yX8_splitIntoOne, cX8_splitIntoOne, 3, (some .int), { frames := 0, cells := 0, slots := 0, locals := 0 })
theorem md_X8_splitIntoOne : oMd M_X8_splitIntoOne 2 := ⟨wd_1_1, wd_2_68, ⟨by decide +kernel, by decide +kernel⟩, by decide +kernel, by decide +kernel, rfl, rfl⟩
abbrev M_X8_splitIntoTwo : oD := (yX8_splitIntoTwo, cX8_splitIntoTwo, 4, (some .int), { frames := 0, cells := 0, slots := 0, locals := 0 })
theorem md_X8_splitIntoTwo : oMd M_X8_splitIntoTwo 2 := ⟨wd_1_1, wd_2_72, ⟨by decide +kernel, by decide +kernel⟩, by decide +kernel, by decide +kernel, rfl, rfl⟩
abbrev M_X8_split : oD := (yX8_split, cX8_split, 7, (some .int), { frames := 1, cells := 0, slots := 0, locals := 23 })
theorem md_X8_split : oMd M_X8_split 3 := ⟨wd_1_1, wd_2_64, ⟨by decide +kernel, by decide +kernel⟩, by decide +kernel, by decide +kernel, rfl, rfl⟩
abbrev M_X9_isWithin : oD := (yX9_isWithin, cX9_isWithin, 2, (some .boolean), { frames := 1, cells := 0, slots := 0, locals := 25 })
theorem md_X9_isWithin : oMd M_X9_isWithin 1 := ⟨wd_1_10, wd_4_220, ⟨by decide +kernel, by decide +kernel⟩, by decide +kernel, by decide +kernel, rfl, rfl⟩
abbrev M_X9_split : oD := (yX9_split, cX9_split, 8, (some .int), { frames := 2, cells := 0, slots := 0, locals := 46 })
theorem md_X9_split : oMd M_X9_split 3 := ⟨wd_1_10, wd_4_215, ⟨by decide +kernel, by decide +kernel⟩, by decide +kernel, by decide +kernel, rfl, rfl⟩
abbrev M_X8_prime : oD := (yX8_prime, cX8_prime, 7, (some .int), { frames := 0, cells := 0, slots := 0, locals := 0 })
theorem md_X8_prime : oMd M_X8_prime 2 := ⟨wd_1_1, wd_2_76, ⟨by decide +kernel, by decide +kernel⟩, by decide +kernel, by decide +kernel, rfl, rfl⟩
abbrev M_X9_prime : oD := (yX9_prime, cX9_prime, 6, (some .int), { frames := 1, cells := 0, slots := 0, locals := 25 })
theorem md_X9_prime : oMd M_X9_prime 2 := ⟨wd_1_10, wd_4_224, ⟨by decide +kernel, by decide +kernel⟩, by decide +kernel, by decide +kernel, rfl, rfl⟩
abbrev M_X8_feed : oD := (yX8_feed, cX8_feed, 2, (some .int), { frames := 1, cells := 0, slots := 0, locals := 22 })
theorem md_X8_feed : oMd M_X8_feed 1 := ⟨wd_1_1, wd_2_80, ⟨by decide +kernel, by decide +kernel⟩, by decide +kernel, by decide +kernel, rfl, rfl⟩
abbrev M_X9_feed : oD := (yX9_feed, cX9_feed, 2, (some .int), { frames := 1, cells := 0, slots := 0, locals := 25 })
theorem md_X9_feed : oMd M_X9_feed 1 := ⟨wd_1_10, wd_4_229, ⟨by decide +kernel, by decide +kernel⟩, by decide +kernel, by decide +kernel, rfl, rfl⟩
abbrev M_X8_kindOf : oD := (yX8_kindOf, cX8_kindOf, 2, (some .int), { frames := 0, cells := 0, slots := 0, locals := 0 })
theorem md_X8_kindOf : oMd M_X8_kindOf 1 := ⟨wd_1_1, wd_2_96, ⟨by decide +kernel, by decide +kernel⟩, by decide +kernel, by decide +kernel, rfl, rfl⟩
abbrev M_X6_fitsClause : oD := (yX6_fitsClause, cX6_fitsClause, 2, (some .boolean), { frames := 1, cells := 0, slots := 0, locals := 21 })
theorem md_X6_fitsClause : oMd M_X6_fitsClause 2 := ⟨wd_1_6, wd_2_93, ⟨by decide +kernel, by decide +kernel⟩, by decide +kernel, by decide +kernel, rfl, rfl⟩
abbrev M_X6_faultAsPairs : oD := (yX6_faultAsPairs, cX6_faultAsPairs, 2, (some .int), { frames := 2, cells := 0, slots := 0, locals := 42 })
theorem md_X6_faultAsPairs : oMd M_X6_faultAsPairs 0 := ⟨wd_1_6, wd_2_89, ⟨by decide +kernel, by decide +kernel⟩, by decide +kernel, by decide +kernel, rfl, rfl⟩
abbrev M_X6_clauses : oD := (yX6_clauses, cX6_clauses, 1, (some .int), { frames := 0, cells := 0, slots := 0, locals := 0 })
theorem md_X6_clauses : oMd M_X6_clauses 0 := ⟨wd_1_6, wd_2_102, ⟨by decide +kernel, by decide +kernel⟩, by decide +kernel, by decide +kernel, rfl, rfl⟩
abbrev M_X6_figureAt : oD := (yX6_figureAt, cX6_figureAt, 2, (some .int), { frames := 1, cells := 0, slots := 0, locals := 21 })
theorem md_X6_figureAt : oMd M_X6_figureAt 1 := ⟨wd_1_6, wd_2_110, ⟨by decide +kernel, by decide +kernel⟩, by decide +kernel, by decide +kernel, rfl, rfl⟩
abbrev M_X6_numberAt : oD := (yX6_numberAt, cX6_numberAt, 2, (some .int), { frames := 2, cells := 0, slots := 0, locals := 42 })
theorem md_X6_numberAt : oMd M_X6_numberAt 1 := ⟨wd_1_6, wd_2_114, ⟨by decide +kernel, by decide +kernel⟩, by decide +kernel, by decide +kernel, rfl, rfl⟩
abbrev M_X2_add : oD := (yX2_add, cX2_add, 5, none, { frames := 1, cells := 0, slots := 0, locals := 22 })
theorem md_X2_add : oMd M_X2_add 4 := ⟨wd_1_3, wd_2_118, ⟨by decide +kernel, by decide +kernel⟩, by decide +kernel, by decide +kernel, rfl, rfl⟩
abbrev M_X6_tellPair : oD := (yX6_tellPair, cX6_tellPair, 4, none, { frames := 3, cells := 0, slots := 0, locals := 63 })
theorem md_X6_tellPair : oMd M_X6_tellPair 2 := ⟨wd_1_6, wd_2_106, ⟨by decide +kernel, by decide +kernel⟩, by decide +kernel, by decide +kernel, rfl, rfl⟩
abbrev M_X8_pairs : oD := (yX8_pairs, cX8_pairs, 4, (some .int), { frames := 4, cells := 0, slots := 0, locals := 86 })
theorem md_X8_pairs : oMd M_X8_pairs 0 := ⟨wd_1_1, wd_2_85, ⟨by decide +kernel, by decide +kernel⟩, by decide +kernel, by decide +kernel, rfl, rfl⟩
abbrev M_X9_here : oD := (yX9_here, cX9_here, 1, (some .int), { frames := 0, cells := 0, slots := 0, locals := 0 })
theorem md_X9_here : oMd M_X9_here 0 := ⟨wd_1_10, wd_5_6, ⟨by decide +kernel, by decide +kernel⟩, by decide +kernel, by decide +kernel, rfl, rfl⟩
abbrev M_J0_isLatin1_aae02 : oD := (yJ0_isLatin1_aae02, cJ0_isLatin1_aae02, 1, (some .boolean), { frames := 0, cells := 0, slots := 0, locals := 0 })
theorem md_J0_isLatin1_aae02 : oMd M_J0_isLatin1_aae02 0 := ⟨wd_1_12, wd_5_15, ⟨by decide +kernel, by decide +kernel⟩, by decide +kernel, by decide +kernel, rfl, rfl⟩
abbrev M_J3_checkIndex_8e157 : oD := (yJ3_checkIndex_8e157, cJ3_checkIndex_8e157, 3, (some .int), { frames := 0, cells := 0, slots := 0, locals := 0 })
theorem md_J3_checkIndex_8e157 : oMd M_J3_checkIndex_8e157 3 := ⟨wd_1_14, wd_5_28, ⟨by decide +kernel, by decide +kernel⟩, by decide +kernel, by decide +kernel, rfl, rfl⟩
abbrev M_J0_checkIndex_df160 : oD := (yJ0_checkIndex_df160, cJ0_checkIndex_df160, 2, none, { frames := 1, cells := 0, slots := 0, locals := 22 })
theorem md_J0_checkIndex_df160 : oMd M_J0_checkIndex_df160 2 := ⟨wd_1_12, wd_5_23, ⟨by decide +kernel, by decide +kernel⟩, by decide +kernel, by decide +kernel, rfl, rfl⟩
abbrev M_J1_charAt_3b067 : oD := (yJ1_charAt_3b067, cJ1_charAt_3b067, 2, (some .char), { frames := 2, cells := 0, slots := 0, locals := 43 })
theorem md_J1_charAt_3b067 : oMd M_J1_charAt_3b067 2 := ⟨wd_1_13, wd_5_20, ⟨by decide +kernel, by decide +kernel⟩, by decide +kernel, by decide +kernel, rfl, rfl⟩
abbrev M_J0_charAt_5068e : oD := (yJ0_charAt_5068e, cJ0_charAt_5068e, 2, (some .char), { frames := 3, cells := 0, slots := 0, locals := 64 })
theorem md_J0_charAt_5068e : oMd M_J0_charAt_5068e 1 := ⟨wd_1_12, wd_5_11, ⟨by decide +kernel, by decide +kernel⟩, by decide +kernel, by decide +kernel, rfl, rfl⟩
abbrev M_X9_fails : oD := (yX9_fails, cX9_fails, 1, none, { frames := 0, cells := 0, slots := 0, locals := 0 })
theorem md_X9_fails : oMd M_X9_fails 0 := ⟨wd_1_10, wd_5_51, ⟨by decide +kernel, by decide +kernel⟩, by decide +kernel, by decide +kernel, rfl, rfl⟩
abbrev M_X9_kindHere : oD := (yX9_kindHere, cX9_kindHere, 2, (some .int), { frames := 4, cells := 0, slots := 0, locals := 85 })
theorem md_X9_kindHere : oMd M_X9_kindHere 0 := ⟨wd_1_10, wd_5_2, ⟨by decide +kernel, by decide +kernel⟩, by decide +kernel, by decide +kernel, rfl, rfl⟩
abbrev M_X9_figure : oD := (yX9_figure, cX9_figure, 3, (some .int), { frames := 1, cells := 0, slots := 0, locals := 25 })
theorem md_X9_figure : oMd M_X9_figure 1 := ⟨wd_1_10, wd_5_55, ⟨by decide +kernel, by decide +kernel⟩, by decide +kernel, by decide +kernel, rfl, rfl⟩
abbrev M_X9_must : oD := (yX9_must, cX9_must, 2, none, { frames := 1, cells := 0, slots := 0, locals := 20 })
theorem md_X9_must : oMd M_X9_must 1 := ⟨wd_1_10, wd_5_60, ⟨by decide +kernel, by decide +kernel⟩, by decide +kernel, by decide +kernel, rfl, rfl⟩
abbrev M_X9_clauses : oD := (yX9_clauses, cX9_clauses, 3, (some .int), { frames := 5, cells := 0, slots := 0, locals := 106 })
theorem md_X9_clauses : oMd M_X9_clauses 0 := ⟨wd_1_10, wd_4_238, ⟨by decide +kernel, by decide +kernel⟩, by decide +kernel, by decide +kernel, rfl, rfl⟩
abbrev M_X9_pairs : oD := (yX9_pairs, cX9_pairs, 4, (some .int), { frames := 6, cells := 0, slots := 0, locals := 128 })
theorem md_X9_pairs : oMd M_X9_pairs 0 := ⟨wd_1_10, wd_4_234, ⟨by decide +kernel, by decide +kernel⟩, by decide +kernel, by decide +kernel, rfl, rfl⟩
abbrev M_X2_has : oD := (yX2_has, cX2_has, 2, (some .boolean), { frames := 0, cells := 0, slots := 0, locals := 0 })
theorem md_X2_has : oMd M_X2_has 1 := ⟨wd_1_3, wd_2_127, ⟨by decide +kernel, by decide +kernel⟩, by decide +kernel, by decide +kernel, rfl, rfl⟩
abbrev M_X8_becomes : oD := (yX8_becomes, cX8_becomes, 5, (some .int), { frames := 1, cells := 0, slots := 0, locals := 22 })
theorem md_X8_becomes : oMd M_X8_becomes 3 := ⟨wd_1_1, wd_2_123, ⟨by decide +kernel, by decide +kernel⟩, by decide +kernel, by decide +kernel, rfl, rfl⟩
abbrev M_X9_isPair : oD := (yX9_isPair, cX9_isPair, 2, (some .boolean), { frames := 1, cells := 0, slots := 0, locals := 25 })
theorem md_X9_isPair : oMd M_X9_isPair 1 := ⟨wd_1_10, wd_5_69, ⟨by decide +kernel, by decide +kernel⟩, by decide +kernel, by decide +kernel, rfl, rfl⟩
abbrev M_X9_becomes : oD := (yX9_becomes, cX9_becomes, 5, (some .int), { frames := 2, cells := 0, slots := 0, locals := 46 })
theorem md_X9_becomes : oMd M_X9_becomes 3 := ⟨wd_1_10, wd_5_65, ⟨by decide +kernel, by decide +kernel⟩, by decide +kernel, by decide +kernel, rfl, rfl⟩
abbrev M_X8_teeth : oD := (yX8_teeth, cX8_teeth, 6, (some .int), { frames := 1, cells := 0, slots := 0, locals := 22 })
theorem md_X8_teeth : oMd M_X8_teeth 3 := ⟨wd_1_1, wd_2_131, ⟨by decide +kernel, by decide +kernel⟩, by decide +kernel, by decide +kernel, rfl, rfl⟩
abbrev M_X9_teeth : oD := (yX9_teeth, cX9_teeth, 6, (some .int), { frames := 2, cells := 0, slots := 0, locals := 46 })
theorem md_X9_teeth : oMd M_X9_teeth 3 := ⟨wd_1_10, wd_5_75, ⟨by decide +kernel, by decide +kernel⟩, by decide +kernel, by decide +kernel, rfl, rfl⟩
abbrev M_X2_play : oD := (yX2_play, cX2_play, 3, (some .int), { frames := 1, cells := 0, slots := 0, locals := 21 })
theorem md_X2_play : oMd M_X2_play 1 := ⟨wd_1_3, wd_2_139, ⟨by decide +kernel, by decide +kernel⟩, by decide +kernel, by decide +kernel, rfl, rfl⟩
abbrev M_X2_goesRound : oD := (yX2_goesRound, cX2_goesRound, 2, (some .boolean), { frames := 1, cells := 0, slots := 0, locals := 21 })
theorem md_X2_goesRound : oMd M_X2_goesRound 1 := ⟨wd_1_3, wd_2_144, ⟨by decide +kernel, by decide +kernel⟩, by decide +kernel, by decide +kernel, rfl, rfl⟩
abbrev M_X7_length : oD := (yX7_length, cX7_length, 2, (some .int), { frames := 1, cells := 0, slots := 0, locals := 21 })
theorem md_X7_length : oMd M_X7_length 1 := ⟨wd_1_4, wd_2_152, ⟨by decide +kernel, by decide +kernel⟩, by decide +kernel, by decide +kernel, rfl, rfl⟩
abbrev M_X7_pairAt : oD := (yX7_pairAt, cX7_pairAt, 3, (some .int), { frames := 1, cells := 0, slots := 0, locals := 21 })
theorem md_X7_pairAt : oMd M_X7_pairAt 2 := ⟨wd_1_4, wd_2_157, ⟨by decide +kernel, by decide +kernel⟩, by decide +kernel, by decide +kernel, rfl, rfl⟩
abbrev M_X7_holding : oD := (yX7_holding, cX7_holding, 5, (some .int), { frames := 2, cells := 0, slots := 0, locals := 43 })
theorem md_X7_holding : oMd M_X7_holding 1 := ⟨wd_1_4, wd_2_148, ⟨by decide +kernel, by decide +kernel⟩, by decide +kernel, by decide +kernel, rfl, rfl⟩
abbrev M_X8_pair : oD := (yX8_pair, cX8_pair, 3, (some .int), { frames := 3, cells := 0, slots := 0, locals := 67 })
theorem md_X8_pair : oMd M_X8_pair 2 := ⟨wd_1_1, wd_2_135, ⟨by decide +kernel, by decide +kernel⟩, by decide +kernel, by decide +kernel, rfl, rfl⟩
abbrev M_X9_play : oD := (yX9_play, cX9_play, 3, (some .int), { frames := 0, cells := 0, slots := 0, locals := 0 })
theorem md_X9_play : oMd M_X9_play 1 := ⟨wd_1_10, wd_5_83, ⟨by decide +kernel, by decide +kernel⟩, by decide +kernel, by decide +kernel, rfl, rfl⟩
abbrev M_X9_pairAt : oD := (yX9_pairAt, cX9_pairAt, 3, (some .int), { frames := 0, cells := 0, slots := 0, locals := 0 })
theorem md_X9_pairAt : oMd M_X9_pairAt 2 := ⟨wd_1_10, wd_5_91, ⟨by decide +kernel, by decide +kernel⟩, by decide +kernel, by decide +kernel, rfl, rfl⟩
abbrev M_X9_trainsOf : oD := (yX9_trainsOf, cX9_trainsOf, 5, (some .int), { frames := 1, cells := 0, slots := 0, locals := 22 })
theorem md_X9_trainsOf : oMd M_X9_trainsOf 1 := ⟨wd_1_10, wd_5_87, ⟨by decide +kernel, by decide +kernel⟩, by decide +kernel, by decide +kernel, rfl, rfl⟩
abbrev M_X9_pair : oD := (yX9_pair, cX9_pair, 3, (some .int), { frames := 2, cells := 0, slots := 0, locals := 46 })
theorem md_X9_pair : oMd M_X9_pair 2 := ⟨wd_1_10, wd_5_79, ⟨by decide +kernel, by decide +kernel⟩, by decide +kernel, by decide +kernel, rfl, rfl⟩
abbrev M_X6_pairTold : oD := (yX6_pairTold, cX6_pairTold, 2, (some .int), { frames := 1, cells := 0, slots := 0, locals := 21 })
theorem md_X6_pairTold : oMd M_X6_pairTold 1 := ⟨wd_1_6, wd_2_169, ⟨by decide +kernel, by decide +kernel⟩, by decide +kernel, by decide +kernel, rfl, rfl⟩
abbrev M_X6_isToldAhead : oD := (yX6_isToldAhead, cX6_isToldAhead, 3, (some .boolean), { frames := 1, cells := 0, slots := 0, locals := 21 })
theorem md_X6_isToldAhead : oMd M_X6_isToldAhead 1 := ⟨wd_1_6, wd_2_173, ⟨by decide +kernel, by decide +kernel⟩, by decide +kernel, by decide +kernel, rfl, rfl⟩
abbrev M_X6_faultAsTrain : oD := (yX6_faultAsTrain, cX6_faultAsTrain, 4, (some .int), { frames := 2, cells := 0, slots := 0, locals := 43 })
theorem md_X6_faultAsTrain : oMd M_X6_faultAsTrain 1 := ⟨wd_1_6, wd_2_165, ⟨by decide +kernel, by decide +kernel⟩, by decide +kernel, by decide +kernel, rfl, rfl⟩
abbrev M_X7_cut : oD := (yX7_cut, cX7_cut, 3, none, { frames := 1, cells := 0, slots := 0, locals := 22 })
theorem md_X7_cut : oMd M_X7_cut 2 := ⟨wd_1_4, wd_2_177, ⟨by decide +kernel, by decide +kernel⟩, by decide +kernel, by decide +kernel, rfl, rfl⟩
abbrev M_X7_become : oD := (yX7_become, cX7_become, 4, none, { frames := 1, cells := 0, slots := 0, locals := 22 })
theorem md_X7_become : oMd M_X7_become 3 := ⟨wd_1_4, wd_2_183, ⟨by decide +kernel, by decide +kernel⟩, by decide +kernel, by decide +kernel, rfl, rfl⟩
abbrev M_X8_train : oD := (yX8_train, cX8_train, 5, (some .int), { frames := 3, cells := 0, slots := 0, locals := 66 })
theorem md_X8_train : oMd M_X8_train 1 := ⟨wd_1_1, wd_2_161, ⟨by decide +kernel, by decide +kernel⟩, by decide +kernel, by decide +kernel, rfl, rfl⟩
abbrev M_X9_train : oD := (yX9_train, cX9_train, 6, (some .int), { frames := 2, cells := 0, slots := 0, locals := 46 })
theorem md_X9_train : oMd M_X9_train 1 := ⟨wd_1_10, wd_5_95, ⟨by decide +kernel, by decide +kernel⟩, by decide +kernel, by decide +kernel, rfl, rfl⟩
abbrev M_X1_hasTrain : oD := (yX1_hasTrain, cX1_hasTrain, 2, (some .boolean), { frames := 2, cells := 0, slots := 0, locals := 42 })
theorem md_X1_hasTrain : oMd M_X1_hasTrain 1 := ⟨wd_1_2, wd_2_191, ⟨by decide +kernel, by decide +kernel⟩, by decide +kernel, by decide +kernel, rfl, rfl⟩
abbrev M_X8_drop : oD := (yX8_drop, cX8_drop, 3, (some .int), { frames := 3, cells := 0, slots := 0, locals := 63 })
theorem md_X8_drop : oMd M_X8_drop 1 := ⟨wd_1_1, wd_2_187, ⟨by decide +kernel, by decide +kernel⟩, by decide +kernel, by decide +kernel, rfl, rfl⟩
abbrev M_X9_drop : oD := (yX9_drop, cX9_drop, 3, (some .int), { frames := 2, cells := 0, slots := 0, locals := 46 })
theorem md_X9_drop : oMd M_X9_drop 1 := ⟨wd_1_10, wd_5_99, ⟨by decide +kernel, by decide +kernel⟩, by decide +kernel, by decide +kernel, rfl, rfl⟩
abbrev M_X8_asksPlace : oD := (yX8_asksPlace, cX8_asksPlace, 1, (some .boolean), { frames := 0, cells := 0, slots := 0, locals := 0 })
theorem md_X8_asksPlace : oMd M_X8_asksPlace 1 := ⟨wd_1_1, wd_2_201, ⟨by decide +kernel, by decide +kernel⟩, by decide +kernel, by decide +kernel, rfl, rfl⟩
abbrev M_X1_isRound : oD := (yX1_isRound, cX1_isRound, 4, (some .boolean), { frames := 2, cells := 0, slots := 0, locals := 43 })
theorem md_X1_isRound : oMd M_X1_isRound 1 := ⟨wd_1_2, wd_2_205, ⟨by decide +kernel, by decide +kernel⟩, by decide +kernel, by decide +kernel, rfl, rfl⟩
abbrev M_X8_of : oD := (yX8_of, cX8_of, 3, (some .int), { frames := 3, cells := 0, slots := 0, locals := 66 })
theorem md_X8_of : oMd M_X8_of 2 := ⟨wd_1_1, wd_2_198, ⟨by decide +kernel, by decide +kernel⟩, by decide +kernel, by decide +kernel, rfl, rfl⟩
abbrev M_X9_isRound : oD := (yX9_isRound, cX9_isRound, 4, (some .boolean), { frames := 1, cells := 0, slots := 0, locals := 22 })
theorem md_X9_isRound : oMd M_X9_isRound 1 := ⟨wd_1_10, wd_5_108, ⟨by decide +kernel, by decide +kernel⟩, by decide +kernel, by decide +kernel, rfl, rfl⟩
abbrev M_X9_of : oD := (yX9_of, cX9_of, 3, (some .int), { frames := 2, cells := 0, slots := 0, locals := 46 })
theorem md_X9_of : oMd M_X9_of 2 := ⟨wd_1_10, wd_5_103, ⟨by decide +kernel, by decide +kernel⟩, by decide +kernel, by decide +kernel, rfl, rfl⟩
abbrev M_X1_drivers : oD := (yX1_drivers, cX1_drivers, 5, (some .long), { frames := 2, cells := 0, slots := 0, locals := 43 })
theorem md_X1_drivers : oMd M_X1_drivers 1 := ⟨wd_1_2, wd_2_216, ⟨by decide +kernel, by decide +kernel⟩, by decide +kernel, by decide +kernel, rfl, rfl⟩
abbrev M_X1_drivens : oD := (yX1_drivens, cX1_drivens, 5, (some .long), { frames := 2, cells := 0, slots := 0, locals := 43 })
theorem md_X1_drivens : oMd M_X1_drivens 1 := ⟨wd_1_2, wd_2_221, ⟨by decide +kernel, by decide +kernel⟩, by decide +kernel, by decide +kernel, rfl, rfl⟩
abbrev M_X8_turns : oD := (yX8_turns, cX8_turns, 3, (some .long), { frames := 3, cells := 0, slots := 0, locals := 67 })
theorem md_X8_turns : oMd M_X8_turns 2 := ⟨wd_1_1, wd_2_212, ⟨by decide +kernel, by decide +kernel⟩, by decide +kernel, by decide +kernel, rfl, rfl⟩
abbrev M_X9_hasTrain : oD := (yX9_hasTrain, cX9_hasTrain, 2, (some .boolean), { frames := 2, cells := 0, slots := 0, locals := 46 })
theorem md_X9_hasTrain : oMd M_X9_hasTrain 1 := ⟨wd_1_10, wd_5_116, ⟨by decide +kernel, by decide +kernel⟩, by decide +kernel, by decide +kernel, rfl, rfl⟩
abbrev M_X9_product : oD := (yX9_product, cX9_product, 8, (some .long), { frames := 1, cells := 0, slots := 0, locals := 22 })
theorem md_X9_product : oMd M_X9_product 4 := ⟨wd_1_10, wd_5_124, ⟨by decide +kernel, by decide +kernel⟩, by decide +kernel, by decide +kernel, rfl, rfl⟩
abbrev M_X9_drivers : oD := (yX9_drivers, cX9_drivers, 2, (some .long), { frames := 2, cells := 0, slots := 0, locals := 49 })
theorem md_X9_drivers : oMd M_X9_drivers 1 := ⟨wd_1_10, wd_5_120, ⟨by decide +kernel, by decide +kernel⟩, by decide +kernel, by decide +kernel, rfl, rfl⟩
abbrev M_X9_drivens : oD := (yX9_drivens, cX9_drivens, 2, (some .long), { frames := 2, cells := 0, slots := 0, locals := 49 })
theorem md_X9_drivens : oMd M_X9_drivens 1 := ⟨wd_1_10, wd_5_128, ⟨by decide +kernel, by decide +kernel⟩, by decide +kernel, by decide +kernel, rfl, rfl⟩
abbrev M_X9_turns : oD := (yX9_turns, cX9_turns, 3, (some .long), { frames := 3, cells := 0, slots := 0, locals := 70 })
theorem md_X9_turns : oMd M_X9_turns 2 := ⟨wd_1_10, wd_5_112, ⟨by decide +kernel, by decide +kernel⟩, by decide +kernel, by decide +kernel, rfl, rfl⟩
abbrev M_X1_wrongAbove : oD := (yX1_wrongAbove, cX1_wrongAbove, 2, (some .long), { frames := 3, cells := 0, slots := 0, locals := 67 })
theorem md_X1_wrongAbove : oMd M_X1_wrongAbove 1 := ⟨wd_1_2, wd_2_229, ⟨by decide +kernel, by decide +kernel⟩, by decide +kernel, by decide +kernel, rfl, rfl⟩
abbrev M_X1_wrongBelow : oD := (yX1_wrongBelow, cX1_wrongBelow, 2, (some .long), { frames := 3, cells := 0, slots := 0, locals := 67 })
theorem md_X1_wrongBelow : oMd M_X1_wrongBelow 1 := ⟨wd_1_2, wd_2_235, ⟨by decide +kernel, by decide +kernel⟩, by decide +kernel, by decide +kernel, rfl, rfl⟩
abbrev M_X8_wrong : oD := (yX8_wrong, cX8_wrong, 3, (some .long), { frames := 4, cells := 0, slots := 0, locals := 88 })
theorem md_X8_wrong : oMd M_X8_wrong 2 := ⟨wd_1_1, wd_2_225, ⟨by decide +kernel, by decide +kernel⟩, by decide +kernel, by decide +kernel, rfl, rfl⟩
abbrev M_X9_off : oD := (yX9_off, cX9_off, 6, (some .long), { frames := 0, cells := 0, slots := 0, locals := 0 })
theorem md_X9_off : oMd M_X9_off 3 := ⟨wd_1_10, wd_5_136, ⟨by decide +kernel, by decide +kernel⟩, by decide +kernel, by decide +kernel, rfl, rfl⟩
abbrev M_X9_wrong : oD := (yX9_wrong, cX9_wrong, 5, (some .long), { frames := 3, cells := 0, slots := 0, locals := 70 })
theorem md_X9_wrong : oMd M_X9_wrong 2 := ⟨wd_1_10, wd_5_132, ⟨by decide +kernel, by decide +kernel⟩, by decide +kernel, by decide +kernel, rfl, rfl⟩
abbrev M_X1_slackAbove : oD := (yX1_slackAbove, cX1_slackAbove, 8, (some .long), { frames := 2, cells := 0, slots := 0, locals := 43 })
theorem md_X1_slackAbove : oMd M_X1_slackAbove 1 := ⟨wd_1_2, wd_3_3, ⟨by decide +kernel, by decide +kernel⟩, by decide +kernel, by decide +kernel, rfl, rfl⟩
abbrev M_X1_slackBelow : oD := (yX1_slackBelow, cX1_slackBelow, 2, (some .long), { frames := 3, cells := 0, slots := 0, locals := 67 })
theorem md_X1_slackBelow : oMd M_X1_slackBelow 1 := ⟨wd_1_2, wd_3_8, ⟨by decide +kernel, by decide +kernel⟩, by decide +kernel, by decide +kernel, rfl, rfl⟩
abbrev M_X8_backlash : oD := (yX8_backlash, cX8_backlash, 3, (some .long), { frames := 4, cells := 0, slots := 0, locals := 88 })
theorem md_X8_backlash : oMd M_X8_backlash 2 := ⟨wd_1_1, wd_2_239, ⟨by decide +kernel, by decide +kernel⟩, by decide +kernel, by decide +kernel, rfl, rfl⟩
abbrev M_X9_lag : oD := (yX9_lag, cX9_lag, 6, (some .long), { frames := 2, cells := 0, slots := 0, locals := 49 })
theorem md_X9_lag : oMd M_X9_lag 1 := ⟨wd_1_10, wd_5_144, ⟨by decide +kernel, by decide +kernel⟩, by decide +kernel, by decide +kernel, rfl, rfl⟩
abbrev M_X9_backlash : oD := (yX9_backlash, cX9_backlash, 3, (some .long), { frames := 3, cells := 0, slots := 0, locals := 74 })
theorem md_X9_backlash : oMd M_X9_backlash 2 := ⟨wd_1_10, wd_5_140, ⟨by decide +kernel, by decide +kernel⟩, by decide +kernel, by decide +kernel, rfl, rfl⟩
abbrev M_X8_areTwo : oD := (yX8_areTwo, cX8_areTwo, 3, (some .boolean), { frames := 1, cells := 0, slots := 0, locals := 21 })
theorem md_X8_areTwo : oMd M_X8_areTwo 2 := ⟨wd_1_1, wd_3_17, ⟨by decide +kernel, by decide +kernel⟩, by decide +kernel, by decide +kernel, rfl, rfl⟩
abbrev M_J9_min_7cf53 : oD := (yJ9_min_7cf53, cJ9_min_7cf53, 2, (some .int), { frames := 0, cells := 0, slots := 0, locals := 0 })
theorem md_J9_min_7cf53 : oMd M_J9_min_7cf53 2 := ⟨wd_1_11, wd_3_24, ⟨by decide +kernel, by decide +kernel⟩, by decide +kernel, by decide +kernel, rfl, rfl⟩
abbrev M_X7_shared : oD := (yX7_shared, cX7_shared, 5, (some .int), { frames := 2, cells := 0, slots := 0, locals := 43 })
theorem md_X7_shared : oMd M_X7_shared 2 := ⟨wd_1_4, wd_3_21, ⟨by decide +kernel, by decide +kernel⟩, by decide +kernel, by decide +kernel, rfl, rfl⟩
abbrev M_X8_share : oD := (yX8_share, cX8_share, 3, (some .int), { frames := 3, cells := 0, slots := 0, locals := 67 })
theorem md_X8_share : oMd M_X8_share 2 := ⟨wd_1_1, wd_3_13, ⟨by decide +kernel, by decide +kernel⟩, by decide +kernel, by decide +kernel, rfl, rfl⟩
abbrev M_X9_areTwo : oD := (yX9_areTwo, cX9_areTwo, 3, (some .boolean), { frames := 2, cells := 0, slots := 0, locals := 46 })
theorem md_X9_areTwo : oMd M_X9_areTwo 2 := ⟨wd_1_10, wd_5_153, ⟨by decide +kernel, by decide +kernel⟩, by decide +kernel, by decide +kernel, rfl, rfl⟩
abbrev M_X9_shared : oD := (yX9_shared, cX9_shared, 4, (some .int), { frames := 1, cells := 0, slots := 0, locals := 22 })
theorem md_X9_shared : oMd M_X9_shared 2 := ⟨wd_1_10, wd_5_157, ⟨by decide +kernel, by decide +kernel⟩, by decide +kernel, by decide +kernel, rfl, rfl⟩
abbrev M_X9_share : oD := (yX9_share, cX9_share, 3, (some .int), { frames := 3, cells := 0, slots := 0, locals := 68 })
theorem md_X9_share : oMd M_X9_share 2 := ⟨wd_1_10, wd_5_149, ⟨by decide +kernel, by decide +kernel⟩, by decide +kernel, by decide +kernel, rfl, rfl⟩
abbrev M_X8_copy : oD := (yX8_copy, cX8_copy, 3, none, { frames := 0, cells := 0, slots := 0, locals := 0 })
theorem md_X8_copy : oMd M_X8_copy 2 := ⟨wd_1_1, wd_3_43, ⟨by decide +kernel, by decide +kernel⟩, by decide +kernel, by decide +kernel, rfl, rfl⟩
abbrev M_X2_copyFrom : oD := (yX2_copyFrom, cX2_copyFrom, 2, none, { frames := 1, cells := 0, slots := 0, locals := 22 })
theorem md_X2_copyFrom : oMd M_X2_copyFrom 1 := ⟨wd_1_3, wd_3_47, ⟨by decide +kernel, by decide +kernel⟩, by decide +kernel, by decide +kernel, rfl, rfl⟩
abbrev M_X7_copyFrom : oD := (yX7_copyFrom, cX7_copyFrom, 2, none, { frames := 1, cells := 0, slots := 0, locals := 22 })
theorem md_X7_copyFrom : oMd M_X7_copyFrom 1 := ⟨wd_1_4, wd_3_52, ⟨by decide +kernel, by decide +kernel⟩, by decide +kernel, by decide +kernel, rfl, rfl⟩
abbrev M_X3_copyFrom : oD := (yX3_copyFrom, cX3_copyFrom, 2, none, { frames := 1, cells := 0, slots := 0, locals := 22 })
theorem md_X3_copyFrom : oMd M_X3_copyFrom 1 := ⟨wd_1_5, wd_3_57, ⟨by decide +kernel, by decide +kernel⟩, by decide +kernel, by decide +kernel, rfl, rfl⟩
abbrev M_X1_copyFrom : oD := (yX1_copyFrom, cX1_copyFrom, 2, none, { frames := 2, cells := 0, slots := 0, locals := 43 })
theorem md_X1_copyFrom : oMd M_X1_copyFrom 1 := ⟨wd_1_2, wd_3_40, ⟨by decide +kernel, by decide +kernel⟩, by decide +kernel, by decide +kernel, rfl, rfl⟩
abbrev M_X8_placeBy : oD := (yX8_placeBy, cX8_placeBy, 2, (some .int), { frames := 1, cells := 0, slots := 0, locals := 21 })
theorem md_X8_placeBy : oMd M_X8_placeBy 2 := ⟨wd_1_1, wd_3_61, ⟨by decide +kernel, by decide +kernel⟩, by decide +kernel, by decide +kernel, rfl, rfl⟩
abbrev M_J9_max_7cf53 : oD := (yJ9_max_7cf53, cJ9_max_7cf53, 2, (some .int), { frames := 0, cells := 0, slots := 0, locals := 0 })
theorem md_J9_max_7cf53 : oMd M_J9_max_7cf53 2 := ⟨wd_1_11, wd_3_71, ⟨by decide +kernel, by decide +kernel⟩, by decide +kernel, by decide +kernel, rfl, rfl⟩
abbrev M_X7_wheels : oD := (yX7_wheels, cX7_wheels, 5, (some .int), { frames := 3, cells := 0, slots := 0, locals := 67 })
theorem md_X7_wheels : oMd M_X7_wheels 0 := ⟨wd_1_4, wd_3_67, ⟨by decide +kernel, by decide +kernel⟩, by decide +kernel, by decide +kernel, rfl, rfl⟩
abbrev M_X8_wheelsBy : oD := (yX8_wheelsBy, cX8_wheelsBy, 4, (some .int), { frames := 4, cells := 0, slots := 0, locals := 91 })
theorem md_X8_wheelsBy : oMd M_X8_wheelsBy 2 := ⟨wd_1_1, wd_3_36, ⟨by decide +kernel, by decide +kernel⟩, by decide +kernel, by decide +kernel, rfl, rfl⟩
abbrev M_X8_isOrderOf : oD := (yX8_isOrderOf, cX8_isOrderOf, 3, (some .boolean), { frames := 2, cells := 0, slots := 0, locals := 42 })
theorem md_X8_isOrderOf : oMd M_X8_isOrderOf 2 := ⟨wd_1_1, wd_3_74, ⟨by decide +kernel, by decide +kernel⟩, by decide +kernel, by decide +kernel, rfl, rfl⟩
abbrev M_X8_bestOrder : oD := (yX8_bestOrder, cX8_bestOrder, 6, (some .int), { frames := 5, cells := 0, slots := 0, locals := 114 })
theorem md_X8_bestOrder : oMd M_X8_bestOrder 1 := ⟨wd_1_1, wd_3_32, ⟨by decide +kernel, by decide +kernel⟩, by decide +kernel, by decide +kernel, rfl, rfl⟩
abbrev M_X8_order : oD := (yX8_order, cX8_order, 4, (some .int), { frames := 6, cells := 0, slots := 0, locals := 139 })
theorem md_X8_order : oMd M_X8_order 2 := ⟨wd_1_1, wd_3_28, ⟨by decide +kernel, by decide +kernel⟩, by decide +kernel, by decide +kernel, rfl, rfl⟩
abbrev M_X9_wheels : oD := (yX9_wheels, cX9_wheels, 5, (some .int), { frames := 2, cells := 0, slots := 0, locals := 45 })
theorem md_X9_wheels : oMd M_X9_wheels 0 := ⟨wd_1_10, wd_5_165, ⟨by decide +kernel, by decide +kernel⟩, by decide +kernel, by decide +kernel, rfl, rfl⟩
abbrev M_X9_order : oD := (yX9_order, cX9_order, 14, (some .int), { frames := 3, cells := 0, slots := 0, locals := 69 })
theorem md_X9_order : oMd M_X9_order 2 := ⟨wd_1_10, wd_5_161, ⟨by decide +kernel, by decide +kernel⟩, by decide +kernel, by decide +kernel, rfl, rfl⟩
abbrev M_X0_product : oD := (yX0_product, cX0_product, 2, (some .long), { frames := 0, cells := 0, slots := 0, locals := 0 })
theorem md_X0_product : oMd M_X0_product 2 := ⟨wd_1_9, wd_3_93, ⟨by decide +kernel, by decide +kernel⟩, by decide +kernel, by decide +kernel, rfl, rfl⟩
abbrev M_X0_isOnePair : oD := (yX0_isOnePair, cX0_isOnePair, 1, (some .boolean), { frames := 0, cells := 0, slots := 0, locals := 0 })
theorem md_X0_isOnePair : oMd M_X0_isOnePair 0 := ⟨wd_1_9, wd_3_102, ⟨by decide +kernel, by decide +kernel⟩, by decide +kernel, by decide +kernel, rfl, rfl⟩
abbrev M_X0_allTeeth : oD := (yX0_allTeeth, cX0_allTeeth, 1, (some .int), { frames := 0, cells := 0, slots := 0, locals := 0 })
theorem md_X0_allTeeth : oMd M_X0_allTeeth 0 := ⟨wd_1_9, wd_3_106, ⟨by decide +kernel, by decide +kernel⟩, by decide +kernel, by decide +kernel, rfl, rfl⟩
abbrev M_X0_isAhead : oD := (yX0_isAhead, cX0_isAhead, 6, (some .boolean), { frames := 1, cells := 0, slots := 0, locals := 20 })
theorem md_X0_isAhead : oMd M_X0_isAhead 4 := ⟨wd_1_9, wd_3_98, ⟨by decide +kernel, by decide +kernel⟩, by decide +kernel, by decide +kernel, rfl, rfl⟩
abbrev M_X0_offer : oD := (yX0_offer, cX0_offer, 13, none, { frames := 2, cells := 0, slots := 0, locals := 45 })
theorem md_X0_offer : oMd M_X0_offer 4 := ⟨wd_1_9, wd_3_90, ⟨by decide +kernel, by decide +kernel⟩, by decide +kernel, by decide +kernel, rfl, rfl⟩
abbrev M_X0_seekOnePair : oD := (yX0_seekOnePair, cX0_seekOnePair, 3, none, { frames := 3, cells := 0, slots := 0, locals := 77 })
theorem md_X0_seekOnePair : oMd M_X0_seekOnePair 0 := ⟨wd_1_9, wd_3_86, ⟨by decide +kernel, by decide +kernel⟩, by decide +kernel, by decide +kernel, rfl, rfl⟩
abbrev M_J9_min_f86c9 : oD := (yJ9_min_f86c9, cJ9_min_f86c9, 4, (some .long), { frames := 0, cells := 0, slots := 0, locals := 0 })
theorem md_J9_min_f86c9 : oMd M_J9_min_f86c9 2 := ⟨wd_1_11, wd_3_121, ⟨by decide +kernel, by decide +kernel⟩, by decide +kernel, by decide +kernel, rfl, rfl⟩
abbrev M_J9_max_f86c9 : oD := (yJ9_max_f86c9, cJ9_max_f86c9, 4, (some .long), { frames := 0, cells := 0, slots := 0, locals := 0 })
theorem md_J9_max_f86c9 : oMd M_J9_max_f86c9 2 := ⟨wd_1_11, wd_3_124, ⟨by decide +kernel, by decide +kernel⟩, by decide +kernel, by decide +kernel, rfl, rfl⟩
abbrev M_X0_within : oD := (yX0_within, cX0_within, 4, (some .int), { frames := 1, cells := 0, slots := 0, locals := 23 })
theorem md_X0_within : oMd M_X0_within 3 := ⟨wd_1_9, wd_3_118, ⟨by decide +kernel, by decide +kernel⟩, by decide +kernel, by decide +kernel, rfl, rfl⟩
abbrev M_X0_offerFourth : oD := (yX0_offerFourth, cX0_offerFourth, 8, none, { frames := 3, cells := 0, slots := 0, locals := 77 })
theorem md_X0_offerFourth : oMd M_X0_offerFourth 3 := ⟨wd_1_9, wd_3_114, ⟨by decide +kernel, by decide +kernel⟩, by decide +kernel, by decide +kernel, rfl, rfl⟩
abbrev M_X0_seekTwoPairs : oD := (yX0_seekTwoPairs, cX0_seekTwoPairs, 4, none, { frames := 4, cells := 0, slots := 0, locals := 104 })
theorem md_X0_seekTwoPairs : oMd M_X0_seekTwoPairs 0 := ⟨wd_1_9, wd_3_110, ⟨by decide +kernel, by decide +kernel⟩, by decide +kernel, by decide +kernel, rfl, rfl⟩
abbrev M_X0_seek : oD := (yX0_seek, cX0_seek, 5, none, { frames := 5, cells := 0, slots := 0, locals := 127 })
theorem md_X0_seek : oMd M_X0_seek 4 := ⟨wd_1_9, wd_3_82, ⟨by decide +kernel, by decide +kernel⟩, by decide +kernel, by decide +kernel, rfl, rfl⟩
abbrev M_X0_wheel : oD := (yX0_wheel, cX0_wheel, 2, (some .int), { frames := 0, cells := 0, slots := 0, locals := 0 })
theorem md_X0_wheel : oMd M_X0_wheel 1 := ⟨wd_1_9, wd_3_130, ⟨by decide +kernel, by decide +kernel⟩, by decide +kernel, by decide +kernel, rfl, rfl⟩
abbrev M_X8_found : oD := (yX8_found, cX8_found, 4, (some .int), { frames := 6, cells := 0, slots := 0, locals := 151 })
theorem md_X8_found : oMd M_X8_found 2 := ⟨wd_1_1, wd_3_78, ⟨by decide +kernel, by decide +kernel⟩, by decide +kernel, by decide +kernel, rfl, rfl⟩
abbrev M_X9_tries : oD := (yX9_tries, cX9_tries, 18, none, { frames := 1, cells := 0, slots := 0, locals := 25 })
theorem md_X9_tries : oMd M_X9_tries 6 := ⟨wd_1_10, wd_5_178, ⟨by decide +kernel, by decide +kernel⟩, by decide +kernel, by decide +kernel, rfl, rfl⟩
abbrev M_X9_finds : oD := (yX9_finds, cX9_finds, 6, none, { frames := 2, cells := 0, slots := 0, locals := 62 })
theorem md_X9_finds : oMd M_X9_finds 1 := ⟨wd_1_10, wd_5_174, ⟨by decide +kernel, by decide +kernel⟩, by decide +kernel, by decide +kernel, rfl, rfl⟩
abbrev M_X9_found : oD := (yX9_found, cX9_found, 3, (some .int), { frames := 3, cells := 0, slots := 0, locals := 87 })
theorem md_X9_found : oMd M_X9_found 2 := ⟨wd_1_10, wd_5_169, ⟨by decide +kernel, by decide +kernel⟩, by decide +kernel, by decide +kernel, rfl, rfl⟩
abbrev M_X0_wrongAbove : oD := (yX0_wrongAbove, cX0_wrongAbove, 1, (some .long), { frames := 0, cells := 0, slots := 0, locals := 0 })
theorem md_X0_wrongAbove : oMd M_X0_wrongAbove 0 := ⟨wd_1_9, wd_3_138, ⟨by decide +kernel, by decide +kernel⟩, by decide +kernel, by decide +kernel, rfl, rfl⟩
abbrev M_X0_wrongBelow : oD := (yX0_wrongBelow, cX0_wrongBelow, 1, (some .long), { frames := 0, cells := 0, slots := 0, locals := 0 })
theorem md_X0_wrongBelow : oMd M_X0_wrongBelow 0 := ⟨wd_1_9, wd_3_142, ⟨by decide +kernel, by decide +kernel⟩, by decide +kernel, by decide +kernel, rfl, rfl⟩
abbrev M_X8_foundWrong : oD := (yX8_foundWrong, cX8_foundWrong, 3, (some .long), { frames := 6, cells := 0, slots := 0, locals := 151 })
theorem md_X8_foundWrong : oMd M_X8_foundWrong 2 := ⟨wd_1_1, wd_3_134, ⟨by decide +kernel, by decide +kernel⟩, by decide +kernel, by decide +kernel, rfl, rfl⟩
abbrev M_X9_foundWrong : oD := (yX9_foundWrong, cX9_foundWrong, 7, (some .long), { frames := 3, cells := 0, slots := 0, locals := 87 })
theorem md_X9_foundWrong : oMd M_X9_foundWrong 2 := ⟨wd_1_10, wd_5_182, ⟨by decide +kernel, by decide +kernel⟩, by decide +kernel, by decide +kernel, rfl, rfl⟩
abbrev M_X8_isCranked : oD := (yX8_isCranked, cX8_isCranked, 1, (some .boolean), { frames := 0, cells := 0, slots := 0, locals := 0 })
theorem md_X8_isCranked : oMd M_X8_isCranked 1 := ⟨wd_1_1, wd_3_149, ⟨by decide +kernel, by decide +kernel⟩, by decide +kernel, by decide +kernel, rfl, rfl⟩
abbrev M_X1_crankBy : oD := (yX1_crankBy, cX1_crankBy, 2, none, { frames := 1, cells := 0, slots := 0, locals := 21 })
theorem md_X1_crankBy : oMd M_X1_crankBy 1 := ⟨wd_1_2, wd_3_153, ⟨by decide +kernel, by decide +kernel⟩, by decide +kernel, by decide +kernel, rfl, rfl⟩
abbrev M_X8_turn : oD := (yX8_turn, cX8_turn, 2, (some .int), { frames := 2, cells := 0, slots := 0, locals := 42 })
theorem md_X8_turn : oMd M_X8_turn 1 := ⟨wd_1_1, wd_3_146, ⟨by decide +kernel, by decide +kernel⟩, by decide +kernel, by decide +kernel, rfl, rfl⟩
abbrev M_X9_goes : oD := (yX9_goes, cX9_goes, 3, none, { frames := 0, cells := 0, slots := 0, locals := 0 })
theorem md_X9_goes : oMd M_X9_goes 1 := ⟨wd_1_10, wd_5_192, ⟨by decide +kernel, by decide +kernel⟩, by decide +kernel, by decide +kernel, rfl, rfl⟩
abbrev M_X9_turn : oD := (yX9_turn, cX9_turn, 2, (some .int), { frames := 1, cells := 0, slots := 0, locals := 25 })
theorem md_X9_turn : oMd M_X9_turn 1 := ⟨wd_1_10, wd_5_186, ⟨by decide +kernel, by decide +kernel⟩, by decide +kernel, by decide +kernel, rfl, rfl⟩
abbrev M_X8_crank : oD := (yX8_crank, cX8_crank, 2, (some .int), { frames := 0, cells := 0, slots := 0, locals := 0 })
theorem md_X8_crank : oMd M_X8_crank 1 := ⟨wd_1_1, wd_3_159, ⟨by decide +kernel, by decide +kernel⟩, by decide +kernel, by decide +kernel, rfl, rfl⟩
abbrev M_X9_crank : oD := (yX9_crank, cX9_crank, 2, (some .int), { frames := 1, cells := 0, slots := 0, locals := 25 })
theorem md_X9_crank : oMd M_X9_crank 1 := ⟨wd_1_10, wd_5_196, ⟨by decide +kernel, by decide +kernel⟩, by decide +kernel, by decide +kernel, rfl, rfl⟩
abbrev M_X1_standing : oD := (yX1_standing, cX1_standing, 4, (some .long), { frames := 4, cells := 0, slots := 0, locals := 88 })
theorem md_X1_standing : oMd M_X1_standing 1 := ⟨wd_1_2, wd_3_167, ⟨by decide +kernel, by decide +kernel⟩, by decide +kernel, by decide +kernel, rfl, rfl⟩
abbrev M_X8_stands : oD := (yX8_stands, cX8_stands, 2, (some .long), { frames := 5, cells := 0, slots := 0, locals := 111 })
theorem md_X8_stands : oMd M_X8_stands 1 := ⟨wd_1_1, wd_3_163, ⟨by decide +kernel, by decide +kernel⟩, by decide +kernel, by decide +kernel, rfl, rfl⟩
abbrev M_X9_standsAt : oD := (yX9_standsAt, cX9_standsAt, 6, (some .long), { frames := 3, cells := 0, slots := 0, locals := 74 })
theorem md_X9_standsAt : oMd M_X9_standsAt 1 := ⟨wd_1_10, wd_5_204, ⟨by decide +kernel, by decide +kernel⟩, by decide +kernel, by decide +kernel, rfl, rfl⟩
abbrev M_X9_stands : oD := (yX9_stands, cX9_stands, 2, (some .long), { frames := 4, cells := 0, slots := 0, locals := 99 })
theorem md_X9_stands : oMd M_X9_stands 1 := ⟨wd_1_10, wd_5_200, ⟨by decide +kernel, by decide +kernel⟩, by decide +kernel, by decide +kernel, rfl, rfl⟩
abbrev M_X8_meet : oD := (yX8_meet, cX8_meet, 7, (some .long), { frames := 3, cells := 0, slots := 0, locals := 67 })
theorem md_X8_meet : oMd M_X8_meet 2 := ⟨wd_1_1, wd_3_176, ⟨by decide +kernel, by decide +kernel⟩, by decide +kernel, by decide +kernel, rfl, rfl⟩
abbrev M_X9_meet : oD := (yX9_meet, cX9_meet, 7, (some .long), { frames := 4, cells := 0, slots := 0, locals := 92 })
theorem md_X9_meet : oMd M_X9_meet 2 := ⟨wd_1_10, wd_5_209, ⟨by decide +kernel, by decide +kernel⟩, by decide +kernel, by decide +kernel, rfl, rfl⟩
abbrev M_J9_floorMod_f86c9 : oD := (yJ9_floorMod_f86c9, cJ9_floorMod_f86c9, 6, (some .long), { frames := 0, cells := 0, slots := 0, locals := 0 })
theorem md_J9_floorMod_f86c9 : oMd M_J9_floorMod_f86c9 2 := ⟨wd_1_11, wd_3_187, ⟨by decide +kernel, by decide +kernel⟩, by decide +kernel, by decide +kernel, rfl, rfl⟩
abbrev M_X8_turnsUntilJoined : oD := (yX8_turnsUntilJoined, cX8_turnsUntilJoined, 21, (some .int), { frames := 3, cells := 0, slots := 0, locals := 67 })
theorem md_X8_turnsUntilJoined : oMd M_X8_turnsUntilJoined 3 := ⟨wd_1_1, wd_3_184, ⟨by decide +kernel, by decide +kernel⟩, by decide +kernel, by decide +kernel, rfl, rfl⟩
abbrev M_X8_join : oD := (yX8_join, cX8_join, 4, (some .int), { frames := 4, cells := 0, slots := 0, locals := 107 })
theorem md_X8_join : oMd M_X8_join 3 := ⟨wd_1_1, wd_3_180, ⟨by decide +kernel, by decide +kernel⟩, by decide +kernel, by decide +kernel, rfl, rfl⟩
abbrev M_X9_partOf : oD := (yX9_partOf, cX9_partOf, 7, (some .long), { frames := 3, cells := 0, slots := 0, locals := 70 })
theorem md_X9_partOf : oMd M_X9_partOf 2 := ⟨wd_1_10, wd_5_219, ⟨by decide +kernel, by decide +kernel⟩, by decide +kernel, by decide +kernel, rfl, rfl⟩
abbrev M_X9_join : oD := (yX9_join, cX9_join, 11, (some .int), { frames := 4, cells := 0, slots := 0, locals := 96 })
theorem md_X9_join : oMd M_X9_join 3 := ⟨wd_1_10, wd_5_214, ⟨by decide +kernel, by decide +kernel⟩, by decide +kernel, by decide +kernel, rfl, rfl⟩
abbrev M_X8_drift : oD := (yX8_drift, cX8_drift, 3, (some .long), { frames := 4, cells := 0, slots := 0, locals := 88 })
theorem md_X8_drift : oMd M_X8_drift 2 := ⟨wd_1_1, wd_3_193, ⟨by decide +kernel, by decide +kernel⟩, by decide +kernel, by decide +kernel, rfl, rfl⟩
abbrev M_X9_drift : oD := (yX9_drift, cX9_drift, 3, (some .long), { frames := 4, cells := 0, slots := 0, locals := 94 })
theorem md_X9_drift : oMd M_X9_drift 2 := ⟨wd_1_10, wd_5_224, ⟨by decide +kernel, by decide +kernel⟩, by decide +kernel, by decide +kernel, rfl, rfl⟩
abbrev M_X8_were : oD := (yX8_were, cX8_were, 10, (some .int), { frames := 5, cells := 0, slots := 0, locals := 111 })
theorem md_X8_were : oMd M_X8_were 4 := ⟨wd_1_1, wd_3_197, ⟨by decide +kernel, by decide +kernel⟩, by decide +kernel, by decide +kernel, rfl, rfl⟩
abbrev M_X9_were : oD := (yX9_were, cX9_were, 11, (some .int), { frames := 4, cells := 0, slots := 0, locals := 99 })
theorem md_X9_were : oMd M_X9_were 4 := ⟨wd_1_10, wd_5_229, ⟨by decide +kernel, by decide +kernel⟩, by decide +kernel, by decide +kernel, rfl, rfl⟩
abbrev M_X1_slips : oD := (yX1_slips, cX1_slips, 5, (some .boolean), { frames := 2, cells := 0, slots := 0, locals := 43 })
theorem md_X1_slips : oMd M_X1_slips 2 := ⟨wd_1_2, wd_3_205, ⟨by decide +kernel, by decide +kernel⟩, by decide +kernel, by decide +kernel, rfl, rfl⟩
abbrev M_X8_odds : oD := (yX8_odds, cX8_odds, 7, (some .long), { frames := 3, cells := 0, slots := 0, locals := 67 })
theorem md_X8_odds : oMd M_X8_odds 4 := ⟨wd_1_1, wd_3_201, ⟨by decide +kernel, by decide +kernel⟩, by decide +kernel, by decide +kernel, rfl, rfl⟩
abbrev M_X9_slips : oD := (yX9_slips, cX9_slips, 6, (some .boolean), { frames := 1, cells := 0, slots := 0, locals := 22 })
theorem md_X9_slips : oMd M_X9_slips 2 := ⟨wd_1_10, wd_5_238, ⟨by decide +kernel, by decide +kernel⟩, by decide +kernel, by decide +kernel, rfl, rfl⟩
abbrev M_X9_odds : oD := (yX9_odds, cX9_odds, 7, (some .long), { frames := 3, cells := 0, slots := 0, locals := 67 })
theorem md_X9_odds : oMd M_X9_odds 4 := ⟨wd_1_10, wd_5_233, ⟨by decide +kernel, by decide +kernel⟩, by decide +kernel, by decide +kernel, rfl, rfl⟩
abbrev M_X8_isPlanned : oD := (yX8_isPlanned, cX8_isPlanned, 2, (some .boolean), { frames := 1, cells := 0, slots := 0, locals := 20 })
theorem md_X8_isPlanned : oMd M_X8_isPlanned 2 := ⟨wd_1_1, wd_3_213, ⟨by decide +kernel, by decide +kernel⟩, by decide +kernel, by decide +kernel, rfl, rfl⟩
abbrev M_X3_add : oD := (yX3_add, cX3_add, 3, none, { frames := 1, cells := 0, slots := 0, locals := 22 })
theorem md_X3_add : oMd M_X3_add 2 := ⟨wd_1_5, wd_3_217, ⟨by decide +kernel, by decide +kernel⟩, by decide +kernel, by decide +kernel, rfl, rfl⟩
abbrev M_X8_plan : oD := (yX8_plan, cX8_plan, 3, (some .int), { frames := 2, cells := 0, slots := 0, locals := 44 })
theorem md_X8_plan : oMd M_X8_plan 2 := ⟨wd_1_1, wd_3_210, ⟨by decide +kernel, by decide +kernel⟩, by decide +kernel, by decide +kernel, rfl, rfl⟩
abbrev M_X9_plan : oD := (yX9_plan, cX9_plan, 3, (some .int), { frames := 1, cells := 0, slots := 0, locals := 25 })
theorem md_X9_plan : oMd M_X9_plan 2 := ⟨wd_1_10, wd_6_3, ⟨by decide +kernel, by decide +kernel⟩, by decide +kernel, by decide +kernel, rfl, rfl⟩
abbrev M_X7_turnAbout : oD := (yX7_turnAbout, cX7_turnAbout, 4, none, { frames := 2, cells := 0, slots := 0, locals := 45 })
theorem md_X7_turnAbout : oMd M_X7_turnAbout 1 := ⟨wd_1_4, wd_3_232, ⟨by decide +kernel, by decide +kernel⟩, by decide +kernel, by decide +kernel, rfl, rfl⟩
abbrev M_X2_changeWheels : oD := (yX2_changeWheels, cX2_changeWheels, 3, none, { frames := 1, cells := 0, slots := 0, locals := 22 })
theorem md_X2_changeWheels : oMd M_X2_changeWheels 1 := ⟨wd_1_3, wd_3_238, ⟨by decide +kernel, by decide +kernel⟩, by decide +kernel, by decide +kernel, rfl, rfl⟩
abbrev M_X1_followPlan : oD := (yX1_followPlan, cX1_followPlan, 4, none, { frames := 3, cells := 0, slots := 0, locals := 68 })
theorem md_X1_followPlan : oMd M_X1_followPlan 0 := ⟨wd_1_2, wd_3_226, ⟨by decide +kernel, by decide +kernel⟩, by decide +kernel, by decide +kernel, rfl, rfl⟩
abbrev M_X8_ends : oD := (yX8_ends, cX8_ends, 3, (some .long), { frames := 5, cells := 0, slots := 0, locals := 111 })
theorem md_X8_ends : oMd M_X8_ends 1 := ⟨wd_1_1, wd_3_222, ⟨by decide +kernel, by decide +kernel⟩, by decide +kernel, by decide +kernel, rfl, rfl⟩
abbrev M_X9_copies : oD := (yX9_copies, cX9_copies, 3, none, { frames := 0, cells := 0, slots := 0, locals := 0 })
theorem md_X9_copies : oMd M_X9_copies 2 := ⟨wd_1_10, wd_6_10, ⟨by decide +kernel, by decide +kernel⟩, by decide +kernel, by decide +kernel, rfl, rfl⟩
abbrev M_X9_changes : oD := (yX9_changes, cX9_changes, 4, none, { frames := 0, cells := 0, slots := 0, locals := 0 })
theorem md_X9_changes : oMd M_X9_changes 2 := ⟨wd_1_10, wd_6_18, ⟨by decide +kernel, by decide +kernel⟩, by decide +kernel, by decide +kernel, rfl, rfl⟩
abbrev M_X9_done : oD := (yX9_done, cX9_done, 3, none, { frames := 3, cells := 0, slots := 0, locals := 67 })
theorem md_X9_done : oMd M_X9_done 2 := ⟨wd_1_10, wd_6_14, ⟨by decide +kernel, by decide +kernel⟩, by decide +kernel, by decide +kernel, rfl, rfl⟩
abbrev M_X9_ends : oD := (yX9_ends, cX9_ends, 4, (some .long), { frames := 4, cells := 0, slots := 0, locals := 99 })
theorem md_X9_ends : oMd M_X9_ends 1 := ⟨wd_1_10, wd_6_7, ⟨by decide +kernel, by decide +kernel⟩, by decide +kernel, by decide +kernel, rfl, rfl⟩
abbrev M_X8_kindLetter : oD := (yX8_kindLetter, cX8_kindLetter, 1, (some .int), { frames := 0, cells := 0, slots := 0, locals := 0 })
theorem md_X8_kindLetter : oMd M_X8_kindLetter 1 := ⟨wd_1_1, wd_4_5, ⟨by decide +kernel, by decide +kernel⟩, by decide +kernel, by decide +kernel, rfl, rfl⟩
abbrev M_X5_add : oD := (yX5_add, cX5_add, 2, none, { frames := 1, cells := 0, slots := 0, locals := 22 })
theorem md_X5_add : oMd M_X5_add 1 := ⟨wd_1_7, wd_4_9, ⟨by decide +kernel, by decide +kernel⟩, by decide +kernel, by decide +kernel, rfl, rfl⟩
abbrev M_X5_addTwoFigures : oD := (yX5_addTwoFigures, cX5_addTwoFigures, 2, none, { frames := 2, cells := 0, slots := 0, locals := 43 })
theorem md_X5_addTwoFigures : oMd M_X5_addTwoFigures 1 := ⟨wd_1_7, wd_4_14, ⟨by decide +kernel, by decide +kernel⟩, by decide +kernel, by decide +kernel, rfl, rfl⟩
abbrev M_X8_writePair : oD := (yX8_writePair, cX8_writePair, 2, (some .int), { frames := 3, cells := 0, slots := 0, locals := 64 })
theorem md_X8_writePair : oMd M_X8_writePair 1 := ⟨wd_1_1, wd_4_2, ⟨by decide +kernel, by decide +kernel⟩, by decide +kernel, by decide +kernel, rfl, rfl⟩
abbrev M_X9_two : oD := (yX9_two, cX9_two, 3, none, { frames := 0, cells := 0, slots := 0, locals := 0 })
theorem md_X9_two : oMd M_X9_two 2 := ⟨wd_1_10, wd_6_26, ⟨by decide +kernel, by decide +kernel⟩, by decide +kernel, by decide +kernel, rfl, rfl⟩
abbrev M_X9_writePair : oD := (yX9_writePair, cX9_writePair, 2, (some .int), { frames := 4, cells := 0, slots := 0, locals := 85 })
theorem md_X9_writePair : oMd M_X9_writePair 1 := ⟨wd_1_10, wd_6_22, ⟨by decide +kernel, by decide +kernel⟩, by decide +kernel, by decide +kernel, rfl, rfl⟩
abbrev M_X8_writeTrain : oD := (yX8_writeTrain, cX8_writeTrain, 3, (some .int), { frames := 3, cells := 0, slots := 0, locals := 63 })
theorem md_X8_writeTrain : oMd M_X8_writeTrain 1 := ⟨wd_1_1, wd_4_19, ⟨by decide +kernel, by decide +kernel⟩, by decide +kernel, by decide +kernel, rfl, rfl⟩
abbrev M_X9_writeTrain : oD := (yX9_writeTrain, cX9_writeTrain, 3, (some .int), { frames := 3, cells := 0, slots := 0, locals := 67 })
theorem md_X9_writeTrain : oMd M_X9_writeTrain 1 := ⟨wd_1_10, wd_6_30, ⟨by decide +kernel, by decide +kernel⟩, by decide +kernel, by decide +kernel, rfl, rfl⟩
abbrev M_X8_paper : oD := (yX8_paper, cX8_paper, 2, (some .int), { frames := 1, cells := 0, slots := 0, locals := 21 })
theorem md_X8_paper : oMd M_X8_paper 1 := ⟨wd_1_1, wd_4_23, ⟨by decide +kernel, by decide +kernel⟩, by decide +kernel, by decide +kernel, rfl, rfl⟩
abbrev M_X9_paper : oD := (yX9_paper, cX9_paper, 2, (some .int), { frames := 1, cells := 0, slots := 0, locals := 25 })
theorem md_X9_paper : oMd M_X9_paper 1 := ⟨wd_1_10, wd_6_34, ⟨by decide +kernel, by decide +kernel⟩, by decide +kernel, by decide +kernel, rfl, rfl⟩
abbrev M_X4_has : oD := (yX4_has, cX4_has, 2, (some .boolean), { frames := 0, cells := 0, slots := 0, locals := 0 })
theorem md_X4_has : oMd M_X4_has 1 := ⟨wd_1_8, wd_4_31, ⟨by decide +kernel, by decide +kernel⟩, by decide +kernel, by decide +kernel, rfl, rfl⟩
abbrev M_X4_isHeld : oD := (yX4_isHeld, cX4_isHeld, 2, (some .boolean), { frames := 1, cells := 0, slots := 0, locals := 21 })
theorem md_X4_isHeld : oMd M_X4_isHeld 1 := ⟨wd_1_8, wd_4_35, ⟨by decide +kernel, by decide +kernel⟩, by decide +kernel, by decide +kernel, rfl, rfl⟩
abbrev M_X4_size : oD := (yX4_size, cX4_size, 2, (some .int), { frames := 2, cells := 0, slots := 0, locals := 42 })
theorem md_X4_size : oMd M_X4_size 1 := ⟨wd_1_8, wd_4_40, ⟨by decide +kernel, by decide +kernel⟩, by decide +kernel, by decide +kernel, rfl, rfl⟩
abbrev M_X4_cell : oD := (yX4_cell, cX4_cell, 4, (some .long), { frames := 0, cells := 0, slots := 0, locals := 0 })
theorem md_X4_cell : oMd M_X4_cell 2 := ⟨wd_1_8, wd_4_45, ⟨by decide +kernel, by decide +kernel⟩, by decide +kernel, by decide +kernel, rfl, rfl⟩
abbrev M_X8_judge : oD := (yX8_judge, cX8_judge, 5, (some .int), { frames := 5, cells := 0, slots := 0, locals := 111 })
theorem md_X8_judge : oMd M_X8_judge 1 := ⟨wd_1_1, wd_4_27, ⟨by decide +kernel, by decide +kernel⟩, by decide +kernel, by decide +kernel, rfl, rfl⟩
abbrev M_X9_isList : oD := (yX9_isList, cX9_isList, 1, (some .boolean), { frames := 1, cells := 0, slots := 0, locals := 25 })
theorem md_X9_isList : oMd M_X9_isList 1 := ⟨wd_1_10, wd_6_41, ⟨by decide +kernel, by decide +kernel⟩, by decide +kernel, by decide +kernel, rfl, rfl⟩
abbrev M_X9_judge : oD := (yX9_judge, cX9_judge, 3, (some .int), { frames := 4, cells := 0, slots := 0, locals := 99 })
theorem md_X9_judge : oMd M_X9_judge 1 := ⟨wd_1_10, wd_6_38, ⟨by decide +kernel, by decide +kernel⟩, by decide +kernel, by decide +kernel, rfl, rfl⟩
abbrev M_X4_fill : oD := (yX4_fill, cX4_fill, 6, none, { frames := 0, cells := 0, slots := 0, locals := 0 })
theorem md_X4_fill : oMd M_X4_fill 3 := ⟨wd_1_8, wd_4_58, ⟨by decide +kernel, by decide +kernel⟩, by decide +kernel, by decide +kernel, rfl, rfl⟩
abbrev M_X4_hold : oD := (yX4_hold, cX4_hold, 4, none, { frames := 1, cells := 0, slots := 0, locals := 25 })
theorem md_X4_hold : oMd M_X4_hold 2 := ⟨wd_1_8, wd_4_53, ⟨by decide +kernel, by decide +kernel⟩, by decide +kernel, by decide +kernel, rfl, rfl⟩
abbrev M_X8_list : oD := (yX8_list, cX8_list, 3, (some .int), { frames := 2, cells := 0, slots := 0, locals := 48 })
theorem md_X8_list : oMd M_X8_list 2 := ⟨wd_1_1, wd_4_49, ⟨by decide +kernel, by decide +kernel⟩, by decide +kernel, by decide +kernel, rfl, rfl⟩
abbrev M_X9_list : oD := (yX9_list, cX9_list, 4, (some .int), { frames := 2, cells := 0, slots := 0, locals := 45 })
theorem md_X9_list : oMd M_X9_list 2 := ⟨wd_1_10, wd_6_46, ⟨by decide +kernel, by decide +kernel⟩, by decide +kernel, by decide +kernel, rfl, rfl⟩
abbrev M_X8_put : oD := (yX8_put, cX8_put, 5, (some .int), { frames := 3, cells := 0, slots := 0, locals := 63 })
theorem md_X8_put : oMd M_X8_put 3 := ⟨wd_1_1, wd_4_62, ⟨by decide +kernel, by decide +kernel⟩, by decide +kernel, by decide +kernel, rfl, rfl⟩
abbrev M_X9_put : oD := (yX9_put, cX9_put, 5, (some .int), { frames := 2, cells := 0, slots := 0, locals := 45 })
theorem md_X9_put : oMd M_X9_put 3 := ⟨wd_1_10, wd_6_50, ⟨by decide +kernel, by decide +kernel⟩, by decide +kernel, by decide +kernel, rfl, rfl⟩
abbrev M_X8_get : oD := (yX8_get, cX8_get, 3, (some .long), { frames := 3, cells := 0, slots := 0, locals := 63 })
theorem md_X8_get : oMd M_X8_get 2 := ⟨wd_1_1, wd_4_67, ⟨by decide +kernel, by decide +kernel⟩, by decide +kernel, by decide +kernel, rfl, rfl⟩
abbrev M_X9_get : oD := (yX9_get, cX9_get, 3, (some .long), { frames := 2, cells := 0, slots := 0, locals := 45 })
theorem md_X9_get : oMd M_X9_get 2 := ⟨wd_1_10, wd_6_54, ⟨by decide +kernel, by decide +kernel⟩, by decide +kernel, by decide +kernel, rfl, rfl⟩
abbrev M_X8_image : oD := (yX8_image, cX8_image, 1, (some .int), { frames := 3, cells := 0, slots := 0, locals := 64 })
theorem md_X8_image : oMd M_X8_image 0 := ⟨wd_1_1, wd_4_71, ⟨by decide +kernel, by decide +kernel⟩, by decide +kernel, by decide +kernel, rfl, rfl⟩
abbrev M_X9_image : oD := (yX9_image, cX9_image, 1, (some .int), { frames := 1, cells := 0, slots := 0, locals := 22 })
theorem md_X9_image : oMd M_X9_image 0 := ⟨wd_1_10, wd_6_58, ⟨by decide +kernel, by decide +kernel⟩, by decide +kernel, by decide +kernel, rfl, rfl⟩
abbrev M_X8_undo : oD := (yX8_undo, cX8_undo, 1, (some .int), { frames := 3, cells := 0, slots := 0, locals := 64 })
theorem md_X8_undo : oMd M_X8_undo 0 := ⟨wd_1_1, wd_4_75, ⟨by decide +kernel, by decide +kernel⟩, by decide +kernel, by decide +kernel, rfl, rfl⟩
abbrev M_X9_undo : oD := (yX9_undo, cX9_undo, 1, (some .int), { frames := 1, cells := 0, slots := 0, locals := 22 })
theorem md_X9_undo : oMd M_X9_undo 0 := ⟨wd_1_10, wd_6_62, ⟨by decide +kernel, by decide +kernel⟩, by decide +kernel, by decide +kernel, rfl, rfl⟩
abbrev M_X7_number : oD := (yX7_number, cX7_number, 3, (some .int), { frames := 2, cells := 0, slots := 0, locals := 42 })
theorem md_X7_number : oMd M_X7_number 0 := ⟨wd_1_4, wd_4_83, ⟨by decide +kernel, by decide +kernel⟩, by decide +kernel, by decide +kernel, rfl, rfl⟩
abbrev M_X8_count : oD := (yX8_count, cX8_count, 2, (some .int), { frames := 4, cells := 0, slots := 0, locals := 91 })
theorem md_X8_count : oMd M_X8_count 1 := ⟨wd_1_1, wd_4_79, ⟨by decide +kernel, by decide +kernel⟩, by decide +kernel, by decide +kernel, rfl, rfl⟩
abbrev M_X9_count : oD := (yX9_count, cX9_count, 4, (some .int), { frames := 3, cells := 0, slots := 0, locals := 69 })
theorem md_X9_count : oMd M_X9_count 1 := ⟨wd_1_10, wd_6_66, ⟨by decide +kernel, by decide +kernel⟩, by decide +kernel, by decide +kernel, rfl, rfl⟩
abbrev M_L_law : oD := (x, cL_law, 4, (some .boolean), { frames := 7, cells := 0, slots := 0, locals := 174 })
theorem lk_RJ0_1059 : oLkS RJ0 1059 M_J3_checkIndex_8e157 3 := ⟨wd_5_26, wd_5_27, md_J3_checkIndex_8e157⟩
theorem lk_RJ0_492 : oLkV RJ0 492 M_J0_isLatin1_aae02 0 := ⟨wd_5_12, wd_5_13, wd_5_14, md_J0_isLatin1_aae02⟩
theorem lk_RJ0_495 : oLkS RJ0 495 M_J1_charAt_3b067 2 := ⟨wd_5_18, wd_5_19, md_J1_charAt_3b067⟩
theorem lk_RJ1_9 : oLkS RJ1 9 M_J0_checkIndex_df160 2 := ⟨wd_5_21, wd_5_22, md_J0_checkIndex_df160⟩
theorem lk_RL_102 : oLkV RL 102 M_X9_order 2 := ⟨wd_5_158, wd_5_159, wd_5_160, md_X9_order⟩
theorem lk_RL_103 : oLkV RL 103 M_X8_found 2 := ⟨wd_3_75, wd_3_76, wd_3_77, md_X8_found⟩
theorem lk_RL_106 : oLkV RL 106 M_X9_found 2 := ⟨wd_5_166, wd_5_167, wd_5_168, md_X9_found⟩
theorem lk_RL_107 : oLkV RL 107 M_X8_foundWrong 2 := ⟨wd_3_131, wd_3_132, wd_3_133, md_X8_foundWrong⟩
theorem lk_RL_110 : oLkV RL 110 M_X9_foundWrong 2 := ⟨wd_5_179, wd_5_180, wd_5_181, md_X9_foundWrong⟩
theorem lk_RL_111 : oLkV RL 111 M_X8_turn 1 := ⟨wd_3_143, wd_3_144, wd_3_145, md_X8_turn⟩
theorem lk_RL_114 : oLkV RL 114 M_X9_turn 1 := ⟨wd_5_183, wd_5_184, wd_5_185, md_X9_turn⟩
theorem lk_RL_115 : oLkV RL 115 M_X8_crank 1 := ⟨wd_3_156, wd_3_157, wd_3_158, md_X8_crank⟩
theorem lk_RL_118 : oLkV RL 118 M_X9_crank 1 := ⟨wd_5_193, wd_5_194, wd_5_195, md_X9_crank⟩
theorem lk_RL_119 : oLkV RL 119 M_X8_stands 1 := ⟨wd_3_160, wd_3_161, wd_3_162, md_X8_stands⟩
theorem lk_RL_123 : oLkV RL 123 M_X9_stands 1 := ⟨wd_5_197, wd_5_198, wd_5_199, md_X9_stands⟩
theorem lk_RL_124 : oLkV RL 124 M_X8_meet 2 := ⟨wd_3_173, wd_3_174, wd_3_175, md_X8_meet⟩
theorem lk_RL_127 : oLkV RL 127 M_X9_meet 2 := ⟨wd_5_206, wd_5_207, wd_5_208, md_X9_meet⟩
theorem lk_RL_128 : oLkV RL 128 M_X8_join 3 := ⟨wd_3_177, wd_3_178, wd_3_179, md_X8_join⟩
theorem lk_RL_13 : oLkV RL 13 M_X8_body 2 := ⟨wd_2_0, wd_2_1, wd_2_2, md_X8_body⟩
theorem lk_RL_131 : oLkV RL 131 M_X9_join 3 := ⟨wd_5_211, wd_5_212, wd_5_213, md_X9_join⟩
theorem lk_RL_132 : oLkV RL 132 M_X8_drift 2 := ⟨wd_3_190, wd_3_191, wd_3_192, md_X8_drift⟩
theorem lk_RL_135 : oLkV RL 135 M_X9_drift 2 := ⟨wd_5_221, wd_5_222, wd_5_223, md_X9_drift⟩
theorem lk_RL_138 : oLkV RL 138 M_X8_were 4 := ⟨wd_3_194, wd_3_195, wd_3_196, md_X8_were⟩
theorem lk_RL_142 : oLkV RL 142 M_X9_were 4 := ⟨wd_5_226, wd_5_227, wd_5_228, md_X9_were⟩
theorem lk_RL_143 : oLkV RL 143 M_X8_odds 4 := ⟨wd_3_198, wd_3_199, wd_3_200, md_X8_odds⟩
theorem lk_RL_147 : oLkV RL 147 M_X9_odds 4 := ⟨wd_5_230, wd_5_231, wd_5_232, md_X9_odds⟩
theorem lk_RL_148 : oLkV RL 148 M_X8_plan 2 := ⟨wd_3_207, wd_3_208, wd_3_209, md_X8_plan⟩
theorem lk_RL_151 : oLkV RL 151 M_X9_plan 2 := ⟨wd_6_0, wd_6_1, wd_6_2, md_X9_plan⟩
theorem lk_RL_152 : oLkV RL 152 M_X8_ends 1 := ⟨wd_3_219, wd_3_220, wd_3_221, md_X8_ends⟩
theorem lk_RL_155 : oLkV RL 155 M_X9_ends 1 := ⟨wd_6_4, wd_6_5, wd_6_6, md_X9_ends⟩
theorem lk_RL_156 : oLkV RL 156 M_X8_writePair 1 := ⟨wd_3_239, wd_4_0, wd_4_1, md_X8_writePair⟩
theorem lk_RL_159 : oLkV RL 159 M_X9_writePair 1 := ⟨wd_6_19, wd_6_20, wd_6_21, md_X9_writePair⟩
theorem lk_RL_160 : oLkV RL 160 M_X8_writeTrain 1 := ⟨wd_4_16, wd_4_17, wd_4_18, md_X8_writeTrain⟩
theorem lk_RL_163 : oLkV RL 163 M_X9_writeTrain 1 := ⟨wd_6_27, wd_6_28, wd_6_29, md_X9_writeTrain⟩
theorem lk_RL_164 : oLkV RL 164 M_X8_paper 1 := ⟨wd_4_20, wd_4_21, wd_4_22, md_X8_paper⟩
theorem lk_RL_167 : oLkV RL 167 M_X9_paper 1 := ⟨wd_6_31, wd_6_32, wd_6_33, md_X9_paper⟩
theorem lk_RL_168 : oLkV RL 168 M_X8_judge 1 := ⟨wd_4_24, wd_4_25, wd_4_26, md_X8_judge⟩
theorem lk_RL_17 : oLkV RL 17 M_X9_body 2 := ⟨wd_4_157, wd_4_158, wd_4_159, md_X9_body⟩
theorem lk_RL_171 : oLkV RL 171 M_X9_judge 1 := ⟨wd_6_35, wd_6_36, wd_6_37, md_X9_judge⟩
theorem lk_RL_172 : oLkV RL 172 M_X8_list 2 := ⟨wd_4_46, wd_4_47, wd_4_48, md_X8_list⟩
theorem lk_RL_175 : oLkV RL 175 M_X9_list 2 := ⟨wd_6_43, wd_6_44, wd_6_45, md_X9_list⟩
theorem lk_RL_176 : oLkV RL 176 M_X8_put 3 := ⟨wd_4_59, wd_4_60, wd_4_61, md_X8_put⟩
theorem lk_RL_18 : oLkV RL 18 M_X8_ratio 3 := ⟨wd_2_26, wd_2_27, wd_2_28, md_X8_ratio⟩
theorem lk_RL_180 : oLkV RL 180 M_X9_put 3 := ⟨wd_6_47, wd_6_48, wd_6_49, md_X9_put⟩
theorem lk_RL_181 : oLkV RL 181 M_X8_get 2 := ⟨wd_4_64, wd_4_65, wd_4_66, md_X8_get⟩
theorem lk_RL_184 : oLkV RL 184 M_X9_get 2 := ⟨wd_6_51, wd_6_52, wd_6_53, md_X9_get⟩
theorem lk_RL_185 : oLkV RL 185 M_X8_image 0 := ⟨wd_4_68, wd_4_69, wd_4_70, md_X8_image⟩
theorem lk_RL_188 : oLkV RL 188 M_X9_image 0 := ⟨wd_6_55, wd_6_56, wd_6_57, md_X9_image⟩
theorem lk_RL_189 : oLkV RL 189 M_X8_undo 0 := ⟨wd_4_72, wd_4_73, wd_4_74, md_X8_undo⟩
theorem lk_RL_192 : oLkV RL 192 M_X9_undo 0 := ⟨wd_6_59, wd_6_60, wd_6_61, md_X9_undo⟩
theorem lk_RL_193 : oLkV RL 193 M_X8_count 1 := ⟨wd_4_76, wd_4_77, wd_4_78, md_X8_count⟩
theorem lk_RL_196 : oLkV RL 196 M_X9_count 1 := ⟨wd_6_63, wd_6_64, wd_6_65, md_X9_count⟩
theorem lk_RL_22 : oLkV RL 22 M_X9_ratio 3 := ⟨wd_4_178, wd_4_179, wd_4_180, md_X9_ratio⟩
theorem lk_RL_23 : oLkV RL 23 M_X8_term 2 := ⟨wd_2_37, wd_2_38, wd_2_39, md_X8_term⟩
theorem lk_RL_26 : oLkV RL 26 M_X9_term 2 := ⟨wd_4_186, wd_4_187, wd_4_188, md_X9_term⟩
theorem lk_RL_27 : oLkV RL 27 M_X8_convergent 3 := ⟨wd_2_41, wd_2_42, wd_2_43, md_X8_convergent⟩
theorem lk_RL_31 : oLkV RL 31 M_X9_convergent 3 := ⟨wd_4_194, wd_4_195, wd_4_196, md_X9_convergent⟩
theorem lk_RL_32 : oLkV RL 32 M_X8_near 3 := ⟨wd_2_50, wd_2_51, wd_2_52, md_X8_near⟩
theorem lk_RL_35 : oLkV RL 35 M_X9_near 3 := ⟨wd_4_202, wd_4_203, wd_4_204, md_X9_near⟩
theorem lk_RL_36 : oLkV RL 36 M_X8_bounds 2 := ⟨wd_2_54, wd_2_55, wd_2_56, md_X8_bounds⟩
theorem lk_RL_39 : oLkV RL 39 M_X9_bounds 2 := ⟨wd_4_207, wd_4_208, wd_4_209, md_X9_bounds⟩
theorem lk_RL_40 : oLkV RL 40 M_X8_split 3 := ⟨wd_2_61, wd_2_62, wd_2_63, md_X8_split⟩
theorem lk_RL_43 : oLkV RL 43 M_X9_split 3 := ⟨wd_4_212, wd_4_213, wd_4_214, md_X9_split⟩
theorem lk_RL_44 : oLkV RL 44 M_X8_prime 2 := ⟨wd_2_73, wd_2_74, wd_2_75, md_X8_prime⟩
theorem lk_RL_47 : oLkV RL 47 M_X9_prime 2 := ⟨wd_4_221, wd_4_222, wd_4_223, md_X9_prime⟩
theorem lk_RL_48 : oLkV RL 48 M_X8_feed 1 := ⟨wd_2_77, wd_2_78, wd_2_79, md_X8_feed⟩
theorem lk_RL_52 : oLkV RL 52 M_X9_feed 1 := ⟨wd_4_226, wd_4_227, wd_4_228, md_X9_feed⟩
theorem lk_RL_53 : oLkV RL 53 M_X8_pairs 0 := ⟨wd_2_82, wd_2_83, wd_2_84, md_X8_pairs⟩
theorem lk_RL_57 : oLkV RL 57 M_X9_pairs 0 := ⟨wd_4_231, wd_4_232, wd_4_233, md_X9_pairs⟩
theorem lk_RL_58 : oLkV RL 58 M_X8_becomes 3 := ⟨wd_2_120, wd_2_121, wd_2_122, md_X8_becomes⟩
theorem lk_RL_61 : oLkV RL 61 M_X9_becomes 3 := ⟨wd_5_62, wd_5_63, wd_5_64, md_X9_becomes⟩
theorem lk_RL_62 : oLkV RL 62 M_X8_teeth 3 := ⟨wd_2_128, wd_2_129, wd_2_130, md_X8_teeth⟩
theorem lk_RL_65 : oLkV RL 65 M_X9_teeth 3 := ⟨wd_5_72, wd_5_73, wd_5_74, md_X9_teeth⟩
theorem lk_RL_66 : oLkV RL 66 M_X8_pair 2 := ⟨wd_2_132, wd_2_133, wd_2_134, md_X8_pair⟩
theorem lk_RL_69 : oLkV RL 69 M_X9_pair 2 := ⟨wd_5_76, wd_5_77, wd_5_78, md_X9_pair⟩
theorem lk_RL_70 : oLkV RL 70 M_X8_train 1 := ⟨wd_2_158, wd_2_159, wd_2_160, md_X8_train⟩
theorem lk_RL_73 : oLkV RL 73 M_X9_train 1 := ⟨wd_5_92, wd_5_93, wd_5_94, md_X9_train⟩
theorem lk_RL_74 : oLkV RL 74 M_X8_drop 1 := ⟨wd_2_184, wd_2_185, wd_2_186, md_X8_drop⟩
theorem lk_RL_77 : oLkV RL 77 M_X9_drop 1 := ⟨wd_5_96, wd_5_97, wd_5_98, md_X9_drop⟩
theorem lk_RL_78 : oLkV RL 78 M_X8_of 2 := ⟨wd_2_195, wd_2_196, wd_2_197, md_X8_of⟩
theorem lk_RL_81 : oLkV RL 81 M_X9_of 2 := ⟨wd_5_100, wd_5_101, wd_5_102, md_X9_of⟩
theorem lk_RL_82 : oLkV RL 82 M_X8_turns 2 := ⟨wd_2_209, wd_2_210, wd_2_211, md_X8_turns⟩
theorem lk_RL_86 : oLkV RL 86 M_X9_turns 2 := ⟨wd_5_109, wd_5_110, wd_5_111, md_X9_turns⟩
theorem lk_RL_87 : oLkV RL 87 M_X8_wrong 2 := ⟨wd_2_222, wd_2_223, wd_2_224, md_X8_wrong⟩
theorem lk_RL_90 : oLkV RL 90 M_X9_wrong 2 := ⟨wd_5_129, wd_5_130, wd_5_131, md_X9_wrong⟩
theorem lk_RL_91 : oLkV RL 91 M_X8_backlash 2 := ⟨wd_2_236, wd_2_237, wd_2_238, md_X8_backlash⟩
theorem lk_RL_94 : oLkV RL 94 M_X9_backlash 2 := ⟨wd_5_137, wd_5_138, wd_5_139, md_X9_backlash⟩
theorem lk_RL_95 : oLkV RL 95 M_X8_share 2 := ⟨wd_3_10, wd_3_11, wd_3_12, md_X8_share⟩
theorem lk_RL_98 : oLkV RL 98 M_X9_share 2 := ⟨wd_5_146, wd_5_147, wd_5_148, md_X9_share⟩
theorem lk_RL_99 : oLkV RL 99 M_X8_order 2 := ⟨wd_3_25, wd_3_26, wd_3_27, md_X8_order⟩
theorem lk_RX0_41 : oLkV RX0 41 M_X0_seekOnePair 0 := ⟨wd_3_83, wd_3_85, (oTB_s (q := (⟨"OrreryTrains$Finder", "seekOnePair", "()V"⟩, 10)) (by decide +kernel)), md_X0_seekOnePair⟩
theorem lk_RX0_44 : oLkV RX0 44 M_X0_seekTwoPairs 0 := ⟨wd_3_107, wd_3_109, (oTB_s (q := (⟨"OrreryTrains$Finder", "seekTwoPairs", "()V"⟩, 10)) (by decide +kernel)), md_X0_seekTwoPairs⟩
theorem lk_RX0_47 : oLkV RX0 47 M_X0_offer 4 := ⟨wd_3_87, wd_3_89, (oTB_s (q := (⟨"OrreryTrains$Finder", "offer", "(IIII)V"⟩, 10)) (by decide +kernel)), md_X0_offer⟩
theorem lk_RX0_51 : oLkV RX0 51 M_X0_offerFourth 3 := ⟨wd_3_111, wd_3_113, (oTB_s (q := (⟨"OrreryTrains$Finder", "offerFourth", "(III)V"⟩, 10)) (by decide +kernel)), md_X0_offerFourth⟩
theorem lk_RX0_55 : oLkN RX0 55 M_X8_quotient 2 := ⟨by decide +kernel, wd_2_21, md_X8_quotient⟩
theorem lk_RX0_61 : oLkS RX0 61 M_X0_within 3 := ⟨wd_3_116, wd_3_117, md_X0_within⟩
theorem lk_RX0_65 : oLkS RX0 65 M_X0_product 2 := ⟨wd_3_91, wd_3_92, md_X0_product⟩
theorem lk_RX0_69 : oLkS RX0 69 M_J9_abs_067f4 1 := ⟨wd_3_94, wd_2_15, md_J9_abs_067f4⟩
theorem lk_RX0_75 : oLkV RX0 75 M_X0_isAhead 4 := ⟨wd_3_95, wd_3_97, (oTB_s (q := (⟨"OrreryTrains$Finder", "isAhead", "(IIII)Z"⟩, 10)) (by decide +kernel)), md_X0_isAhead⟩
theorem lk_RX0_79 : oLkV RX0 79 M_X0_isOnePair 0 := ⟨wd_3_99, wd_3_100, wd_3_101, md_X0_isOnePair⟩
theorem lk_RX0_83 : oLkV RX0 83 M_X0_allTeeth 0 := ⟨wd_3_103, wd_3_104, wd_3_105, md_X0_allTeeth⟩
theorem lk_RX0_87 : oLkS RX0 87 M_J9_min_f86c9 2 := ⟨wd_3_119, wd_3_120, md_J9_min_f86c9⟩
theorem lk_RX0_90 : oLkS RX0 90 M_J9_max_f86c9 2 := ⟨wd_3_122, wd_3_123, md_J9_max_f86c9⟩
theorem lk_RX1_100 : oLkV RX1 100 M_X1_drivers 1 := ⟨wd_2_230, wd_2_214, wd_2_215, md_X1_drivers⟩
theorem lk_RX1_103 : oLkV RX1 103 M_X1_drivens 1 := ⟨wd_2_231, wd_2_219, wd_2_220, md_X1_drivens⟩
theorem lk_RX1_105 : oLkV RX1 105 M_X2_goesRound 1 := ⟨wd_2_207, wd_2_142, wd_2_143, md_X2_goesRound⟩
theorem lk_RX1_108 : oLkV RX1 108 M_X2_play 1 := ⟨wd_3_4, wd_2_137, wd_2_138, md_X2_play⟩
theorem lk_RX1_115 : oLkN RX1 115 M_X8_quotient 2 := ⟨by decide +kernel, wd_2_21, md_X8_quotient⟩
theorem lk_RX1_119 : oLkV RX1 119 M_X1_slackAbove 1 := ⟨wd_3_170, wd_3_1, wd_3_2, md_X1_slackAbove⟩
theorem lk_RX1_122 : oLkV RX1 122 M_X1_slackBelow 1 := ⟨wd_3_171, wd_3_6, wd_3_7, md_X1_slackBelow⟩
theorem lk_RX1_125 : oLkV RX1 125 M_X1_isRound 1 := ⟨wd_3_172, wd_2_203, wd_2_204, md_X1_isRound⟩
theorem lk_RX1_129 : oLkS RX1 129 M_J9_min_7cf53 2 := ⟨wd_3_154, wd_3_23, md_J9_min_7cf53⟩
theorem lk_RX1_134 : oLkS RX1 134 M_J9_max_7cf53 2 := ⟨wd_3_155, wd_3_70, md_J9_max_7cf53⟩
theorem lk_RX1_146 : oLkV RX1 146 M_X1_crankBy 1 := ⟨wd_3_227, wd_3_151, wd_3_152, md_X1_crankBy⟩
theorem lk_RX1_150 : oLkV RX1 150 M_X1_hasTrain 1 := ⟨wd_3_228, wd_2_189, wd_2_190, md_X1_hasTrain⟩
theorem lk_RX1_153 : oLkV RX1 153 M_X7_turnAbout 1 := ⟨wd_3_229, wd_3_230, wd_3_231, md_X7_turnAbout⟩
theorem lk_RX1_156 : oLkV RX1 156 M_X2_has 1 := ⟨wd_3_234, wd_2_125, wd_2_126, md_X2_has⟩
theorem lk_RX1_159 : oLkV RX1 159 M_X2_changeWheels 1 := ⟨wd_3_235, wd_3_236, wd_3_237, md_X2_changeWheels⟩
theorem lk_RX1_56 : oLkN RX1 56 M_X8_copy 2 := ⟨by decide +kernel, wd_3_42, md_X8_copy⟩
theorem lk_RX1_60 : oLkV RX1 60 M_X2_copyFrom 1 := ⟨wd_3_44, wd_3_45, wd_3_46, md_X2_copyFrom⟩
theorem lk_RX1_64 : oLkV RX1 64 M_X7_copyFrom 1 := ⟨wd_3_49, wd_3_50, wd_3_51, md_X7_copyFrom⟩
theorem lk_RX1_67 : oLkV RX1 67 M_X3_copyFrom 1 := ⟨wd_3_54, wd_3_55, wd_3_56, md_X3_copyFrom⟩
theorem lk_RX1_70 : oLkV RX1 70 M_X1_hasBody 1 := ⟨wd_2_192, wd_2_31, wd_2_32, md_X1_hasBody⟩
theorem lk_RX1_74 : oLkV RX1 74 M_X7_length 1 := ⟨wd_2_193, wd_2_150, wd_2_151, md_X7_length⟩
theorem lk_RX1_78 : oLkN RX1 78 M_X8_lowest 3 := ⟨by decide +kernel, wd_2_12, md_X8_lowest⟩
theorem lk_RX1_82 : oLkN RX1 82 M_X8_set 3 := ⟨by decide +kernel, wd_2_24, md_X8_set⟩
theorem lk_RX1_89 : oLkV RX1 89 M_X7_pairAt 2 := ⟨wd_2_206, wd_2_155, wd_2_156, md_X7_pairAt⟩
theorem lk_RX1_93 : oLkN RX1 93 M_X8_at 2 := ⟨by decide +kernel, wd_2_35, md_X8_at⟩
theorem lk_RX2_28 : oLkN RX2 28 M_X8_copy 2 := ⟨by decide +kernel, wd_3_42, md_X8_copy⟩
theorem lk_RX2_32 : oLkN RX2 32 M_X8_set 3 := ⟨by decide +kernel, wd_2_24, md_X8_set⟩
theorem lk_RX2_36 : oLkN RX2 36 M_X8_at 2 := ⟨by decide +kernel, wd_2_35, md_X8_at⟩
theorem lk_RX3_22 : oLkN RX3 22 M_X8_copy 2 := ⟨by decide +kernel, wd_3_42, md_X8_copy⟩
theorem lk_RX3_26 : oLkN RX3 26 M_X8_set 3 := ⟨by decide +kernel, wd_2_24, md_X8_set⟩
theorem lk_RX4_19 : oLkN RX4 19 M_X8_at 2 := ⟨by decide +kernel, wd_2_35, md_X8_at⟩
theorem lk_RX4_23 : oLkV RX4 23 M_X4_isHeld 1 := ⟨wd_4_41, wd_4_33, wd_4_34, md_X4_isHeld⟩
theorem lk_RX4_27 : oLkN RX4 27 M_X8_set 3 := ⟨by decide +kernel, wd_2_24, md_X8_set⟩
theorem lk_RX4_31 : oLkV RX4 31 M_X4_fill 3 := ⟨wd_4_55, wd_4_56, wd_4_57, md_X4_fill⟩
theorem lk_RX5_19 : oLkN RX5 19 M_X8_set 3 := ⟨by decide +kernel, wd_2_24, md_X8_set⟩
theorem lk_RX5_23 : oLkV RX5 23 M_X5_add 1 := ⟨wd_4_15, wd_4_7, wd_4_8, md_X5_add⟩
theorem lk_RX6_19 : oLkN RX6 19 M_X8_at 2 := ⟨by decide +kernel, wd_2_35, md_X8_at⟩
theorem lk_RX6_23 : oLkS RX6 23 M_X6_fitsClause 2 := ⟨wd_2_91, wd_2_92, md_X6_fitsClause⟩
theorem lk_RX6_27 : oLkN RX6 27 M_X8_kindOf 1 := ⟨by decide +kernel, wd_2_95, md_X8_kindOf⟩
theorem lk_RX6_31 : oLkV RX6 31 M_X6_figureAt 1 := ⟨wd_2_107, wd_2_109, (oTB_s (q := (⟨"OrreryTrains$Tape", "figureAt", "(I)I"⟩, 2)) (by decide +kernel)), md_X6_figureAt⟩
theorem lk_RX6_34 : oLkV RX6 34 M_X6_numberAt 1 := ⟨wd_2_111, wd_2_113, (oTB_s (q := (⟨"OrreryTrains$Tape", "numberAt", "(I)I"⟩, 2)) (by decide +kernel)), md_X6_numberAt⟩
theorem lk_RX6_37 : oLkV RX6 37 M_X2_add 4 := ⟨wd_2_115, wd_2_116, wd_2_117, md_X2_add⟩
theorem lk_RX6_43 : oLkV RX6 43 M_X6_pairTold 1 := ⟨wd_2_166, wd_2_167, wd_2_168, md_X6_pairTold⟩
theorem lk_RX6_46 : oLkV RX6 46 M_X6_isToldAhead 1 := ⟨wd_2_170, wd_2_172, (oTB_s (q := (⟨"OrreryTrains$Tape", "isToldAhead", "(I)Z"⟩, 2)) (by decide +kernel)), md_X6_isToldAhead⟩
theorem lk_RX7_18 : oLkN RX7 18 M_X8_copy 2 := ⟨by decide +kernel, wd_3_42, md_X8_copy⟩
theorem lk_RX7_22 : oLkN RX7 22 M_X8_at 2 := ⟨by decide +kernel, wd_2_35, md_X8_at⟩
theorem lk_RX7_26 : oLkN RX7 26 M_X8_set 3 := ⟨by decide +kernel, wd_2_24, md_X8_set⟩
theorem lk_RX7_30 : oLkV RX7 30 M_X7_length 1 := ⟨wd_2_149, wd_2_150, wd_2_151, md_X7_length⟩
theorem lk_RX7_34 : oLkV RX7 34 M_X7_pairAt 2 := ⟨wd_2_154, wd_2_155, wd_2_156, md_X7_pairAt⟩
theorem lk_RX7_38 : oLkV RX7 38 M_X7_become 3 := ⟨wd_3_233, wd_2_181, wd_2_182, md_X7_become⟩
theorem lk_RX7_42 : oLkS RX7 42 M_J9_min_7cf53 2 := ⟨wd_3_22, wd_3_23, md_J9_min_7cf53⟩
theorem lk_RX7_47 : oLkV RX7 47 M_X7_shared 2 := ⟨wd_3_68, wd_3_19, wd_3_20, md_X7_shared⟩
theorem lk_RX7_50 : oLkS RX7 50 M_J9_max_7cf53 2 := ⟨wd_3_69, wd_3_70, md_J9_max_7cf53⟩
theorem lk_RX8_102 : oLkS RX8 102 M_X8_isTeeth 1 := ⟨wd_2_58, wd_2_59, md_X8_isTeeth⟩
theorem lk_RX8_111 : oLkV RX8 111 M_X8_splitIntoOne 2 := ⟨wd_2_65, wd_2_67, (oTB_s (q := (⟨"OrreryTrains", "splitIntoOne", "(II)I"⟩, 8)) (by decide +kernel)), md_X8_splitIntoOne⟩
theorem lk_RX8_115 : oLkV RX8 115 M_X8_splitIntoTwo 2 := ⟨wd_2_69, wd_2_71, (oTB_s (q := (⟨"OrreryTrains", "splitIntoTwo", "(II)I"⟩, 8)) (by decide +kernel)), md_X8_splitIntoTwo⟩
theorem lk_RX8_124 : oLkS RX8 124 M_X8_set 3 := ⟨wd_2_81, wd_2_24, md_X8_set⟩
theorem lk_RX8_128 : oLkV RX8 128 M_X6_faultAsPairs 0 := ⟨wd_2_86, wd_2_87, wd_2_88, md_X6_faultAsPairs⟩
theorem lk_RX8_132 : oLkV RX8 132 M_X6_clauses 0 := ⟨wd_2_99, wd_2_100, wd_2_101, md_X6_clauses⟩
theorem lk_RX8_144 : oLkV RX8 144 M_X6_tellPair 2 := ⟨wd_2_103, wd_2_104, wd_2_105, md_X6_tellPair⟩
theorem lk_RX8_148 : oLkV RX8 148 M_X2_has 1 := ⟨wd_2_124, wd_2_125, wd_2_126, md_X2_has⟩
theorem lk_RX8_163 : oLkV RX8 163 M_X2_play 1 := ⟨wd_2_136, wd_2_137, wd_2_138, md_X2_play⟩
theorem lk_RX8_167 : oLkV RX8 167 M_X2_goesRound 1 := ⟨wd_2_141, wd_2_142, wd_2_143, md_X2_goesRound⟩
theorem lk_RX8_174 : oLkV RX8 174 M_X7_holding 1 := ⟨wd_2_145, wd_2_146, wd_2_147, md_X7_holding⟩
theorem lk_RX8_179 : oLkV RX8 179 M_X6_faultAsTrain 1 := ⟨wd_2_162, wd_2_163, wd_2_164, md_X6_faultAsTrain⟩
theorem lk_RX8_182 : oLkV RX8 182 M_X7_cut 2 := ⟨wd_2_174, wd_2_175, wd_2_176, md_X7_cut⟩
theorem lk_RX8_186 : oLkV RX8 186 M_X6_pairTold 1 := ⟨wd_2_179, wd_2_167, wd_2_168, md_X6_pairTold⟩
theorem lk_RX8_189 : oLkV RX8 189 M_X7_become 3 := ⟨wd_2_180, wd_2_181, wd_2_182, md_X7_become⟩
theorem lk_RX8_192 : oLkV RX8 192 M_X1_hasTrain 1 := ⟨wd_2_188, wd_2_189, wd_2_190, md_X1_hasTrain⟩
theorem lk_RX8_195 : oLkV RX8 195 M_X7_length 1 := ⟨wd_2_194, wd_2_150, wd_2_151, md_X7_length⟩
theorem lk_RX8_197 : oLkS RX8 197 M_X8_asksPlace 1 := ⟨wd_2_199, wd_2_200, md_X8_asksPlace⟩
theorem lk_RX8_200 : oLkV RX8 200 M_X1_isRound 1 := ⟨wd_2_202, wd_2_203, wd_2_204, md_X1_isRound⟩
theorem lk_RX8_203 : oLkV RX8 203 M_X7_pairAt 2 := ⟨wd_2_208, wd_2_155, wd_2_156, md_X7_pairAt⟩
theorem lk_RX8_206 : oLkV RX8 206 M_X1_drivers 1 := ⟨wd_2_213, wd_2_214, wd_2_215, md_X1_drivers⟩
theorem lk_RX8_209 : oLkV RX8 209 M_X1_drivens 1 := ⟨wd_2_218, wd_2_219, wd_2_220, md_X1_drivens⟩
theorem lk_RX8_211 : oLkV RX8 211 M_X1_wrongAbove 1 := ⟨wd_2_226, wd_2_227, wd_2_228, md_X1_wrongAbove⟩
theorem lk_RX8_214 : oLkV RX8 214 M_X1_wrongBelow 1 := ⟨wd_2_232, wd_2_233, wd_2_234, md_X1_wrongBelow⟩
theorem lk_RX8_217 : oLkV RX8 217 M_X1_slackAbove 1 := ⟨wd_3_0, wd_3_1, wd_3_2, md_X1_slackAbove⟩
theorem lk_RX8_220 : oLkV RX8 220 M_X1_slackBelow 1 := ⟨wd_3_5, wd_3_6, wd_3_7, md_X1_slackBelow⟩
theorem lk_RX8_223 : oLkV RX8 223 M_X8_areTwo 2 := ⟨wd_3_14, wd_3_16, (oTB_s (q := (⟨"OrreryTrains", "areTwo", "(II)Z"⟩, 8)) (by decide +kernel)), md_X8_areTwo⟩
theorem lk_RX8_226 : oLkV RX8 226 M_X7_shared 2 := ⟨wd_3_18, wd_3_19, wd_3_20, md_X7_shared⟩
theorem lk_RX8_229 : oLkV RX8 229 M_X8_bestOrder 1 := ⟨wd_3_29, wd_3_31, (oTB_s (q := (⟨"OrreryTrains", "bestOrder", "(I)I"⟩, 8)) (by decide +kernel)), md_X8_bestOrder⟩
theorem lk_RX8_232 : oLkV RX8 232 M_X8_wheelsBy 2 := ⟨wd_3_33, wd_3_35, (oTB_s (q := (⟨"OrreryTrains", "wheelsBy", "(II)I"⟩, 8)) (by decide +kernel)), md_X8_wheelsBy⟩
theorem lk_RX8_235 : oLkS RX8 235 M_X8_placeBy 2 := ⟨wd_3_59, wd_3_60, md_X8_placeBy⟩
theorem lk_RX8_238 : oLkV RX8 238 M_X0_seek 4 := ⟨wd_3_79, wd_3_80, wd_3_81, md_X0_seek⟩
theorem lk_RX8_242 : oLkV RX8 242 M_X0_isOnePair 0 := ⟨wd_3_125, wd_3_100, wd_3_101, md_X0_isOnePair⟩
theorem lk_RX8_246 : oLkV RX8 246 M_X0_allTeeth 0 := ⟨wd_3_126, wd_3_104, wd_3_105, md_X0_allTeeth⟩
theorem lk_RX8_249 : oLkV RX8 249 M_X0_wheel 1 := ⟨wd_3_127, wd_3_128, wd_3_129, md_X0_wheel⟩
theorem lk_RX8_252 : oLkV RX8 252 M_X0_wrongAbove 0 := ⟨wd_3_135, wd_3_136, wd_3_137, md_X0_wrongAbove⟩
theorem lk_RX8_255 : oLkV RX8 255 M_X0_wrongBelow 0 := ⟨wd_3_139, wd_3_140, wd_3_141, md_X0_wrongBelow⟩
theorem lk_RX8_257 : oLkS RX8 257 M_X8_isCranked 1 := ⟨wd_3_147, wd_3_148, md_X8_isCranked⟩
theorem lk_RX8_263 : oLkV RX8 263 M_X1_crankBy 1 := ⟨wd_3_150, wd_3_151, wd_3_152, md_X1_crankBy⟩
theorem lk_RX8_270 : oLkV RX8 270 M_X1_standing 1 := ⟨wd_3_164, wd_3_165, wd_3_166, md_X1_standing⟩
theorem lk_RX8_273 : oLkS RX8 273 M_X8_greatestCommon 2 := ⟨wd_2_17, wd_2_18, md_X8_greatestCommon⟩
theorem lk_RX8_276 : oLkV RX8 276 M_X8_turnsUntilJoined 3 := ⟨wd_3_181, wd_3_183, (oTB_s (q := (⟨"OrreryTrains", "turnsUntilJoined", "(III)I"⟩, 8)) (by decide +kernel)), md_X8_turnsUntilJoined⟩
theorem lk_RX8_282 : oLkV RX8 282 M_X1_copyFrom 1 := ⟨wd_3_37, wd_3_38, wd_3_39, md_X1_copyFrom⟩
theorem lk_RX8_286 : oLkV RX8 286 M_X1_slips 2 := ⟨wd_3_202, wd_3_203, wd_3_204, md_X1_slips⟩
theorem lk_RX8_296 : oLkS RX8 296 M_X8_isPlanned 2 := ⟨wd_3_211, wd_3_212, md_X8_isPlanned⟩
theorem lk_RX8_299 : oLkV RX8 299 M_X3_add 2 := ⟨wd_3_214, wd_3_215, wd_3_216, md_X3_add⟩
theorem lk_RX8_302 : oLkV RX8 302 M_X1_followPlan 0 := ⟨wd_3_223, wd_3_224, wd_3_225, md_X1_followPlan⟩
theorem lk_RX8_306 : oLkS RX8 306 M_X8_kindLetter 1 := ⟨wd_4_3, wd_4_4, md_X8_kindLetter⟩
theorem lk_RX8_309 : oLkV RX8 309 M_X5_add 1 := ⟨wd_4_6, wd_4_7, wd_4_8, md_X5_add⟩
theorem lk_RX8_311 : oLkV RX8 311 M_X5_addTwoFigures 1 := ⟨wd_4_11, wd_4_12, wd_4_13, md_X5_addTwoFigures⟩
theorem lk_RX8_315 : oLkV RX8 315 M_X4_has 1 := ⟨wd_4_28, wd_4_29, wd_4_30, md_X4_has⟩
theorem lk_RX8_316 : oLkV RX8 316 M_X4_isHeld 1 := ⟨wd_4_32, wd_4_33, wd_4_34, md_X4_isHeld⟩
theorem lk_RX8_319 : oLkV RX8 319 M_X4_size 1 := ⟨wd_4_37, wd_4_38, wd_4_39, md_X4_size⟩
theorem lk_RX8_321 : oLkV RX8 321 M_X4_cell 2 := ⟨wd_4_42, wd_4_43, wd_4_44, md_X4_cell⟩
theorem lk_RX8_325 : oLkV RX8 325 M_X4_hold 2 := ⟨wd_4_50, wd_4_51, wd_4_52, md_X4_hold⟩
theorem lk_RX8_328 : oLkV RX8 328 M_X4_fill 3 := ⟨wd_4_63, wd_4_56, wd_4_57, md_X4_fill⟩
theorem lk_RX8_332 : oLkV RX8 332 M_X7_number 0 := ⟨wd_4_80, wd_4_81, wd_4_82, md_X7_number⟩
theorem lk_RX8_335 : oLkV RX8 335 M_X7_wheels 0 := ⟨wd_3_64, wd_3_65, wd_3_66, md_X7_wheels⟩
theorem lk_RX8_341 : oLkS RX8 341 M_X8_isOrderOf 2 := ⟨wd_3_72, wd_3_73, md_X8_isOrderOf⟩
theorem lk_RX8_344 : oLkS RX8 344 M_J9_floorMod_f86c9 2 := ⟨wd_3_185, wd_3_186, md_J9_floorMod_f86c9⟩
theorem lk_RX8_347 : oLkS RX8 347 M_J9_min_f86c9 2 := ⟨wd_3_188, wd_3_120, md_J9_min_f86c9⟩
theorem lk_RX8_56 : oLkS RX8 56 M_X8_isRatio 2 := ⟨wd_2_4, wd_2_5, md_X8_isRatio⟩
theorem lk_RX8_64 : oLkV RX8 64 M_X1_wish 3 := ⟨wd_2_7, wd_2_8, wd_2_9, md_X1_wish⟩
theorem lk_RX8_68 : oLkV RX8 68 M_X1_hasBody 1 := ⟨wd_2_30, wd_2_31, wd_2_32, md_X1_hasBody⟩
theorem lk_RX8_76 : oLkS RX8 76 M_X8_at 2 := ⟨wd_2_34, wd_2_35, md_X8_at⟩
theorem lk_RX8_83 : oLkS RX8 83 M_X8_isPart 1 := ⟨wd_2_45, wd_2_46, md_X8_isPart⟩
theorem lk_RX8_88 : oLkS RX8 88 M_X8_lowest 3 := ⟨wd_2_49, wd_2_12, md_X8_lowest⟩
theorem lk_RX8_92 : oLkS RX8 92 M_X8_quotient 2 := ⟨wd_2_20, wd_2_21, md_X8_quotient⟩
theorem lk_RX8_96 : oLkS RX8 96 M_J9_abs_067f4 1 := ⟨wd_2_14, wd_2_15, md_J9_abs_067f4⟩
theorem lk_RX9_102 : oLkV RX9 102 M_X9_here 0 := ⟨wd_5_3, wd_5_5, (oTB_s (q := (⟨"OrreryTrainsModel", "here", "()I"⟩, 22)) (by decide +kernel)), md_X9_here⟩
theorem lk_RX9_108 : oLkV RX9 108 M_X9_fails 0 := ⟨wd_5_48, wd_5_50, (oTB_s (q := (⟨"OrreryTrainsModel", "fails", "()V"⟩, 22)) (by decide +kernel)), md_X9_fails⟩
theorem lk_RX9_113 : oLkV RX9 113 M_J0_charAt_5068e 1 := ⟨wd_5_8, wd_5_9, wd_5_10, md_J0_charAt_5068e⟩
theorem lk_RX9_119 : oLkV RX9 119 M_X9_kindHere 0 := ⟨wd_4_239, wd_5_1, (oTB_s (q := (⟨"OrreryTrainsModel", "kindHere", "()I"⟩, 22)) (by decide +kernel)), md_X9_kindHere⟩
theorem lk_RX9_122 : oLkV RX9 122 M_X9_figure 1 := ⟨wd_5_52, wd_5_54, (oTB_s (q := (⟨"OrreryTrainsModel", "figure", "(I)I"⟩, 22)) (by decide +kernel)), md_X9_figure⟩
theorem lk_RX9_125 : oLkV RX9 125 M_X9_must 1 := ⟨wd_5_57, wd_5_59, (oTB_s (q := (⟨"OrreryTrainsModel", "must", "(I)V"⟩, 22)) (by decide +kernel)), md_X9_must⟩
theorem lk_RX9_129 : oLkV RX9 129 M_X9_clauses 0 := ⟨wd_4_235, wd_4_237, (oTB_s (q := (⟨"OrreryTrainsModel", "clauses", "()I"⟩, 22)) (by decide +kernel)), md_X9_clauses⟩
theorem lk_RX9_132 : oLkV RX9 132 M_X9_isPair 1 := ⟨wd_5_66, wd_5_68, (oTB_s (q := (⟨"OrreryTrainsModel", "isPair", "(I)Z"⟩, 22)) (by decide +kernel)), md_X9_isPair⟩
theorem lk_RX9_139 : oLkV RX9 139 M_X9_play 1 := ⟨wd_5_80, wd_5_82, (oTB_s (q := (⟨"OrreryTrainsModel", "play", "(I)I"⟩, 22)) (by decide +kernel)), md_X9_play⟩
theorem lk_RX9_142 : oLkV RX9 142 M_X9_trainsOf 1 := ⟨wd_5_84, wd_5_86, (oTB_s (q := (⟨"OrreryTrainsModel", "trainsOf", "(I)I"⟩, 22)) (by decide +kernel)), md_X9_trainsOf⟩
theorem lk_RX9_147 : oLkV RX9 147 M_X9_isRound 1 := ⟨wd_5_105, wd_5_107, (oTB_s (q := (⟨"OrreryTrainsModel", "isRound", "(I)Z"⟩, 22)) (by decide +kernel)), md_X9_isRound⟩
theorem lk_RX9_150 : oLkV RX9 150 M_X9_product 4 := ⟨wd_5_121, wd_5_123, (oTB_s (q := (⟨"OrreryTrainsModel", "product", "(IIII)J"⟩, 22)) (by decide +kernel)), md_X9_product⟩
theorem lk_RX9_154 : oLkV RX9 154 M_X9_hasTrain 1 := ⟨wd_5_113, wd_5_115, (oTB_s (q := (⟨"OrreryTrainsModel", "hasTrain", "(I)Z"⟩, 22)) (by decide +kernel)), md_X9_hasTrain⟩
theorem lk_RX9_157 : oLkV RX9 157 M_X9_drivers 1 := ⟨wd_5_117, wd_5_119, (oTB_s (q := (⟨"OrreryTrainsModel", "drivers", "(I)J"⟩, 22)) (by decide +kernel)), md_X9_drivers⟩
theorem lk_RX9_161 : oLkV RX9 161 M_X9_drivens 1 := ⟨wd_5_125, wd_5_127, (oTB_s (q := (⟨"OrreryTrainsModel", "drivens", "(I)J"⟩, 22)) (by decide +kernel)), md_X9_drivens⟩
theorem lk_RX9_164 : oLkV RX9 164 M_X9_off 3 := ⟨wd_5_133, wd_5_135, (oTB_s (q := (⟨"OrreryTrainsModel", "off", "(IJJ)J"⟩, 22)) (by decide +kernel)), md_X9_off⟩
theorem lk_RX9_168 : oLkV RX9 168 M_X9_lag 1 := ⟨wd_5_141, wd_5_143, (oTB_s (q := (⟨"OrreryTrainsModel", "lag", "(I)J"⟩, 22)) (by decide +kernel)), md_X9_lag⟩
theorem lk_RX9_173 : oLkV RX9 173 M_X9_areTwo 2 := ⟨wd_5_150, wd_5_152, (oTB_s (q := (⟨"OrreryTrainsModel", "areTwo", "(II)Z"⟩, 22)) (by decide +kernel)), md_X9_areTwo⟩
theorem lk_RX9_176 : oLkV RX9 176 M_X9_shared 2 := ⟨wd_5_154, wd_5_156, (oTB_s (q := (⟨"OrreryTrainsModel", "shared", "(II)I"⟩, 22)) (by decide +kernel)), md_X9_shared⟩
theorem lk_RX9_179 : oLkV RX9 179 M_X9_wheels 0 := ⟨wd_5_162, wd_5_164, (oTB_s (q := (⟨"OrreryTrainsModel", "wheels", "()I"⟩, 22)) (by decide +kernel)), md_X9_wheels⟩
theorem lk_RX9_207 : oLkV RX9 207 M_X9_tries 6 := ⟨wd_5_175, wd_5_177, (oTB_s (q := (⟨"OrreryTrainsModel", "tries", "(IIIIII)V"⟩, 22)) (by decide +kernel)), md_X9_tries⟩
theorem lk_RX9_213 : oLkV RX9 213 M_X9_finds 1 := ⟨wd_5_171, wd_5_173, (oTB_s (q := (⟨"OrreryTrainsModel", "finds", "(I)V"⟩, 22)) (by decide +kernel)), md_X9_finds⟩
theorem lk_RX9_220 : oLkV RX9 220 M_X9_goes 1 := ⟨wd_5_189, wd_5_191, (oTB_s (q := (⟨"OrreryTrainsModel", "goes", "(I)V"⟩, 22)) (by decide +kernel)), md_X9_goes⟩
theorem lk_RX9_225 : oLkV RX9 225 M_X9_standsAt 1 := ⟨wd_5_201, wd_5_203, (oTB_s (q := (⟨"OrreryTrainsModel", "standsAt", "(I)J"⟩, 22)) (by decide +kernel)), md_X9_standsAt⟩
theorem lk_RX9_228 : oLkV RX9 228 M_X9_turns 2 := ⟨wd_5_210, wd_5_110, wd_5_111, md_X9_turns⟩
theorem lk_RX9_234 : oLkV RX9 234 M_X9_partOf 2 := ⟨wd_5_216, wd_5_218, (oTB_s (q := (⟨"OrreryTrainsModel", "partOf", "(II)J"⟩, 22)) (by decide +kernel)), md_X9_partOf⟩
theorem lk_RX9_239 : oLkV RX9 239 M_X9_wrong 2 := ⟨wd_5_225, wd_5_130, wd_5_131, md_X9_wrong⟩
theorem lk_RX9_245 : oLkV RX9 245 M_X9_slips 2 := ⟨wd_5_235, wd_5_237, (oTB_s (q := (⟨"OrreryTrainsModel", "slips", "(II)Z"⟩, 22)) (by decide +kernel)), md_X9_slips⟩
theorem lk_RX9_248 : oLkV RX9 248 M_X9_changes 2 := ⟨wd_6_15, wd_6_17, (oTB_s (q := (⟨"OrreryTrainsModel", "changes", "(II)V"⟩, 22)) (by decide +kernel)), md_X9_changes⟩
theorem lk_RX9_252 : oLkS RX9 252 M_X9_copies 2 := ⟨wd_6_8, wd_6_9, md_X9_copies⟩
theorem lk_RX9_256 : oLkV RX9 256 M_X9_done 2 := ⟨wd_6_11, wd_6_13, (oTB_s (q := (⟨"OrreryTrainsModel", "done", "(II)V"⟩, 22)) (by decide +kernel)), md_X9_done⟩
theorem lk_RX9_259 : oLkV RX9 259 M_X9_two 2 := ⟨wd_6_23, wd_6_25, (oTB_s (q := (⟨"OrreryTrainsModel", "two", "(II)V"⟩, 22)) (by decide +kernel)), md_X9_two⟩
theorem lk_RX9_267 : oLkS RX9 267 M_X9_isList 1 := ⟨wd_6_39, wd_6_40, md_X9_isList⟩
theorem lk_RX9_40 : oLkS RX9 40 M_X9_common 2 := ⟨wd_4_175, wd_4_176, md_X9_common⟩
theorem lk_RX9_44 : oLkS RX9 44 M_X9_isIn 3 := ⟨wd_4_165, wd_4_166, md_X9_isIn⟩
theorem lk_RX9_50 : oLkS RX9 50 M_X9_told 3 := ⟨wd_4_172, wd_4_173, md_X9_told⟩
theorem lk_RX9_54 : oLkS RX9 54 M_X9_isRatio 2 := ⟨wd_4_161, wd_4_162, md_X9_isRatio⟩
theorem lk_RX9_58 : oLkV RX9 58 M_X9_becomesRatio 3 := ⟨wd_4_168, wd_4_170, (oTB_s (q := (⟨"OrreryTrainsModel", "becomesRatio", "(III)V"⟩, 22)) (by decide +kernel)), md_X9_becomesRatio⟩
theorem lk_RX9_62 : oLkV RX9 62 M_X9_isBody 1 := ⟨wd_4_182, wd_4_184, (oTB_s (q := (⟨"OrreryTrainsModel", "isBody", "(I)Z"⟩, 22)) (by decide +kernel)), md_X9_isBody⟩
theorem lk_RX9_66 : oLkV RX9 66 M_X9_terms 1 := ⟨wd_4_190, wd_4_192, (oTB_s (q := (⟨"OrreryTrainsModel", "terms", "(I)I"⟩, 22)) (by decide +kernel)), md_X9_terms⟩
theorem lk_RX9_70 : oLkS RX9 70 M_X9_isPart 1 := ⟨wd_4_198, wd_4_199, md_X9_isPart⟩
theorem lk_RX9_81 : oLkV RX9 81 M_X9_isWithin 1 := ⟨wd_4_217, wd_4_219, (oTB_s (q := (⟨"OrreryTrainsModel", "isWithin", "(I)Z"⟩, 22)) (by decide +kernel)), md_X9_isWithin⟩
theorem lk_RX9_86 : oLkV RX9 86 M_X9_pairAt 2 := ⟨wd_5_88, wd_5_90, (oTB_s (q := (⟨"OrreryTrainsModel", "pairAt", "(II)I"⟩, 22)) (by decide +kernel)), md_X9_pairAt⟩
theorem fd_RX0_13 : oFd RX0 13 0 1 := ⟨RX0, TX0, 10, rfl, Nat.le_of_ble_eq_true rfl, inX0, wd_1_185⟩
theorem fd_RX0_16 : oFd RX0 16 0 2 := ⟨RX0, TX0, 10, rfl, Nat.le_of_ble_eq_true rfl, inX0, wd_1_186⟩
theorem fd_RX0_20 : oFd RX0 20 0 3 := ⟨RX0, TX0, 10, rfl, Nat.le_of_ble_eq_true rfl, inX0, wd_1_187⟩
theorem fd_RX0_23 : oFd RX0 23 0 4 := ⟨RX0, TX0, 10, rfl, Nat.le_of_ble_eq_true rfl, inX0, wd_1_188⟩
theorem fd_RX0_26 : oFd RX0 26 0 5 := ⟨RX0, TX0, 10, rfl, Nat.le_of_ble_eq_true rfl, inX0, wd_1_189⟩
theorem fd_RX0_29 : oFd RX0 29 0 6 := ⟨RX0, TX0, 10, rfl, Nat.le_of_ble_eq_true rfl, inX0, wd_1_190⟩
theorem fd_RX0_32 : oFd RX0 32 0 7 := ⟨RX0, TX0, 10, rfl, Nat.le_of_ble_eq_true rfl, inX0, wd_1_191⟩
theorem fd_RX0_35 : oFd RX0 35 0 8 := ⟨RX0, TX0, 10, rfl, Nat.le_of_ble_eq_true rfl, inX0, wd_1_192⟩
theorem fd_RX0_38 : oFd RX0 38 0 9 := ⟨RX0, TX0, 10, rfl, Nat.le_of_ble_eq_true rfl, inX0, wd_1_193⟩
theorem fd_RX0_7 : oFd RX0 7 0 0 := ⟨RX0, TX0, 10, rfl, Nat.le_of_ble_eq_true rfl, inX0, wd_1_184⟩
theorem fd_RX1_137 : oFd RX1 137 3 0 := ⟨RX3, TX3, 3, rfl, Nat.le_of_ble_eq_true rfl, inX3, wd_1_80⟩
theorem fd_RX1_140 : oFd RX1 140 3 1 := ⟨RX3, TX3, 3, rfl, Nat.le_of_ble_eq_true rfl, inX3, wd_1_83⟩
theorem fd_RX1_143 : oFd RX1 143 3 2 := ⟨RX3, TX3, 3, rfl, Nat.le_of_ble_eq_true rfl, inX3, wd_1_85⟩
theorem fd_RX1_15 : oFd RX1 15 1 1 := ⟨RX1, TX1, 10, rfl, Nat.le_of_ble_eq_true rfl, inX1, wd_1_95⟩
theorem fd_RX1_19 : oFd RX1 19 1 2 := ⟨RX1, TX1, 10, rfl, Nat.le_of_ble_eq_true rfl, inX1, wd_1_97⟩
theorem fd_RX1_22 : oFd RX1 22 1 3 := ⟨RX1, TX1, 10, rfl, Nat.le_of_ble_eq_true rfl, inX1, wd_1_99⟩
theorem fd_RX1_25 : oFd RX1 25 1 4 := ⟨RX1, TX1, 10, rfl, Nat.le_of_ble_eq_true rfl, inX1, wd_1_101⟩
theorem fd_RX1_31 : oFd RX1 31 1 5 := ⟨RX1, TX1, 10, rfl, Nat.le_of_ble_eq_true rfl, inX1, wd_1_103⟩
theorem fd_RX1_38 : oFd RX1 38 1 6 := ⟨RX1, TX1, 10, rfl, Nat.le_of_ble_eq_true rfl, inX1, wd_1_105⟩
theorem fd_RX1_42 : oFd RX1 42 1 7 := ⟨RX1, TX1, 10, rfl, Nat.le_of_ble_eq_true rfl, inX1, wd_1_107⟩
theorem fd_RX1_45 : oFd RX1 45 1 8 := ⟨RX1, TX1, 10, rfl, Nat.le_of_ble_eq_true rfl, inX1, wd_1_109⟩
theorem fd_RX1_52 : oFd RX1 52 1 9 := ⟨RX1, TX1, 10, rfl, Nat.le_of_ble_eq_true rfl, inX1, wd_1_111⟩
theorem fd_RX1_86 : oFd RX1 86 2 3 := ⟨RX2, TX2, 5, rfl, Nat.le_of_ble_eq_true rfl, inX2, wd_1_43⟩
theorem fd_RX1_9 : oFd RX1 9 1 0 := ⟨RX1, TX1, 10, rfl, Nat.le_of_ble_eq_true rfl, inX1, wd_1_93⟩
theorem fd_RX1_97 : oFd RX1 97 2 4 := ⟨RX2, TX2, 5, rfl, Nat.le_of_ble_eq_true rfl, inX2, wd_1_46⟩
theorem fd_RX2_15 : oFd RX2 15 2 1 := ⟨RX2, TX2, 5, rfl, Nat.le_of_ble_eq_true rfl, inX2, wd_1_38⟩
theorem fd_RX2_19 : oFd RX2 19 2 2 := ⟨RX2, TX2, 5, rfl, Nat.le_of_ble_eq_true rfl, inX2, wd_1_40⟩
theorem fd_RX2_22 : oFd RX2 22 2 3 := ⟨RX2, TX2, 5, rfl, Nat.le_of_ble_eq_true rfl, inX2, wd_1_42⟩
theorem fd_RX2_25 : oFd RX2 25 2 4 := ⟨RX2, TX2, 5, rfl, Nat.le_of_ble_eq_true rfl, inX2, wd_1_45⟩
theorem fd_RX2_9 : oFd RX2 9 2 0 := ⟨RX2, TX2, 5, rfl, Nat.le_of_ble_eq_true rfl, inX2, wd_1_36⟩
theorem fd_RX3_15 : oFd RX3 15 3 1 := ⟨RX3, TX3, 3, rfl, Nat.le_of_ble_eq_true rfl, inX3, wd_1_82⟩
theorem fd_RX3_19 : oFd RX3 19 3 2 := ⟨RX3, TX3, 3, rfl, Nat.le_of_ble_eq_true rfl, inX3, wd_1_84⟩
theorem fd_RX3_9 : oFd RX3 9 3 0 := ⟨RX3, TX3, 3, rfl, Nat.le_of_ble_eq_true rfl, inX3, wd_1_79⟩
theorem fd_RX4_15 : oFd RX4 15 4 1 := ⟨RX4, TX4, 2, rfl, Nat.le_of_ble_eq_true rfl, inX4, wd_1_171⟩
theorem fd_RX4_9 : oFd RX4 9 4 0 := ⟨RX4, TX4, 2, rfl, Nat.le_of_ble_eq_true rfl, inX4, wd_1_170⟩
theorem fd_RX5_15 : oFd RX5 15 5 1 := ⟨RX5, TX5, 2, rfl, Nat.le_of_ble_eq_true rfl, inX5, wd_1_157⟩
theorem fd_RX5_9 : oFd RX5 9 5 0 := ⟨RX5, TX5, 2, rfl, Nat.le_of_ble_eq_true rfl, inX5, wd_1_155⟩
theorem fd_RX6_15 : oFd RX6 15 6 1 := ⟨RX6, TX6, 2, rfl, Nat.le_of_ble_eq_true rfl, inX6, wd_1_142⟩
theorem fd_RX6_9 : oFd RX6 9 6 0 := ⟨RX6, TX6, 2, rfl, Nat.le_of_ble_eq_true rfl, inX6, wd_1_140⟩
theorem fd_RX7_15 : oFd RX7 15 7 1 := ⟨RX7, TX7, 2, rfl, Nat.le_of_ble_eq_true rfl, inX7, wd_1_67⟩
theorem fd_RX7_9 : oFd RX7 9 7 0 := ⟨RX7, TX7, 2, rfl, Nat.le_of_ble_eq_true rfl, inX7, wd_1_66⟩
theorem fd_RX8_105 : oFd RX8 105 1 3 := ⟨RX1, TX1, 10, rfl, Nat.le_of_ble_eq_true rfl, inX1, wd_1_100⟩
theorem fd_RX8_108 : oFd RX8 108 1 4 := ⟨RX1, TX1, 10, rfl, Nat.le_of_ble_eq_true rfl, inX1, wd_1_102⟩
theorem fd_RX8_118 : oFd RX8 118 6 0 := ⟨RX6, TX6, 2, rfl, Nat.le_of_ble_eq_true rfl, inX6, wd_1_141⟩
theorem fd_RX8_12 : oFd RX8 12 8 0 := ⟨RX8, TX8, 8, rfl, Nat.le_of_ble_eq_true rfl, inX8, wd_1_215⟩
theorem fd_RX8_121 : oFd RX8 121 6 1 := ⟨RX6, TX6, 2, rfl, Nat.le_of_ble_eq_true rfl, inX6, wd_1_143⟩
theorem fd_RX8_135 : oFd RX8 135 1 5 := ⟨RX1, TX1, 10, rfl, Nat.le_of_ble_eq_true rfl, inX1, wd_1_104⟩
theorem fd_RX8_139 : oFd RX8 139 2 0 := ⟨RX2, TX2, 5, rfl, Nat.le_of_ble_eq_true rfl, inX2, wd_1_37⟩
theorem fd_RX8_151 : oFd RX8 151 2 1 := ⟨RX2, TX2, 5, rfl, Nat.le_of_ble_eq_true rfl, inX2, wd_1_39⟩
theorem fd_RX8_154 : oFd RX8 154 2 2 := ⟨RX2, TX2, 5, rfl, Nat.le_of_ble_eq_true rfl, inX2, wd_1_41⟩
theorem fd_RX8_157 : oFd RX8 157 2 3 := ⟨RX2, TX2, 5, rfl, Nat.le_of_ble_eq_true rfl, inX2, wd_1_44⟩
theorem fd_RX8_160 : oFd RX8 160 2 4 := ⟨RX2, TX2, 5, rfl, Nat.le_of_ble_eq_true rfl, inX2, wd_1_47⟩
theorem fd_RX8_170 : oFd RX8 170 1 6 := ⟨RX1, TX1, 10, rfl, Nat.le_of_ble_eq_true rfl, inX1, wd_1_106⟩
theorem fd_RX8_18 : oFd RX8 18 8 1 := ⟨RX8, TX8, 8, rfl, Nat.le_of_ble_eq_true rfl, inX8, wd_1_216⟩
theorem fd_RX8_21 : oFd RX8 21 8 2 := ⟨RX8, TX8, 8, rfl, Nat.le_of_ble_eq_true rfl, inX8, wd_1_217⟩
theorem fd_RX8_24 : oFd RX8 24 8 3 := ⟨RX8, TX8, 8, rfl, Nat.le_of_ble_eq_true rfl, inX8, wd_1_218⟩
theorem fd_RX8_260 : oFd RX8 260 1 7 := ⟨RX1, TX1, 10, rfl, Nat.le_of_ble_eq_true rfl, inX1, wd_1_108⟩
theorem fd_RX8_267 : oFd RX8 267 1 8 := ⟨RX1, TX1, 10, rfl, Nat.le_of_ble_eq_true rfl, inX1, wd_1_110⟩
theorem fd_RX8_289 : oFd RX8 289 1 9 := ⟨RX1, TX1, 10, rfl, Nat.le_of_ble_eq_true rfl, inX1, wd_1_112⟩
theorem fd_RX8_293 : oFd RX8 293 3 0 := ⟨RX3, TX3, 3, rfl, Nat.le_of_ble_eq_true rfl, inX3, wd_1_81⟩
theorem fd_RX8_305 : oFd RX8 305 5 0 := ⟨RX5, TX5, 2, rfl, Nat.le_of_ble_eq_true rfl, inX5, wd_1_156⟩
theorem fd_RX8_31 : oFd RX8 31 8 4 := ⟨RX8, TX8, 8, rfl, Nat.le_of_ble_eq_true rfl, inX8, wd_1_219⟩
theorem fd_RX8_314 : oFd RX8 314 5 1 := ⟨RX5, TX5, 2, rfl, Nat.le_of_ble_eq_true rfl, inX5, wd_1_158⟩
theorem fd_RX8_38 : oFd RX8 38 8 5 := ⟨RX8, TX8, 8, rfl, Nat.le_of_ble_eq_true rfl, inX8, wd_1_220⟩
theorem fd_RX8_45 : oFd RX8 45 8 6 := ⟨RX8, TX8, 8, rfl, Nat.le_of_ble_eq_true rfl, inX8, wd_1_221⟩
theorem fd_RX8_52 : oFd RX8 52 8 7 := ⟨RX8, TX8, 8, rfl, Nat.le_of_ble_eq_true rfl, inX8, wd_1_222⟩
theorem fd_RX8_60 : oFd RX8 60 1 0 := ⟨RX1, TX1, 10, rfl, Nat.le_of_ble_eq_true rfl, inX1, wd_1_94⟩
theorem fd_RX8_72 : oFd RX8 72 1 1 := ⟨RX1, TX1, 10, rfl, Nat.le_of_ble_eq_true rfl, inX1, wd_1_96⟩
theorem fd_RX8_80 : oFd RX8 80 1 2 := ⟨RX1, TX1, 10, rfl, Nat.le_of_ble_eq_true rfl, inX1, wd_1_98⟩
theorem fd_RX9_11 : oFd RX9 11 9 0 := ⟨RX9, TX9, 22, rfl, Nat.le_of_ble_eq_true rfl, inX9, wd_4_90⟩
theorem fd_RX9_15 : oFd RX9 15 9 1 := ⟨RX9, TX9, 22, rfl, Nat.le_of_ble_eq_true rfl, inX9, wd_4_91⟩
theorem fd_RX9_18 : oFd RX9 18 9 2 := ⟨RX9, TX9, 22, rfl, Nat.le_of_ble_eq_true rfl, inX9, wd_4_92⟩
theorem fd_RX9_182 : oFd RX9 182 9 14 := ⟨RX9, TX9, 22, rfl, Nat.le_of_ble_eq_true rfl, inX9, wd_4_104⟩
theorem fd_RX9_185 : oFd RX9 185 9 21 := ⟨RX9, TX9, 22, rfl, Nat.le_of_ble_eq_true rfl, inX9, wd_4_111⟩
theorem fd_RX9_189 : oFd RX9 189 9 20 := ⟨RX9, TX9, 22, rfl, Nat.le_of_ble_eq_true rfl, inX9, wd_4_110⟩
theorem fd_RX9_192 : oFd RX9 192 9 15 := ⟨RX9, TX9, 22, rfl, Nat.le_of_ble_eq_true rfl, inX9, wd_4_105⟩
theorem fd_RX9_195 : oFd RX9 195 9 16 := ⟨RX9, TX9, 22, rfl, Nat.le_of_ble_eq_true rfl, inX9, wd_4_106⟩
theorem fd_RX9_198 : oFd RX9 198 9 17 := ⟨RX9, TX9, 22, rfl, Nat.le_of_ble_eq_true rfl, inX9, wd_4_107⟩
theorem fd_RX9_201 : oFd RX9 201 9 18 := ⟨RX9, TX9, 22, rfl, Nat.le_of_ble_eq_true rfl, inX9, wd_4_108⟩
theorem fd_RX9_204 : oFd RX9 204 9 19 := ⟨RX9, TX9, 22, rfl, Nat.le_of_ble_eq_true rfl, inX9, wd_4_109⟩
theorem fd_RX9_21 : oFd RX9 21 9 4 := ⟨RX9, TX9, 22, rfl, Nat.le_of_ble_eq_true rfl, inX9, wd_4_94⟩
theorem fd_RX9_24 : oFd RX9 24 9 5 := ⟨RX9, TX9, 22, rfl, Nat.le_of_ble_eq_true rfl, inX9, wd_4_95⟩
theorem fd_RX9_262 : oFd RX9 262 9 9 := ⟨RX9, TX9, 22, rfl, Nat.le_of_ble_eq_true rfl, inX9, wd_4_99⟩
theorem fd_RX9_27 : oFd RX9 27 9 6 := ⟨RX9, TX9, 22, rfl, Nat.le_of_ble_eq_true rfl, inX9, wd_4_96⟩
theorem fd_RX9_270 : oFd RX9 270 9 3 := ⟨RX9, TX9, 22, rfl, Nat.le_of_ble_eq_true rfl, inX9, wd_4_93⟩
theorem fd_RX9_30 : oFd RX9 30 9 7 := ⟨RX9, TX9, 22, rfl, Nat.le_of_ble_eq_true rfl, inX9, wd_4_97⟩
theorem fd_RX9_34 : oFd RX9 34 9 10 := ⟨RX9, TX9, 22, rfl, Nat.le_of_ble_eq_true rfl, inX9, wd_4_100⟩
theorem fd_RX9_37 : oFd RX9 37 9 13 := ⟨RX9, TX9, 22, rfl, Nat.le_of_ble_eq_true rfl, inX9, wd_4_103⟩
theorem fd_RX9_92 : oFd RX9 92 9 8 := ⟨RX9, TX9, 22, rfl, Nat.le_of_ble_eq_true rfl, inX9, wd_4_98⟩
theorem fd_RX9_96 : oFd RX9 96 9 11 := ⟨RX9, TX9, 22, rfl, Nat.le_of_ble_eq_true rfl, inX9, wd_4_101⟩
theorem fd_RX9_99 : oFd RX9 99 9 12 := ⟨RX9, TX9, 22, rfl, Nat.le_of_ble_eq_true rfl, inX9, wd_4_102⟩
theorem fp_RX0_13 : oFp RX0 13 0 1 .long := ⟨RX0, TX0, 10, tyX0, rfl, Nat.le_of_ble_eq_true rfl, inX0, wd_1_185, tyX0_ok, nmX0, rfl, by decide +kernel⟩
theorem fp_RX0_16 : oFp RX0 16 0 2 .int := ⟨RX0, TX0, 10, tyX0, rfl, Nat.le_of_ble_eq_true rfl, inX0, wd_1_186, tyX0_ok, nmX0, rfl, by decide +kernel⟩
theorem fp_RX0_20 : oFp RX0 20 0 3 .int := ⟨RX0, TX0, 10, tyX0, rfl, Nat.le_of_ble_eq_true rfl, inX0, wd_1_187, tyX0_ok, nmX0, rfl, by decide +kernel⟩
theorem fp_RX0_23 : oFp RX0 23 0 4 .int := ⟨RX0, TX0, 10, tyX0, rfl, Nat.le_of_ble_eq_true rfl, inX0, wd_1_188, tyX0_ok, nmX0, rfl, by decide +kernel⟩
theorem fp_RX0_26 : oFp RX0 26 0 5 .int := ⟨RX0, TX0, 10, tyX0, rfl, Nat.le_of_ble_eq_true rfl, inX0, wd_1_189, tyX0_ok, nmX0, rfl, by decide +kernel⟩
theorem fp_RX0_29 : oFp RX0 29 0 6 .int := ⟨RX0, TX0, 10, tyX0, rfl, Nat.le_of_ble_eq_true rfl, inX0, wd_1_190, tyX0_ok, nmX0, rfl, by decide +kernel⟩
theorem fp_RX0_32 : oFp RX0 32 0 7 .int := ⟨RX0, TX0, 10, tyX0, rfl, Nat.le_of_ble_eq_true rfl, inX0, wd_1_191, tyX0_ok, nmX0, rfl, by decide +kernel⟩
theorem fp_RX0_35 : oFp RX0 35 0 8 .long := ⟨RX0, TX0, 10, tyX0, rfl, Nat.le_of_ble_eq_true rfl, inX0, wd_1_192, tyX0_ok, nmX0, rfl, by decide +kernel⟩
theorem fp_RX0_38 : oFp RX0 38 0 9 .long := ⟨RX0, TX0, 10, tyX0, rfl, Nat.le_of_ble_eq_true rfl, inX0, wd_1_193, tyX0_ok, nmX0, rfl, by decide +kernel⟩
theorem fp_RX0_7 : oFp RX0 7 0 0 .long := ⟨RX0, TX0, 10, tyX0, rfl, Nat.le_of_ble_eq_true rfl, inX0, wd_1_184, tyX0_ok, nmX0, rfl, by decide +kernel⟩
theorem fp_RX1_22 : oFp RX1 22 1 3 .int := ⟨RX1, TX1, 10, tyX1, rfl, Nat.le_of_ble_eq_true rfl, inX1, wd_1_99, tyX1_ok, nmX1, rfl, by decide +kernel⟩
theorem fp_RX1_25 : oFp RX1 25 1 4 .int := ⟨RX1, TX1, 10, tyX1, rfl, Nat.le_of_ble_eq_true rfl, inX1, wd_1_101, tyX1_ok, nmX1, rfl, by decide +kernel⟩
theorem fp_RX1_42 : oFp RX1 42 1 7 .int := ⟨RX1, TX1, 10, tyX1, rfl, Nat.le_of_ble_eq_true rfl, inX1, wd_1_107, tyX1_ok, nmX1, rfl, by decide +kernel⟩
theorem fp_RX1_45 : oFp RX1 45 1 8 .boolean := ⟨RX1, TX1, 10, tyX1, rfl, Nat.le_of_ble_eq_true rfl, inX1, wd_1_109, tyX1_ok, nmX1, rfl, by decide +kernel⟩
theorem fp_RX1_9 : oFp RX1 9 1 0 .int := ⟨RX1, TX1, 10, tyX1, rfl, Nat.le_of_ble_eq_true rfl, inX1, wd_1_93, tyX1_ok, nmX1, rfl, by decide +kernel⟩
theorem fp_RX2_9 : oFp RX2 9 2 0 .int := ⟨RX2, TX2, 5, tyX2, rfl, Nat.le_of_ble_eq_true rfl, inX2, wd_1_36, tyX2_ok, nmX2, rfl, by decide +kernel⟩
theorem fp_RX3_9 : oFp RX3 9 3 0 .int := ⟨RX3, TX3, 3, tyX3, rfl, Nat.le_of_ble_eq_true rfl, inX3, wd_1_79, tyX3_ok, nmX3, rfl, by decide +kernel⟩
theorem fp_RX5_9 : oFp RX5 9 5 0 .int := ⟨RX5, TX5, 2, tyX5, rfl, Nat.le_of_ble_eq_true rfl, inX5, wd_1_155, tyX5_ok, nmX5, rfl, by decide +kernel⟩
theorem fp_RX8_105 : oFp RX8 105 1 3 .int := ⟨RX1, TX1, 10, tyX1, rfl, Nat.le_of_ble_eq_true rfl, inX1, wd_1_100, tyX1_ok, nmX1, rfl, by decide +kernel⟩
theorem fp_RX8_108 : oFp RX8 108 1 4 .int := ⟨RX1, TX1, 10, tyX1, rfl, Nat.le_of_ble_eq_true rfl, inX1, wd_1_102, tyX1_ok, nmX1, rfl, by decide +kernel⟩
theorem fp_RX8_118 : oFp RX8 118 6 0 .int := ⟨RX6, TX6, 2, tyX6, rfl, Nat.le_of_ble_eq_true rfl, inX6, wd_1_141, tyX6_ok, nmX6, rfl, by decide +kernel⟩
theorem fp_RX8_24 : oFp RX8 24 8 3 .boolean := ⟨RX8, TX8, 8, tyX8, rfl, Nat.le_of_ble_eq_true rfl, inX8, wd_1_218, tyX8_ok, nmX8, rfl, by decide +kernel⟩
theorem fp_RX8_293 : oFp RX8 293 3 0 .int := ⟨RX3, TX3, 3, tyX3, rfl, Nat.le_of_ble_eq_true rfl, inX3, wd_1_81, tyX3_ok, nmX3, rfl, by decide +kernel⟩
theorem fp_RX8_305 : oFp RX8 305 5 0 .int := ⟨RX5, TX5, 2, tyX5, rfl, Nat.le_of_ble_eq_true rfl, inX5, wd_1_156, tyX5_ok, nmX5, rfl, by decide +kernel⟩
theorem fp_RX8_60 : oFp RX8 60 1 0 .int := ⟨RX1, TX1, 10, tyX1, rfl, Nat.le_of_ble_eq_true rfl, inX1, wd_1_94, tyX1_ok, nmX1, rfl, by decide +kernel⟩
theorem fp_RX9_182 : oFp RX9 182 9 14 .int := ⟨RX9, TX9, 22, tyX9, rfl, Nat.le_of_ble_eq_true rfl, inX9, wd_4_104, tyX9_ok, nmX9, rfl, by decide +kernel⟩
theorem fp_RX9_185 : oFp RX9 185 9 21 .long := ⟨RX9, TX9, 22, tyX9, rfl, Nat.le_of_ble_eq_true rfl, inX9, wd_4_111, tyX9_ok, nmX9, rfl, by decide +kernel⟩
theorem fp_RX9_189 : oFp RX9 189 9 20 .long := ⟨RX9, TX9, 22, tyX9, rfl, Nat.le_of_ble_eq_true rfl, inX9, wd_4_110, tyX9_ok, nmX9, rfl, by decide +kernel⟩
theorem fp_RX9_192 : oFp RX9 192 9 15 .int := ⟨RX9, TX9, 22, tyX9, rfl, Nat.le_of_ble_eq_true rfl, inX9, wd_4_105, tyX9_ok, nmX9, rfl, by decide +kernel⟩
theorem fp_RX9_195 : oFp RX9 195 9 16 .int := ⟨RX9, TX9, 22, tyX9, rfl, Nat.le_of_ble_eq_true rfl, inX9, wd_4_106, tyX9_ok, nmX9, rfl, by decide +kernel⟩
theorem fp_RX9_198 : oFp RX9 198 9 17 .int := ⟨RX9, TX9, 22, tyX9, rfl, Nat.le_of_ble_eq_true rfl, inX9, wd_4_107, tyX9_ok, nmX9, rfl, by decide +kernel⟩
theorem fp_RX9_201 : oFp RX9 201 9 18 .int := ⟨RX9, TX9, 22, tyX9, rfl, Nat.le_of_ble_eq_true rfl, inX9, wd_4_108, tyX9_ok, nmX9, rfl, by decide +kernel⟩
theorem fp_RX9_204 : oFp RX9 204 9 19 .int := ⟨RX9, TX9, 22, tyX9, rfl, Nat.le_of_ble_eq_true rfl, inX9, wd_4_109, tyX9_ok, nmX9, rfl, by decide +kernel⟩
theorem fp_RX9_262 : oFp RX9 262 9 9 .int := ⟨RX9, TX9, 22, tyX9, rfl, Nat.le_of_ble_eq_true rfl, inX9, wd_4_99, tyX9_ok, nmX9, rfl, by decide +kernel⟩
theorem fp_RX9_270 : oFp RX9 270 9 3 .boolean := ⟨RX9, TX9, 22, tyX9, rfl, Nat.le_of_ble_eq_true rfl, inX9, wd_4_93, tyX9_ok, nmX9, rfl, by decide +kernel⟩
theorem fp_RX9_92 : oFp RX9 92 9 8 .int := ⟨RX9, TX9, 22, tyX9, rfl, Nat.le_of_ble_eq_true rfl, inX9, wd_4_98, tyX9_ok, nmX9, rfl, by decide +kernel⟩
theorem fp_RX9_96 : oFp RX9 96 9 11 .int := ⟨RX9, TX9, 22, tyX9, rfl, Nat.le_of_ble_eq_true rfl, inX9, wd_4_101, tyX9_ok, nmX9, rfl, by decide +kernel⟩
theorem fp_RX9_99 : oFp RX9 99 9 12 .int := ⟨RX9, TX9, 22, tyX9, rfl, Nat.le_of_ble_eq_true rfl, inX9, wd_4_102, tyX9_ok, nmX9, rfl, by decide +kernel⟩
end OTAB
