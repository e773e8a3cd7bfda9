/-! writePair -/
theorem kl_c : ∀ k : Nat, k < 6 → F_X8_kindLetter (nI k) = some (oKL k) := by decide
theorem kl_r : ∀ k : Nat, k < 6 → F_J0_charAt_5068e (nI k) = some (oKL k) := by decide
theorem r_two {m : oM} {k : Nat} {x y : Int32} (hy : y = nI k) (hk : k + 1 < 8) : F_X9_two m y x = some (oSI (oSI m 56 k (48 + x / 10)) 56 (k + 1) (48 + oRI x 10)) := by
  unfold F_X9_two
  rw [hy, a_st (n := 8) rfl (by omega) (by omega), o_b, nI_1, a_st (n := 8) rfl hk (by omega), o_b]
theorem c_addf (f : Nat → Int32) (m : oM) {i : Nat} (hi : i < 8) : F_X5_add (fW f m i) (f i) = some (fW f m (i + 1)) := c_add hi (fW_n f m i)
theorem c_two {f : Nat → Int32} {m : oM} {i : Nat} {x : Int32} (hi : i + 1 < 8) (h1 : f i = 48 + x / 10) (h2 : f (i + 1) = 48 + oRI x 10) : F_X5_addTwoFigures (fW f m i) x = some (fW f m (i + 2)) := by
  unfold F_X5_addTwoFigures
  rw [← h1, c_addf f m (by omega), o_b, ← h2, c_addf f m hi, o_b]
def fPr (a b c d : Int32) (k : Nat) : Int32 := if k = 0 then a else if k = 1 then 48 + b else if k = 2 then 32 else if k = 3 then 48 + c / 10 else if k = 4 then 48 + oRI c 10 else if k = 5 then 47 else if k = 6 then 48 + d / 10 else 48 + oRI d 10
section WPAIR
variable {m : oM} {V : oV}
theorem p_writePair (h : Inv m) (x : Int32) : Wr (F_X8_writePair m x) (fun m => F_X9_writePair m x) := by
  have hI := h
  obtain ⟨⟨V, hw, hc, hr⟩, -⟩ := h
  by_cases hQ : isQ V x
  · obtain ⟨q, hq, rfl⟩ := isQ_of hQ
    have hkd := (hw.2.2.2.2.2.2.2.1 q hq).1
    obtain ⟨k, hk, ek⟩ := i_of (x := vkd V q) (n := 6) hkd.1 (by have := hkd.2; omega)
    generalize hf : fPr (oKL k) (vfg V q) (vdr V q) (vdn V q) = f
    have f0 : oKL k = f 0 := by rw [← hf]; rfl
    have f1 : 48 + vfg V q = f 1 := by rw [← hf]; rfl
    have f2 : (32 : Int32) = f 2 := by rw [← hf]; rfl
    have f3 : f 3 = 48 + vdr V q / 10 := by rw [← hf]; rfl
    have f4 : f 4 = 48 + oRI (vdr V q) 10 := by rw [← hf]; rfl
    have f5 : (47 : Int32) = f 5 := by rw [← hf]; rfl
    have f6 : f 6 = 48 + vdn V q / 10 := by rw [← hf]; rfl
    have f7 : f 7 = 48 + oRI (vdn V q) 10 := by rw [← hf]; rfl
    have hci : ∀ i, VC 1 (fW f m i) V := fun i => hc.ag (fW_ag f m i) (by omega)
    have g1 := fW_ag f m 8
    have n1 := fW_n f m 8
    have a1 := fun j => fW_at f m j 8
    generalize hm1 : fW f m 8 = m1 at g1 n1 a1
    have hr1 : VR 52 m1 V := hr.ag g1 (by omega)
    have hri : ∀ i, VR 52 (fR f m1 i) V := fun i => hr1.ag (fR_ag f m1 i) (by omega)
    have g3 := fR_ag f m1 8
    have a3 := fun j => fR_at f m1 j 8
    refine ⟨nI 8, m1, oSI (fR f m1 8) 51 9 8, ?_, ?_, ?_⟩
    · unfold F_X8_writePair
      rw [c1_has1 hc hw hQ, o_b, if_neg i10, o_b]
      show ((F_X8_at 5 (fW f m 0) (nI q)).bind _) = _
      rw [c1_kd (hci 0) hw hq, o_b, ek, kl_c k hk, o_b, f0]
      show ((F_X5_add (fW f m 0) (f 0)).bind _) = _
      rw [c_addf f m (by omega), o_b, c1_fg (hci 1) hw hq, o_b, f1, c_addf f m (by omega), o_b, f2, c_addf f m (by omega), o_b, c1_dr (hci 3) hw hq, o_b, c_two (by omega) f3 f4, o_b, f5, c_addf f m (by omega), o_b, c1_dn (hci 6) hw hq, o_b, c_two (by omega) f6 f7, o_b, hm1, n1]
    · show F_X9_writePair m1 (nI q) = _
      unfold F_X9_writePair
      rw [r_isPair1 hr1 hw hQ, o_b, if_neg i10, r_kd hr1 hw hq, o_b, ek, kl_r k hk, o_b, o_b, f0]
      show ((oAL (fR f m1 1) 52 (53 + nI q)).bind _) = _
      rw [r_fg (hri 1) hw hq, o_b, o_b, o_b, f1, f2]
      show ((oAL (fR f m1 3) 52 (63 + nI q)).bind _) = _
      rw [r_dr (hri 3) hw hq, o_b, r_two (y := 3) (k := 3) rfl (by omega), o_b, o_b, ← f3, ← f4, f5]
      show ((oAL (fR f m1 6) 52 (73 + nI q)).bind _) = _
      rw [r_dn (hri 6) hw hq, o_b, r_two (y := 6) (k := 6) rfl (by omega), o_b, o_b, ← f6, ← f7]
      rfl
    · refine hI.sht (((g1.wk (by unfold Sht; omega)).tr (g3.wk (by unfold Sht; omega))).tr (oAg.SI (by unfold Sht; omega))) ⟨8, by omega, ?_, SI_eq, fun i hi => ?_⟩
      · rw [SI_ne (by omega), (g3 45 0 (by omega)).1, n1]
      · rw [SI_ne (by omega), SI_ne (by omega), a3 i hi, (g3 46 i (by omega)).1, a1 i hi]
  · refine Wr.no (v := -1) hI ?_ ?_
    · unfold F_X8_writePair
      rw [c1_has0 hc hw hQ, o_b, if_pos rfl]
    · show F_X9_writePair m x = _
      unfold F_X9_writePair
      rw [r_isPair0 hr hw hQ, o_b, if_pos rfl]
end WPAIR
