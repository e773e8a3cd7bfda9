/-! the paper: writeTrain, writePair, paper -/
def Sht (p k : Nat) : Prop := (p = 45 ∧ k = 0) ∨ p = 46 ∨ p = 56 ∨ (p = 51 ∧ k = 9)
theorem Inv.sht {m m' : oM} (h : Inv m) (ag : oAg Sht m m') (hp : IP m') : Inv m' := by
  obtain ⟨⟨V, hw, hc, hr⟩, hk, ht, -, hl, hf⟩ := h
  unfold Sht at ag
  exact ⟨⟨V, hw, hc.ag ag (by omega), hr.ag ag (by omega)⟩, hk.ag ag (by omega) (by omega) (by omega) (by omega), ht.ag ag (by omega) (by omega) (by omega) (by omega), hp, hl.ag ag (by omega) (by omega) (by omega) (by omega), hf.ag ag (by omega)⟩
theorem c_add {m : oM} {n : Nat} {x : Int32} (hn : n < 8) (h : m.1 45 0 = nI n) : F_X5_add m x = some (oSI (oSI m 46 n x) 45 0 (nI (n + 1))) := by
  have s1 : (oSI m 46 n x).1 45 0 = nI n := h
  unfold F_X5_add
  rw [h, f_set (n := 9) rfl (by omega) (by omega), o_b, o_b, s1, nI_1]
/-- letters one behind another: the class's way, the reference's -/
def fW (f : Nat → Int32) (m : oM) : Nat → oM
  | 0 => oSI m 45 0 0
  | i + 1 => oSI (oSI (fW f m i) 46 i (f i)) 45 0 (nI (i + 1))
theorem fW_ag (f : Nat → Int32) (m : oM) : ∀ i, oAg (fun p k => (p = 45 ∧ k = 0) ∨ p = 46) m (fW f m i)
  | 0 => oAg.SI (Or.inl ⟨rfl, rfl⟩)
  | i + 1 => ((fW_ag f m i).tr (oAg.SI (Or.inr rfl))).tr (oAg.SI (Or.inl ⟨rfl, rfl⟩))
theorem fW_n (f : Nat → Int32) (m : oM) : ∀ i, (fW f m i).1 45 0 = nI i
  | 0 => SI_eq
  | i + 1 => SI_eq
theorem fW_at (f : Nat → Int32) (m : oM) (j : Nat) : ∀ i, j < i → (fW f m i).1 46 j = f j
  | 0, h => absurd h (by omega)
  | i + 1, h => by
    refine (SI_ne (by omega)).trans ?_
    by_cases e : j = i
    · rw [e]
      exact SI_eq
    · exact (SI_ne (fun z => e z.2)).trans (fW_at f m j i (by omega))
def fR (f : Nat → Int32) (m : oM) : Nat → oM
  | 0 => m
  | i + 1 => oSI (fR f m i) 56 i (f i)
theorem fR_ag (f : Nat → Int32) (m : oM) : ∀ i, oAg (fun p _ => p = 56) m (fR f m i)
  | 0 => oAg.rf
  | i + 1 => (fR_ag f m i).tr (oAg.SI rfl)
theorem fR_at (f : Nat → Int32) (m : oM) (j : Nat) : ∀ i, j < i → (fR f m i).1 56 j = f j
  | 0, h => absurd h (by omega)
  | i + 1, h => by
    by_cases e : j = i
    · rw [e]
      exact SI_eq
    · exact (SI_ne (fun z => e z.2)).trans (fR_at f m j i (by omega))
section PAPER
variable {m : oM} {V : oV}
theorem p_paper (h : Inv m) (x : Int32) : Same (F_X8_paper m x) (F_X9_paper m x) := by
  obtain ⟨-, -, -, ⟨n, hn, q1, q2, q3⟩, -⟩ := h
  unfold F_X8_paper F_X9_paper
  rw [q1, q2]
  have c0 : x < 0 ↔ x.toInt < 0 := by rw [i_lt, Int32.toInt_zero]
  have c1 : nI n ≤ x ↔ (n : Int) ≤ x.toInt := by rw [i_le, nI_toInt (by omega)]
  by_cases hx : 0 ≤ x.toInt ∧ x.toInt < n
  · obtain ⟨i, hi, rfl⟩ := i_of hx.1 hx.2
    rw [if_neg (nI_pos (by omega)), if_neg (nI_ge hi (by omega)), f_at (n := 9) rfl (by omega) (by omega), o_b, isIn1 (p := 0) (q := (n : Int) - 1) (by decide) (by rw [i_long, nI_pre (by omega)]) (by rw [i_long, nI_toInt (by omega)]; omega), o_b, if_neg i10, a_ld (n := 8) rfl (by omega) (by omega), o_b, q3 i hi]
    exact ⟨_, rfl, rfl⟩
  · rw [isIn0 (p := 0) (q := (n : Int) - 1) (by decide) (by rw [i_long, nI_pre (by omega)]) (by rw [i_long]; omega), o_b, if_pos rfl]
    by_cases d : x < 0
    · rw [if_pos d]
      exact ⟨_, rfl, rfl⟩
    · have d' : ¬ x.toInt < 0 := fun z => d (c0.mpr z)
      rw [if_neg d, if_pos (c1.mpr (by omega))]
      exact ⟨_, rfl, rfl⟩
theorem p_writeTrain (h : Inv m) (x : Int32) : Wr (F_X8_writeTrain m x) (fun m => F_X9_writeTrain m x) := by
  have hI := h
  obtain ⟨⟨V, hw, hc, hr⟩, -⟩ := h
  by_cases hB : isB V x
  · by_cases ht : hT V x
    · obtain ⟨b, hb, rfl, hl⟩ := ht
      have h3 := hw.2.2.2.2.1 b
      generalize hf : (fun k => 97 + nI (vpl V b k)) = f
      have fe : ∀ k, 97 + nI (vpl V b k) = f k := fun k => by rw [← hf]
      generalize hm1 : fW f m (vln V b) = m1
      have g1 := fW_ag f m (vln V b)
      have n1 := fW_n f m (vln V b)
      have a1 := fun j => fW_at f m j (vln V b)
      rw [hm1] at g1 n1 a1
      have hr1 : VR 52 m1 V := hr.ag g1 (by omega)
      generalize hm2 : oSI m1 51 9 (nI (vln V b)) = m2
      have hr2 : VR 52 m2 V := by
        rw [← hm2]
        exact hr1.ag (oAg.SI (S := fun p k => p = 51 ∧ k = 9) ⟨rfl, rfl⟩) (by omega)
      have g3 := fR_ag f m2 (vln V b)
      have g3' := fun i => fR_ag f m2 i
      have a3 := fun j => fR_at f m2 j (vln V b)
      have n2 : m2.1 51 9 = nI (vln V b) := by
        rw [← hm2]
        exact SI_eq
      have n3 : ∀ i, (fR f m2 i).1 51 9 = nI (vln V b) := fun i => by rw [(g3' i 51 9 (by omega)).1, n2]
      refine ⟨nI (vln V b), m1, fR f m2 (vln V b), ?_, ?_, ?_⟩
      · unfold F_X8_writeTrain
        rw [c_hasBody1 hc hw hB, o_b, if_neg i10, c_hasTrain1 hc hw rfl hb hl, o_b, if_neg i10, o_b]
        have L := for_run (f := fun s : Int32 × oM => F_X8_writeTrain_L37 (nI b) s.1 s.2) (fun i => (nI i, fW f m i)) (vln V b) (b := m1) ?_ ?_ (by omega)
        · have L' : oLoop (fun s : Int32 × oM => F_X8_writeTrain_L37 (nI b) s.1 s.2) oFuel (0, oSI m 45 0 0) = some m1 := L
          rw [L', o_b, n1]
        · intro i hi
          have hci : VC 1 (fW f m i) V := hc.ag (fW_ag f m i) (by omega)
          show F_X8_writeTrain_L37 (nI b) (nI i) (fW f m i) = _
          unfold F_X8_writeTrain_L37
          rw [c1_len hci (by have := hw.1; omega), o_b, if_neg (nI_ge hi (by omega)), c1_pl hci hw hb hi, o_b, c_add (n := i) (by omega) (fW_n f m i), o_b, fe, nI_1]
          rfl
        · have hci : VC 1 (fW f m (vln V b)) V := hc.ag (fW_ag f m _) (by omega)
          show F_X8_writeTrain_L37 (nI b) (nI (vln V b)) (fW f m (vln V b)) = _
          unfold F_X8_writeTrain_L37
          rw [c1_len hci (by have := hw.1; omega), o_b, if_pos (nI_le (Nat.le_refl _) (by omega)), hm1]
      · show F_X9_writeTrain m1 (nI b) = _
        unfold F_X9_writeTrain
        rw [r_isBody1 hr1 hw hB, o_b, if_neg i10, r_hasTrain1 hr1 hw hb hl, o_b, if_neg i10, r_ln hr1 hw hb, o_b, o_b, hm2]
        have L := for_run (f := fun s : Int32 × oM => F_X9_writeTrain_L36 (nI b) s.1 s.2) (fun i => (nI i, fR f m2 i)) (vln V b) (b := fR f m2 (vln V b)) ?_ ?_ (by omega)
        · have L' : oLoop (fun s : Int32 × oM => F_X9_writeTrain_L36 (nI b) s.1 s.2) oFuel (0, m2) = some (fR f m2 (vln V b)) := L
          rw [L', o_b, n3]
        · intro i hi
          have hri : VR 52 (fR f m2 i) V := hr2.ag (g3' i) (by omega)
          show F_X9_writeTrain_L36 (nI b) (nI i) (fR f m2 i) = _
          unfold F_X9_writeTrain_L36
          rw [n3, if_neg (nI_ge hi (by omega)), r_pl hri hw hb hi, o_b, a_st (n := 8) rfl (by omega) (by omega), o_b, fe, nI_1]
          rfl
        · show F_X9_writeTrain_L36 (nI b) (nI (vln V b)) (fR f m2 (vln V b)) = _
          unfold F_X9_writeTrain_L36
          rw [n3, if_pos (nI_le (Nat.le_refl _) (by omega))]
      · have g2 : oAg Sht m1 m2 := by
          rw [← hm2]
          exact oAg.SI (by unfold Sht; omega)
        refine hI.sht (((g1.wk (by unfold Sht; omega)).tr g2).tr (g3.wk (by unfold Sht; omega))) ⟨vln V b, by omega, ?_, n3 _, fun i hi => ?_⟩
        · rw [(g3 45 0 (by omega)).1, ← hm2, SI_ne (by omega), n1]
        · rw [a3 i hi, (g3 46 i (by omega)).1, ← hm2, SI_ne (by omega), a1 i hi]
    · refine Wr.no (v := -3) hI ?_ ?_
      · unfold F_X8_writeTrain
        rw [c_hasBody1 hc hw hB, o_b, if_neg i10, c_hasTrain0 hc hw rfl ht, o_b, if_pos rfl]
      · show F_X9_writeTrain m x = _
        unfold F_X9_writeTrain
        rw [r_isBody1 hr hw hB, o_b, if_neg i10, r_hasTrain0 hr hw ht, o_b, if_pos rfl]
  · refine Wr.no (v := -1) hI ?_ ?_
    · unfold F_X8_writeTrain
      rw [c_hasBody0 hc hw hB, o_b, if_pos rfl]
    · show F_X9_writeTrain m x = _
      unfold F_X9_writeTrain
      rw [r_isBody0 hr hw hB, o_b, if_pos rfl]
end PAPER
