/-! train, the call -/
section TRAIN2
variable {m : oM} {V : oV}
/-- the letters as pairs -/
def tP (m : oM) (i : Nat) : Int32 := m.1 44 i - 97
theorem tP_inj {m : oM} {i j : Nat} : tP m i = tP m j ↔ m.1 44 i = m.1 44 j := by
  unfold tP
  constructor
  · intro h
    have : m.1 44 i - 97 + 97 = m.1 44 j - 97 + 97 := by rw [h]
    grind
  · intro h
    rw [h]
def tR (m : oM) (V : oV) (n : Nat) (mr : oM) : Prop := VR 52 mr V ∧ mr.1 51 8 = nI n ∧ ∀ i, i < n → mr.1 55 i = m.1 44 i
theorem t_faultK (hw : WF V) {n : Nat} (hn : n ≤ 60) (t1 : m.1 43 0 = nI n) (x : Int32) :
    ∀ r i, i + r = n → tOK V (tP m) i → ∃ q ft, oTo (fun s : Int32 => F_X6_faultAsTrain_L2 m (nI (vnp V)) s) (nI i) q r ∧ (∀ mr, tR m V n mr → oTo (fun s : Int32 × Int32 × Int32 => F_X9_train_L28 mr x s.1 s.2.1 s.2.2) (fMk (tP m) i, -1, nI i) ft (r + 1)) ∧
      ((q = .inl () ∧ ft = -1 ∧ tOK V (tP m) n) ∨ (q = .inr ft ∧ ¬ ft = -1))
  | 0, i, e, h => by
    refine ⟨.inl (), -1, oTo.done _ ?_, fun mr ⟨hr, t2, t3⟩ => oTo.done _ ?_, Or.inl ⟨rfl, rfl, by rwa [show n = i by omega]⟩⟩
    · show F_X6_faultAsTrain_L2 m (nI (vnp V)) (nI i) = _
      unfold F_X6_faultAsTrain_L2
      rw [t1, if_pos (nI_le (by omega) (by omega))]
    · show F_X9_train_L28 mr x (fMk (tP m) i) (-1) (nI i) = _
      unfold F_X9_train_L28
      rw [t2, if_pos (nI_le (by omega) (by omega))]
  | r + 1, i, e, h => by
    have hi : i < n := by omega
    have hnp := hw.2.1
    have nm : ¬ nI i = -1 := by
      rw [i_eq, nI_toInt (by omega), show (-1 : Int32).toInt = -1 by decide]
      omega
    have cp : F_X6_pairTold m (nI i) = some (tP m i) := by
      unfold F_X6_pairTold
      rw [f_at (n := 60) rfl (by omega) (by omega), o_b]
      rfl
    -- behind a fault the reference goes one step more
    have stop : ∀ (mr : oM) (k : Int32), oTo (fun s : Int32 × Int32 × Int32 => F_X9_train_L28 mr x s.1 s.2.1 s.2.2) (k, nI i, nI (i + 1)) (nI i) (r + 1) := by
      intro mr k
      refine oTo.done _ ?_
      show F_X9_train_L28 mr x k (nI i) (nI (i + 1)) = _
      unfold F_X9_train_L28
      rw [if_neg nm]
      split <;> rfl
    have rb : ∀ mr, tR m V n mr → F_X9_train_L28 mr x (fMk (tP m) i) (-1) (nI i) = (F_X9_isPair mr (tP m i)).bind fun r57 =>
        if r57 = 0 then some (.inl (fMk (tP m) i, nI i, nI (i + 1))) else if nI i = 3 then some (.inl (fMk (tP m) i, nI i, nI (i + 1))) else
          if ((fMk (tP m) i >>> (tP m i &&& 31)) &&& 1) = 1 then some (.inl (fMk (tP m) i, nI i, nI (i + 1))) else some (.inl (fMk (tP m) (i + 1), -1, nI (i + 1))) := by
      intro mr ⟨hr, t2, t3⟩
      unfold F_X9_train_L28
      rw [t2, if_neg (nI_ge hi (by omega)), if_pos rfl, a_ld (n := 60) rfl (by omega) (by omega), o_b, t3 i hi, nI_1]
      rfl
    have cb : F_X6_faultAsTrain_L2 m (nI (vnp V)) (nI i) = if (3 : Int32) ≤ nI i then some (.inr (.inr (nI i))) else if tP m i < 0 then some (.inr (.inr (nI i))) else if nI (vnp V) ≤ tP m i then some (.inr (.inr (nI i))) else
        (F_X6_isToldAhead m (nI i)).bind fun r32 => if r32 = 0 then some (.inl (nI (i + 1))) else some (.inr (.inr (nI i))) := by
      unfold F_X6_faultAsTrain_L2
      rw [t1, if_neg (nI_ge hi (by omega)), cp, o_b, nI_1]
    have bad : F_X6_faultAsTrain_L2 m (nI (vnp V)) (nI i) = some (.inr (.inr (nI i))) → (∀ mr, tR m V n mr → F_X9_train_L28 mr x (fMk (tP m) i) (-1) (nI i) = some (.inl (fMk (tP m) i, nI i, nI (i + 1)))) → ∃ q ft, oTo (fun s : Int32 => F_X6_faultAsTrain_L2 m (nI (vnp V)) s) (nI i) q (r + 1) ∧ (∀ mr, tR m V n mr → oTo (fun s : Int32 × Int32 × Int32 => F_X9_train_L28 mr x s.1 s.2.1 s.2.2) (fMk (tP m) i, -1, nI i) ft (r + 1 + 1)) ∧
      ((q = .inl () ∧ ft = -1 ∧ tOK V (tP m) n) ∨ (q = .inr ft ∧ ¬ ft = -1)) := fun a b => ⟨.inr (nI i), nI i, oTo.done _ a, fun mr hm => oTo.step (b mr hm) (stop mr _), Or.inr ⟨rfl, nm⟩⟩
    by_cases hq : isQ V (tP m i)
    · replace rb := fun mr (hm : tR m V n mr) => (rb mr hm).trans (by rw [r_isPair1 hm.1 hw hq, o_b, if_neg i10])
      have l1 : ¬ tP m i < 0 := by
        rw [i_lt, Int32.toInt_zero]
        have := hq.1
        omega
      have l2 : ¬ nI (vnp V) ≤ tP m i := by
        rw [i_le, nI_toInt (by omega)]
        have := hq.2
        omega
      by_cases h3 : i = 3
      · have rb' : ∀ mr, tR m V n mr → F_X9_train_L28 mr x (fMk (tP m) i) (-1) (nI i) = some (.inl (fMk (tP m) i, nI i, nI (i + 1))) := fun mr hm => (rb mr hm).trans (if_pos (by rw [h3]; rfl))
        rw [if_pos (by rw [h3]; decide)] at cb
        exact bad cb rb'
      · have i3 : i < 3 := by
          rcases Nat.lt_or_ge i 3 with z | z
          · exact z
          · have := (h 3 (by omega)).1
            omega
        replace rb := fun mr (hm : tR m V n mr) => (rb mr hm).trans (if_neg (show ¬ nI i = 3 from fun z => h3 ((nI_eq (b := 3) (by omega) (by omega)).mp z)))
        rw [if_neg (show ¬ (3 : Int32) ≤ nI i from nI_ge (b := 3) i3 (by omega)), if_neg l1, if_neg l2, c_ahead (by omega) (Classical.propDecidable _), o_b] at cb
        have mt := mk_told hw h i3 hq
        by_cases k : ∃ l, l < i ∧ tP m l = tP m i
        · replace rb := fun mr (hm : tR m V n mr) => (rb mr hm).trans (if_pos (mt.mpr k))
          have k' : ∃ l, l < i ∧ m.1 44 l = m.1 44 i := k.elim fun l z => ⟨l, z.1, tP_inj.mp z.2⟩
          rw [if_pos k', if_neg i10] at cb
          exact bad cb rb
        · replace rb := fun mr (hm : tR m V n mr) => (rb mr hm).trans (if_neg (fun z => k (mt.mp z)))
          have k' : ¬ ∃ l, l < i ∧ m.1 44 l = m.1 44 i := fun z => k (z.elim fun l z => ⟨l, z.1, tP_inj.mpr z.2⟩)
          rw [if_neg k', if_pos rfl] at cb
          obtain ⟨q, ft, a1, a2, a3⟩ := t_faultK hw hn t1 x r (i + 1) (by omega) (fun j hj => by
            rcases Nat.lt_or_ge j i with z | z
            · exact h j z
            · rw [show j = i by omega]
              exact ⟨i3, hq, fun l hl z => k ⟨l, hl, z⟩⟩)
          exact ⟨q, ft, oTo.step cb a1, fun mr hm => oTo.step (rb mr hm) (a2 mr hm), a3⟩
    · refine bad ?_ (fun mr hm => (rb mr hm).trans (by rw [r_isPair0 hm.1 hw hq, o_b, if_pos rfl]))
      rw [cb]
      by_cases c1 : (3 : Int32) ≤ nI i
      · rw [if_pos c1]
      · rw [if_neg c1]
        by_cases c2 : tP m i < 0
        · rw [if_pos c2]
        · rw [if_neg c2, if_pos]
          rw [i_lt, Int32.toInt_zero] at c2
          rw [i_le, nI_toInt (by omega)]
          rcases Int.lt_or_le (tP m i).toInt (vnp V) with z | z
          · exact absurd ⟨by omega, z⟩ hq
          · exact z
end TRAIN2
