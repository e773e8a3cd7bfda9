/-! WHAT HOLDS BETWEEN CALLS -/
-- FOUND: the best of all trains
def fP (x y : Nat) : Nat := if y = 0 then x else x * y
def fOff (A B : Nat) (c : Nat × Nat × Nat × Nat) : Int := (fP c.1 c.2.1 * B : Nat) - (A * fP c.2.2.1 c.2.2.2 : Nat)
def fQ (c : Nat × Nat × Nat × Nat) : Nat := fP c.2.2.1 c.2.2.2
def fTee (c : Nat × Nat × Nat × Nat) : Nat := c.1 + c.2.1 + c.2.2.1 + c.2.2.2
def fCand (le mo : Nat) (c : Nat × Nat × Nat × Nat) : Prop := le ≤ c.1 ∧ c.1 ≤ mo ∧ le ≤ c.2.2.1 ∧ c.2.2.1 ≤ mo ∧ ((c.2.1 = 0 ∧ c.2.2.2 = 0) ∨ (c.1 ≤ c.2.1 ∧ c.2.1 ≤ mo ∧ c.2.2.1 ≤ c.2.2.2 ∧ c.2.2.2 ≤ mo))
/-- of two that are as near: the one ahead -/
def fTie (c d : Nat × Nat × Nat × Nat) : Prop := (c.2.1 = 0 ∧ d.2.1 ≠ 0) ∨ ((c.2.1 = 0 ↔ d.2.1 = 0) ∧ (fTee c < fTee d ∨ (fTee c = fTee d ∧ (c.1 < d.1 ∨ (c.1 = d.1 ∧ (c.2.1 < d.2.1 ∨ (c.2.1 = d.2.1 ∧ c.2.2.1 < d.2.2.1)))))))
def fBet (A B : Nat) (c d : Nat × Nat × Nat × Nat) : Prop := (fOff A B c).natAbs * fQ d < (fOff A B d).natAbs * fQ c ∨ ((fOff A B c).natAbs * fQ d = (fOff A B d).natAbs * fQ c ∧ fTie c d)
def fBest (A B le mo : Nat) (c : Nat × Nat × Nat × Nat) : Prop := fCand le mo c ∧ ∀ d, fCand le mo d → d ≠ c → fBet A B c d
/-- what the finder knows -/
def IFd (m : oM) : Prop := m.2 50 0 = 0 ∨ ∃ (A B le mo : Nat) (c : Nat × Nat × Nat × Nat), 1 ≤ A ∧ A ≤ 9999 ∧ 1 ≤ B ∧ B ≤ 9999 ∧ 10 ≤ le ∧ le ≤ mo ∧ mo ≤ 99 ∧ m.2 50 0 = lN A ∧ m.2 50 1 = lN B ∧ m.1 50 2 = nI le ∧ m.1 50 3 = nI mo ∧
  fBest A B le mo c ∧ m.1 50 4 = nI c.1 ∧ m.1 50 5 = nI c.2.1 ∧ m.1 50 6 = nI c.2.2.1 ∧ m.1 50 7 = nI c.2.2.2 ∧ (m.2 50 8).toInt = fOff A B c ∧ m.2 50 9 = lN (fQ c)
def IK (m : oM) : Prop := (m.1 0 3 = 0 ∧ m.1 51 3 = 0) ∨ (m.1 0 3 = 1 ∧ m.1 51 3 = 1 ∧ ∃ V2, WF V2 ∧ VC 15 m V2 ∧ VR 53 m V2)
def IT (m : oM) : Prop := ∃ n : Nat, n ≤ 60 ∧ m.1 43 0 = nI n ∧ m.1 51 8 = nI n ∧ ∀ i, i < n → m.1 55 i = m.1 44 i ∧ iB (m.1 44 i) 1 127
def IP (m : oM) : Prop := ∃ n : Nat, n ≤ 8 ∧ m.1 45 0 = nI n ∧ m.1 51 9 = nI n ∧ ∀ i, i < n → m.1 56 i = m.1 46 i
def IL (m : oM) : Prop := ∀ l, l < 4 → (m.1 48 l = 0 ∧ m.1 57 l = -1) ∨ ∃ n : Nat, n ≤ 12 ∧ m.1 48 l = nI (n + 1) ∧ m.1 57 l = nI n ∧ ∀ i, i < n → m.2 58 (12 * l + i) = m.2 49 (12 * l + i)
def Inv (m : oM) : Prop := (∃ V, WF V ∧ VC 1 m V ∧ VR 52 m V) ∧ IK m ∧ IT m ∧ IP m ∧ IL m ∧ IFd m
/-- nothing outside S has changed -/
def oAg (S : Nat → Nat → Prop) (m m' : oM) : Prop := ∀ p k, ¬ S p k → m'.1 p k = m.1 p k ∧ m'.2 p k = m.2 p k
theorem oAg.rf {S : Nat → Nat → Prop} {m : oM} : oAg S m m := fun _ _ _ => ⟨rfl, rfl⟩
theorem oAg.tr {S : Nat → Nat → Prop} {m m1 m2 : oM} (h1 : oAg S m m1) (h2 : oAg S m1 m2) : oAg S m m2 := fun p k h => ⟨(h2 p k h).1.trans (h1 p k h).1, (h2 p k h).2.trans (h1 p k h).2⟩
theorem oAg.wk {S S' : Nat → Nat → Prop} {m m' : oM} (h : oAg S m m') (hs : ∀ p k, S p k → S' p k) : oAg S' m m' := fun p k hn => h p k (fun q => hn (hs p k q))
theorem oAg.SI {S : Nat → Nat → Prop} {m : oM} {p k : Nat} {x : Int32} (h : S p k) : oAg S m (oSI m p k x) := fun q j hn => ⟨by
  show (if q = p ∧ j = k then x else m.1 q j) = _
  rw [if_neg (fun e => hn (by rw [e.1, e.2]; exact h))], rfl⟩
theorem oAg.SL {S : Nat → Nat → Prop} {m : oM} {p k : Nat} {x : Int64} (h : S p k) : oAg S m (oSL m p k x) := fun q j hn => ⟨rfl, by
  show (if q = p ∧ j = k then x else m.2 q j) = _
  rw [if_neg (fun e => hn (by rw [e.1, e.2]; exact h))]⟩
theorem SI_eq {m : oM} {p k : Nat} {x : Int32} : (oSI m p k x).1 p k = x := if_pos ⟨rfl, rfl⟩
theorem SI_ne {m : oM} {p k q j : Nat} {x : Int32} (h : ¬ (q = p ∧ j = k)) : (oSI m p k x).1 q j = m.1 q j := if_neg h
theorem SI_at {m : oM} {p k q j : Nat} {x : Int32} : (oSI m p k x).1 q j = if q = p ∧ j = k then x else m.1 q j := rfl
theorem SL_at {m : oM} {p k q j : Nat} {x : Int64} : (oSL m p k x).2 q j = if q = p ∧ j = k then x else m.2 q j := rfl
theorem SI_2 {m : oM} {p k : Nat} {x : Int32} : (oSI m p k x).2 = m.2 := rfl
theorem SL_1 {m : oM} {p k : Nat} {x : Int64} : (oSL m p k x).1 = m.1 := rfl
theorem VC.ag {o : Nat} {S : Nat → Nat → Prop} {m m' : oM} {V : oV} (h : VC o m V) (ha : oAg S m m') (hs : ∀ p k, o ≤ p → p ≤ o + 13 → ¬ S p k) : VC o m' V := by
  have e : ∀ p k, o ≤ p → p ≤ o + 13 → m'.1 p k = m.1 p k := fun p k h1 h2 => (ha p k (hs p k h1 h2)).1
  obtain ⟨h1, h2, h3, h4, h5, h6, h7, h8, h9, h10, h11, h12⟩ := h
  refine ⟨?_, ?_, ?_, fun b hb => ⟨?_, ?_⟩, fun b hb => ?_, fun b k hb hk => ?_, fun q hq => ⟨?_, ?_, ?_, ?_⟩, ?_, ?_, ?_, ?_, fun i hi => ⟨?_, ?_⟩⟩ <;> rw [e _ _ (by omega) (by omega)]
  · exact h1
  · exact h2
  · exact h3
  · exact (h4 b hb).1
  · exact (h4 b hb).2
  · exact h5 b hb
  · exact h6 b k hb hk
  · exact (h7 q hq).1
  · exact (h7 q hq).2.1
  · exact (h7 q hq).2.2.1
  · exact (h7 q hq).2.2.2
  · exact h8
  · exact h9
  · exact h10
  · exact h11
  · exact (h12 i hi).1
  · exact (h12 i hi).2
theorem VR.ag {a : Nat} {S : Nat → Nat → Prop} {m m' : oM} {V : oV} (h : VR a m V) (ha : oAg S m m') (hs : ∀ k, ¬ S a k) : VR a m' V := by
  have e : ∀ k, m'.1 a k = m.1 a k := fun k => (ha a k (hs k)).1
  unfold VR at h ⊢
  simp only [e]
  exact h
theorem IK.ag {S : Nat → Nat → Prop} {m m' : oM} (h : IK m) (ha : oAg S m m') (h0 : ¬ S 0 3) (h1 : ¬ S 51 3) (h2 : ∀ p k, 15 ≤ p → p ≤ 28 → ¬ S p k) (h3 : ∀ k, ¬ S 53 k) : IK m' := by
  unfold IK
  rw [(ha 0 3 h0).1, (ha 51 3 h1).1]
  rcases h with h | ⟨a, b, V2, hw, hc, hr⟩
  · exact Or.inl h
  · exact Or.inr ⟨a, b, V2, hw, hc.ag ha h2, hr.ag ha h3⟩
theorem IT.ag {S : Nat → Nat → Prop} {m m' : oM} (h : IT m) (ha : oAg S m m') (h0 : ¬ S 43 0) (h1 : ¬ S 51 8) (h2 : ∀ k, ¬ S 44 k) (h3 : ∀ k, ¬ S 55 k) : IT m' := by
  obtain ⟨n, a, b, c, d⟩ := h
  refine ⟨n, a, by rw [(ha 43 0 h0).1]; exact b, by rw [(ha 51 8 h1).1]; exact c, fun i hi => ?_⟩
  rw [(ha 44 i (h2 i)).1, (ha 55 i (h3 i)).1]
  exact d i hi
theorem IP.ag {S : Nat → Nat → Prop} {m m' : oM} (h : IP m) (ha : oAg S m m') (h0 : ¬ S 45 0) (h1 : ¬ S 51 9) (h2 : ∀ k, ¬ S 46 k) (h3 : ∀ k, ¬ S 56 k) : IP m' := by
  obtain ⟨n, a, b, c, d⟩ := h
  refine ⟨n, a, by rw [(ha 45 0 h0).1]; exact b, by rw [(ha 51 9 h1).1]; exact c, fun i hi => ?_⟩
  rw [(ha 46 i (h2 i)).1, (ha 56 i (h3 i)).1]
  exact d i hi
theorem IL.ag {S : Nat → Nat → Prop} {m m' : oM} (h : IL m) (ha : oAg S m m') (h0 : ∀ k, ¬ S 48 k) (h1 : ∀ k, ¬ S 57 k) (h2 : ∀ k, ¬ S 49 k) (h3 : ∀ k, ¬ S 58 k) : IL m' := by
  intro l hl
  rw [(ha 48 l (h0 l)).1, (ha 57 l (h1 l)).1]
  rcases h l hl with h | ⟨n, a, b, c, d⟩
  · exact Or.inl h
  · refine Or.inr ⟨n, a, b, c, fun i hi => ?_⟩
    rw [(ha 49 _ (h2 _)).2, (ha 58 _ (h3 _)).2]
    exact d i hi
theorem IFd.ag {S : Nat → Nat → Prop} {m m' : oM} (h : IFd m) (ha : oAg S m m') (h0 : ∀ k, ¬ S 50 k) : IFd m' := by
  have e1 : ∀ k, m'.1 50 k = m.1 50 k := fun k => (ha 50 k (h0 k)).1
  have e2 : ∀ k, m'.2 50 k = m.2 50 k := fun k => (ha 50 k (h0 k)).2
  unfold IFd at h ⊢
  simp only [e1, e2]
  exact h
/-- the places that matter to nothing: the class's thought, the reference's aside, term, read, its scratch fields -/
def Scr (p k : Nat) : Prop := (29 ≤ p ∧ p ≤ 42) ∨ p = 54 ∨ p = 59 ∨ p = 60 ∨ (p = 51 ∧ k ≠ 3 ∧ k ≠ 8 ∧ k ≠ 9)
/-- the class's now, the reference's s, and what matters to nothing -/
def Now (p k : Nat) : Prop := (1 ≤ p ∧ p ≤ 14) ∨ p = 52 ∨ Scr p k
theorem Inv.now {m m' : oM} {V' : oV} (h : Inv m) (ha : oAg Now m m') (hw : WF V') (hc : VC 1 m' V') (hr : VR 52 m' V') : Inv m' := by
  obtain ⟨-, h1, h2, h3, h4, h5⟩ := h
  refine ⟨⟨V', hw, hc, hr⟩, h1.ag ha ?_ ?_ ?_ ?_, h2.ag ha ?_ ?_ ?_ ?_, h3.ag ha ?_ ?_ ?_ ?_, h4.ag ha ?_ ?_ ?_ ?_, h5.ag ha ?_⟩ <;> simp only [Now, Scr] <;> intros <;> omega
theorem Inv.scr {m m' : oM} (h : Inv m) (ha : oAg Scr m m') : Inv m' := by
  obtain ⟨⟨V, hw, hc, hr⟩, h1, h2, h3, h4, h5⟩ := h
  refine Inv.now ⟨⟨V, hw, hc, hr⟩, h1, h2, h3, h4, h5⟩ (ha.wk (fun p k q => Or.inr (Or.inr q))) hw (hc.ag ha ?_) (hr.ag ha ?_) <;> simp only [Scr] <;> intros <;> omega
/-- a call of both that changes nothing; that changes -/
def Same {α : Type} (a b : Option α) : Prop := ∃ v, a = some v ∧ b = some v
