/-! the tape as pairs: the reference's clauses -/
def vK (x : Int32) : Int32 := (F_X8_kindOf x).getD 0
def pK (t : Nat → Int32) (i : Nat) : Int32 := vK (t (9 * i))
def pF (t : Nat → Int32) (i : Nat) : Int32 := t (9 * i + 1) - 48
def pD (t : Nat → Int32) (i : Nat) : Int32 := 10 * (t (9 * i + 3) - 48) + (t (9 * i + 4) - 48)
def pN (t : Nat → Int32) (i : Nat) : Int32 := 10 * (t (9 * i + 6) - 48) + (t (9 * i + 7) - 48)
theorem vK_of {x : Int32} {j : Nat} (h : KO x j) : vK x = nI j := by
  unfold vK
  rw [c_kindOf1 h]
  rfl
/-- what has been read of the first c clauses -/
def RD (t : Nat → Int32) (c : Nat) (mr : oM) : Prop := ∀ j, j < c → mr.1 60 (4 * j) = pK t j ∧ mr.1 60 (4 * j + 1) = pF t j ∧ mr.1 60 (4 * j + 2) = pD t j ∧ mr.1 60 (4 * j + 3) = pN t j
def S60 (q k : Nat) : Prop := (q = 51 ∧ (k = 11 ∨ k = 12)) ∨ q = 60
theorem ix4 (c : Nat) : 4 * nI c = nI (4 * c) := by rw [show (4 : Int32) = nI 4 from rfl, nI_mul]
theorem ix4k (c k : Nat) : nI (4 * c) + nI k = nI (4 * c + k) := nI_add _ _
section PAIRSCL
variable {m : oM}
/-- the first eight steps of a clause -/
theorem r_clause {n c : Nat} {t : Nat → Int32} {mr : oM} (hM : rM n t mr) (hS : rS n t (9 * c) mr) (hc : c < 10) :
    ∃ m94, F_X9_clauses_L4 (nI c) 1 mr = (if m94.1 51 12 = -1 then (F_X9_here m94).bind fun r107 => if r107 = 59 then F_X9_clauses_J120 m94 (nI (c + 1)) 1 else F_X9_clauses_J119 m94 (nI (c + 1)) else F_X9_clauses_J119 m94 (nI (c + 1))) ∧
      oAg S60 mr m94 ∧ rM n t m94 ∧ rS n t (9 * c + 8) m94 ∧ (∀ k, k < 4 * c → m94.1 60 k = mr.1 60 k) ∧ (m94.1 51 12 = -1 → m94.1 60 (4 * c) = pK t c ∧ m94.1 60 (4 * c + 1) = pF t c ∧ m94.1 60 (4 * c + 2) = pD t c ∧ m94.1 60 (4 * c + 3) = pN t c) := by
  have w60 : ∀ {a : oM} {k : Nat} {x : Int32}, oAg (fun q j => q = 60 ∧ j = k) a (oSI a 60 k x) := fun {a k x} => oAg.SI ⟨rfl, rfl⟩
  have sM : ∀ {a a' : oM}, rM n t a → oAg S51 a a' → rM n t a' := fun h g => h.ag g (by unfold S51; omega) (by unfold S51; omega)
  have wM : ∀ {a : oM} {k : Nat} {x : Int32}, rM n t a → rM n t (oSI a 60 k x) := fun h => h.ag w60 (by omega) (by omega)
  have wS : ∀ {a : oM} {p k : Nat} {x : Int32}, rS n t p a → rS n t p (oSI a 60 k x) := fun h => h.ag w60 (by omega) (by omega)
  have k60 : ∀ {a a' : oM} {k : Nat}, oAg S51 a a' → a'.1 60 k = a.1 60 k := fun g => (g 60 _ (by unfold S51; omega)).1
  have kf : ∀ {a : oM} {k : Nat} {x : Int32}, (oSI a 60 k x).1 51 12 = a.1 51 12 := SI_ne (by omega)
  obtain ⟨v0, m1, e1, s1, g1, f1⟩ := r_kind hM hS (by omega)
  have M1 := sM hM g1
  obtain ⟨v1, m2, e2, s2, g2, f2⟩ := r_fig (L := 0) (Or.inl rfl) (wM (k := 4 * c) (x := v0) M1) (wS s1) (by omega) (fun x => by rw [show (9 * c + 1) % 9 = 1 by omega]; exact Iff.rfl)
  have M2 := sM (wM M1) g2
  obtain ⟨m3, e3, s3, g3, f3⟩ := r_must (s := 32) (wM (k := 4 * c + 1) (x := v1) M2) (wS s2) (by omega) (by decide) (fun x => by rw [show (9 * c + 1 + 1) % 9 = 2 by omega]; exact Iff.rfl)
  have M3 := sM (wM M2) g3
  obtain ⟨v4, m4, e4, s4, g4, f4⟩ := r_fig (L := 1) (Or.inr rfl) M3 s3 (by omega) (fun x => by rw [show (9 * c + 1 + 1 + 1) % 9 = 3 by omega]; exact Iff.rfl)
  have M4 := sM M3 g4
  obtain ⟨v5, m5, e5, s5, g5, f5⟩ := r_fig (L := 0) (Or.inl rfl) M4 s4 (by omega) (fun x => by rw [show (9 * c + 1 + 1 + 1 + 1) % 9 = 4 by omega]; exact Iff.rfl)
  have M5 := sM M4 g5
  obtain ⟨m6, e6, s6, g6, f6⟩ := r_must (s := 47) (wM (k := 4 * c + 2) (x := 10 * v4 + v5) M5) (wS s5) (by omega) (by decide) (fun x => by rw [show (9 * c + 1 + 1 + 1 + 1 + 1) % 9 = 5 by omega]; exact Iff.rfl)
  have M6 := sM (wM M5) g6
  obtain ⟨v7, m7, e7, s7, g7, f7⟩ := r_fig (L := 1) (Or.inr rfl) M6 s6 (by omega) (fun x => by rw [show (9 * c + 1 + 1 + 1 + 1 + 1 + 1) % 9 = 6 by omega]; exact Iff.rfl)
  have M7 := sM M6 g7
  obtain ⟨v8, m8, e8, s8, g8, f8⟩ := r_fig (L := 0) (Or.inl rfl) M7 s7 (by omega) (fun x => by rw [show (9 * c + 1 + 1 + 1 + 1 + 1 + 1 + 1) % 9 = 7 by omega]; exact Iff.rfl)
  have M8 := sM M7 g8
  have g35 := (g3.tr g4).tr g5
  have g68 := (g6.tr g7).tr g8
  have at1 : ∀ k, k ≠ 4 * c + 3 → k ≠ 4 * c + 2 → (oSI m8 60 (4 * c + 3) (10 * v7 + v8)).1 60 k = m5.1 60 k := fun k h1 h2 => (SI_ne (by omega)).trans ((k60 g68).trans (SI_ne (by omega)))
  have at2 : ∀ k, k ≠ 4 * c + 3 → k ≠ 4 * c + 2 → k ≠ 4 * c + 1 → (oSI m8 60 (4 * c + 3) (10 * v7 + v8)).1 60 k = m2.1 60 k := fun k h1 h2 h3 => (at1 k h1 h2).trans ((k60 g35).trans (SI_ne (by omega)))
  refine ⟨oSI m8 60 (4 * c + 3) (10 * v7 + v8), ?_, ?_, wM M8, wS s8, fun k hk => ?_, fun z => ?_⟩
  · have x2 : F_X9_figure (oSI m1 60 (4 * c) v0) 0 = some (v1, m2) := e2
    have x4 : F_X9_figure m3 1 = some (v4, m4) := e4
    have x5 : F_X9_figure m4 0 = some (v5, m5) := e5
    have x7 : F_X9_figure m6 1 = some (v7, m7) := e7
    have x8 : F_X9_figure m7 0 = some (v8, m8) := e8
    have y1 : nI (4 * c) + 1 = nI (4 * c + 1) := nI_add _ 1
    have y2 : nI (4 * c) + 2 = nI (4 * c + 2) := nI_add _ 2
    have y3 : nI (4 * c) + 3 = nI (4 * c + 3) := nI_add _ 3
    unfold F_X9_clauses_L4
    rw [if_neg i10, e1, o_b, ix4, y1, y2, y3, nI_1]
    show ((oAS m1 60 (nI (4 * c)) v0).bind _) = _
    rw [a_st (n := 240) rfl (by omega) (by omega), o_b, x2, o_b]
    show ((oAS m2 60 (nI (4 * c + 1)) v1).bind _) = _
    rw [a_st (n := 240) rfl (by omega) (by omega), o_b, e3, o_b, x4, o_b]
    show ((F_X9_figure m4 0).bind _) = _
    rw [x5, o_b]
    show ((oAS m5 60 (nI (4 * c + 2)) (10 * v4 + v5)).bind _) = _
    rw [a_st (n := 240) rfl (by omega) (by omega), o_b, e6, o_b, x7, o_b]
    show ((F_X9_figure m7 0).bind _) = _
    rw [x8, o_b]
    show ((oAS m8 60 (nI (4 * c + 3)) (10 * v7 + v8)).bind _) = _
    rw [a_st (n := 240) rfl (by omega) (by omega), o_b]
  · have u : ∀ {a a' : oM}, oAg S51 a a' → oAg S60 a a' := fun g => g.wk (fun q k z => Or.inl z)
    have w : ∀ {a : oM} {k : Nat} {x : Int32}, oAg S60 a (oSI a 60 k x) := fun {a k x} => oAg.SI (Or.inr rfl)
    exact (((((((u g1).tr w).tr (u g2)).tr w).tr (u g35)).tr w).tr (u g68)).tr w
  · exact (at2 k (by omega) (by omega) (by omega)).trans ((k60 g2).trans ((SI_ne (by omega)).trans (k60 g1)))
  · rw [kf] at z
    obtain ⟨z8, y8⟩ := f8 z
    obtain ⟨z7, y7⟩ := f7 z8
    have z6 := f6 z7
    rw [kf] at z6
    obtain ⟨z5, y5⟩ := f5 z6
    obtain ⟨z4, y4⟩ := f4 z5
    have z3 := f3 z4
    rw [kf] at z3
    obtain ⟨z2, y2⟩ := f2 z3
    rw [kf] at z2
    obtain ⟨-, j, y0, kj⟩ := f1 z2
    refine ⟨(at2 _ (by omega) (by omega) (by omega)).trans ((k60 g2).trans (SI_eq.trans ?_)), (at1 _ (by omega) (by omega)).trans ((k60 g35).trans (SI_eq.trans ?_)), (SI_ne (by omega)).trans ((k60 g68).trans (SI_eq.trans ?_)), SI_eq.trans ?_⟩
    · rw [y0]
      exact (vK_of kj).symm
    · exact y2
    · rw [y4, y5]
      rfl
    · rw [y7, y8]
      rfl
end PAIRSCL
