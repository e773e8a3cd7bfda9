/-! the tape as pairs: all clauses -/
section PAIRSAL
variable {m : oM}
theorem RD.ag {t : Nat → Int32} {c : Nat} {mr mr' : oM} (h : RD t c mr) (e : ∀ k, k < 4 * c → mr'.1 60 k = mr.1 60 k) : RD t c mr' := fun j hj => ⟨(e _ (by omega)).trans (h j hj).1, (e _ (by omega)).trans (h j hj).2.1, (e _ (by omega)).trans (h j hj).2.2.1, (e _ (by omega)).trans (h j hj).2.2.2⟩
theorem r_J120 (mr : oM) (x : Int32) : F_X9_clauses_J120 mr x 1 = some (.inl (x, 1, oSI mr 51 11 (mr.1 51 11 + 1))) := by
  unfold F_X9_clauses_J120
  rw [if_neg i10, o_b]
theorem r_J119 (mr : oM) (x : Int32) : F_X9_clauses_J119 mr x = some (.inl (x, 0, oSI mr 51 11 (mr.1 51 11))) := by
  unfold F_X9_clauses_J119 F_X9_clauses_J120
  rw [if_pos rfl, o_b, Int32.add_zero]
/-- how the clauses end -/
def RE (n : Nat) (t : Nat → Int32) (c : Nat) (mr : oM) : Prop := (∃ f a, IsF n t f ∧ a ≤ n ∧ mr.1 51 11 = nI a ∧ mr.1 51 12 = nI f) ∨ (∃ a, a < n ∧ IsF n t a ∧ mr.1 51 11 = nI a ∧ mr.1 51 12 = -1) ∨ (9 * c = n + 1 ∧ (∀ i, i < n → fitT t i) ∧ mr.1 51 11 = nI n ∧ mr.1 51 12 = -1 ∧ RD t c mr)
theorem oTo.up {σ β : Type} {f : σ → Option (σ ⊕ β)} {s : σ} {b : β} {k k' : Nat} (h : oTo f s b k) (hk : k ≤ k') : oTo f s b k' := fun n hn => h n (by omega)
theorem r_clS {n : Nat} {t : Nat → Int32} (h60 : n ≤ 60) {c : Nat} {mr : oM} (hM : rM n t mr) (hc : 9 * c ≤ n) (h1 : ∀ i, i < 9 * c → fitT t i) (h2 : mr.1 51 11 = nI (9 * c)) (h3 : mr.1 51 12 = -1) (hR : RD t c mr) :
    (∃ mr', oTo (fun s : Int32 × Int32 × oM => F_X9_clauses_L4 s.1 s.2.1 s.2.2) (nI c, 1, mr) (nI (c + 1), mr') 1 ∧ oAg S60 mr mr' ∧ RE n t (c + 1) mr') ∨
      (∃ mr', F_X9_clauses_L4 (nI c) 1 mr = some (.inl (nI (c + 1), 1, mr')) ∧ oAg S60 mr mr' ∧ rM n t mr' ∧ 9 * (c + 1) ≤ n ∧ (∀ i, i < 9 * (c + 1) → fitT t i) ∧ mr'.1 51 11 = nI (9 * (c + 1)) ∧ mr'.1 51 12 = -1 ∧ RD t (c + 1) mr') := by
  obtain ⟨m94, e, g, M, S, h4, h5⟩ := r_clause hM (Or.inl ⟨hc, h1, h2, h3⟩) (by omega)
  have fin : ∀ b : oM, F_X9_clauses_L4 (nI (c + 1)) 0 b = some (.inr (nI (c + 1), b)) := fun b => by
    unfold F_X9_clauses_L4
    rw [if_pos rfl]
  have stop : F_X9_clauses_L4 (nI c) 1 mr = F_X9_clauses_J119 m94 (nI (c + 1)) → RE n t (c + 1) m94 → ∃ mr', oTo (fun s : Int32 × Int32 × oM => F_X9_clauses_L4 s.1 s.2.1 s.2.2) (nI c, 1, mr) (nI (c + 1), mr') 1 ∧ oAg S60 mr mr' ∧ RE n t (c + 1) mr' := by
    intro q RE1
    rw [r_J119] at q
    have k12 : (oSI m94 51 11 (m94.1 51 11)).1 51 12 = m94.1 51 12 := SI_ne (by omega)
    have k11 : (oSI m94 51 11 (m94.1 51 11)).1 51 11 = m94.1 51 11 := SI_eq
    have kR : RD t (c + 1) m94 → RD t (c + 1) (oSI m94 51 11 (m94.1 51 11)) := fun z => z.ag (fun k _ => SI_ne (by omega))
    refine ⟨_, oTo.step q (oTo.done 0 (fin _)), g.tr (oAg.SI (Or.inl ⟨rfl, Or.inl rfl⟩)), ?_⟩
    unfold RE
    rw [k11, k12]
    rcases RE1 with z | z | ⟨z1, z2, z3, z4, z5⟩
    · exact Or.inl z
    · exact Or.inr (Or.inl z)
    · exact Or.inr (Or.inr ⟨z1, z2, z3, z4, kR z5⟩)
  rcases S with ⟨p1, p2, a1, a2⟩ | ⟨f, a, f1, f2, f3, f4⟩
  · rw [if_pos a2, r_here M p1 a1, o_b] at e
    have R1 : RD t (c + 1) m94 := fun j hj => by
      rcases Nat.lt_or_ge j c with z | z
      · exact (hR.ag h4) j z
      · rw [show j = c by omega]
        exact h5 a2
    by_cases c8 : 9 * c + 8 < n
    · rw [if_pos c8] at e
      have f8 : fitT t (9 * c + 8) ↔ t (9 * c + 8) = 59 := by
        unfold fitT
        rw [show (9 * c + 8) % 9 = 8 by omega]
        exact Iff.rfl
      by_cases k : t (9 * c + 8) = 59
      · rw [if_pos k, r_J120, a1, nI_1] at e
        have M' : rM n t (oSI m94 51 11 (nI (9 * c + 8 + 1))) := M.ag (oAg.SI (S := S51) ⟨rfl, Or.inl rfl⟩) (by unfold S51; omega) (by unfold S51; omega)
        refine Or.inr ⟨_, e, g.tr (oAg.SI (Or.inl ⟨rfl, Or.inl rfl⟩)), M', by omega, fun i hi => ?_, SI_eq.trans (by rw [show 9 * c + 8 + 1 = 9 * (c + 1) by omega]), (SI_ne (by omega)).trans a2, R1.ag (fun k _ => SI_ne (by omega))⟩
        rcases Nat.lt_or_ge i (9 * c + 8) with z | z
        · exact p2 i z
        · rw [show i = 9 * c + 8 by omega]
          exact f8.mpr k
      · rw [if_neg k] at e
        exact Or.inl (stop e (Or.inr (Or.inl ⟨9 * c + 8, c8, ⟨by omega, p2, fun _ z => k (f8.mp z), fun z => absurd z (by omega)⟩, a1, a2⟩)))
    · rw [if_neg c8, if_neg (by decide)] at e
      have en : n = 9 * c + 8 := by omega
      exact Or.inl (stop e (Or.inr (Or.inr ⟨by omega, fun i hi => p2 i (by omega), by rw [en]; exact a1, a2, R1⟩)))
  · have nf : ¬ m94.1 51 12 = -1 := by
      rw [f4]
      exact nm1 (f1.lt h60)
    rw [if_neg nf] at e
    exact Or.inl (stop e (Or.inl ⟨f, a, f1, f2, f3, f4⟩))
theorem r_clK {n : Nat} {t : Nat → Int32} (h60 : n ≤ 60) : ∀ r c mr, rM n t mr → 9 * c ≤ n → (∀ i, i < 9 * c → fitT t i) → mr.1 51 11 = nI (9 * c) → mr.1 51 12 = -1 → RD t c mr → n ≤ 9 * (c + r) + 8 →
    ∃ c' mr', oTo (fun s : Int32 × Int32 × oM => F_X9_clauses_L4 s.1 s.2.1 s.2.2) (nI c, 1, mr) (nI c', mr') (r + 1) ∧ oAg S60 mr mr' ∧ RE n t c' mr'
  | 0, c, mr, hM, hc, h1, h2, h3, hR, hr => by
    rcases r_clS h60 hM hc h1 h2 h3 hR with ⟨mr', q1, q2, q3⟩ | ⟨mr', q1, q2, q3, q4, -⟩
    · exact ⟨c + 1, mr', q1, q2, q3⟩
    · omega
  | r + 1, c, mr, hM, hc, h1, h2, h3, hR, hr => by
    rcases r_clS h60 hM hc h1 h2 h3 hR with ⟨mr', q1, q2, q3⟩ | ⟨mr', q1, q2, q3, q4, q5, q6, q7, q8⟩
    · exact ⟨c + 1, mr', q1.up (by omega), q2, q3⟩
    · obtain ⟨c', m2, y1, y2, y3⟩ := r_clK h60 r (c + 1) mr' q3 q4 q5 q6 q7 q8 (by omega)
      exact ⟨c', m2, oTo.step q1 y1, q2.tr y2, y3⟩
theorem r_clauses {n : Nat} {t : Nat → Int32} {mr : oM} (hM : rM n t mr) (h2 : mr.1 51 11 = 0) (h3 : mr.1 51 12 = -1) :
    ∃ c mr', F_X9_clauses mr = some (nI c, mr') ∧ oAg S60 mr mr' ∧ ((∃ f, IsF n t f ∧ mr'.1 51 12 = nI f) ∨ (9 * c = n + 1 ∧ (∀ i, i < n → fitT t i) ∧ mr'.1 51 12 = -1 ∧ RD t c mr')) := by
  have h60 := hM.1
  obtain ⟨c, m1, q1, q2, q3⟩ := r_clK h60 7 0 mr hM (by omega) (fun i hi => absurd hi (by omega)) h2 h3 (fun j hj => absurd hj (by omega)) (by omega)
  have L : oLoop (fun s : Int32 × Int32 × oM => F_X9_clauses_L4 s.1 s.2.1 s.2.2) oFuel (0, 1, mr) = some (nI c, m1) := q1.run (by omega)
  have e8 : m1.1 51 8 = nI n := (q2 51 8 (by unfold S60; omega)).1.trans hM.2.1
  have E : F_X9_clauses mr = if nI n ≤ m1.1 51 11 then some (nI c, m1) else (F_X9_fails m1).bind fun r154 => some (nI c, r154) := by
    unfold F_X9_clauses
    rw [L, o_b]
    show (if m1.1 51 8 ≤ m1.1 51 11 then some (nI c, m1) else (F_X9_fails m1).bind fun r154 => some (nI c, r154)) = _
    rw [e8]
  rcases q3 with ⟨f, a, f1, f2, f3, f4⟩ | ⟨a, a1, a2, a3, a4⟩ | ⟨z1, z2, z3, z4, z5⟩
  · have nf : ¬ m1.1 51 12 = -1 := by
      rw [f4]
      exact nm1 (f1.lt h60)
    rw [r_fails0 nf, o_b] at E
    exact ⟨c, m1, E.trans (ite_self _), q2, Or.inl ⟨f, f1, f4⟩⟩
  · rw [a3, if_neg (nI_ge a1 (by omega)), r_fails1 a4, o_b, a3] at E
    exact ⟨c, _, E, q2.tr (oAg.SI (Or.inl ⟨rfl, Or.inr rfl⟩)), Or.inl ⟨a, a2, SI_eq⟩⟩
  · rw [z3, if_pos (nI_le (Nat.le_refl _) (by omega))] at E
    exact ⟨c, m1, E, q2, Or.inr ⟨z1, z2, z4, z5⟩⟩
end PAIRSAL
