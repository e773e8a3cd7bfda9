/-! found: the reference's finding -/
def fE2 (le mo d e f g : Nat) (y : oQ4) : Prop := fOne le mo y ∨ (fTwo le mo y ∧ (y.1 < d ∨ (y.1 = d ∧ (y.2.1 < e ∨ (y.2.1 = e ∧ (y.2.2.1 < f ∨ (y.2.2.1 = f ∧ y.2.2.2 < g)))))))
section FOUND5
variable {m : oM} {A B le mo b : Nat}
theorem r_find1 (hR : fRng A B le mo) (hb : b < 6) (hH : rH b A B le mo m) (h : RI A B le mo (fD1 le mo le le) m) : ∃ m', oLoop (fun s : Int32 × oM => F_X9_finds_L12 (nI b) s.1 s.2) oFuel (nI le, m) = some m' ∧ RI A B le mo (fOne le mo) m' ∧ oAg S14 m m' := by
  have hR' := hR
  unfold fRng at hR'
  have inner : ∀ d m1, le ≤ d → d ≤ mo → rH b A B le mo m1 → RI A B le mo (fD1 le mo d le) m1 → ∃ m', oLoop (fun s : Int32 × oM => F_X9_finds_L29 (nI b) (nI d) s.1 s.2) oFuel (nI le, m1) = some m' ∧ (RI A B le mo (fD1 le mo d (mo + 1)) m' ∧ oAg S14 m1 m') := by
    intro d m1 d1 d2 H1 h1
    refine lp_run (P := fun v m' => RI A B le mo (fD1 le mo d v) m' ∧ oAg S14 m1 m') (by omega) (by omega) ⟨h1, oAg.rf⟩ ?_ ?_
    · rintro v m2 v1 v2 ⟨f2, g2⟩
      have H2 := H1.ag g2
      have cx : fCand le mo (d, 0, v, 0) := ⟨d1, d2, v1, v2, Or.inl ⟨rfl, rfl⟩⟩
      obtain ⟨m3, e3, f3, g3⟩ := r_tries (D' := fD1 le mo d (v + 1)) hR hb H2 f2 cx (many := 1) (e := 1) (g := 1) (Or.inl ⟨rfl, rfl, rfl, rfl, rfl⟩) (fun y z => by
        refine ⟨Or.inr ⟨⟨fun _ => rfl, fun _ => z.1.1⟩, ?_⟩, one_q hR z.1⟩
        show y.1 < d ∨ (y.1 = d ∧ (y.2.1 < 0 ∨ (y.2.1 = 0 ∧ (y.2.2.1 < v ∨ (y.2.2.1 = v ∧ y.2.2.2 < 0)))))
        obtain ⟨z1, z2⟩ := z
        unfold fOne at z1
        omega) (fun y => by
        constructor
        · rintro ⟨z1, z2⟩
          by_cases k : y.1 = d ∧ y.2.2.1 = v
          · right
            exact Prod.ext k.1 (Prod.ext z1.1 (Prod.ext k.2 z1.2.1))
          · left
            exact ⟨z1, by omega⟩
        · rintro (⟨z1, z2⟩ | rfl)
          · exact ⟨z1, by omega⟩
          · exact ⟨⟨rfl, rfl, d1, d2, v1, v2⟩, Or.inr ⟨rfl, Nat.lt_succ_self v⟩⟩)
      have e3' : F_X9_tries m2 (nI b) 1 (nI d) 1 (nI v) 1 = some m3 := e3
      refine ⟨m3, ?_, f3, g2.tr g3⟩
      show F_X9_finds_L29 (nI b) (nI d) (nI v) m2 = _
      unfold F_X9_finds_L29
      rw [H2.2.1, if_neg (nI_nlt (by omega) (by omega)), e3', o_b, nI_1]
    · rintro m2 ⟨-, g2⟩
      show F_X9_finds_L29 (nI b) (nI d) (nI (mo + 1)) m2 = _
      unfold F_X9_finds_L29
      rw [(H1.ag g2).2.1, if_pos (nI_lt (by omega) (by omega))]
  obtain ⟨m', q1, q2, q3⟩ := lp_run (f := fun s : Int32 × oM => F_X9_finds_L12 (nI b) s.1 s.2) (P := fun d m' => RI A B le mo (fD1 le mo d le) m' ∧ oAg S14 m m') (a := le) (mo := mo) (m := m) (by omega) (by omega) ⟨h, oAg.rf⟩ (by
    rintro d m1 d1 d2 ⟨f1, g1⟩
    have H1 := hH.ag g1
    obtain ⟨m2, e2, f2, g2⟩ := inner d m1 d1 d2 H1 f1
    refine ⟨m2, ?_, f2.cg (fun y => ?_), g1.tr g2⟩
    · show F_X9_finds_L12 (nI b) (nI d) m1 = _
      unfold F_X9_finds_L12
      rw [H1.2.1, if_neg (nI_nlt (by omega) (by omega)), H1.1, o_b, e2, o_b, nI_1]
    · unfold fD1 fOne
      omega) (by
    rintro m1 ⟨-, g1⟩
    show F_X9_finds_L12 (nI b) (nI (mo + 1)) m1 = _
    unfold F_X9_finds_L12
    rw [(hH.ag g1).2.1, if_pos (nI_lt (by omega) (by omega))])
  refine ⟨m', q1, q2.cg (fun y => ?_), q3⟩
  unfold fD1 fOne
  omega
theorem r_find2 (hR : fRng A B le mo) (hb : b < 6) (hH : rH b A B le mo m) (h : RI A B le mo (fOne le mo) m) : ∃ m', oLoop (fun s : Int32 × oM => F_X9_finds_L68 (nI b) s.1 s.2) oFuel (nI le, m) = some m' ∧ RI A B le mo (fCand le mo) m' ∧ oAg S14 m m' := by
  have hR' := hR
  unfold fRng at hR'
  have l4 : ∀ d e f m1, le ≤ d → d ≤ e → e ≤ mo → le ≤ f → f ≤ mo → rH b A B le mo m1 → RI A B le mo (fE2 le mo d e f f) m1 → ∃ m', oLoop (fun s : Int32 × oM => F_X9_finds_L113 (nI b) (nI d) (nI e) (nI f) s.1 s.2) oFuel (nI f, m1) = some m' ∧ (RI A B le mo (fE2 le mo d e f (mo + 1)) m' ∧ oAg S14 m1 m') := by
    intro d e f m1 d1 d2 d3 f1 f2 H1 h1
    refine lp_run (P := fun v m' => RI A B le mo (fE2 le mo d e f v) m' ∧ oAg S14 m1 m') (by omega) (by omega) ⟨h1, oAg.rf⟩ ?_ ?_
    · rintro v m2 v1 v2 ⟨i2, g2⟩
      have H2 := H1.ag g2
      have tx : fTwo le mo (d, e, f, v) := ⟨d1, d2, d3, f1, v1, v2⟩
      obtain ⟨m3, e3, i3, g3⟩ := r_tries (D' := fE2 le mo d e f (v + 1)) hR hb H2 i2 (two_cand tx) (many := 2) (e := e) (g := v) (Or.inr ⟨by show e ≠ 0; omega, by show v ≠ 0; omega, rfl, rfl, rfl⟩) (fun y z => by
        rcases z with z | ⟨z1, z2⟩
        · refine ⟨Or.inl ⟨z.1, ?_⟩, one_q hR z⟩
          show e ≠ 0
          omega
        · refine ⟨Or.inr ⟨?_, ?_⟩, two_q hR z1⟩
          · show y.2.1 = 0 ↔ e = 0
            unfold fTwo at z1
            omega
          · show y.1 < d ∨ (y.1 = d ∧ (y.2.1 < e ∨ (y.2.1 = e ∧ (y.2.2.1 < f ∨ (y.2.2.1 = f ∧ y.2.2.2 < v)))))
            exact z2) (fun y => by
        constructor
        · rintro (z | ⟨z1, z2⟩)
          · exact Or.inl (Or.inl z)
          · by_cases k : y.1 = d ∧ y.2.1 = e ∧ y.2.2.1 = f ∧ y.2.2.2 = v
            · right
              exact Prod.ext k.1 (Prod.ext k.2.1 (Prod.ext k.2.2.1 k.2.2.2))
            · left
              right
              exact ⟨z1, by omega⟩
        · rintro ((z | ⟨z1, z2⟩) | rfl)
          · exact Or.inl z
          · exact Or.inr ⟨z1, by omega⟩
          · exact Or.inr ⟨tx, Or.inr ⟨rfl, Or.inr ⟨rfl, Or.inr ⟨rfl, Nat.lt_succ_self v⟩⟩⟩⟩)
      have e3' : F_X9_tries m2 (nI b) 2 (nI d) (nI e) (nI f) (nI v) = some m3 := e3
      refine ⟨m3, ?_, i3, g2.tr g3⟩
      show F_X9_finds_L113 (nI b) (nI d) (nI e) (nI f) (nI v) m2 = _
      unfold F_X9_finds_L113
      rw [H2.2.1, if_neg (nI_nlt (by omega) (by omega)), e3', o_b, nI_1]
    · rintro m2 ⟨-, g2⟩
      show F_X9_finds_L113 (nI b) (nI d) (nI e) (nI f) (nI (mo + 1)) m2 = _
      unfold F_X9_finds_L113
      rw [(H1.ag g2).2.1, if_pos (nI_lt (by omega) (by omega))]
  have l3 : ∀ d e m1, le ≤ d → d ≤ e → e ≤ mo → rH b A B le mo m1 → RI A B le mo (fE2 le mo d e le le) m1 → ∃ m', oLoop (fun s : Int32 × oM => F_X9_finds_L98 (nI b) (nI d) (nI e) s.1 s.2) oFuel (nI le, m1) = some m' ∧ (RI A B le mo (fE2 le mo d e (mo + 1) (mo + 1)) m' ∧ oAg S14 m1 m') := by
    intro d e m1 d1 d2 d3 H1 h1
    refine lp_run (P := fun f m' => RI A B le mo (fE2 le mo d e f f) m' ∧ oAg S14 m1 m') (by omega) (by omega) ⟨h1, oAg.rf⟩ ?_ ?_
    · rintro f m2 f1 f2 ⟨i2, g2⟩
      have H2 := H1.ag g2
      obtain ⟨m3, e3, i3, g3⟩ := l4 d e f m2 d1 d2 d3 f1 f2 H2 i2
      refine ⟨m3, ?_, i3.cg (fun y => ?_), g2.tr g3⟩
      · show F_X9_finds_L98 (nI b) (nI d) (nI e) (nI f) m2 = _
        unfold F_X9_finds_L98
        rw [H2.2.1, if_neg (nI_nlt (by omega) (by omega)), e3, o_b, nI_1]
      · unfold fE2 fTwo fOne
        omega
    · rintro m2 ⟨-, g2⟩
      show F_X9_finds_L98 (nI b) (nI d) (nI e) (nI (mo + 1)) m2 = _
      unfold F_X9_finds_L98
      rw [(H1.ag g2).2.1, if_pos (nI_lt (by omega) (by omega))]
  have l2 : ∀ d m1, le ≤ d → d ≤ mo → rH b A B le mo m1 → RI A B le mo (fE2 le mo d d le le) m1 → ∃ m', oLoop (fun s : Int32 × oM => F_X9_finds_L80 (nI b) (nI d) s.1 s.2) oFuel (nI d, m1) = some m' ∧ (RI A B le mo (fE2 le mo d (mo + 1) le le) m' ∧ oAg S14 m1 m') := by
    intro d m1 d1 d2 H1 h1
    refine lp_run (P := fun e m' => RI A B le mo (fE2 le mo d e le le) m' ∧ oAg S14 m1 m') (by omega) (by omega) ⟨h1, oAg.rf⟩ ?_ ?_
    · rintro e m2 e1 e2 ⟨i2, g2⟩
      have H2 := H1.ag g2
      obtain ⟨m3, e3, i3, g3⟩ := l3 d e m2 d1 e1 e2 H2 i2
      refine ⟨m3, ?_, i3.cg (fun y => ?_), g2.tr g3⟩
      · show F_X9_finds_L80 (nI b) (nI d) (nI e) m2 = _
        unfold F_X9_finds_L80
        rw [H2.2.1, if_neg (nI_nlt (by omega) (by omega)), H2.1, o_b, e3, o_b, nI_1]
      · unfold fE2 fTwo fOne
        omega
    · rintro m2 ⟨-, g2⟩
      show F_X9_finds_L80 (nI b) (nI d) (nI (mo + 1)) m2 = _
      unfold F_X9_finds_L80
      rw [(H1.ag g2).2.1, if_pos (nI_lt (by omega) (by omega))]
  have h0 : RI A B le mo (fE2 le mo le le le le) m := h.cg (fun y => by
    unfold fE2 fTwo fOne
    omega)
  obtain ⟨m', q1, q2, q3⟩ := lp_run (f := fun s : Int32 × oM => F_X9_finds_L68 (nI b) s.1 s.2) (P := fun d m' => RI A B le mo (fE2 le mo d d le le) m' ∧ oAg S14 m m') (a := le) (mo := mo) (m := m) (by omega) (by omega) ⟨h0, oAg.rf⟩ (by
    rintro d m1 d1 d2 ⟨f1, g1⟩
    have H1 := hH.ag g1
    obtain ⟨m2, e2, f2, g2⟩ := l2 d m1 d1 d2 H1 f1
    refine ⟨m2, ?_, f2.cg (fun y => ?_), g1.tr g2⟩
    · show F_X9_finds_L68 (nI b) (nI d) m1 = _
      unfold F_X9_finds_L68
      rw [H1.2.1, if_neg (nI_nlt (by omega) (by omega)), e2, o_b, nI_1]
    · unfold fE2 fTwo fOne
      omega) (by
    rintro m1 ⟨-, g1⟩
    show F_X9_finds_L68 (nI b) (nI (mo + 1)) m1 = _
    unfold F_X9_finds_L68
    rw [(hH.ag g1).2.1, if_pos (nI_lt (by omega) (by omega))])
  refine ⟨m', q1, q2.cg (fun y => ⟨fun z => ?_, fun z => ?_⟩), q3⟩
  · rcases cand_12 z with w | w
    · exact Or.inl w
    · refine Or.inr ⟨w, ?_⟩
      unfold fTwo at w
      omega
  · rcases z with w | ⟨w, -⟩
    · exact one_cand w
    · exact two_cand w
theorem r_finds (hR : fRng A B le mo) (hb : b < 6) (hH : rH b A B le mo m) : ∃ m' c, F_X9_finds m (nI b) = some m' ∧ fBest A B le mo c ∧ rShow A B c m' ∧ oAg S14 m m' := by
  have hR' := hR
  unfold fRng at hR'
  have g0 : oAg S14 m (oSI m 51 14 0) := oAg.SI ⟨rfl, Nat.le_refl _⟩
  have H0 := hH.ag g0
  obtain ⟨m1, e1, f1, g1⟩ := r_find1 hR hb H0 (Or.inl ⟨fun d z => by
    obtain ⟨z1, z2⟩ := z
    unfold fOne at z1
    omega, SI_eq⟩)
  have H1 := H0.ag g1
  obtain ⟨m2, e2, f2, g2⟩ := r_find2 hR hb H1 f1
  rcases f2 with ⟨n1, -⟩ | ⟨c, -, c1, c2, c3⟩
  · exact absurd (show fCand le mo (le, 0, le, 0) from ⟨Nat.le_refl _, by show le ≤ mo; omega, Nat.le_refl _, by show le ≤ mo; omega, Or.inl ⟨rfl, rfl⟩⟩) (n1 _)
  · refine ⟨m2, c, ?_, ⟨c1, fun d hd hne => ?_⟩, c2, (g0.tr g1).tr g2⟩
    · unfold F_X9_finds
      rw [o_b, H0.1, o_b, e1, o_b, H1.1, o_b, e2, o_b]
    · rcases c3 d hd with z | z
      · exact absurd z hne
      · exact z
theorem fBest_uq {c d : oQ4} (h1 : fBest A B le mo c) (h2 : fBest A B le mo d) : c = d := by
  by_cases e : c = d
  · exact e
  · exact (fBet_as (h1.2 d h2.1 (fun z => e z.symm)) (h2.2 c h1.1 e)).elim
end FOUND5
