/-! train, what it writes -/
section TRAIN3
variable {m : oM} {V : oV}
def vTr (V : oV) (b n : Nat) (p : Nat → Int32) : oV := (V.1, V.2.1, (fun c => if c = b then n else vln V c, fun c k => if c = b then (p k).toInt.toNat else vpl V c k), V.2.2.2)
theorem tr_pl {p : Nat → Int32} {k : Nat} {V : oV} (h : isQ V (p k)) : nI (p k).toInt.toNat = p k ∧ (p k).toInt.toNat < vnp V := by
  have h2 := h.2
  have h1 := h.1
  refine ⟨?_, by omega⟩
  have r := i_rng (p k)
  rw [i_eq, nI_toInt (by omega)]
  omega
theorem vTr_wf (hw : WF V) {b n : Nat} (hb : b < vnb V) {p : Nat → Int32} (h : ∀ k, k < n → isQ V (p k)) (h3 : n ≤ 3) : WF (vTr V b n p) := by
  obtain ⟨a1, a2, a3, a4, a5, a6, a7, a8⟩ := hw
  refine ⟨a1, a2, a3, a4, fun c => ?_, fun c (hc : vnb V ≤ c) => ?_, fun c k (hcb : c < vnb V) hk => ?_, a8⟩
  · show (if c = b then n else vln V c) ≤ 3
    split
    · exact h3
    · exact a5 c
  · show (if c = b then n else vln V c) = 0
    rw [if_neg (by omega)]
    exact a6 c hc
  · show (if c = b then (p k).toInt.toNat else vpl V c k) < vnp V
    replace hk : k < (if c = b then n else vln V c) := hk
    by_cases e : c = b
    · rw [if_pos e] at hk ⊢
      exact (tr_pl (h k hk)).2
    · rw [if_neg e] at hk ⊢
      exact a7 c k hcb hk
theorem vTr_c {o : Nat} {m1 : oM} (hw : WF V) (hc : VC o m V) {b n : Nat} (hb : b < vnb V) (h3 : n ≤ 3) {p : Nat → Int32} (h : ∀ k, k < n → isQ V (p k)) (ag : oAg (fun q k => (q = o + 9 ∧ k = b) ∨ (q = o + 10 ∧ 3 * b ≤ k ∧ k < 3 * b + n) ∨ q < o ∨ o + 13 < q) m m1) (e1 : m1.1 (o + 9) b = nI n) (e2 : ∀ k, k < n → m1.1 (o + 10) (3 * b + k) = p k) : VC o m1 (vTr V b n p) := by
  obtain ⟨c1, c2, c3, c4, c5, c6, c7, c8, c9, c10, c11, c12⟩ := hc
  have w5 := hw.2.2.2.2.1
  have e : ∀ {q k : Nat} {v : Int32}, m.1 q k = v → ¬ ((q = o + 9 ∧ k = b) ∨ (q = o + 10 ∧ 3 * b ≤ k ∧ k < 3 * b + n) ∨ q < o ∨ o + 13 < q) → m1.1 q k = v := fun a b => (ag _ _ b).1.trans a
  refine ⟨e c1 (by omega), e c2 (by omega), e c3 (by omega), fun c hcb => ⟨e (c4 c hcb).1 (by omega), e (c4 c hcb).2 (by omega)⟩, fun c hcb => ?_, fun c k (hcb : c < vnb V) hk => ?_, fun q hq => ⟨e (c7 q hq).1 (by omega), e (c7 q hq).2.1 (by omega), e (c7 q hq).2.2.1 (by omega), e (c7 q hq).2.2.2 (by omega)⟩, e c8 (by omega), e c9 (by omega), e c10 (by omega), e c11 (by omega), fun i hi => ⟨e (c12 i hi).1 (by omega), e (c12 i hi).2 (by omega)⟩⟩
  · show m1.1 (o + 9) c = nI (if c = b then n else vln V c)
    by_cases k : c = b
    · rw [if_pos k, k, e1]
    · rw [if_neg k]
      exact e (c5 c hcb) (by omega)
  · show m1.1 (o + 10) (3 * c + k) = nI (if c = b then (p k).toInt.toNat else vpl V c k)
    replace hk : k < (if c = b then n else vln V c) := hk
    by_cases z : c = b
    · rw [if_pos z] at hk ⊢
      rw [z, e2 k hk, (tr_pl (h k hk)).1]
    · rw [if_neg z] at hk ⊢
      have := w5 c
      exact e (c6 c k hcb hk) (by omega)
theorem vTr_r {m1 : oM} (hw : WF V) (hr : VR 52 m V) {b n : Nat} (hb : b < vnb V) (h3 : n ≤ 3) {p : Nat → Int32} (h : ∀ k, k < n → isQ V (p k)) (ag : ∀ k, ¬ (k = 19 + b ∨ (25 + 3 * b ≤ k ∧ k < 25 + 3 * b + n)) → m1.1 52 k = m.1 52 k) (e1 : m1.1 52 (19 + b) = nI n) (e2 : ∀ k, k < n → m1.1 52 (25 + 3 * b + k) = p k) : VR 52 m1 (vTr V b n p) := by
  obtain ⟨r1, r2, r3, r4, r5, r6, r7, r8, r9, r10, r11, r12⟩ := hr
  obtain ⟨w1, w2, w3, -, w5, -⟩ := hw
  have e : ∀ {k : Nat} {v : Int32}, m.1 52 k = v → ¬ (k = 19 + b ∨ (25 + 3 * b ≤ k ∧ k < 25 + 3 * b + n)) → m1.1 52 k = v := fun a b => (ag _ b).trans a
  refine ⟨e r1 (by omega), e r2 (by omega), e r3 (by omega), fun c (hcb : c < vnb V) => ⟨e (r4 c hcb).1 (by omega), e (r4 c hcb).2 (by omega)⟩, fun c (hcb : c < vnb V) => ?_, fun c k (hcb : c < vnb V) hk => ?_, fun q (hq : q < vnp V) => ⟨e (r7 q hq).1 (by omega), e (r7 q hq).2.1 (by omega), e (r7 q hq).2.2.1 (by omega), e (r7 q hq).2.2.2 (by omega)⟩, e r8 (by omega), e r9 (by omega), e r10 (by omega), e r11 (by omega), fun i (hi : i < vps V) => ⟨e (r12 i hi).1 (by omega), e (r12 i hi).2 (by omega)⟩⟩
  · show m1.1 52 (19 + c) = nI (if c = b then n else vln V c)
    by_cases k : c = b
    · rw [if_pos k, k, e1]
    · rw [if_neg k]
      exact e (r5 c hcb) (by omega)
  · show m1.1 52 (25 + 3 * c + k) = nI (if c = b then (p k).toInt.toNat else vpl V c k)
    replace hk : k < (if c = b then n else vln V c) := hk
    by_cases z : c = b
    · rw [if_pos z] at hk ⊢
      rw [z, e2 k hk, (tr_pl (h k hk)).1]
    · rw [if_neg z] at hk ⊢
      have := w5 c
      exact e (r6 c k hcb hk) (by omega)
theorem p_train (h : Inv m) (x : Int32) : Wr (F_X8_train m x) (fun m => F_X9_train m x) := by
  have hI := h
  obtain ⟨⟨V, hw, hc, hr⟩, hk, ⟨n, hn, t1, t2, t3⟩, hp, hl, hf⟩ := h
  by_cases hB : isB V x
  · obtain ⟨b, hb, rfl⟩ := isB_of hB
    have hnb := hw.1
    have np4 : m.1 4 0 = nI (vnp V) := hc.np
    have cb := c_hasBody1 hc hw hB
    have hr1 : VR 52 (oSI m 43 0 0) V := hr
    have rb := r_isBody1 hr1 hw hB
    have s8 : (oSI m 43 0 0).1 51 8 = nI n := (SI_ne (by omega)).trans t2
    have empt : Inv (oSI (oSI m 43 0 0) 51 8 0) := by
      have ag : oAg (fun p k => (p = 43 ∧ k = 0) ∨ (p = 51 ∧ k = 8)) m (oSI (oSI m 43 0 0) 51 8 0) := (oAg.SI (by omega)).tr (oAg.SI (by omega))
      exact ⟨⟨V, hw, hc.ag ag (by omega), hr.ag ag (by omega)⟩, hk.ag ag (by omega) (by omega) (by omega) (by omega), ⟨0, by omega, rfl, rfl, fun i hi => absurd hi (by omega)⟩, hp.ag ag (by omega) (by omega) (by omega) (by omega), hl.ag ag (by omega) (by omega) (by omega) (by omega), hf.ag ag (by omega)⟩
    by_cases n0 : n = 0
    · have l0 : oLoop (fun s : Int32 => F_X6_faultAsTrain_L2 m (nI (vnp V)) s) oFuel 0 = some (.inl ()) := by
        refine oTo.run (k := 0) (oTo.done 0 ?_) (by omega)
        show F_X6_faultAsTrain_L2 m (nI (vnp V)) 0 = _
        unfold F_X6_faultAsTrain_L2
        rw [t1, n0, if_pos (by decide)]
      have fa : F_X6_faultAsTrain m (nI (vnp V)) = some 0 := by
        unfold F_X6_faultAsTrain
        rw [l0, o_b]
        show (if m.1 43 0 = 0 then some 0 else some (-1)) = _
        rw [t1, n0, if_pos (by decide)]
      have l1 : oLoop (fun s : Int32 × Int32 × Int32 => F_X9_train_L28 (oSI m 43 0 0) (nI b) s.1 s.2.1 s.2.2) oFuel (0, 0, 0) = some 0 := by
        refine oTo.run (k := 0) (oTo.done 0 ?_) (by omega)
        show F_X9_train_L28 (oSI m 43 0 0) (nI b) 0 0 0 = _
        unfold F_X9_train_L28
        rw [s8, n0, if_pos (by decide)]
      refine ⟨-100 - 0, oSI m 43 0 0, oSI (oSI m 43 0 0) 51 8 0, ?_, ?_, empt⟩
      · unfold F_X8_train
        rw [cb, o_b, if_neg i10, np4, fa, o_b, o_b, o_b, if_neg (by decide)]
      · show F_X9_train (oSI m 43 0 0) (nI b) = _
        unfold F_X9_train
        rw [rb, o_b, if_neg i10, s8, n0, if_pos (by decide)]
        unfold F_X9_train_J24
        rw [l1, o_b, o_b, o_b, if_neg (by decide)]
    · have nz : ¬ nI n = 0 := nI_ne0 (by omega) (by omega)
      obtain ⟨q, ft, a1, a2, a3⟩ := t_faultK hw hn t1 (nI b) n 0 (by omega) (fun j hj => absurd hj (by omega))
      have A : oLoop (fun s : Int32 => F_X6_faultAsTrain_L2 m (nI (vnp V)) s) oFuel 0 = some q := a1.run (by omega)
      have fa : F_X6_faultAsTrain m (nI (vnp V)) = some ft := by
        unfold F_X6_faultAsTrain
        rw [A, o_b]
        rcases a3 with ⟨z1, z2, -⟩ | ⟨z1, -⟩
        · rw [z1, z2]
          show (if m.1 43 0 = 0 then some 0 else some (-1)) = _
          rw [t1, if_neg nz]
        · rw [z1]
          rfl
      by_cases f1 : ft = -1
      · have ok : tOK V (tP m) n := by
          rcases a3 with ⟨-, -, z⟩ | ⟨-, z⟩
          · exact z
          · exact absurd f1 z
        have h3 : n ≤ 3 := by
          have := (ok (n - 1) (by omega)).1
          omega
        have okq : ∀ k, k < n → isQ V (tP m k) := fun k hk => (ok k hk).2.1
        generalize hm0 : oSI (oSI m 43 0 0) 10 b (nI n) = m0
        have g0 : oAg (fun q k => (q = 10 ∧ k = b) ∨ q = 43) m m0 := by
          rw [← hm0]
          exact (oAg.SI (by omega)).tr (oAg.SI (by omega))
        have e0 : m0.1 10 b = nI n := by
          rw [← hm0]
          exact SI_eq
        have e00 : m0.1 43 0 = 0 := by
          rw [← hm0, SI_ne (by omega)]
          exact SI_eq
        have gi := fun i => fF_ag 11 (3 * b) (tP m) m0 i
        have L := for_run (f := fun s : Int32 × oM => F_X8_train_L72 (nI b) (nI n) s.1 s.2) (fun i => (nI i, fF 11 (3 * b) (tP m) m0 i)) n (b := fF 11 (3 * b) (tP m) m0 n) (by
          intro i hi
          have k44 : (fF 11 (3 * b) (tP m) m0 i).1 44 i = m.1 44 i := ((gi i) 44 i (by omega)).1.trans (g0 44 i (by omega)).1
          show F_X8_train_L72 (nI b) (nI n) (nI i) (fF 11 (3 * b) (tP m) m0 i) = some (.inl (nI (i + 1), oSI (fF 11 (3 * b) (tP m) m0 i) 11 (3 * b + i) (tP m i)))
          unfold F_X8_train_L72 F_X6_pairTold F_X7_become
          rw [if_neg (nI_ge hi (by omega)), f_at (n := 60) rfl (by omega) (by omega), o_b, o_b, k44, show (9 + 2 : Nat) = 11 from rfl, ix_3, f_set (n := 18) rfl (by omega) (by omega), o_b, o_b, nI_1]
          rfl) (by
          show F_X8_train_L72 (nI b) (nI n) (nI n) _ = _
          unfold F_X8_train_L72
          rw [if_pos (nI_le (Nat.le_refl _) (by omega))]) (by omega)
        have L' : oLoop (fun s : Int32 × oM => F_X8_train_L72 (nI b) (nI n) s.1 s.2) oFuel (0, m0) = some (fF 11 (3 * b) (tP m) m0 n) := L
        have v1 := fun k (hk : k < n) => fF_at 11 (3 * b) (tP m) m0 k n hk
        have gn := gi n
        generalize hm1 : fF 11 (3 * b) (tP m) m0 n = m1 at L' v1 gn
        have g1 : oAg (fun q k => (q = 10 ∧ k = b) ∨ (q = 11 ∧ 3 * b ≤ k ∧ k < 3 * b + n) ∨ q = 43) m m1 := (g0.wk (by omega)).tr (gn.wk (by omega))
        have e1 : m1.1 10 b = nI n := (gn 10 b (by omega)).1.trans e0
        have e10 : m1.1 43 0 = 0 := (gn 43 0 (by omega)).1.trans e00
        have hr1' : VR 52 m1 V := hr.ag g1 (by omega)
        have s8' : m1.1 51 8 = nI n := (g1 51 8 (by omega)).1.trans t2
        have k55 : ∀ i, i < n → m1.1 55 i = m.1 44 i := fun i hi => (g1 55 i (by omega)).1.trans (t3 i hi).1
        have Bm : oLoop (fun s : Int32 × Int32 × Int32 => F_X9_train_L28 m1 (nI b) s.1 s.2.1 s.2.2) oFuel (0, -1, 0) = some ft := (a2 m1 ⟨hr1', s8', k55⟩).run (by omega)
        generalize hm2 : oSI m1 51 8 0 = m2
        have g2 : oAg (fun q k => q = 51 ∧ k = 8) m1 m2 := by
          rw [← hm2]
          exact oAg.SI ⟨rfl, rfl⟩
        have z2 : m2.1 51 8 = 0 := by
          rw [← hm2]
          exact SI_eq
        have gj := fun i => fF_ag 52 (25 + 3 * b) (tP m) m2 i
        have K := for_run (f := fun s : Int32 × oM => F_X9_train_L122 (nI b) (nI n) s.1 s.2) (fun i => (nI i, fF 52 (25 + 3 * b) (tP m) m2 i)) n (b := fF 52 (25 + 3 * b) (tP m) m2 n) (by
          intro i hi
          have k5 : (fF 52 (25 + 3 * b) (tP m) m2 i).1 55 i = m.1 44 i := (((gj i) 55 i (by omega)).1.trans (g2 55 i (by omega)).1).trans (k55 i hi)
          show F_X9_train_L122 (nI b) (nI n) (nI i) (fF 52 (25 + 3 * b) (tP m) m2 i) = some (.inl (nI (i + 1), oSI (fF 52 (25 + 3 * b) (tP m) m2 i) 52 (25 + 3 * b + i) (tP m i)))
          unfold F_X9_train_L122
          rw [if_neg (nI_ge hi (by omega)), a_ld (n := 60) rfl (by omega) (by omega), o_b, k5, ix_p, a_st sh52 (by omega) (by omega), o_b, nI_1]
          rfl) (by
          show F_X9_train_L122 (nI b) (nI n) (nI n) _ = _
          unfold F_X9_train_L122
          rw [if_pos (nI_le (Nat.le_refl _) (by omega))]) (by omega)
        have K' : oLoop (fun s : Int32 × oM => F_X9_train_L122 (nI b) (nI n) s.1 s.2) oFuel (0, m2) = some (fF 52 (25 + 3 * b) (tP m) m2 n) := K
        have v3 := fun k (hk : k < n) => fF_at 52 (25 + 3 * b) (tP m) m2 k n hk
        have g3 := gj n
        generalize hm3 : fF 52 (25 + 3 * b) (tP m) m2 n = m3 at K' v3 g3
        have ag2 : oAg (fun q k => q = 52 ∨ (q = 51 ∧ k = 8)) m1 (oSI m3 52 (19 + b) (nI n)) := ((g2.wk (by omega)).tr (g3.wk (by omega))).tr (oAg.SI (by omega))
        have ag : oAg (fun q k => q = 10 ∨ q = 11 ∨ q = 43 ∨ q = 52 ∨ (q = 51 ∧ k = 8)) m (oSI m3 52 (19 + b) (nI n)) := (g1.wk (by omega)).tr (ag2.wk (by omega))
        have ve : ∀ k, k < n → (oSI m3 52 (19 + b) (nI n)).1 52 (25 + 3 * b + k) = tP m k := fun k hk => (SI_ne (by omega)).trans (v3 k hk)
        refine ⟨nI n, m1, oSI m3 52 (19 + b) (nI n), ?_, ?_, ?_⟩
        · unfold F_X8_train F_X7_cut
          rw [cb, o_b, if_neg i10, np4, fa, o_b, o_b, o_b, if_pos f1, t1, show (9 + 1 : Nat) = 10 from rfl, f_set (n := 6) rfl (by omega) (by omega), o_b, o_b, hm0, L', o_b]
        · show F_X9_train m1 (nI b) = _
          unfold F_X9_train
          rw [r_isBody1 hr1' hw hB, o_b, if_neg i10, s8', if_neg nz]
          unfold F_X9_train_J24
          rw [Bm, o_b, s8', o_b, hm2, o_b, if_pos f1, K', o_b, ix (c := 19) (n := 19) rfl, a_st sh52 (by omega) (by omega), o_b]
        · refine ⟨⟨vTr V b n (tP m), vTr_wf hw hb okq h3, ?_, ?_⟩, hk.ag ag (by omega) (by omega) (by omega) (by omega), ⟨0, by omega, ?_, ?_, fun i hi => absurd hi (by omega)⟩, hp.ag ag (by omega) (by omega) (by omega) (by omega), hl.ag ag (by omega) (by omega) (by omega) (by omega), hf.ag ag (by omega)⟩
          · exact (vTr_c (o := 1) hw hc hb h3 okq (g1.wk (by omega)) e1 v1).ag ag2 (by omega)
          · exact vTr_r hw hr hb h3 okq (fun k hk => ((SI_ne (by omega)).trans (g3 52 k (by omega)).1).trans ((g2 52 k (by omega)).1.trans (g1 52 k (by omega)).1)) SI_eq ve
          · exact (ag2 43 0 (by omega)).1.trans e10
          · exact (SI_ne (by omega)).trans ((g3 51 8 (by omega)).1.trans z2)
      · refine ⟨-100 - ft, oSI m 43 0 0, oSI (oSI m 43 0 0) 51 8 0, ?_, ?_, empt⟩
        · unfold F_X8_train
          rw [cb, o_b, if_neg i10, np4, fa, o_b, o_b, o_b, if_neg f1]
        · have Bm : oLoop (fun s : Int32 × Int32 × Int32 => F_X9_train_L28 (oSI m 43 0 0) (nI b) s.1 s.2.1 s.2.2) oFuel (0, -1, 0) = some ft := (a2 _ ⟨hr1, s8, fun i hi => (SI_ne (by omega)).trans (t3 i hi).1⟩).run (by omega)
          show F_X9_train (oSI m 43 0 0) (nI b) = _
          unfold F_X9_train
          rw [rb, o_b, if_neg i10, s8, if_neg nz]
          unfold F_X9_train_J24
          rw [Bm, o_b, o_b, o_b, if_neg f1]
  · refine Wr.no (v := -1) hI ?_ ?_
    · unfold F_X8_train
      rw [c_hasBody0 hc hw hB, o_b, if_pos rfl]
    · show F_X9_train m x = _
      unfold F_X9_train
      rw [r_isBody0 hr hw hB, o_b, if_pos rfl]
end TRAIN3
