/-! copies: image, undo -/
theorem c_copy {p0 p1 n : Nat} (h0 : oShp p0 = .inr (0, n)) (h1 : oShp p1 = .inr (0, n)) (hn : n < 1000) (hne : p0 ≠ p1) (m : oM) :
    ∃ m', F_X8_copy p0 p1 m = some m' ∧ oAg (fun p k => p = p1 ∧ k < n) m m' ∧ ∀ i, i < n → m'.1 p1 i = m.1 p0 i := by
  have key : ∀ k, k ≤ n → ∃ s : Nat → oM, s 0 = m ∧ (∀ i, i ≤ k → oAg (fun p j => p = p1 ∧ j < i) m (s i) ∧ ∀ j, j < i → (s i).1 p1 j = m.1 p0 j) ∧ ∀ i, i < k → s (i + 1) = oSI (s i) p1 i ((s i).1 p0 i) := by
    intro k hk
    refine ⟨fun i => Nat.rec m (fun j t => oSI t p1 j (t.1 p0 j)) i, rfl, ?_, fun i _ => rfl⟩
    intro i
    induction i with
    | zero => exact fun _ => ⟨oAg.rf, fun j hj => absurd hj (by omega)⟩
    | succ i ih =>
      intro hi
      obtain ⟨g, v⟩ := ih (by omega)
      refine ⟨(g.wk (fun p j h => ⟨h.1, by omega⟩)).tr (oAg.SI ⟨rfl, by omega⟩), fun j hj => ?_⟩
      by_cases e : j = i
      · subst e
        exact SI_eq.trans (g p0 j (fun z => hne z.1)).1
      · exact (SI_ne (fun z => e z.2)).trans (v j (by omega))
  obtain ⟨s, s0, s1, s2⟩ := key n (Nat.le_refl _)
  obtain ⟨g, v⟩ := s1 n (Nat.le_refl _)
  refine ⟨s n, ?_, g, v⟩
  have l0 := (oLn_of h0).1
  have l1 := (oLn_of h1).1
  unfold F_X8_copy
  have L := for_run (f := fun z : Int32 × oM => F_X8_copy_L2 p0 p1 z.1 z.2) (fun i => (nI i, s i)) n (b := s n) ?_ ?_ (by omega)
  · have L' : oLoop (fun z : Int32 × oM => F_X8_copy_L2 p0 p1 z.1 z.2) oFuel (0, m) = some (s n) := by
      rw [s0] at L
      exact L
    rw [L', o_b]
  · intro i hi
    show F_X8_copy_L2 p0 p1 (nI i) (s i) = some (.inl (nI (i + 1), s (i + 1)))
    unfold F_X8_copy_L2
    rw [l0, l1, if_neg (show ¬ Int32.ofNat n ≤ nI i from nI_ge hi (by omega)), if_neg (show ¬ Int32.ofNat n ≤ nI i from nI_ge hi (by omega)), a_ld h0 hi hn, o_b, a_st h1 hi hn, o_b, nI_1, s2 i hi]
  · show F_X8_copy_L2 p0 p1 (nI n) (s n) = _
    unfold F_X8_copy_L2
    rw [l0, if_pos (show Int32.ofNat n ≤ nI n from nI_le (Nat.le_refl _) (by omega))]
/-- what has been copied from q to o -/
def CR (o q : Nat) (m m' : oM) (D : Nat → Nat → Prop) : Prop := oAg (fun p _ => o ≤ p ∧ p ≤ o + 13) m m' ∧ ∀ d k, D d k → m'.1 (o + d) k = m.1 (q + d) k
def oFar (o q : Nat) : Prop := q + 13 < o ∨ o + 13 < q
theorem CR.src {o q : Nat} {m m' : oM} {D : Nat → Nat → Prop} (h : CR o q m m' D) (hf : oFar o q) {d : Nat} (hd : d ≤ 13) (k : Nat) : m'.1 (q + d) k = m.1 (q + d) k := by
  refine (h.1 (q + d) k ?_).1
  unfold oFar at hf
  omega
theorem CR.si {o q : Nat} {m m' : oM} {D : Nat → Nat → Prop} (h : CR o q m m' D) (hf : oFar o q) {d : Nat} (hd : d ≤ 13) (k : Nat) {x : Int32} (hx : x = m'.1 (q + d) k) : CR o q m (oSI m' (o + d) k x) (fun d' k' => D d' k' ∨ (d' = d ∧ k' = k)) := by
  refine ⟨h.1.tr (oAg.SI ⟨by omega, by omega⟩), fun d' k' hD => ?_⟩
  have e := h.src hf hd k
  by_cases c : d' = d ∧ k' = k
  · rw [c.1, c.2, SI_eq, hx, e]
  · rw [SI_ne (by omega)]
    rcases hD with z | z
    · exact h.2 d' k' z
    · exact absurd z c
theorem CR.cp {o q : Nat} {m m' : oM} {D : Nat → Nat → Prop} (h : CR o q m m' D) (hf : oFar o q) {d n : Nat} (hd : d ≤ 13) (h0 : oShp (q + d) = .inr (0, n)) (h1 : oShp (o + d) = .inr (0, n)) (hn : n < 1000) :
    ∃ m'', F_X8_copy (q + d) (o + d) m' = some m'' ∧ CR o q m m'' (fun d' k' => D d' k' ∨ (d' = d ∧ k' < n)) := by
  have hne : q + d ≠ o + d := by
    unfold oFar at hf
    omega
  obtain ⟨m'', e, g, v⟩ := c_copy h0 h1 hn hne m'
  refine ⟨m'', e, h.1.tr (g.wk (fun p k z => ⟨by omega, by omega⟩)), fun d' k' hD => ?_⟩
  by_cases c : d' = d ∧ k' < n
  · rw [c.1, v k' c.2, h.src hf hd]
  · rw [(g (o + d') k' (fun z => c ⟨by omega, z.2⟩)).1]
    rcases hD with z | z
    · exact h.2 d' k' z
    · exact absurd z c
def oShapes (o : Nat) : Prop := oShp (o + 1) = .inr (0, 6) ∧ oShp (o + 2) = .inr (0, 6) ∧ oShp (o + 4) = .inr (0, 10) ∧ oShp (o + 5) = .inr (0, 10) ∧ oShp (o + 6) = .inr (0, 10) ∧ oShp (o + 7) = .inr (0, 10) ∧ oShp (o + 9) = .inr (0, 6) ∧ oShp (o + 10) = .inr (0, 18) ∧ oShp (o + 12) = .inr (0, 8) ∧ oShp (o + 13) = .inr (0, 8)
theorem shapes1 : oShapes 1 := ⟨rfl, rfl, rfl, rfl, rfl, rfl, rfl, rfl, rfl, rfl⟩
theorem shapes15 : oShapes 15 := ⟨rfl, rfl, rfl, rfl, rfl, rfl, rfl, rfl, rfl, rfl⟩
theorem shapes29 : oShapes 29 := ⟨rfl, rfl, rfl, rfl, rfl, rfl, rfl, rfl, rfl, rfl⟩
theorem c_copyFrom {o q : Nat} (hf : oFar o q) (so : oShapes o) (sq : oShapes q) {m : oM} {V : oV} (hw : WF V) (h : VC q m V) :
    ∃ m', F_X1_copyFrom o q m = some m' ∧ oAg (fun p _ => o ≤ p ∧ p ≤ o + 13) m m' ∧ VC o m' V := by
  obtain ⟨o1, o2, o4, o5, o6, o7, o9, o10, o12, o13⟩ := so
  obtain ⟨q1, q2, q4, q5, q6, q7, q9, q10, q12, q13⟩ := sq
  have C0 : CR o q m m (fun _ _ => False) := ⟨oAg.rf, fun d k z => z.elim⟩
  have C1 := C0.si hf (d := 0) (by omega) 0 rfl
  obtain ⟨m2, e2, C2⟩ := C1.cp hf (d := 1) (by omega) q1 o1 (by omega)
  obtain ⟨m3, e3, C3⟩ := C2.cp hf (d := 2) (by omega) q2 o2 (by omega)
  have C4 := C3.si hf (d := 0) (by omega) 3 rfl
  have C5 := C4.si hf (d := 0) (by omega) 4 rfl
  have C6 := C5.si hf (d := 3) (by omega) 0 rfl
  obtain ⟨m7, e7, C7⟩ := C6.cp hf (d := 4) (by omega) q4 o4 (by omega)
  obtain ⟨m8, e8, C8⟩ := C7.cp hf (d := 5) (by omega) q5 o5 (by omega)
  obtain ⟨m9, e9, C9⟩ := C8.cp hf (d := 6) (by omega) q6 o6 (by omega)
  obtain ⟨m10, e10, C10⟩ := C9.cp hf (d := 7) (by omega) q7 o7 (by omega)
  obtain ⟨m11, e11, C11⟩ := C10.cp hf (d := 9) (by omega) q9 o9 (by omega)
  obtain ⟨m12, e12, C12⟩ := C11.cp hf (d := 10) (by omega) q10 o10 (by omega)
  have C13 := C12.si hf (d := 0) (by omega) 7 rfl
  have b8 := C13.src hf (d := 0) (by omega) 8
  have C14 := C13.si hf (d := 0) (by omega) 8 rfl
  have C15 := C14.si hf (d := 11) (by omega) 0 rfl
  obtain ⟨m16, e16, C16⟩ := C15.cp hf (d := 12) (by omega) q12 o12 (by omega)
  obtain ⟨m17, e17, C17⟩ := C16.cp hf (d := 13) (by omega) q13 o13 (by omega)
  refine ⟨m17, ?_, C17.1, ?_⟩
  · simp only [Nat.add_zero] at *
    have hb : m.1 q 8 = 0 ∨ m.1 q 8 = 1 := by
      rw [h.ba]
      exact hw.2.2.2.2.2.2.2.2.2.2.2.2.2.1
    unfold F_X1_copyFrom
    rw [o_b, e2, o_b, e3, o_b, o_b, o_b]
    unfold F_X2_copyFrom
    rw [o_b, show q + 3 + 1 = q + 4 from rfl, show o + 3 + 1 = o + 4 from rfl, e7, o_b, show q + 3 + 2 = q + 5 from rfl, show o + 3 + 2 = o + 5 from rfl, e8, o_b, show q + 3 + 3 = q + 6 from rfl, show o + 3 + 3 = o + 6 from rfl, e9, o_b, show q + 3 + 4 = q + 7 from rfl, show o + 3 + 4 = o + 7 from rfl, e10, o_b, o_b]
    unfold F_X7_copyFrom
    rw [show q + 8 + 1 = q + 9 from rfl, show o + 8 + 1 = o + 9 from rfl, e11, o_b, show q + 8 + 2 = q + 10 from rfl, show o + 8 + 2 = o + 10 from rfl, e12, o_b, o_b, o_b]
    unfold oPZ
    rw [b8, if_pos hb, o_b]
    unfold F_X3_copyFrom
    rw [← b8, o_b, show q + 11 + 1 = q + 12 from rfl, show o + 11 + 1 = o + 12 from rfl, e16, o_b, show q + 11 + 2 = q + 13 from rfl, show o + 11 + 2 = o + 13 from rfl, e17, o_b, o_b]
  · have fin := C17.2
    simp only [false_or] at fin
    obtain ⟨w1, w2, w3, -, w5, -⟩ := hw
    obtain ⟨h1, h2, h3, h4, h5, h6, h7, h8, h9, h10, h11, h12⟩ := h
    refine ⟨(fin 0 0 (by omega)).trans h1, (fin 3 0 (by omega)).trans h2, (fin 11 0 (by omega)).trans h3, fun b hb => ⟨(fin 1 b (by omega)).trans (h4 b hb).1, (fin 2 b (by omega)).trans (h4 b hb).2⟩, fun b hb => (fin 9 b (by omega)).trans (h5 b hb), fun b k hb hk => (fin 10 (3 * b + k) (by have := w5 b; omega)).trans (h6 b k hb hk),
      fun p hp => ⟨(fin 4 p (by omega)).trans (h7 p hp).1, (fin 5 p (by omega)).trans (h7 p hp).2.1, (fin 6 p (by omega)).trans (h7 p hp).2.2.1, (fin 7 p (by omega)).trans (h7 p hp).2.2.2⟩, (fin 0 3 (by omega)).trans h8, (fin 0 4 (by omega)).trans h9, (fin 0 7 (by omega)).trans h10, (fin 0 8 (by omega)).trans h11, fun i hi => ⟨(fin 12 i (by omega)).trans (h12 i hi).1, (fin 13 i (by omega)).trans (h12 i hi).2⟩⟩
theorem r_copies {p0 p1 : Nat} (h0 : oShp p0 = .inr (0, 99)) (h1 : oShp p1 = .inr (0, 99)) (hne : p0 ≠ p1) (m : oM) :
    ∃ m', F_X9_copies p0 p1 m = some m' ∧ oAg (fun p k => p = p1 ∧ k < 99) m m' ∧ ∀ i, i < 99 → m'.1 p1 i = m.1 p0 i := by
  have key : ∃ s : Nat → oM, s 0 = m ∧ (∀ i, oAg (fun p j => p = p1 ∧ j < i) m (s i) ∧ ∀ j, j < i → (s i).1 p1 j = m.1 p0 j) ∧ ∀ i, s (i + 1) = oSI (s i) p1 i ((s i).1 p0 i) := by
    refine ⟨fun i => Nat.rec m (fun j t => oSI t p1 j (t.1 p0 j)) i, rfl, ?_, fun i => rfl⟩
    intro i
    induction i with
    | zero => exact ⟨oAg.rf, fun j hj => absurd hj (by omega)⟩
    | succ i ih =>
      obtain ⟨g, v⟩ := ih
      refine ⟨(g.wk (fun p j h => ⟨h.1, by omega⟩)).tr (oAg.SI ⟨rfl, by omega⟩), fun j hj => ?_⟩
      by_cases e : j = i
      · subst e
        exact SI_eq.trans (g p0 j (fun z => hne z.1)).1
      · exact (SI_ne (fun z => e z.2)).trans (v j (by omega))
  obtain ⟨s, s0, s1, s2⟩ := key
  obtain ⟨g, v⟩ := s1 99
  refine ⟨s 99, ?_, g, v⟩
  unfold F_X9_copies
  have L := for_run (f := fun z : Int32 × oM => F_X9_copies_L2 p0 p1 z.1 z.2) (fun i => (nI i, s i)) 99 (b := s 99) ?_ ?_ (by omega)
  · have L' : oLoop (fun z : Int32 × oM => F_X9_copies_L2 p0 p1 z.1 z.2) oFuel (0, m) = some (s 99) := by
      rw [s0] at L
      exact L
    rw [L', o_b]
  · intro i hi
    show F_X9_copies_L2 p0 p1 (nI i) (s i) = some (.inl (nI (i + 1), s (i + 1)))
    unfold F_X9_copies_L2
    rw [if_neg (show ¬ (99 : Int32) ≤ nI i from nI_ge (b := 99) hi (by omega)), a_ld h0 hi (by omega), o_b, a_st h1 hi (by omega), o_b, nI_1, s2 i]
  · show F_X9_copies_L2 p0 p1 (nI 99) (s 99) = _
    unfold F_X9_copies_L2
    rw [if_pos (by decide)]
theorem VR.cp {p0 p1 : Nat} {m m' : oM} {V : oV} (hw : WF V) (h : VR p0 m V) (v : ∀ i, i < 99 → m'.1 p1 i = m.1 p0 i) : VR p1 m' V := by
  obtain ⟨w1, w2, w3, -, w5, -⟩ := hw
  obtain ⟨r1, r2, r3, r4, r5, r6, r7, r8, r9, r10, r11, r12⟩ := h
  exact ⟨(v _ (by omega)).trans r1, (v _ (by omega)).trans r2, (v _ (by omega)).trans r3, fun b hb => ⟨(v _ (by omega)).trans (r4 b hb).1, (v _ (by omega)).trans (r4 b hb).2⟩, fun b hb => (v _ (by omega)).trans (r5 b hb), fun b k hb hk => (v _ (by have := w5 b; omega)).trans (r6 b k hb hk),
    fun p hp => ⟨(v _ (by omega)).trans (r7 p hp).1, (v _ (by omega)).trans (r7 p hp).2.1, (v _ (by omega)).trans (r7 p hp).2.2.1, (v _ (by omega)).trans (r7 p hp).2.2.2⟩, (v _ (by omega)).trans r8, (v _ (by omega)).trans r9, (v _ (by omega)).trans r10, (v _ (by omega)).trans r11, fun i hi => ⟨(v _ (by omega)).trans (r12 i hi).1, (v _ (by omega)).trans (r12 i hi).2⟩⟩
theorem p_image {m : oM} (h : Inv m) : Wr (F_X8_image m) (fun m => F_X9_image m) := by
  obtain ⟨⟨V, hw, hc, hr⟩, hk, ht, hp, hl, hf⟩ := h
  obtain ⟨m1, e1, g1, c1⟩ := c_copyFrom (o := 15) (q := 1) (Or.inl (by omega)) shapes15 shapes1 hw hc
  obtain ⟨m2, e2, g2, v2⟩ := r_copies (p0 := 52) (p1 := 53) rfl rfl (by omega) (oSI m1 0 3 1)
  have n1 : (oSI m1 0 3 1).1 1 0 = nI (vnb V) := by
    rw [SI_ne (by omega), (g1 1 0 (by omega)).1, hc.nb]
  have r52 : VR 52 (oSI m1 0 3 1) V := (hr.ag g1 (by omega)).ag (oAg.SI (S := fun p k => p = 0 ∧ k = 3) ⟨rfl, rfl⟩) (by omega)
  have n2 : (oSI m2 51 3 1).1 52 0 = nI (vnb V) := by
    rw [SI_ne (by omega), (g2 52 0 (by omega)).1, r52.nb]
  refine ⟨nI (vnb V), oSI m1 0 3 1, oSI m2 51 3 1, ?_, ?_, ?_⟩
  · unfold F_X8_image
    rw [e1, o_b, o_b, n1]
  · show F_X9_image (oSI m1 0 3 1) = _
    unfold F_X9_image
    rw [e2, o_b, o_b, n2]
  · have ag : oAg (fun p k => (15 ≤ p ∧ p ≤ 28) ∨ (p = 0 ∧ k = 3) ∨ p = 53 ∨ (p = 51 ∧ k = 3)) m (oSI m2 51 3 1) := (((g1.wk (by omega)).tr (oAg.SI (by omega))).tr (g2.wk (by omega))).tr (oAg.SI (by omega))
    have ag2 : oAg (fun p k => (p = 0 ∧ k = 3) ∨ p = 53 ∨ (p = 51 ∧ k = 3)) m1 (oSI m2 51 3 1) := ((oAg.SI (by omega)).tr (g2.wk (by omega))).tr (oAg.SI (by omega))
    refine ⟨⟨V, hw, hc.ag ag (by omega), hr.ag ag (by omega)⟩, Or.inr ⟨?_, SI_eq, V, hw, c1.ag ag2 (by omega), ?_⟩, ht.ag ag (by omega) (by omega) (by omega) (by omega), hp.ag ag (by omega) (by omega) (by omega) (by omega), hl.ag ag (by omega) (by omega) (by omega) (by omega), hf.ag ag (by omega)⟩
    · rw [SI_ne (by omega), (g2 0 3 (by omega)).1, SI_eq]
    · exact (VR.cp hw r52 v2).ag (oAg.SI (S := fun p k => p = 51 ∧ k = 3) ⟨rfl, rfl⟩) (by omega)
theorem p_undo {m : oM} (h : Inv m) : Wr (F_X8_undo m) (fun m => F_X9_undo m) := by
  have hI := h
  obtain ⟨⟨V, hw, hc, hr⟩, hk, ht, hp, hl, hf⟩ := h
  rcases hk with ⟨k1, k2⟩ | ⟨k1, k2, V2, hw2, hc2, hr2⟩
  · refine Wr.no (v := -3) hI ?_ ?_
    · unfold F_X8_undo
      rw [k1, if_pos rfl]
    · show F_X9_undo m = _
      unfold F_X9_undo
      rw [k2, if_pos rfl]
  · obtain ⟨m1, e1, g1, c1⟩ := c_copyFrom (o := 1) (q := 15) (Or.inr (by omega)) shapes1 shapes15 hw2 hc2
    obtain ⟨m2, e2, g2, v2⟩ := r_copies (p0 := 53) (p1 := 52) rfl rfl (by omega) m1
    have r53 : VR 53 m1 V2 := hr2.ag g1 (by omega)
    have r52 : VR 52 m2 V2 := VR.cp hw2 r53 v2
    have f1 : m1.1 51 3 = 1 := by rw [(g1 51 3 (by omega)).1, k2]
    refine ⟨nI (vnb V2), m1, m2, ?_, ?_, ?_⟩
    · unfold F_X8_undo
      rw [k1, if_neg i10, e1, o_b, c1.nb]
    · show F_X9_undo m1 = _
      unfold F_X9_undo
      rw [f1, if_neg i10, e2, o_b, r52.nb]
    · exact hI.now ((g1.wk (fun p k z => Or.inl (by omega))).tr (g2.wk (fun p k z => Or.inr (Or.inl z.1)))) hw2 (c1.ag g2 (by omega)) r52
