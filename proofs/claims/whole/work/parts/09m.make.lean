/-! THE MAKING. A part of the world, N cells of it; fields that hold references hold null till their slot's number is 1 -/
def oFv (b : Nat) (q : Nat × Nat) (x : Int32) (y : Int64) : Value := if q.1 = 0 then .int x else if q.1 = 1 then .long y else if x = 0 then .null else .ref (b + q.2)
def oFm (b : Nat) (f : Nat → Int32) (g : Nat → Int64) : Nat → List (Nat × Nat) → List Value
  | _, [] => []
  | k, q :: r => oFv b q (f k) (g k) :: oFm b f g (k + 1) r
def oEm (G : oG) (m : oM) (p : Nat) : va_E := match oShp p with
  | .inl o => .inr (o.1, oFm (oB G) (m.1 p) (m.2 p) 0 o.2)
  | .inr o => if o.1 = 0 then .inl (oCI G, o.2, .inl (m.1 p)) else .inl (oCL G, o.2, .inr (.inl (m.2 p)))
def oWm (G : oG) (N : Nat) (m : oM) : va_W := (List.range N).map (fun p => (oB G + p, oEm G m p))
def oZr (N : Nat) (m : oM) : Prop := ∀ p, N ≤ p → m.1 p = (fun _ => 0) ∧ m.2 p = (fun _ => 0)
theorem oZr_le {N N' : Nat} {m : oM} (h : N ≤ N') (hz : oZr N m) : oZr N' m := fun p hp => hz p (Nat.le_trans h hp)
theorem oZr_SI {N p k : Nat} {m : oM} {x : Int32} (h : p < N) (hz : oZr N m) : oZr N (oSI m p k x) := by
  intro q hq
  refine ⟨?_, (hz q hq).2⟩
  rw [← (hz q hq).1]
  funext j
  show (if q = p ∧ j = k then x else m.1 q j) = m.1 q j
  rw [if_neg (by omega)]
theorem oZr_SL {N p k : Nat} {m : oM} {x : Int64} (h : p < N) (hz : oZr N m) : oZr N (oSL m p k x) := by
  intro q hq
  refine ⟨(hz q hq).1, ?_⟩
  rw [← (hz q hq).2]
  funext j
  show (if q = p ∧ j = k then x else m.2 q j) = m.2 q j
  rw [if_neg (by omega)]
theorem oFm_len (b : Nat) (f : Nat → Int32) (g : Nat → Int64) : ∀ (l : List (Nat × Nat)) (k : Nat), (oFm b f g k l).length = l.length
  | [], _ => rfl
  | a :: l, k => by simp [oFm, oFm_len b f g l (k + 1)]
theorem oFm_at (b : Nat) (f : Nat → Int32) (g : Nat → Int64) : ∀ (l : List (Nat × Nat)) (k j : Nat) (q : Nat × Nat), l[j]? = some q → (oFm b f g k l)[j]? = some (oFv b q (f (k + j)) (g (k + j)))
  | [], k, j, q, h => by simp at h
  | a :: l, k, 0, q, h => by
    simp at h
    subst h
    simp [oFm]
  | a :: l, k, j + 1, q, h => by
    simp at h
    have := oFm_at b f g l (k + 1) j q h
    simp only [oFm, List.getElem?_cons_succ]
    rw [this, show k + 1 + j = k + (j + 1) by omega]
theorem oFm_set (b : Nat) (f f' : Nat → Int32) (g g' : Nat → Int64) : ∀ (l : List (Nat × Nat)) (k j : Nat) (q : Nat × Nat), l[j]? = some q → (∀ i, i ≠ k + j → f' i = f i) → (∀ i, i ≠ k + j → g' i = g i) →
    oFm b f' g' k l = (oFm b f g k l).set j (oFv b q (f' (k + j)) (g' (k + j)))
  | [], k, j, q, h, _, _ => by simp at h
  | a :: l, k, 0, q, h, hf, hg => by
    simp at h
    subst h
    have hx : ∀ (l : List (Nat × Nat)) (n : Nat), k < n → oFm b f' g' n l = oFm b f g n l := by
      intro l
      induction l with
      | nil => intro n _; rfl
      | cons c l ih =>
        intro n hn
        simp only [oFm]
        rw [ih (n + 1) (by omega), hf n (by omega), hg n (by omega)]
    simp only [oFm, List.set_cons_zero]
    rw [hx l (k + 1) (by omega)]
    rfl
  | a :: l, k, j + 1, q, h, hf, hg => by
    simp at h
    have := oFm_set b f f' g g' l (k + 1) j q h (fun i hi => hf i (by omega)) (fun i hi => hg i (by omega))
    simp only [oFm, List.set_cons_succ]
    rw [this, show k + 1 + j = k + (j + 1) by omega, hf k (by omega), hg k (by omega)]
theorem oWm_len (G : oG) (N : Nat) (m : oM) : (oWm G N m).length = N := by simp [oWm]
theorem oWm_at (G : oG) (m : oM) {N p : Nat} (h : p < N) : (oWm G N m)[p]? = some (oB G + p, oEm G m p) := by
  unfold oWm
  rw [List.getElem?_map, List.getElem?_range h]
  rfl
theorem oWm_succ (G : oG) (N : Nat) (m : oM) : oWm G (N + 1) m = oWm G N m ++ [(oB G + N, oEm G m N)] := by
  unfold oWm
  rw [List.range_succ, List.map_append]
  rfl
theorem oWm_D (G : oG) (N : Nat) (m : oM) : va_D (oA G) (oWm G N m) := by
  have key : ∀ (k : Nat) (q : Nat × va_E), (oWm G N m)[k]? = some q → q.1 = oB G + k := by
    intro k q h
    have hk : k < N := by
      have := (List.getElem?_eq_some_iff.mp h).1
      rwa [oWm_len] at this
    rw [oWm_at G m hk] at h
    cases h
    rfl
  refine ⟨fun i j x y hi hj hxy => ?_, fun k q hk => ?_⟩
  · rw [key i x hi, key j y hj] at hxy
    omega
  · show oB G ≤ q.1
    rw [key k q hk]
    omega
theorem oWm_set (G : oG) (N : Nat) (m m' : oM) (p : Nat) (h : p < N) (hn : ∀ q, q ≠ p → oEm G m' q = oEm G m q) : (oWm G N m).set p (oB G + p, oEm G m' p) = oWm G N m' := by
  apply List.ext_getElem?
  intro k
  by_cases hk : k = p
  · subst hk
    rw [List.getElem?_set_self (by rw [oWm_len]; exact h), oWm_at G m' h]
  · rw [List.getElem?_set_ne (Ne.symm hk)]
    by_cases h2 : k < N
    · rw [oWm_at G m h2, oWm_at G m' h2, hn k hk]
    · rw [List.getElem?_eq_none (by rw [oWm_len]; omega), List.getElem?_eq_none (by rw [oWm_len]; omega)]
theorem oEm_SI_ne (G : oG) (m : oM) (p k : Nat) (x : Int32) (q : Nat) (h : q ≠ p) : oEm G (oSI m p k x) q = oEm G m q := by
  unfold oEm
  have : (oSI m p k x).1 q = m.1 q := by
    funext j
    simp [oSI, h]
  rw [this]
  rfl
theorem oEm_SL_ne (G : oG) (m : oM) (p k : Nat) (x : Int64) (q : Nat) (h : q ≠ p) : oEm G (oSL m p k x) q = oEm G m q := by
  unfold oEm
  have : (oSL m p k x).2 q = m.2 q := by
    funext j
    simp [oSL, h]
  rw [this]
  rfl
theorem oEm_f (G : oG) (m m' : oM) {p k ci : Nat} {fs : List (Nat × Nat)} {q : Nat × Nat} (hs : oShp p = .inl (ci, fs)) (hk : fs[k]? = some q) (hf : ∀ i, i ≠ k → m'.1 p i = m.1 p i) (hg : ∀ i, i ≠ k → m'.2 p i = m.2 p i) :
    oEm G m' p = .inr (ci, (oFm (oB G) (m.1 p) (m.2 p) 0 fs).set k (oFv (oB G) q (m'.1 p k) (m'.2 p k))) := by
  unfold oEm
  rw [hs]
  have := oFm_set (oB G) (m.1 p) (m'.1 p) (m.2 p) (m'.2 p) fs 0 k q hk (fun i hi => hf i (by omega)) (fun i hi => hg i (by omega))
  rw [Nat.zero_add] at this
  show Sum.inr (ci, oFm (oB G) (m'.1 p) (m'.2 p) 0 fs) = _
  rw [this]
theorem oEm_SI_a (G : oG) (m : oM) {p k n : Nat} (x : Int32) (hs : oShp p = .inr (0, n)) : oEm G (oSI m p k x) p = .inl (oCI G, n, .inl (upd (m.1 p) k x)) := by
  unfold oEm
  rw [hs]
  have : (oSI m p k x).1 p = upd (m.1 p) k x := by
    funext j
    simp [oSI, upd]
  rw [this]
  rfl
/-- a stretch of a method that makes: from N cells to N', by cs to cs' cells and sl to sl' slots made since its entry -/
def oSeg (G : oG) (M : oD) (N cs sl pc : Nat) (lv : List (Nat × Value)) (st : List Value) (m : oM) (N' cs' sl' pc' : Nat) (lv' : List (Nat × Value)) (m' : oM) : Prop :=
  ∀ (p : Program) (e : Env) (R : Room) (s : State) (mi : MethodId) (args : Array Value) (below : List Frame) (meth : Method) (c : Code) (H : Heap) (locs : List Loc) (ls : Array Slot) (Q : State → Prop),
    oC G M p R s mi args c → (M.1.name = "<init>" → meth.name = "<init>") → s.heap.size + cs = oB G + N → va_P (oDD G) vwCl (oWm G N m) H → va_S (oA G) s.heap H locs → lv_has ls M.2.2.1 (oLv G lv) → cs' ≤ R.cells → sl' ≤ R.slots → oZr N m →
    (∀ (H' : Heap) (locs' : List Loc) (ls' : Array Slot), va_P (oDD G) vwCl (oWm G N' m') H' → va_S (oA G) s.heap H' locs' → lv_has ls' M.2.2.1 (oLv G lv') → oZr N' m' →
      W p (oL G) e R s mi args below meth c H' locs' cs' sl' Q (F0 mi pc' ls' [])) →
    W p (oL G) e R s mi args below meth c H locs cs sl Q (F0 mi pc ls (st.map (oCv G)))
section OSEG
variable {G : oG} {M : oD} {N cs sl pc : Nat} {lv : List (Nat × Value)} {st : List Value} {m : oM} {N' cs' sl' pc' : Nat} {lv' : List (Nat × Value)} {m' : oM}
theorem oSeg.done : oSeg G M N cs sl pc lv [] m N cs sl pc lv m := by
  intro p e R s mi args below meth c H locs ls Q C hnm hsz hP hS hl hcr hsr hz hr
  exact hr H locs ls hP hS hl hz
theorem oWm_size {p : Program} {e : Env} {R : Room} {s : State} {mi : MethodId} {args : Array Value} {below : List Frame} {meth : Method} {c : Code} {H : Heap} {locs : List Loc} {T : State} (hsz : s.heap.size + cs = oB G + N) (hP : va_P (oDD G) vwCl (oWm G N m) H) (hS : va_S (oA G) s.heap H locs) (h0 : N = 0 → cs = 0) (hT : T.heap = H) (X : Stand p (oL G) e R s mi args below meth c T locs cs sl) : H.size = oB G + N := by
  have h1 := X.heapSize
  rw [hT] at h1
  by_cases hN : N = 0
  · have := h0 hN
    have := hS.1
    omega
  · have h2 := (hP (N - 1) _ (oWm_at G m (by omega))).lt
    have h3 : oB G + (N - 1) < H.size := h2
    omega
theorem oSeg.iconst {i : Int} {v : Int32} (n : Nat) (hd : decode M.2.1 pc = .ok (.iconst i, 1)) (hv : Int32.ofInt i = v) (hn : pc + 1 = n) (k : oSeg G M N cs sl n lv (.int v :: st) m N' cs' sl' pc' lv' m') : oSeg G M N cs sl pc lv st m N' cs' sl' pc' lv' m' := by
  subst hn
  intro p e R s mi args below meth c H locs ls Q C hnm hsz hP hS hl hcr hsr hz hr
  exact lv_iconst C.1 C.2.1 hd hv (k p e R s mi args below meth c H locs ls Q C hnm hsz hP hS hl hcr hsr hz hr)
theorem oSeg.bipush {i : Int} {v : Int32} (n : Nat) (hd : decode M.2.1 pc = .ok (.bipush i, 2)) (hv : (Int8.ofInt i).toInt32 = v) (hn : pc + 2 = n) (k : oSeg G M N cs sl n lv (.int v :: st) m N' cs' sl' pc' lv' m') : oSeg G M N cs sl pc lv st m N' cs' sl' pc' lv' m' := by
  subst hn
  intro p e R s mi args below meth c H locs ls Q C hnm hsz hP hS hl hcr hsr hz hr
  exact lv_bipush C.1 C.2.1 hd hv (k p e R s mi args below meth c H locs ls Q C hnm hsz hP hS hl hcr hsr hz hr)
theorem oSeg.sipush {i : Int} {v : Int32} (n : Nat) (hd : decode M.2.1 pc = .ok (.sipush i, 3)) (hv : (Int16.ofInt i).toInt32 = v) (hn : pc + 3 = n) (k : oSeg G M N cs sl n lv (.int v :: st) m N' cs' sl' pc' lv' m') : oSeg G M N cs sl pc lv st m N' cs' sl' pc' lv' m' := by
  subst hn
  intro p e R s mi args below meth c H locs ls Q C hnm hsz hP hS hl hcr hsr hz hr
  exact lv_sipush C.1 C.2.1 hd hv (k p e R s mi args below meth c H locs ls Q C hnm hsz hP hS hl hcr hsr hz hr)
theorem oSeg.lconst {i : Fin 2} {v : Int64} (n : Nat) (hd : decode M.2.1 pc = .ok (.lconst i, 1)) (hv : Int64.ofNat (i : Nat) = v) (hn : pc + 1 = n) (k : oSeg G M N cs sl n lv (.long v :: st) m N' cs' sl' pc' lv' m') : oSeg G M N cs sl pc lv st m N' cs' sl' pc' lv' m' := by
  subst hn
  intro p e R s mi args below meth c H locs ls Q C hnm hsz hP hS hl hcr hsr hz hr
  exact lv_lconst C.1 C.2.1 hd hv (k p e R s mi args below meth c H locs ls Q C hnm hsz hP hS hl hcr hsr hz hr)
theorem oSeg.iload_n {x : Int32} {a : Fin 4} {i : Nat} (n : Nat) (hd : decode M.2.1 pc = .ok (.iload_n a, 1)) (j : Nat) (hi : (a : Nat) = i) (hj : lv[j]? = some (i, .int x)) (hn : pc + 1 = n) (k : oSeg G M N cs sl n lv (.int x :: st) m N' cs' sl' pc' lv' m') : oSeg G M N cs sl pc lv st m N' cs' sl' pc' lv' m' := by
  subst hn
  intro p e R s mi args below meth c H locs ls Q C hnm hsz hP hS hl hcr hsr hz hr
  exact lv_iload_n C.1 C.2.1 hd hi (lv_at hl j (oLv_at hj)) (k p e R s mi args below meth c H locs ls Q C hnm hsz hP hS hl hcr hsr hz hr)
theorem oSeg.aload_n {x : Nat} {a : Fin 4} {i : Nat} (n : Nat) (hd : decode M.2.1 pc = .ok (.aload_n a, 1)) (j : Nat) (hi : (a : Nat) = i) (hj : lv[j]? = some (i, .ref x)) (hx : x < 61) (hn : pc + 1 = n) (k : oSeg G M N cs sl n lv (.ref x :: st) m N' cs' sl' pc' lv' m') : oSeg G M N cs sl pc lv st m N' cs' sl' pc' lv' m' := by
  subst hn
  intro p e R s mi args below meth c H locs ls Q C hnm hsz hP hS hl hcr hsr hz hr
  have hb : oCv G (.ref x) = .ref (oB G + x) := oCv_lt hx
  have k1 := (k p e R s mi args below meth c H locs ls Q C hnm hsz hP hS hl hcr hsr hz hr)
  rw [List.map_cons, hb] at k1
  exact lv_aload_n C.1 C.2.1 hd hi (lv_at hl j (by rw [oLv_at hj, hb])) k1
theorem oSeg.dup {x : Nat} (n : Nat) (hd : decode M.2.1 pc = .ok (.dup, 1)) (hn : pc + 1 = n) (k : oSeg G M N cs sl n lv (.ref x :: .ref x :: st) m N' cs' sl' pc' lv' m') : oSeg G M N cs sl pc lv (.ref x :: st) m N' cs' sl' pc' lv' m' := by
  subst hn
  intro p e R s mi args below meth c H locs ls Q C hnm hsz hP hS hl hcr hsr hz hr
  exact lv_dup C.1 C.2.1 hd (by rw [oCv_cat G C.2.2.2.2.2.1.2.2.2.2.2.2.2.1]; rfl) (k p e R s mi args below meth c H locs ls Q C hnm hsz hP hS hl hcr hsr hz hr)
theorem oSeg.goto {off : Int} (n : Nat) (hd : decode M.2.1 pc = .ok (.goto off, 3)) (hn : (pc : Int) + off = (n : Int)) (k : oSeg G M N cs sl n lv st m N' cs' sl' pc' lv' m') : oSeg G M N cs sl pc lv st m N' cs' sl' pc' lv' m' := by
  intro p e R s mi args below meth c H locs ls Q C hnm hsz hP hS hl hcr hsr hz hr
  exact lv_goto C.1 C.2.1 hd hn (k p e R s mi args below meth c H locs ls Q C hnm hsz hP hS hl hcr hsr hz hr)
theorem oSeg.ge_t {x y : Int32} {off : Int} (n : Nat) (hd : decode M.2.1 pc = .ok (.if_icmp .ge off, 3)) (h : y ≤ x) (hn : (pc : Int) + off = (n : Int)) (k : oSeg G M N cs sl n lv st m N' cs' sl' pc' lv' m') : oSeg G M N cs sl pc lv (.int y :: .int x :: st) m N' cs' sl' pc' lv' m' := by
  intro p e R s mi args below meth c H locs ls Q C hnm hsz hP hS hl hcr hsr hz hr
  exact lv_icmp_ge C.1 C.2.1 hd hn (fun _ => (k p e R s mi args below meth c H locs ls Q C hnm hsz hP hS hl hcr hsr hz hr)) (fun hq => absurd h hq)
theorem oSeg.ge_f {x y : Int32} {off : Int} {tgt : Nat} (n : Nat) (hd : decode M.2.1 pc = .ok (.if_icmp .ge off, 3)) (ht : (pc : Int) + off = (tgt : Int)) (h : ¬ y ≤ x) (hn : pc + 3 = n) (k : oSeg G M N cs sl n lv st m N' cs' sl' pc' lv' m') : oSeg G M N cs sl pc lv (.int y :: .int x :: st) m N' cs' sl' pc' lv' m' := by
  subst hn
  intro p e R s mi args below meth c H locs ls Q C hnm hsz hP hS hl hcr hsr hz hr
  exact lv_icmp_ge C.1 C.2.1 hd ht (fun hq => absurd hq h) (fun _ => (k p e R s mi args below meth c H locs ls Q C hnm hsz hP hS hl hcr hsr hz hr))
theorem oSeg.istore_n {x : Int32} {a : Fin 4} {i : Nat} {lv2 : List (Nat × Value)} (n : Nat) (hd : decode M.2.1 pc = .ok (.istore_n a, 1)) (hi : (a : Nat) = i) (hb : i < M.2.2.1) (hl' : (i, .int x) :: lv.filter (fun q => !(q.1 == i) && !(q.1 + 1 == i && q.2.category == 2)) = lv2) (hn : pc + 1 = n) (k : oSeg G M N cs sl n lv2 st m N' cs' sl' pc' lv' m') : oSeg G M N cs sl pc lv (.int x :: st) m N' cs' sl' pc' lv' m' := by
  subst hn
  intro p e R s mi args below meth c H locs ls Q C hnm hsz hP hS hl hcr hsr hz hr
  refine lv_istore_n (lv' := oLv G lv2) C.1 C.2.1 hd hi hl hb ?_ (fun ls' hl2 => k p e R s mi args below meth c H locs ls' Q C hnm hsz hP hS hl2 hcr hsr hz hr)
  rw [← hl']
  show _ = (i, oCv G (.int x)) :: oLv G (lv.filter _)
  rw [oLv_filter C.2.2.2.2.2.1.2.2.2.2.2.2.2.1 (fun a b => !(a == i) && !(a + 1 == i && b == 2))]
  rfl
theorem oSeg.astore_n {x : Nat} {a : Fin 4} {i : Nat} {lv2 : List (Nat × Value)} (n : Nat) (hd : decode M.2.1 pc = .ok (.astore_n a, 1)) (hi : (a : Nat) = i) (hx : x < 61) (hb : i < M.2.2.1) (hl' : (i, .ref x) :: lv.filter (fun q => !(q.1 == i) && !(q.1 + 1 == i && q.2.category == 2)) = lv2) (hn : pc + 1 = n) (k : oSeg G M N cs sl n lv2 st m N' cs' sl' pc' lv' m') : oSeg G M N cs sl pc lv (.ref x :: st) m N' cs' sl' pc' lv' m' := by
  subst hn
  intro p e R s mi args below meth c H locs ls Q C hnm hsz hP hS hl hcr hsr hz hr
  have hb2 : oCv G (.ref x) = .ref (oB G + x) := oCv_lt hx
  rw [List.map_cons, hb2]
  refine lv_astore_n (lv' := oLv G lv2) C.1 C.2.1 hd hi hl hb ?_ (fun ls' hl2 => k p e R s mi args below meth c H locs ls' Q C hnm hsz hP hS hl2 hcr hsr hz hr)
  rw [← hl']
  show _ = (i, oCv G (.ref x)) :: oLv G (lv.filter _)
  rw [oLv_filter C.2.2.2.2.2.1.2.2.2.2.2.2.2.1 (fun a b => !(a == i) && !(a + 1 == i && b == 2)), hb2]
theorem oSeg.iinc {x v : Int32} {i : Nat} {d : Int} {lv2 : List (Nat × Value)} (n : Nat) (hd : decode M.2.1 pc = .ok (.iinc i d, 3)) (j : Nat) (hj : lv[j]? = some (i, .int x)) (hv : x + Int32.ofInt d = v) (hb : i < M.2.2.1) (hl' : (i, .int v) :: lv.filter (fun q => !(q.1 == i) && !(q.1 + 1 == i && q.2.category == 2)) = lv2) (hn : pc + 3 = n) (k : oSeg G M N cs sl n lv2 st m N' cs' sl' pc' lv' m') : oSeg G M N cs sl pc lv st m N' cs' sl' pc' lv' m' := by
  subst hn
  intro p e R s mi args below meth c H locs ls Q C hnm hsz hP hS hl hcr hsr hz hr
  refine lv_iinc (v := v) (lv' := oLv G lv2) C.1 C.2.1 hd hl (oLv_at hj) hv hb ?_ (fun ls' hl2 => k p e R s mi args below meth c H locs ls' Q C hnm hsz hP hS hl2 hcr hsr hz hr)
  rw [← hl']
  show _ = (i, oCv G (.int v)) :: oLv G (lv.filter _)
  rw [oLv_filter C.2.2.2.2.2.1.2.2.2.2.2.2.2.1 (fun a b => !(a == i) && !(a + 1 == i && b == 2))]
  rfl
theorem oWm_ob {p ci : Nat} {fs : List (Nat × Nat)} (hp : p < N) (h : oShp p = .inl (ci, fs)) : (oWm G N m)[p]? = some (oB G + p, .inr (ci, oFm (oB G) (m.1 p) (m.2 p) 0 fs)) := by
  rw [oWm_at G m hp]
  unfold oEm
  rw [h]
theorem oSeg.objInit {x idx : Nat} (n : Nat) (hx : x < 61) (hd : decode M.2.1 pc = .ok (.invokespecial idx, 3)) (h1 : Cond.methodLink M.1.cls idx Lib.objectInit ∈ oTB) (h2 : Cond.instanceMethod Lib.objectInit ∈ oTB) (h3 : Cond.code Lib.objectInit ⟨#[0xb1]⟩ 1 none ∈ oTB) (hf : 1 ≤ M.2.2.2.2.frames) (hlo : 12 ≤ M.2.2.2.2.locals) (hn : pc + 3 = n) (k : oSeg G M N cs sl n lv [] m N' cs' sl' pc' lv' m') : oSeg G M N cs sl pc lv [.ref x] m N' cs' sl' pc' lv' m' := by
  subst hn
  intro p e R s mi args below meth c H locs ls Q C hnm hsz hP hS hl hcr hsr hz hr
  have hb : oCv G (.ref x) = .ref (oB G + x) := oCv_lt hx
  rw [List.map_cons, hb]
  exact W.objInit C.1 C.2.1 C.2.2.2.1 (C.2.2.2.2.1 _ h1) (C.2.2.2.2.1 _ h2) (C.2.2.2.2.1 _ h3) rfl (by rw [C.2.2.1]; exact hl.1) rfl hd (Nat.le_trans hf C.2.2.2.2.2.2.1) (by
    have := Nat.le_trans hlo C.2.2.2.2.2.2.2
    show 2 * 0 + 0 + 12 ≤ R.locals
    omega) (k p e R s mi args below meth c H locs ls Q C hnm hsz hP hS hl hcr hsr hz hr)

theorem oFm_zero (b : Nat) : ∀ (l : List (Nat × Nat)) (i j : Nat), oFm b (fun _ => 0) (fun _ => 0) i l = oFm 0 (fun _ => 0) (fun _ => 0) j l
  | [], _, _ => rfl
  | q :: l, i, j => by
    simp only [oFm]
    rw [oFm_zero b l (i + 1) (j + 1)]
    simp [oFv]
theorem oNew_at {A1 : Nat → Prop} {ws : va_W} {q : Nat} {e1 : va_E} {H1 : Heap} (hw : ∀ p, p < N → ∃ x, ws[p]? = some (oB G + p, x)) (hlen : ws.length = N) (hD : va_D (oA G) (ws ++ [(q, e1)])) (hP : va_P (oDD G) vwCl (ws ++ [(q, e1)]) H1) (hz1 : H1.size ≤ oB G + (N + 1)) : q = oB G + N := by
  have hN : (ws ++ [(q, e1)])[N]? = some (q, e1) := by
    rw [List.getElem?_append_right (by omega), hlen, Nat.sub_self]
    rfl
  have h1 : oB G ≤ q := hD.2 N _ hN
  have h2 : q < H1.size := (hP N _ hN).lt
  rcases Nat.lt_or_ge q (oB G + N) with h3 | h3
  · exfalso
    obtain ⟨x, hx⟩ := hw (q - oB G) (by omega)
    have hx' : (ws ++ [(q, e1)])[q - oB G]? = some (oB G + (q - oB G), x) := by
      rw [List.getElem?_append_left (by omega)]
      exact hx
    have := hD.1 _ _ _ _ hx' hN (show oB G + (q - oB G) = q by omega)
    omega
  · omega
theorem oSeg.new {idx ci Nf : Nat} {C1 : String} {T1 : u_T} {fs : List (Nat × Nat)} {ty : Nat → FieldType} (n : Nat) (hd : decode M.2.1 pc = .ok (.new idx, 3)) (hsh : oShp N = .inl (ci, fs)) (hc : vwCl[ci]? = some (C1, T1, Nf)) (hty : ∀ k, k < Nf → parseFieldDescriptor (T1 k).2.2.1 = some (ty k)) (hin : ∀ w ∈ u_ws C1 T1 Nf, w ∈ oTB)
    (h1 : Cond.classLink M.1.cls idx C1 ∈ oTB) (h2 : Cond.instantiable C1 Nf ∈ oTB) (h3 : Cond.initialized C1 ∈ oTB) (hdf : ∀ j, j < Nf → defaultValue (ty j) = vp_V (oFm 0 (fun _ => 0) (fun _ => 0) 0 fs) j) (h0 : N = 0 → cs = 0) (hcn : cs ≤ N) (hcs : cs + 1 ≤ cs') (hsl : sl + Nf ≤ sl') (hn : pc + 3 = n)
    (k : oSeg G M (N + 1) (cs + 1) (sl + Nf) n lv (.ref N :: st) m N' cs' sl' pc' lv' m') : oSeg G M N cs sl pc lv st m N' cs' sl' pc' lv' m' := by
  subst hn
  intro p e R s mi args below meth c H locs ls Q C hnm hsz hP hS hl hcr hsr hz hr
  intro T hT X
  have hH := oWm_size hsz hP hS h0 hT X
  have hE : oEm G m N = .inr (ci, oFm 0 (fun _ => 0) (fun _ => 0) 0 fs) := by
    unfold oEm
    rw [hsh, (hz N (Nat.le_refl N)).1, (hz N (Nat.le_refl N)).2]
    show Sum.inr (ci, oFm (oB G) (fun _ => 0) (fun _ => 0) 0 fs) = _
    rw [oFm_zero (oB G) fs 0 0]
  have hA : ∀ q : Nat, s.heap.size ≤ q → oA G q := fun q hq => by
    show oB G ≤ q
    omega
  have hlt := oShp_lt hsh (by intro q; cases q)
  refine (va_new (ci := ci) (fs := oFm 0 (fun _ => 0) (fun _ => 0) 0 fs) C.1 C.2.1 C.2.2.2.2.1 hin ty hty C.2.2.2.1 (C.2.2.2.2.1 _ h1) (C.2.2.2.2.1 _ h2) (C.2.2.2.2.1 _ h3) C.2.2.2.2.2.1.1 hP (oWm_D G N m) hS hA hc hdf (Nat.le_trans hcs hcr) (Nat.le_trans hsl hsr) hd (fun q H1 hP1 hD1 hS1 => ?_)) T hT X
  intro T' hT' X'
  have hq : q = oB G + N := oNew_at (A1 := oA G) (fun p hp => ⟨_, oWm_at G m hp⟩) (oWm_len G N m) hD1 hP1 (by
    have h5 := X'.heapSize
    rw [hT'] at h5
    omega)
  subst hq
  have k1 := k p e R s mi args below meth c H1 locs ls Q C hnm (by omega) (by rw [oWm_succ, hE]; exact hP1) hS1 hl hcr hsr (oZr_le (Nat.le_succ N) hz) hr
  rw [List.map_cons, oCv_lt hlt] at k1
  exact k1 T' hT' X'
theorem oSeg.newi {nn : Nat} {v : Int32} (n : Nat) (hd : decode M.2.1 pc = .ok (.newarray .int, 2)) (hsh : oShp N = .inr (0, nn)) (hg : Cond.arrayClass .int ∈ oTB) (hv : ¬ v < 0) (hvn : v.toNatClampNeg = nn) (hb : nn * componentBytes .int ≤ 536870912) (h0 : N = 0 → cs = 0) (hcn : cs ≤ N) (hcs : cs + 1 ≤ cs') (hsl : sl + nn ≤ sl') (hn : pc + 2 = n)
    (k : oSeg G M (N + 1) (cs + 1) (sl + nn) n lv (.ref N :: st) m N' cs' sl' pc' lv' m') : oSeg G M N cs sl pc lv (.int v :: st) m N' cs' sl' pc' lv' m' := by
  subst hn
  intro p e R s mi args below meth c H locs ls Q C hnm hsz hP hS hl hcr hsr hz hr
  intro T hT X
  have hH := oWm_size hsz hP hS h0 hT X
  have hE : oEm G m N = .inl (oCI G, nn, .inl (fun _ => 0)) := by
    unfold oEm
    rw [hsh, (hz N (Nat.le_refl N)).1]
    rfl
  have hA : ∀ q : Nat, s.heap.size ≤ q → oA G q := fun q hq => by
    show oB G ≤ q
    omega
  have hlt := oShp_lt hsh (by intro q; cases q)
  refine (va_newa (atype := .int) (ty := .int) (a0 := (nn, .inl (fun _ => 0))) C.1 C.2.1 (C.2.2.2.2.1 _ hg) rfl C.2.2.2.2.2.1.1 hP (oWm_D G N m) hS hA (fun _ => rfl) hv hvn hb (Nat.le_trans hcs hcr) (Nat.le_trans hsl hsr) hd (fun q cA H1 hK1 hP1 hD1 hS1 => ?_)) T hT X
  intro T' hT' X'
  have hcA : cA = oCI G := by
    have e1 : s.vm.findClass ("[" ++ FieldType.int.toString) = some cA := (hK1.2 2 (cA, .int) rfl).2
    have e2 : s.vm.findClass ("[" ++ FieldType.int.toString) = some (oCI G) := (C.2.2.2.2.2.1.1.2 0 (oCI G, .int) rfl).2
    exact Option.some.inj (e1.symm.trans e2)
  subst hcA
  have hq : q = oB G + N := oNew_at (A1 := oA G) (fun p hp => ⟨_, oWm_at G m hp⟩) (oWm_len G N m) hD1 hP1 (by
    have h5 := X'.heapSize
    rw [hT'] at h5
    omega)
  subst hq
  have k1 := k p e R s mi args below meth c H1 locs ls Q C hnm (by omega) (by rw [oWm_succ, hE]; exact hP1) hS1 hl hcr hsr (oZr_le (Nat.le_succ N) hz) hr
  rw [List.map_cons, oCv_lt hlt] at k1
  exact k1 T' hT' X'
theorem oSeg.newl {nn : Nat} {v : Int32} (n : Nat) (hd : decode M.2.1 pc = .ok (.newarray .long, 2)) (hsh : oShp N = .inr (1, nn)) (hg : Cond.arrayClass .long ∈ oTB) (hv : ¬ v < 0) (hvn : v.toNatClampNeg = nn) (hb : nn * componentBytes .long ≤ 536870912) (h0 : N = 0 → cs = 0) (hcn : cs ≤ N) (hcs : cs + 1 ≤ cs') (hsl : sl + nn ≤ sl') (hn : pc + 2 = n)
    (k : oSeg G M (N + 1) (cs + 1) (sl + nn) n lv (.ref N :: st) m N' cs' sl' pc' lv' m') : oSeg G M N cs sl pc lv (.int v :: st) m N' cs' sl' pc' lv' m' := by
  subst hn
  intro p e R s mi args below meth c H locs ls Q C hnm hsz hP hS hl hcr hsr hz hr
  intro T hT X
  have hH := oWm_size hsz hP hS h0 hT X
  have hE : oEm G m N = .inl (oCL G, nn, .inr (.inl (fun _ => 0))) := by
    unfold oEm
    rw [hsh, (hz N (Nat.le_refl N)).2]
    rfl
  have hA : ∀ q : Nat, s.heap.size ≤ q → oA G q := fun q hq => by
    show oB G ≤ q
    omega
  have hlt := oShp_lt hsh (by intro q; cases q)
  refine (va_newa (atype := .long) (ty := .long) (a0 := (nn, .inr (.inl (fun _ => 0)))) C.1 C.2.1 (C.2.2.2.2.1 _ hg) rfl C.2.2.2.2.2.1.1 hP (oWm_D G N m) hS hA (fun _ => rfl) hv hvn hb (Nat.le_trans hcs hcr) (Nat.le_trans hsl hsr) hd (fun q cA H1 hK1 hP1 hD1 hS1 => ?_)) T hT X
  intro T' hT' X'
  have hcA : cA = oCL G := by
    have e1 : s.vm.findClass ("[" ++ FieldType.long.toString) = some cA := (hK1.2 2 (cA, .long) rfl).2
    have e2 : s.vm.findClass ("[" ++ FieldType.long.toString) = some (oCL G) := (C.2.2.2.2.2.1.1.2 1 (oCL G, .long) rfl).2
    exact Option.some.inj (e1.symm.trans e2)
  subst hcA
  have hq : q = oB G + N := oNew_at (A1 := oA G) (fun p hp => ⟨_, oWm_at G m hp⟩) (oWm_len G N m) hD1 hP1 (by
    have h5 := X'.heapSize
    rw [hT'] at h5
    omega)
  subst hq
  have k1 := k p e R s mi args below meth c H1 locs ls Q C hnm (by omega) (by rw [oWm_succ, hE]; exact hP1) hS1 hl hcr hsr (oZr_le (Nat.le_succ N) hz) hr
  rw [List.map_cons, oCv_lt hlt] at k1
  exact k1 T' hT' X'
def oFf (own : String) (idx ci k : Nat) : Prop := ∃ (C : String) (T : u_T) (N : Nat) (t0 : Nat → FieldType) (ty : FieldType), vwCl[ci]? = some (C, T, N) ∧ k < N ∧ (∀ w ∈ u_ws C T N, w ∈ oTB) ∧ Cond.fieldLink own idx (T k).1 (T k).2.1 (T k).2.2.1 ∈ oTB ∧
  (∀ k, k < N → parseFieldDescriptor (T k).2.2.1 = some (t0 k)) ∧ (∀ a, a < N → ∀ b, b < N → a ≠ b → (T a).2.1 ≠ (T b).2.1) ∧ (T k).2.2.2 = true ∧ (T k).1 = own ∧ parseFieldDescriptor (T k).2.2.1 = some ty ∧ ∀ a : Nat, narrow ty (.ref a) = .ref a ∧ fits ty (.ref a) = true
theorem oSeg.putR {p0 idx ci k0 d : Nat} {fs : List (Nat × Nat)} (n : Nat) (hd : decode M.2.1 pc = .ok (.putfield idx, 3)) (hM : M.1.name = "<init>") (hf : oFf M.1.cls idx ci k0) (hpN : p0 < N) (hsh : oShp p0 = .inl (ci, fs)) (hk : fs[k0]? = some (2, d)) (hd61 : d < 61) (hn : pc + 3 = n)
    (k : oSeg G M N cs sl n lv st (oSI m p0 k0 1) N' cs' sl' pc' lv' m') : oSeg G M N cs sl pc lv (.ref d :: .ref p0 :: st) m N' cs' sl' pc' lv' m' := by
  subst hn
  intro p e R s mi args below meth c H locs ls Q C hnm hsz hP hS hl hcr hsr hz hr
  obtain ⟨cC, cT, cN, t0, ty, e1, e2, e3, e4, f1, f2, f3, f4, f5, f6⟩ := hf
  have e5 := oShp_lt hsh (by intro q; cases q)
  have e6 := oWm_ob (G := G) (m := m) hpN hsh
  rw [List.map_cons, List.map_cons, oCv_lt e5, oCv_lt hd61]
  refine va_putF C.1 C.2.1 C.2.2.2.2.1 e3 t0 f1 f2 C.2.2.2.1 C.2.2.2.2.2.1.1 hP (oWm_D G N m) hS p0 e6 e1 k0 e2 (C.2.2.2.2.1 _ e4) (fun x h => h) f3 (hnm hM) f4 (v := .ref (oB G + d)) f5 (f6 _).1 (f6 _).2 (by rw [oFm_len]; exact (List.getElem?_eq_some_iff.mp hk).1) hd (fun H1 locs1 hP1 hD1 hS1 => ?_)
  refine k p e R s mi args below meth c H1 locs1 ls Q C hnm hsz ?_ hS1 hl hcr hsr (oZr_SI hpN hz) hr
  rw [← oWm_set G N m (oSI m p0 k0 1) p0 hpN (fun q hq => oEm_SI_ne G m p0 k0 1 q hq), oEm_f G m (oSI m p0 k0 1) hsh hk (fun i hi => by simp [oSI, hi]) (fun i hi => rfl)]
  have e8 : oFv (oB G) (2, d) ((oSI m p0 k0 1).1 p0 k0) ((oSI m p0 k0 1).2 p0 k0) = .ref (oB G + d) := by simp [oFv, oSI]
  rw [e8]
  exact hP1
theorem oSeg.putI {p0 idx ci k0 d : Nat} {fs : List (Nat × Nat)} {x : Int32} (n : Nat) (hd : decode M.2.1 pc = .ok (.putfield idx, 3)) (hf : oFp M.1.cls idx ci k0 .int) (hpN : p0 < N) (hsh : oShp p0 = .inl (ci, fs)) (hk : fs[k0]? = some (0, d)) (hn : pc + 3 = n)
    (k : oSeg G M N cs sl n lv st (oSI m p0 k0 x) N' cs' sl' pc' lv' m') : oSeg G M N cs sl pc lv (.int x :: .ref p0 :: st) m N' cs' sl' pc' lv' m' := by
  subst hn
  intro p e R s mi args below meth c H locs ls Q C hnm hsz hP hS hl hcr hsr hz hr
  obtain ⟨cC, cT, cN, t0, e1, e2, e3, e4, f1, f2, f3, f4⟩ := hf
  have e5 := oShp_lt hsh (by intro q; cases q)
  have e6 := oWm_ob (G := G) (m := m) hpN hsh
  rw [List.map_cons, List.map_cons, oCv_lt e5]
  refine va_put C.1 C.2.1 C.2.2.2.2.1 e3 t0 f1 f2 C.2.2.2.1 C.2.2.2.2.2.1.1 hP (oWm_D G N m) hS p0 e6 e1 k0 e2 (C.2.2.2.2.1 _ e4) (fun x h => h) f3 f4 (v := .int x) rfl rfl (by rw [oFm_len]; exact (List.getElem?_eq_some_iff.mp hk).1) hd (fun H1 locs1 hP1 hD1 hS1 => ?_)
  refine k p e R s mi args below meth c H1 locs1 ls Q C hnm hsz ?_ hS1 hl hcr hsr (oZr_SI hpN hz) hr
  rw [← oWm_set G N m (oSI m p0 k0 x) p0 hpN (fun q hq => oEm_SI_ne G m p0 k0 x q hq), oEm_f G m (oSI m p0 k0 x) hsh hk (fun i hi => by simp [oSI, hi]) (fun i hi => rfl)]
  have e8 : oFv (oB G) (0, d) ((oSI m p0 k0 x).1 p0 k0) ((oSI m p0 k0 x).2 p0 k0) = .int x := by simp [oFv, oSI]
  rw [e8]
  exact hP1
theorem oSeg.putZ {p0 idx ci k0 d : Nat} {fs : List (Nat × Nat)} (n : Nat) (hd : decode M.2.1 pc = .ok (.putfield idx, 3)) (hf : oFp M.1.cls idx ci k0 .boolean) (hpN : p0 < N) (hsh : oShp p0 = .inl (ci, fs)) (hk : fs[k0]? = some (0, d)) (hn : pc + 3 = n)
    (k : oSeg G M N cs sl n lv st (oSI m p0 k0 0) N' cs' sl' pc' lv' m') : oSeg G M N cs sl pc lv (.int 0 :: .ref p0 :: st) m N' cs' sl' pc' lv' m' := by
  subst hn
  intro p e R s mi args below meth c H locs ls Q C hnm hsz hP hS hl hcr hsr hz hr
  obtain ⟨cC, cT, cN, t0, e1, e2, e3, e4, f1, f2, f3, f4⟩ := hf
  have e5 := oShp_lt hsh (by intro q; cases q)
  have e6 := oWm_ob (G := G) (m := m) hpN hsh
  rw [List.map_cons, List.map_cons, oCv_lt e5]
  refine va_put C.1 C.2.1 C.2.2.2.2.1 e3 t0 f1 f2 C.2.2.2.1 C.2.2.2.2.2.1.1 hP (oWm_D G N m) hS p0 e6 e1 k0 e2 (C.2.2.2.2.1 _ e4) (fun x h => h) f3 f4 (v := .int 0) rfl rfl (by rw [oFm_len]; exact (List.getElem?_eq_some_iff.mp hk).1) hd (fun H1 locs1 hP1 hD1 hS1 => ?_)
  refine k p e R s mi args below meth c H1 locs1 ls Q C hnm hsz ?_ hS1 hl hcr hsr (oZr_SI hpN hz) hr
  rw [← oWm_set G N m (oSI m p0 k0 0) p0 hpN (fun q hq => oEm_SI_ne G m p0 k0 0 q hq), oEm_f G m (oSI m p0 k0 0) hsh hk (fun i hi => by simp [oSI, hi]) (fun i hi => rfl)]
  have e8 : oFv (oB G) (0, d) ((oSI m p0 k0 0).1 p0 k0) ((oSI m p0 k0 0).2 p0 k0) = .int 0 := by simp [oFv, oSI]
  rw [e8]
  exact hP1
theorem oSeg.putL {p0 idx ci k0 d : Nat} {fs : List (Nat × Nat)} {x : Int64} (n : Nat) (hd : decode M.2.1 pc = .ok (.putfield idx, 3)) (hf : oFp M.1.cls idx ci k0 .long) (hpN : p0 < N) (hsh : oShp p0 = .inl (ci, fs)) (hk : fs[k0]? = some (1, d)) (hn : pc + 3 = n)
    (k : oSeg G M N cs sl n lv st (oSL m p0 k0 x) N' cs' sl' pc' lv' m') : oSeg G M N cs sl pc lv (.long x :: .ref p0 :: st) m N' cs' sl' pc' lv' m' := by
  subst hn
  intro p e R s mi args below meth c H locs ls Q C hnm hsz hP hS hl hcr hsr hz hr
  obtain ⟨cC, cT, cN, t0, e1, e2, e3, e4, f1, f2, f3, f4⟩ := hf
  have e5 := oShp_lt hsh (by intro q; cases q)
  have e6 := oWm_ob (G := G) (m := m) hpN hsh
  rw [List.map_cons, List.map_cons, oCv_lt e5]
  refine va_put C.1 C.2.1 C.2.2.2.2.1 e3 t0 f1 f2 C.2.2.2.1 C.2.2.2.2.2.1.1 hP (oWm_D G N m) hS p0 e6 e1 k0 e2 (C.2.2.2.2.1 _ e4) (fun x h => h) f3 f4 (v := .long x) rfl rfl (by rw [oFm_len]; exact (List.getElem?_eq_some_iff.mp hk).1) hd (fun H1 locs1 hP1 hD1 hS1 => ?_)
  refine k p e R s mi args below meth c H1 locs1 ls Q C hnm hsz ?_ hS1 hl hcr hsr (oZr_SL hpN hz) hr
  rw [← oWm_set G N m (oSL m p0 k0 x) p0 hpN (fun q hq => oEm_SL_ne G m p0 k0 x q hq), oEm_f G m (oSL m p0 k0 x) hsh hk (fun i hi => rfl) (fun i hi => by simp [oSL, hi])]
  have e8 : oFv (oB G) (1, d) ((oSL m p0 k0 x).1 p0 k0) ((oSL m p0 k0 x).2 p0 k0) = .long x := by simp [oFv, oSL]
  rw [e8]
  exact hP1
theorem oSeg.getR {p0 idx ci k0 d : Nat} {fs : List (Nat × Nat)} (n : Nat) (hd : decode M.2.1 pc = .ok (.getfield idx, 3)) (hf : oFd M.1.cls idx ci k0) (hpN : p0 < N) (hsh : oShp p0 = .inl (ci, fs)) (hk : fs[k0]? = some (2, d)) (hd61 : d < 61) (h1 : m.1 p0 k0 = 1) (hn : pc + 3 = n)
    (k : oSeg G M N cs sl n lv (.ref d :: st) m N' cs' sl' pc' lv' m') : oSeg G M N cs sl pc lv (.ref p0 :: st) m N' cs' sl' pc' lv' m' := by
  subst hn
  intro p e R s mi args below meth c H locs ls Q C hnm hsz hP hS hl hcr hsr hz hr
  obtain ⟨cC, cT, cN, e1, e2, e3, e4⟩ := hf
  have e5 := oShp_lt hsh (by intro q; cases q)
  have e6 := oWm_ob (G := G) (m := m) hpN hsh
  have k1 := (k p e R s mi args below meth c H locs ls Q C hnm hsz hP hS hl hcr hsr hz hr)
  rw [List.map_cons, oCv_lt hd61] at k1
  rw [List.map_cons, oCv_lt e5]
  refine va_get C.1 C.2.1 C.2.2.2.2.1 e3 C.2.2.2.1 C.2.2.2.2.2.1.1 hP p0 e6 e1 k0 e2 (C.2.2.2.2.1 _ e4) (fun x h => h) ?_ hd k1
  rw [oFm_at _ _ _ _ _ _ _ hk, Nat.zero_add, h1]
  simp [oFv]
theorem oSeg.iastore {p0 nn k0 : Nat} {i x : Int32} (n : Nat) (hd : decode M.2.1 pc = .ok (.iastore, 1)) (hpN : p0 < N) (hsh : oShp p0 = .inr (0, nn)) (hin : vp_in i nn) (hik : i.toNatClampNeg = k0) (hn : pc + 1 = n)
    (k : oSeg G M N cs sl n lv st (oSI m p0 k0 x) N' cs' sl' pc' lv' m') : oSeg G M N cs sl pc lv (.int x :: .int i :: .ref p0 :: st) m N' cs' sl' pc' lv' m' := by
  subst hn; subst hik
  intro p e R s mi args below meth c H locs ls Q C hnm hsz hP hS hl hcr hsr hz hr
  have e5 := oShp_lt hsh (by intro q; cases q)
  have e6 : (oWm G N m)[p0]? = some (oB G + p0, .inl (oCI G, nn, .inl (m.1 p0))) := by
    rw [oWm_at G m hpN]
    unfold oEm
    rw [hsh]
    rfl
  rw [List.map_cons, List.map_cons, List.map_cons, oCv_lt e5]
  refine va_iast C.1 C.2.1 C.2.2.2.2.2.1.1 hP (oWm_D G N m) hS p0 0 e6 rfl hin hd (fun H1 locs1 hP1 hD1 hS1 => ?_)
  refine k p e R s mi args below meth c H1 locs1 ls Q C hnm hsz ?_ hS1 hl hcr hsr (oZr_SI hpN hz) hr
  rw [← oWm_set G N m (oSI m p0 i.toNatClampNeg x) p0 hpN (fun q hq => oEm_SI_ne G m p0 _ x q hq), oEm_SI_a G m x hsh]
  exact hP1
/-- a constructor from its entry -/
def oEvM (G : oG) (M : oD) (o N : Nat) (m : oM) (N' : Nat) (m' : oM) : Prop := (∃ (pcE : Nat) (lvE : List (Nat × Value)), decode M.2.1 pcE = .ok (.return_, 1) ∧ oSeg G M N 0 0 0 [(0, .ref o)] [] m N' M.2.2.2.2.cells M.2.2.2.2.slots pcE lvE m') ∧ (oZr N m → oZr N' m')
def oMc (N : oD) : Prop := Cond.initialized N.1.cls ∈ oTB ∧ Cond.code N.1 N.2.1 N.2.2.1 none ∈ oTB ∧ (N.1.cls ≠ "java/lang/invoke/MethodHandle" ∧ N.1.cls ≠ "java/lang/invoke/VarHandle") ∧ (parseMethodDescriptor N.1.desc).map (fun d => d.parameters.length) = some 0 ∧ plainFor N.1 = true ∧ N.1.name = "<init>" ∧ Cond.instanceMethod N.1 ∈ oTB ∧ N.2.2.2.1 = none ∧ 1 ≤ N.2.2.1
theorem oEvM.met {Nd : oD} {o1 N2 : Nat} {m2 : oM} (hm : oMc Nd) (ho : o1 < 61) (hs : ∀ p, (oSp G p).category = 1) (hz : oZr N m) (h : oEvM G Nd o1 N m N2 m2) :
    Met (oL G) Nd.1 (oWs Nd) Nd.2.2.2.2 (va_Pc [.ref (oB G + o1)] (fun U => U.heap.size = oB G + N ∧ va_P (oDD G) vwCl (oWm G N m) U.heap ∧ oW G U)) (fun _ st oc t => oc = .returned none ∧ va_P (oDD G) vwCl (oWm G N2 m2) t.heap ∧ va_F (oA G) st t) Nd.2.2.2.2.cells Nd.2.2.2.2.slots (oA G) := by
  refine oMet_ofW (cc := Nd.2.1) (maxL := Nd.2.2.1) (ret := none) hm.2.2.2.2.1 (by rw [← hm.2.2.2.2.2.2.2.1]) ?_
  intro p e s mi args below meth c s₁ B hml hv
  obtain ⟨rfl, hsz, hP, hW⟩ := hv
  have hts := atoms_spec (ws := oWs Nd) B.pre
  have hown : s.vm.findClass Nd.1.cls = some mi.cls := findClass_of_methodNamed B.named
  have hlocks := B.notSynchronized
  have hr := B.returns
  have hin : meth.name = Nd.1.name := (name_of_methodNamed B.named B.method).1
  have hl := lv_entry ([.ref (oB G + o1)]) (n := Nd.2.2.1) hm.2.2.2.2.2.2.2.2
  rw [lg_entry_eq]
  obtain ⟨⟨pcE, lvE, hdE, hseg⟩, -⟩ := h
  refine hseg p e _ s mi _ below meth c s.heap [] _ _ ⟨B.exec, B.bytes, hml, hown, fun w hw => hts w (List.mem_cons_of_mem _ hw), hW, Nat.le_refl _, Nat.le_refl _⟩ (fun h => hin.trans h) hsz hP va_S.rf ?_ (Nat.le_refl _) (Nat.le_refl _) hz ?_
  · have e1 : oLv G [(0, Value.ref o1)] = lv_args 0 [.ref (oB G + o1)] := by
      show [(0, oCv G (.ref o1))] = _
      rw [oCv_lt ho]
      rfl
    rw [e1]
    exact hl
  · intro H' locs' ls' hP' hS' hl' hz'
    exact W.vret B.exec B.bytes hr (fun t ht _ => ⟨rfl, by rw [ht]; exact hP', hS'.F ht⟩) hS'.2.2 hdE
theorem oSeg.callI {Nd : oD} {o1 N2 idx : Nat} {m2 : oM} (n : Nat) (hd : decode M.2.1 pc = .ok (.invokespecial idx, 3)) (hk : (M.1.cls, idx, Nd.1) ∈ oNW ∨ Cond.methodLink M.1.cls idx Nd.1 ∈ oTB) (hm : oMc Nd) (hf : oFit Nd M) (ho : o1 < 61) (hw : (st.map fun v => v.category).sum ≤ 8) (hv : oEvM G Nd o1 N m N2 m2) (h0 : N = 0 → cs = 0) (hNN : cs + Nd.2.2.2.2.cells + N = cs + N2) (hcs : cs + Nd.2.2.2.2.cells ≤ cs') (hsl : sl + Nd.2.2.2.2.slots ≤ sl') (hn : pc + 3 = n)
    (k : oSeg G M N2 (cs + Nd.2.2.2.2.cells) (sl + Nd.2.2.2.2.slots) n lv st m2 N' cs' sl' pc' lv' m') : oSeg G M N cs sl pc lv (.ref o1 :: st) m N' cs' sl' pc' lv' m' := by
  subst hn
  intro p e R s mi args below meth c H locs ls Q C hnm hsz hP hS hl hcr hsr hz hr
  have hs := C.2.2.2.2.2.1.2.2.2.2.2.2.2.1
  have hgood : ∀ w ∈ oWs Nd, ∀ (a' : Array Value) (U : State), s.WarmedH U.vm → w.before a' U = true := fun w hw' a' U hU => by
    have hw2 : w ∈ oTB := (List.mem_cons.mp hw').elim (fun h => h ▸ (by rw [hm.2.2.2.2.2.2.2.1]; exact hm.2.1)) id
    exact word_at hU (oTB_good w hw2) (C.2.2.2.2.1 _ hw2)
  have hcodeM : Cond.code Nd.1 Nd.2.1 Nd.2.2.1 none ∈ oWs Nd := by
    rw [← hm.2.2.2.2.2.2.2.1]
    exact List.mem_cons_self
  have hmet := hv.met hm ho hs hz
  have hvz := hv.2
  have hblind : FrameBlind (va_Pc [.ref (oB G + o1)] (fun U => U.heap.size = oB G + N ∧ va_P (oDD G) vwCl (oWm G N m) U.heap ∧ oW G U)) := fun a U g mk q => ⟨q.1, q.2.1, q.2.2.1, oW_calling g mk a q.2.2.2⟩
  intro T hT X
  have hH := oWm_size hsz hP hS h0 hT X
  have hpre : PreS s H (va_Pc [.ref (oB G + o1)] (fun U => U.heap.size = oB G + N ∧ va_P (oDD G) vwCl (oWm G N m) U.heap ∧ oW G U)) (.ref (oB G + o1) :: []) := ⟨hblind, fun U hU hW => ⟨rfl, by rw [hU]; exact hH, by rw [hU]; exact hP, oW_moved hW (fun a h1 h2 => by rw [hU]; exact hS.2.1 a h1 h2) C.2.2.2.2.2.1⟩⟩
  have hrun : va_Run p (oL G) e R s mi args below meth c H locs cs sl Nd.2.2.2.2.cells Nd.2.2.2.2.slots (F0 mi pc ls (.ref (oB G + o1) :: st.map (oCv G))) (st.map (oCv G)) (fun st oc t => oc = .returned none ∧ va_P (oDD G) vwCl (oWm G N2 m2) t.heap ∧ va_F (oA G) st t) (oA G) := by
    rcases hk with hk | hk
    · have hnw : va_Nw (.methodLinkNest M.1.cls idx Nd.1 "OrreryTrains") s := C.2.2.2.2.2.1.2.2.2.2.2.2.2.2 _ hk
      exact va_runIN (As := []) (rest := st.map (oCv G)) (b := oB G + o1) (host := "OrreryTrains") ⟨C.1, C.2.1, C.2.2.1, C.2.2.2.1, C.2.2.2.2.1⟩ hmet
        ⟨⟨⟨rfl, rfl, Nat.le_trans hf.1 C.2.2.2.2.2.2.1, Nat.le_trans hf.2 C.2.2.2.2.2.2.2, hgood, hcodeM⟩, C.2.2.2.2.1 _ hm.2.1, C.2.2.2.2.1 _ hm.1, hm.2.2.1, fun sig h => by have h2 := hm.2.2.2.1; rw [h] at h2; exact (Option.some.inj h2).symm, va_Nw.use rfl hnw⟩, hm.2.2.2.2.2.1, C.2.2.2.2.1 _ hm.2.2.2.2.2.2.1⟩
        hpre rfl rfl hl.1 rfl (lv_room (by rw [oCat_map hs]; exact hw)) hd ⟨Nat.le_trans hcs hcr, Nat.le_trans hsl hsr⟩
    · exact va_runI (As := []) (rest := st.map (oCv G)) (b := oB G + o1) ⟨C.1, C.2.1, C.2.2.1, C.2.2.2.1, C.2.2.2.2.1⟩ hmet
        ⟨⟨rfl, rfl, Nat.le_trans hf.1 C.2.2.2.2.2.2.1, Nat.le_trans hf.2 C.2.2.2.2.2.2.2, hgood, hcodeM, C.2.2.2.2.1 _ hm.2.1, C.2.2.2.2.1 _ hm.1, hm.2.2.1, fun sig h => by have h2 := hm.2.2.2.1; rw [h] at h2; exact (Option.some.inj h2).symm, C.2.2.2.2.1 _ hk⟩, hm.2.2.2.2.2.1, C.2.2.2.2.1 _ hm.2.2.2.2.2.2.1⟩
        hpre rfl rfl hl.1 rfl (lv_room (by rw [oCat_map hs]; exact hw)) hd ⟨Nat.le_trans hcs hcr, Nat.le_trans hsl hsr⟩
  rw [List.map_cons, oCv_lt ho]
  obtain ⟨v, st₀, t, T', L, h5, X', hL, e1, e2, ⟨hv, hp, hz', hk'⟩, stp⟩ := hrun T hT X
  cases hv
  rw [h5] at hz' hk'
  obtain ⟨t2, a1, b1⟩ := k p e R s mi args below meth c T'.heap (locs ++ L) ls Q C hnm (by omega) (by rw [e1]; exact hp) ⟨Nat.le_trans hS.1 (by rw [e1]; exact hz'), fun q h1 h2 => by rw [e1, hk' q (Nat.lt_of_lt_of_le h1 hS.1) h2]; exact hS.2.1 q h1 h2, fun q hq => by
      rcases List.mem_append.mp hq with h | h
      · exact hS.2.2 q h
      · exact hL q h⟩ hl hcr hsr (hvz hz) hr T' rfl X'
  exact ⟨t2, stp t2 a1, b1⟩
end OSEG
