/-! THE BRIDGE. The world of the two objects is 61 cells, made one behind the other from the address oB G on; a PLACE p < 61 is the cell oB G + p. Memory is two functions (ints, longs) by place and slot. oRun G M pc lv st m r m': method M at pc, with locals lv and stack st over the memory m, returns r over the memory m'. -/
abbrev oM : Type := (Nat → Nat → Int32) × (Nat → Nat → Int64)
abbrev oSh : Type := (Nat × List (Nat × Nat)) ⊕ (Nat × Nat)
def oShL : List oSh := [
  .inl (8, [(2, 1), (2, 15), (2, 29), (0, 0), (2, 43), (2, 45), (2, 47), (2, 50)]),
  .inl (1, [(0, 0), (2, 2), (2, 3), (0, 0), (0, 0), (2, 4), (2, 9), (0, 0), (0, 0), (2, 12)]),
  .inr (0, 6),
  .inr (0, 6),
  .inl (2, [(0, 0), (2, 5), (2, 6), (2, 7), (2, 8)]),
  .inr (0, 10),
  .inr (0, 10),
  .inr (0, 10),
  .inr (0, 10),
  .inl (7, [(2, 10), (2, 11)]),
  .inr (0, 6),
  .inr (0, 18),
  .inl (3, [(0, 0), (2, 13), (2, 14)]),
  .inr (0, 8),
  .inr (0, 8),
  .inl (1, [(0, 0), (2, 16), (2, 17), (0, 0), (0, 0), (2, 18), (2, 23), (0, 0), (0, 0), (2, 26)]),
  .inr (0, 6),
  .inr (0, 6),
  .inl (2, [(0, 0), (2, 19), (2, 20), (2, 21), (2, 22)]),
  .inr (0, 10),
  .inr (0, 10),
  .inr (0, 10),
  .inr (0, 10),
  .inl (7, [(2, 24), (2, 25)]),
  .inr (0, 6),
  .inr (0, 18),
  .inl (3, [(0, 0), (2, 27), (2, 28)]),
  .inr (0, 8),
  .inr (0, 8),
  .inl (1, [(0, 0), (2, 30), (2, 31), (0, 0), (0, 0), (2, 32), (2, 37), (0, 0), (0, 0), (2, 40)]),
  .inr (0, 6),
  .inr (0, 6),
  .inl (2, [(0, 0), (2, 33), (2, 34), (2, 35), (2, 36)]),
  .inr (0, 10),
  .inr (0, 10),
  .inr (0, 10),
  .inr (0, 10),
  .inl (7, [(2, 38), (2, 39)]),
  .inr (0, 6),
  .inr (0, 18),
  .inl (3, [(0, 0), (2, 41), (2, 42)]),
  .inr (0, 8),
  .inr (0, 8),
  .inl (6, [(0, 0), (2, 44)]),
  .inr (0, 60),
  .inl (5, [(0, 0), (2, 46)]),
  .inr (0, 9),
  .inl (4, [(2, 48), (2, 49)]),
  .inr (0, 4),
  .inr (1, 48),
  .inl (0, [(1, 0), (1, 0), (0, 0), (0, 0), (0, 0), (0, 0), (0, 0), (0, 0), (1, 0), (1, 0)]),
  .inl (9, [(2, 52), (2, 53), (2, 54), (0, 0), (2, 55), (2, 56), (2, 57), (2, 58), (0, 0), (0, 0), (2, 59), (0, 0), (0, 0), (2, 60), (0, 0), (0, 0), (0, 0), (0, 0), (0, 0), (0, 0), (1, 0), (1, 0)]),
  .inr (0, 99),
  .inr (0, 99),
  .inr (0, 99),
  .inr (0, 60),
  .inr (0, 8),
  .inr (0, 4),
  .inr (1, 48),
  .inr (0, 60),
  .inr (0, 240)]
def oShp (p : Nat) : oSh := oShL.getD p (.inr (2, 0))
abbrev oG : Type := Launch × va_G × Nat × ClassId × ClassId × (Nat → Value) × Nat × (Nat → Int32)
abbrev oL (G : oG) : Launch := G.1
abbrev oDD (G : oG) : va_G := G.2.1
abbrev oB (G : oG) : Nat := G.2.2.1
abbrev oCI (G : oG) : ClassId := G.2.2.2.1
abbrev oCL (G : oG) : ClassId := G.2.2.2.2.1
abbrev oSp (G : oG) : Nat → Value := G.2.2.2.2.2.1
abbrev oXL (G : oG) : Nat := G.2.2.2.2.2.2.1
abbrev oXs (G : oG) : Nat → Int32 := G.2.2.2.2.2.2.2
def oA (G : oG) : Nat → Prop := fun q => oB G ≤ q
/-- a method: name, bytes, locals, what it returns, its room -/
abbrev oD : Type := MethodName × ByteArray × Nat × Option FieldType × Room
def oFs (b : Nat) (f : Nat → Int32) (g : Nat → Int64) : Nat → List (Nat × Nat) → List Value
  | _, [] => []
  | k, q :: r => (if q.1 = 0 then Value.int (f k) else if q.1 = 1 then Value.long (g k) else Value.ref (b + q.2)) :: oFs b f g (k + 1) r
def oMk (G : oG) (f : Nat → Int32) (g : Nat → Int64) : oSh → va_E
  | .inl o => .inr (o.1, oFs (oB G) f g 0 o.2)
  | .inr o => if o.1 = 0 then .inl (oCI G, o.2, .inl f) else .inl (oCL G, o.2, .inr (.inl g))
def oE (G : oG) (m : oM) (p : Nat) : va_E := oMk G (m.1 p) (m.2 p) (oShp p)
def oWl (G : oG) (m : oM) : va_W := (List.range 61).map (fun p => (oB G + p, oE G m p))
def oCv (G : oG) : Value → Value
  | .ref p => if p < 61 then .ref (oB G + p) else oSp G p
  | v => v
def oLv (G : oG) (l : List (Nat × Value)) : List (Nat × Value) := l.map (fun q => (q.1, oCv G q.2))
def oTy (G : oG) : List (ClassId × FieldType) := [(oCI G, .int), (oCL G, .long)]
def oKL (k : Nat) : Int32 := [99, 102, 112, 119, 115, 107].getD k 0
def oOR (k : Nat) : Int32 := [0, 1, 2, 0, 2, 1, 1, 0, 2, 1, 2, 0, 2, 0, 1, 2, 1, 0].getD k 0
/-- what stands outside the world, and stays: constants' arrays, the text, the script -/
def oSt (G : oG) (U : State) : Prop :=
  (∃ t, oSp G 61 = .ref t ∧ va_Z RX8 "KIND_LETTERS" "[C" (.ref t) (oA G) U U.heap ∧ va_T .char t 6 (fun k => .int (oKL k)) (oA G) U U.heap) ∧
  (∃ t, oSp G 62 = .ref t ∧ va_Z RX8 "ORDERS" "[I" (.ref t) (oA G) U U.heap ∧ va_T .int t 18 (fun k => .int (oOR k)) (oA G) U U.heap) ∧
  (∃ t, oSp G 64 = .ref t ∧ va_T .int t (oXL G) (fun k => .int (oXs G k)) (oA G) U U.heap) ∧
  (∃ a v, oSp G 63 = .ref a ∧ oSp G 65 = .ref v ∧ vk_R RX9 111 "cfpwsk" a U ∧ va_O "java/lang/String" a (oA G) U U.heap ∧ va_OF "java/lang/String" "coder" "B" (.int 0) a (oA G) U U.heap ∧ va_OF "java/lang/String" "value" "[B" (.ref v) a (oA G) U U.heap ∧ va_T .byte v 6 (fun k => .int (oKL k)) (oA G) U U.heap) ∧
  va_Z "java/lang/String" "COMPACT_STRINGS" "Z" (.int 1) (oA G) U U.heap ∧
  (va_Z "jdk/internal/util/Preconditions" "SIOOBE_FORMATTER" "Ljava/util/function/BiFunction;" (oSp G 66) (oA G) U U.heap) ∧
  (∀ p, (oSp G p).category = 1) ∧ ∀ q ∈ oNW, va_Nw (.methodLinkNest q.1 q.2.1 q.2.2 "OrreryTrains") U
def oW (G : oG) (U : State) : Prop := va_K (oDD G) vwCl (oTy G) U ∧ oSt G U
def oC (G : oG) (M : oD) (p : Program) (R : Room) (s : State) (mi : MethodId) (args : Array Value) (c : Code) : Prop :=
  p.tables.exec = Jvm.exec ∧ c.code = M.2.1 ∧ c.maxLocals = M.2.2.1 ∧ s.vm.findClass M.1.cls = some mi.cls ∧ (∀ w ∈ oTB, w.before args s = true) ∧ oW G s ∧ M.2.2.2.2.frames ≤ R.frames ∧ M.2.2.2.2.locals ≤ R.locals
def oRet : Option Value → Instr
  | none => .return_
  | some (.long _) => .lreturn
  | some _ => .ireturn
def oRun (G : oG) (M : oD) (pc : Nat) (lv : List (Nat × Value)) (st : List Value) (m : oM) (r : Option Value) (m' : oM) : Prop :=
  ∀ (p : Program) (e : Env) (R : Room) (s : State) (mi : MethodId) (args : Array Value) (below : List Frame) (meth : Method) (c : Code) (H : Heap) (locs : List Loc) (ls : Array Slot) (cells slots : Nat) (Q : State → Prop),
    oC G M p R s mi args c → cells ≤ R.cells → slots ≤ R.slots → va_P (oDD G) vwCl (oWl G m) H → va_S (oA G) s.heap H locs → lv_has ls M.2.2.1 (oLv G lv) →
    (∀ (H' : Heap) (locs' : List Loc) (ls' : Array Slot) (pc' : Nat), va_P (oDD G) vwCl (oWl G m') H' → va_S (oA G) s.heap H' locs' → decode M.2.1 pc' = .ok (oRet r, 1) →
      W p (oL G) e R s mi args below meth c H' locs' cells slots Q (F0 mi pc' ls' (r.toList.map (oCv G)))) →
    W p (oL G) e R s mi args below meth c H locs cells slots Q (F0 mi pc ls (st.map (oCv G)))
def oROK : Option FieldType → Option Value → Prop
  | none, none => True
  | some .int, some (.int _) => True
  | some .long, some (.long _) => True
  | some .boolean, some (.int v) => v = 0 ∨ v = 1
  | some .char, some (.int v) => narrow .char (.int v) = .int v
  | _, _ => False
/-- a method from its entry -/
def oEv (G : oG) (M : oD) (as : List Value) (m : oM) (r : Option Value) (m' : oM) : Prop := oRun G M 0 (lv_args 0 as) [] m r m' ∧ oROK M.2.2.2.1 r
-- memory
def oLn (p : Nat) : Nat := if p = 62 then 18 else match oShp p with
  | .inr o => o.2
  | _ => 0
def oRd (m : oM) (p k : Nat) : Int32 := if p = 62 then oOR k else m.1 p k
def oSI (m : oM) (p k : Nat) (x : Int32) : oM := (fun q j => if q = p ∧ j = k then x else m.1 q j, m.2)
def oSL (m : oM) (p k : Nat) (x : Int64) : oM := (m.1, fun q j => if q = p ∧ j = k then x else m.2 q j)
/-- reads and writes of arrays, as far as the index is in -/
def oAL (m : oM) (p : Nat) (i : Int32) : Option Int32 := if i < 0 ∨ oLn p ≤ i.toNatClampNeg then none else some (oRd m p i.toNatClampNeg)
def oAS (m : oM) (p : Nat) (i x : Int32) : Option oM := if i < 0 ∨ oLn p ≤ i.toNatClampNeg then none else some (oSI m p i.toNatClampNeg x)
def oALL (m : oM) (p : Nat) (i : Int32) : Option Int64 := if i < 0 ∨ oLn p ≤ i.toNatClampNeg then none else some (m.2 p i.toNatClampNeg)
def oASL (m : oM) (p : Nat) (i : Int32) (x : Int64) : Option oM := if i < 0 ∨ oLn p ≤ i.toNatClampNeg then none else some (oSL m p i.toNatClampNeg x)
-- lemmas on the world
theorem oCv_cat (G : oG) (hs : ∀ p, (oSp G p).category = 1) (v : Value) : (oCv G v).category = v.category := by
  cases v <;> try rfl
  rename_i p
  show (if p < 61 then Value.ref (oB G + p) else oSp G p).category = 1
  split
  · rfl
  · exact hs p
theorem oWl_at (G : oG) (m : oM) {p : Nat} (h : p < 61) : (oWl G m)[p]? = some (oB G + p, oE G m p) := by
  unfold oWl
  rw [List.getElem?_map, List.getElem?_range h]
  rfl
theorem oWl_len (G : oG) (m : oM) : (oWl G m).length = 61 := by simp [oWl]
theorem oWl_D (G : oG) (m : oM) : va_D (oA G) (oWl G m) := by
  have key : ∀ (k : Nat) (q : Nat × va_E), (oWl G m)[k]? = some q → q.1 = oB G + k := by
    intro k q h
    have hk : k < 61 := by
      have := (List.getElem?_eq_some_iff.mp h).1
      rwa [oWl_len] at this
    rw [oWl_at G m hk] at h
    cases h
    rfl
  refine ⟨fun i j x y hi hj hxy => ?_, fun k q hk => ?_⟩
  · rw [key i x hi, key j y hj] at hxy
    omega
  · show oB G ≤ q.1
    rw [key k q hk]
    omega
theorem oFs_at (b : Nat) (f : Nat → Int32) (g : Nat → Int64) : ∀ (l : List (Nat × Nat)) (k j : Nat) (q : Nat × Nat), l[j]? = some q →
    (oFs b f g k l)[j]? = some (if q.1 = 0 then Value.int (f (k + j)) else if q.1 = 1 then Value.long (g (k + j)) else Value.ref (b + q.2))
  | [], k, j, q, h => by simp at h
  | a :: l, k, 0, q, h => by
    simp at h
    subst h
    simp [oFs]
  | a :: l, k, j + 1, q, h => by
    simp at h
    have := oFs_at b f g l (k + 1) j q h
    simp only [oFs, List.getElem?_cons_succ]
    rw [this, show k + 1 + j = k + (j + 1) by omega]
theorem oFs_len (b : Nat) (f : Nat → Int32) (g : Nat → Int64) : ∀ (l : List (Nat × Nat)) (k : Nat), (oFs b f g k l).length = l.length
  | [], _ => rfl
  | a :: l, k => by simp [oFs, oFs_len b f g l (k + 1)]
theorem oFs_setI (b : Nat) (f : Nat → Int32) (g : Nat → Int64) (x : Int32) : ∀ (l : List (Nat × Nat)) (k j d : Nat), l[j]? = some (0, d) →
    oFs b (fun i => if i = k + j then x else f i) g k l = (oFs b f g k l).set j (.int x)
  | [], k, j, d, h => by simp at h
  | a :: l, k, 0, d, h => by
    simp at h
    subst h
    have hx : ∀ (l : List (Nat × Nat)) (n : Nat), k < n → oFs b (fun i => if i = k then x else f i) g n l = oFs b f g n l := by
      intro l
      induction l with
      | nil => intro n _; rfl
      | cons c l ih => intro n hn; simp [oFs, ih (n + 1) (by omega), show n ≠ k by omega]
    simp [oFs, hx l (k + 1) (by omega)]
  | a :: l, k, j + 1, d, h => by
    simp at h
    have := oFs_setI b f g x l (k + 1) j d h
    simp only [oFs, List.set_cons_succ]
    rw [show k + 1 + j = k + (j + 1) by omega] at this
    rw [this]
    simp [show k ≠ k + (j + 1) by omega]
theorem oFs_setL (b : Nat) (f : Nat → Int32) (g : Nat → Int64) (x : Int64) : ∀ (l : List (Nat × Nat)) (k j d : Nat), l[j]? = some (1, d) →
    oFs b f (fun i => if i = k + j then x else g i) k l = (oFs b f g k l).set j (.long x)
  | [], k, j, d, h => by simp at h
  | a :: l, k, 0, d, h => by
    simp at h
    subst h
    have hx : ∀ (l : List (Nat × Nat)) (n : Nat), k < n → oFs b f (fun i => if i = k then x else g i) n l = oFs b f g n l := by
      intro l
      induction l with
      | nil => intro n _; rfl
      | cons c l ih => intro n hn; simp [oFs, ih (n + 1) (by omega), show n ≠ k by omega]
    simp [oFs, hx l (k + 1) (by omega)]
  | a :: l, k, j + 1, d, h => by
    simp at h
    have := oFs_setL b f g x l (k + 1) j d h
    simp only [oFs, List.set_cons_succ]
    rw [show k + 1 + j = k + (j + 1) by omega] at this
    rw [this]
    simp [show k ≠ k + (j + 1) by omega]
theorem oWl_set (G : oG) (m m' : oM) (p : Nat) (h : p < 61) (hn : ∀ q, q ≠ p → oE G m' q = oE G m q) : (oWl G m).set p (oB G + p, oE G m' p) = oWl G m' := by
  apply List.ext_getElem?
  intro k
  by_cases hk : k = p
  · subst hk
    rw [List.getElem?_set_self (by rw [oWl_len]; exact h), oWl_at G m' h]
  · rw [List.getElem?_set_ne (Ne.symm hk)]
    by_cases h2 : k < 61
    · rw [oWl_at G m h2, oWl_at G m' h2, hn k hk]
    · rw [List.getElem?_eq_none (by rw [oWl_len]; omega), List.getElem?_eq_none (by rw [oWl_len]; omega)]
theorem oE_SI_ne (G : oG) (m : oM) (p k : Nat) (x : Int32) (q : Nat) (h : q ≠ p) : oE G (oSI m p k x) q = oE G m q := by
  unfold oE
  have : (oSI m p k x).1 q = m.1 q := by
    funext j
    simp [oSI, h]
  rw [this]
  rfl
theorem oE_SL_ne (G : oG) (m : oM) (p k : Nat) (x : Int64) (q : Nat) (h : q ≠ p) : oE G (oSL m p k x) q = oE G m q := by
  unfold oE
  have : (oSL m p k x).2 q = m.2 q := by
    funext j
    simp [oSL, h]
  rw [this]
  rfl
theorem oE_SI_f (G : oG) (m : oM) {p k ci d : Nat} {fs : List (Nat × Nat)} (x : Int32) (hs : oShp p = .inl (ci, fs)) (hk : fs[k]? = some (0, d)) : oE G (oSI m p k x) p = .inr (ci, (oFs (oB G) (m.1 p) (m.2 p) 0 fs).set k (.int x)) := by
  unfold oE
  rw [hs]
  have : (oSI m p k x).1 p = fun i => if i = 0 + k then x else m.1 p i := by
    funext j
    simp [oSI]
  rw [this, ← oFs_setI (oB G) (m.1 p) (m.2 p) x fs 0 k d hk]
  rfl
theorem oE_SL_f (G : oG) (m : oM) {p k ci d : Nat} {fs : List (Nat × Nat)} (x : Int64) (hs : oShp p = .inl (ci, fs)) (hk : fs[k]? = some (1, d)) : oE G (oSL m p k x) p = .inr (ci, (oFs (oB G) (m.1 p) (m.2 p) 0 fs).set k (.long x)) := by
  unfold oE
  rw [hs]
  have : (oSL m p k x).2 p = fun i => if i = 0 + k then x else m.2 p i := by
    funext j
    simp [oSL]
  rw [this, ← oFs_setL (oB G) (m.1 p) (m.2 p) x fs 0 k d hk]
  rfl
theorem oE_SI_a (G : oG) (m : oM) {p k n : Nat} (x : Int32) (hs : oShp p = .inr (0, n)) : oE G (oSI m p k x) p = .inl (oCI G, n, .inl (upd (m.1 p) k x)) := by
  unfold oE
  rw [hs]
  have : (oSI m p k x).1 p = upd (m.1 p) k x := by
    funext j
    simp [oSI, upd]
  rw [this]
  rfl
theorem oE_SL_a (G : oG) (m : oM) {p k n : Nat} (x : Int64) (hs : oShp p = .inr (1, n)) : oE G (oSL m p k x) p = .inl (oCL G, n, .inr (.inl (vp_updL (m.2 p) k x))) := by
  unfold oE
  rw [hs]
  have : (oSL m p k x).2 p = vp_updL (m.2 p) k x := by
    funext j
    simp [oSL, vp_updL]
  rw [this]
  rfl
theorem oShp_lt {p : Nat} {x : oSh} (h : oShp p = x) (hx : x ≠ .inr (2, 0)) : p < 61 := by
  rcases Nat.lt_or_ge p 61 with q | q
  · exact q
  · exfalso
    apply hx
    rw [← h]
    unfold oShp
    rw [List.getD_eq_getElem?_getD, List.getElem?_eq_none (by exact q)]
    rfl
theorem oSt_moved {G : oG} {u U : State} (hW : u.WarmedH U.vm) (hh : ∀ a : Nat, a < u.heap.size → ¬ oA G a → U.heap[a]? = u.heap[a]?) (h : oSt G u) : oSt G U := by
  have hv := hW.alike
  obtain ⟨⟨t1, a1, b1, c1⟩, ⟨t2, a2, b2, c2⟩, ⟨t3, a3, b3⟩, ⟨t4, v4, a4, b4, c4, d4, e4, f4, g4⟩, h5, h6, h7, h8⟩ := h
  exact ⟨⟨t1, a1, (b1.kept hh).moved hv, (c1.kept hh).moved hv⟩, ⟨t2, a2, (b2.kept hh).moved hv, (c2.kept hh).moved hv⟩, ⟨t3, a3, (b3.kept hh).moved hv⟩,
    ⟨t4, v4, a4, b4, vk_R.warm hW c4, va_O.moved hv (d4.kept hh), va_OF.moved hv (e4.kept hh), va_OF.moved hv (f4.kept hh), (g4.kept hh).moved hv⟩, (h5.kept hh).moved hv, (h6.kept hh).moved hv, h7, fun q hq => (h8 q hq).warmM hW⟩
theorem oW_moved {G : oG} {u U : State} (hW : u.WarmedH U.vm) (hh : ∀ a : Nat, a < u.heap.size → ¬ oA G a → U.heap[a]? = u.heap[a]?) (h : oW G u) : oW G U := ⟨va_K.moved hW.alike h.1, oSt_moved hW hh h.2⟩
theorem oW_calling {G : oG} {U : State} (g : JFrame) (mk : MethodId) (a : Array Value) (h : oW G U) : oW G (U.calling g mk a) := by
  refine oW_moved (u := U) ?_ (fun _ _ _ => rfl) h
  exact State.WarmedH.refl U

