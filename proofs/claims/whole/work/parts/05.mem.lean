/-- a field's link, and what the tables say of it -/
def oFd (own : String) (idx ci k : Nat) : Prop := ∃ (C : String) (T : u_T) (N : Nat), vwCl[ci]? = some (C, T, N) ∧ k < N ∧ (∀ w ∈ u_ws C T N, w ∈ oTB) ∧ Cond.fieldLink own idx (T k).1 (T k).2.1 (T k).2.2.1 ∈ oTB
def oFp (own : String) (idx ci k : Nat) (ty : FieldType) : Prop := ∃ (C : String) (T : u_T) (N : Nat) (t0 : Nat → FieldType), vwCl[ci]? = some (C, T, N) ∧ k < N ∧ (∀ w ∈ u_ws C T N, w ∈ oTB) ∧ Cond.fieldLink own idx (T k).1 (T k).2.1 (T k).2.2.1 ∈ oTB ∧
  (∀ k, k < N → parseFieldDescriptor (T k).2.2.1 = some (t0 k)) ∧ (∀ a, a < N → ∀ b, b < N → a ≠ b → (T a).2.1 ≠ (T b).2.1) ∧ (T k).2.2.2 = false ∧ parseFieldDescriptor (T k).2.2.1 = some ty
/-- a method that can be called: n arguments beside the receiver -/
def oMd (N : oD) (n : Nat) : Prop := Cond.initialized N.1.cls ∈ oTB ∧ Cond.code N.1 N.2.1 N.2.2.1 N.2.2.2.1 ∈ oTB ∧ (N.1.cls ≠ "java/lang/invoke/MethodHandle" ∧ N.1.cls ≠ "java/lang/invoke/VarHandle") ∧ (parseMethodDescriptor N.1.desc).map (fun d => d.parameters.length) = some n ∧ plainFor N.1 = true ∧ N.2.2.2.2.cells = 0 ∧ N.2.2.2.2.slots = 0
def oLkV (own : String) (idx : Nat) (N : oD) (n : Nat) : Prop := Cond.methodLink own idx N.1 ∈ oTB ∧ Cond.instanceMethod N.1 ∈ oTB ∧ Cond.selects N.1.cls N.1 N.1 ∈ oTB ∧ oMd N n
def oLkS (own : String) (idx : Nat) (N : oD) (n : Nat) : Prop := Cond.methodLink own idx N.1 ∈ oTB ∧ Cond.static N.1 ∈ oTB ∧ oMd N n
def oLkN (own : String) (idx : Nat) (N : oD) (n : Nat) : Prop := (own, idx, N.1) ∈ oNW ∧ Cond.static N.1 ∈ oTB ∧ oMd N n
/-- a callee's room in its caller's -/
def oFit (N M : oD) : Prop := N.2.2.2.2.frames + 1 ≤ M.2.2.2.2.frames ∧ 8 + (N.2.2.1 + 11) + N.2.2.2.2.locals ≤ M.2.2.2.2.locals
abbrev oWs (N : oD) : List Cond := Cond.code N.1 N.2.1 N.2.2.1 N.2.2.2.1 :: oTB
theorem oSl_len : ∀ vs : List Value, (lg_sl vs).length = (vs.map fun v => v.category).sum
  | [] => rfl
  | v :: vs => by
    have ih := oSl_len vs
    unfold lg_sl at ih ⊢
    rw [List.flatMap_cons, List.length_append, ih, List.map_cons, List.sum_cons]
    rcases lv_cat v with h | h <;> simp [h]
theorem oMet_ofW {l : Launch} {y : MethodName} {ws ws' : List Cond} {rm : Room} {Pc : Array Value → State → Prop} {Qc : Array Value → State → Outcome → State → Prop} {mc ms : Nat} {free : Addr → Prop} {cc : ByteArray} {maxL : Nat} {ret : Option FieldType}
    (hy : plainFor y = true) (hw : ws = Cond.code y cc maxL ret :: ws')
    (body : ∀ p e s m args below meth c s₁, BodyLoose p l y (headSpec ws rm) cc maxL ret e s m args below meth c s₁ → c.maxLocals = maxL → Pc args s →
      W p l e (headSpec ws rm).room s m args below meth c s.heap [] 0 0 (MQ below Qc args s mc ms free) (entryFrame m args maxL)) : Met l y ws rm Pc Qc mc ms free := by
  refine MetFree.of_bodySF (code := cc) (maxLocals := maxL) (ret := ret) hy ?_ ?_
  · intro args s m h hn
    obtain ⟨meth, c, h1, h2, h3, h4, h5, h6, -, -⟩ := Cond.code_spec hn (atoms_spec (ws := ws) h _ (by rw [hw]; exact List.mem_cons_self))
    exact ⟨meth, c, h1, h2, h3, h4, h5, h6⟩
  · intro p e s m args below meth c s₁ B hml hP _
    have hh0 : s₁.heap = s.heap := by rw [B.state]; rfl
    obtain ⟨t, a1, o, b1, b2, b3⟩ := body p e s m args below meth c s₁ B hml hP s₁ hh0 (Stand.of_body B)
    exact ⟨t, o, a1, b1, b2, ⟨b3.1, b3.2⟩⟩
section OMEM
variable {G : oG} {M : oD} {pc : Nat} {lv : List (Nat × Value)} {st : List Value} {m m' : oM} {r : Option Value}
theorem oCat_map (hs : ∀ p, (oSp G p).category = 1) (vs : List Value) : ((vs.map (oCv G)).map fun v => v.category) = vs.map fun v => v.category := by
  rw [List.map_map]
  apply List.map_congr_left
  intro v _
  exact oCv_cat G hs v
theorem oLv_args (hs : ∀ p, (oSp G p).category = 1) : ∀ (vs : List Value) (i : Nat), oLv G (lv_args i vs) = lv_args i (vs.map (oCv G))
  | [], i => rfl
  | v :: vs, i => by
    show (i, oCv G v) :: oLv G (lv_args _ vs) = (i, oCv G v) :: lv_args _ (vs.map (oCv G))
    rw [oLv_args hs vs, oCv_cat G hs v]

theorem oRun.getI {p0 idx ci k0 d : Nat} {fs : List (Nat × Nat)} (n : Nat) (hd : decode M.2.1 pc = .ok (.getfield idx, 3)) (hf : oFd M.1.cls idx ci k0) (hsh : oShp p0 = .inl (ci, fs)) (hk : fs[k0]? = some (0, d)) (hn : pc + 3 = n) (k : oRun G M n lv (Value.int (m.1 p0 k0) :: st) m r m') : oRun G M pc lv (.ref p0 :: st) m r m' := by
  subst hn
  intro p e R s mi args below meth c H locs ls cells slots Q C h1 h2 hP hS hl hr
  obtain ⟨cC, cT, cN, e1, e2, e3, e4⟩ := hf
  obtain ⟨e5, e6⟩ := oWl_ob (G := G) (m := m) hsh
  have k1 := (k p e R s mi args below meth c H locs ls cells slots Q C h1 h2 hP hS hl hr)
  rw [List.map_cons] at k1
  rw [List.map_cons, oCv_lt e5]
  refine va_get C.1 C.2.1 C.2.2.2.2.1 e3 C.2.2.2.1 C.2.2.2.2.2.1.1 hP p0 e6 e1 k0 e2 (C.2.2.2.2.1 _ e4) (fun x h => h) ?_ hd k1
  rw [oFs_at _ _ _ _ _ _ _ hk]
  simp [oCv]
theorem oRun.getL {p0 idx ci k0 d : Nat} {fs : List (Nat × Nat)} (n : Nat) (hd : decode M.2.1 pc = .ok (.getfield idx, 3)) (hf : oFd M.1.cls idx ci k0) (hsh : oShp p0 = .inl (ci, fs)) (hk : fs[k0]? = some (1, d)) (hn : pc + 3 = n) (k : oRun G M n lv (Value.long (m.2 p0 k0) :: st) m r m') : oRun G M pc lv (.ref p0 :: st) m r m' := by
  subst hn
  intro p e R s mi args below meth c H locs ls cells slots Q C h1 h2 hP hS hl hr
  obtain ⟨cC, cT, cN, e1, e2, e3, e4⟩ := hf
  obtain ⟨e5, e6⟩ := oWl_ob (G := G) (m := m) hsh
  have k1 := (k p e R s mi args below meth c H locs ls cells slots Q C h1 h2 hP hS hl hr)
  rw [List.map_cons] at k1
  rw [List.map_cons, oCv_lt e5]
  refine va_get C.1 C.2.1 C.2.2.2.2.1 e3 C.2.2.2.1 C.2.2.2.2.2.1.1 hP p0 e6 e1 k0 e2 (C.2.2.2.2.1 _ e4) (fun x h => h) ?_ hd k1
  rw [oFs_at _ _ _ _ _ _ _ hk]
  simp [oCv]
theorem oRun.getR {p0 idx ci k0 d : Nat} {fs : List (Nat × Nat)} (n : Nat) (hd : decode M.2.1 pc = .ok (.getfield idx, 3)) (hf : oFd M.1.cls idx ci k0) (hsh : oShp p0 = .inl (ci, fs)) (hk : fs[k0]? = some (2, d)) (hq : d < 61) (hn : pc + 3 = n) (k : oRun G M n lv (Value.ref d :: st) m r m') : oRun G M pc lv (.ref p0 :: st) m r m' := by
  subst hn
  intro p e R s mi args below meth c H locs ls cells slots Q C h1 h2 hP hS hl hr
  obtain ⟨cC, cT, cN, e1, e2, e3, e4⟩ := hf
  obtain ⟨e5, e6⟩ := oWl_ob (G := G) (m := m) hsh
  have k1 := (k p e R s mi args below meth c H locs ls cells slots Q C h1 h2 hP hS hl hr)
  rw [List.map_cons] at k1
  rw [List.map_cons, oCv_lt e5]
  refine va_get C.1 C.2.1 C.2.2.2.2.1 e3 C.2.2.2.1 C.2.2.2.2.2.1.1 hP p0 e6 e1 k0 e2 (C.2.2.2.2.1 _ e4) (fun x h => h) ?_ hd k1
  rw [oFs_at _ _ _ _ _ _ _ hk]
  simp [oCv, hq]
theorem oRun.putI {p0 idx ci k0 d : Nat} {fs : List (Nat × Nat)} {x : Int32} (n : Nat) (hd : decode M.2.1 pc = .ok (.putfield idx, 3)) (hf : oFp M.1.cls idx ci k0 .int) (hsh : oShp p0 = .inl (ci, fs)) (hk : fs[k0]? = some (0, d)) (hn : pc + 3 = n) (k : oRun G M n lv st (oSI m p0 k0 x) r m') : oRun G M pc lv (.int x :: .ref p0 :: st) m r m' := by
  subst hn
  intro p e R s mi args below meth c H locs ls cells slots Q C h1 h2 hP hS hl hr
  obtain ⟨cC, cT, cN, t0, e1, e2, e3, e4, f1, f2, f3, f4⟩ := hf
  obtain ⟨e5, e6⟩ := oWl_ob (G := G) (m := m) hsh
  rw [List.map_cons, List.map_cons, oCv_lt e5]
  refine va_put C.1 C.2.1 C.2.2.2.2.1 e3 t0 f1 f2 C.2.2.2.1 C.2.2.2.2.2.1.1 hP (oWl_D G m) hS p0 e6 e1 k0 e2 (C.2.2.2.2.1 _ e4) (fun x h => h) f3 f4 (v := .int x) rfl rfl (by rw [oFs_len]; exact (List.getElem?_eq_some_iff.mp hk).1) hd (fun H1 locs1 hP1 hD1 hS1 => ?_)
  refine k p e R s mi args below meth c H1 locs1 ls cells slots Q C h1 h2 ?_ hS1 hl hr
  rw [← oWl_set G m (oSI m p0 k0 x) p0 e5 (fun q hq => oE_SI_ne G m p0 k0 x q hq), oE_SI_f G m x hsh hk]
  exact hP1
theorem oRun.putZ {p0 idx ci k0 d : Nat} {fs : List (Nat × Nat)} {x : Int32} (n : Nat) (hd : decode M.2.1 pc = .ok (.putfield idx, 3)) (hf : oFp M.1.cls idx ci k0 .boolean) (hsh : oShp p0 = .inl (ci, fs)) (hk : fs[k0]? = some (0, d)) (hz : x = 0 ∨ x = 1) (hn : pc + 3 = n) (k : oRun G M n lv st (oSI m p0 k0 x) r m') : oRun G M pc lv (.int x :: .ref p0 :: st) m r m' := by
  subst hn
  intro p e R s mi args below meth c H locs ls cells slots Q C h1 h2 hP hS hl hr
  obtain ⟨cC, cT, cN, t0, e1, e2, e3, e4, f1, f2, f3, f4⟩ := hf
  obtain ⟨e5, e6⟩ := oWl_ob (G := G) (m := m) hsh
  rw [List.map_cons, List.map_cons, oCv_lt e5]
  refine va_put C.1 C.2.1 C.2.2.2.2.1 e3 t0 f1 f2 C.2.2.2.1 C.2.2.2.2.2.1.1 hP (oWl_D G m) hS p0 e6 e1 k0 e2 (C.2.2.2.2.1 _ e4) (fun x h => h) f3 f4 (v := .int x) (by rcases hz with rfl | rfl <;> rfl) (by rcases hz with rfl | rfl <;> rfl) (by rw [oFs_len]; exact (List.getElem?_eq_some_iff.mp hk).1) hd (fun H1 locs1 hP1 hD1 hS1 => ?_)
  refine k p e R s mi args below meth c H1 locs1 ls cells slots Q C h1 h2 ?_ hS1 hl hr
  rw [← oWl_set G m (oSI m p0 k0 x) p0 e5 (fun q hq => oE_SI_ne G m p0 k0 x q hq), oE_SI_f G m x hsh hk]
  exact hP1
theorem oRun.putL {p0 idx ci k0 d : Nat} {fs : List (Nat × Nat)} {x : Int64} (n : Nat) (hd : decode M.2.1 pc = .ok (.putfield idx, 3)) (hf : oFp M.1.cls idx ci k0 .long) (hsh : oShp p0 = .inl (ci, fs)) (hk : fs[k0]? = some (1, d)) (hn : pc + 3 = n) (k : oRun G M n lv st (oSL m p0 k0 x) r m') : oRun G M pc lv (.long x :: .ref p0 :: st) m r m' := by
  subst hn
  intro p e R s mi args below meth c H locs ls cells slots Q C h1 h2 hP hS hl hr
  obtain ⟨cC, cT, cN, t0, e1, e2, e3, e4, f1, f2, f3, f4⟩ := hf
  obtain ⟨e5, e6⟩ := oWl_ob (G := G) (m := m) hsh
  rw [List.map_cons, List.map_cons, oCv_lt e5]
  refine va_put C.1 C.2.1 C.2.2.2.2.1 e3 t0 f1 f2 C.2.2.2.1 C.2.2.2.2.2.1.1 hP (oWl_D G m) hS p0 e6 e1 k0 e2 (C.2.2.2.2.1 _ e4) (fun x h => h) f3 f4 (v := .long x) rfl rfl (by rw [oFs_len]; exact (List.getElem?_eq_some_iff.mp hk).1) hd (fun H1 locs1 hP1 hD1 hS1 => ?_)
  refine k p e R s mi args below meth c H1 locs1 ls cells slots Q C h1 h2 ?_ hS1 hl hr
  rw [← oWl_set G m (oSL m p0 k0 x) p0 e5 (fun q hq => oE_SL_ne G m p0 k0 x q hq), oE_SL_f G m x hsh hk]
  exact hP1
theorem oIn_of {p n : Nat} {i : Int32} {α : Type} {a b : α} (hp : p ≠ 62) (hs : ∃ kd, oShp p = .inr (kd, n)) (h : (if i < 0 ∨ oLn p ≤ i.toNatClampNeg then none else some a) = some b) : vp_in i n ∧ b = a := by
  obtain ⟨kd, hs⟩ := hs
  have hl : oLn p = n := by
    unfold oLn
    rw [if_neg hp, hs]
  rw [hl] at h
  by_cases hc : i < 0 ∨ n ≤ i.toNatClampNeg
  · rw [if_pos hc] at h; cases h
  · rw [if_neg hc] at h
    exact ⟨hc, (Option.some.inj h).symm⟩
theorem oShp62 : oShp 62 = .inr (2, 0) := rfl
/-- an array of ints: of the world, or ORDERS -/
def oIA (p : Nat) : Prop := p = 62 ∨ ∃ n, oShp p = .inr (0, n)
theorem oRun.iaload {p0 : Nat} {i x : Int32} (n : Nat) (hd : decode M.2.1 pc = .ok (.iaload, 1)) (hp : oIA p0) (hx : oAL m p0 i = some x) (hn : pc + 1 = n) (k : oRun G M n lv (.int x :: st) m r m') : oRun G M pc lv (.int i :: .ref p0 :: st) m r m' := by
  subst hn
  intro p e R s mi args below meth c H locs ls cells slots Q C h1 h2 hP hS hl hr
  have k1 := (k p e R s mi args below meth c H locs ls cells slots Q C h1 h2 hP hS hl hr)
  by_cases h62 : p0 = 62
  · subst h62
    obtain ⟨-, ⟨t, e1, e2, e3⟩, -⟩ := C.2.2.2.2.2.1.2
    have e4 : oCv G (.ref 62) = .ref t := e1
    rw [List.map_cons, List.map_cons, e4]
    have hx' : (if i < 0 ∨ 18 ≤ i.toNatClampNeg then none else some (oOR i.toNatClampNeg)) = some x := hx
    by_cases hc : i < 0 ∨ 18 ≤ i.toNatClampNeg
    · rw [if_pos hc] at hx'; cases hx'
    · rw [if_neg hc] at hx'
      cases hx'
      exact va_ti C.1 C.2.1 e3 hS hc rfl hd k1
  · rcases hp with hp | ⟨n, hp⟩
    · exact absurd hp h62
    · obtain ⟨hin, rfl⟩ := oIn_of h62 ⟨_, hp⟩ hx
      obtain ⟨e5, e6⟩ := oWl_ai (G := G) (m := m) hp
      rw [List.map_cons, List.map_cons, oCv_lt e5]
      have e7 : oRd m p0 i.toNatClampNeg = m.1 p0 i.toNatClampNeg := if_neg h62
      rw [e7] at k1
      exact va_iald C.1 C.2.1 C.2.2.2.2.2.1.1 hP p0 0 e6 rfl hin hd k1
theorem oRun.sload {i : Int32} (n : Nat) (hd : decode M.2.1 pc = .ok (.iaload, 1)) (hi : vp_in i (oXL G)) (hn : pc + 1 = n) (k : oRun G M n lv (.int (oXs G i.toNatClampNeg) :: st) m r m') : oRun G M pc lv (.int i :: .ref 64 :: st) m r m' := by
  subst hn
  intro p e R s mi args below meth c H locs ls cells slots Q C h1 h2 hP hS hl hr
  have k1 := (k p e R s mi args below meth c H locs ls cells slots Q C h1 h2 hP hS hl hr)
  obtain ⟨-, -, ⟨t, e1, e3⟩, -⟩ := C.2.2.2.2.2.1.2
  have e4 : oCv G (.ref 64) = .ref t := e1
  rw [List.map_cons, List.map_cons, e4]
  exact va_ti C.1 C.2.1 e3 hS hi rfl hd k1
theorem oRun.slen (n : Nat) (hd : decode M.2.1 pc = .ok (.arraylength, 1)) (hn : pc + 1 = n) (k : oRun G M n lv (.int (Int32.ofNat (oXL G)) :: st) m r m') : oRun G M pc lv (.ref 64 :: st) m r m' := by
  subst hn
  intro p e R s mi args below meth c H locs ls cells slots Q C h1 h2 hP hS hl hr
  have k1 := (k p e R s mi args below meth c H locs ls cells slots Q C h1 h2 hP hS hl hr)
  obtain ⟨-, -, ⟨t, e1, e3⟩, -⟩ := C.2.2.2.2.2.1.2
  have e4 : oCv G (.ref 64) = .ref t := e1
  rw [List.map_cons, e4]
  exact va_tlen C.1 C.2.1 e3 hS rfl hd k1
theorem oRun.iastore {p0 nn : Nat} {i x : Int32} {m1 : oM} (n : Nat) (hd : decode M.2.1 pc = .ok (.iastore, 1)) (hp : oShp p0 = .inr (0, nn)) (hx : oAS m p0 i x = some m1) (hn : pc + 1 = n) (k : oRun G M n lv st m1 r m') : oRun G M pc lv (.int x :: .int i :: .ref p0 :: st) m r m' := by
  subst hn
  intro p e R s mi args below meth c H locs ls cells slots Q C h1 h2 hP hS hl hr
  have h62 : p0 ≠ 62 := by intro h; subst h; rw [oShp62] at hp; cases hp
  obtain ⟨hin, rfl⟩ := oIn_of h62 ⟨_, hp⟩ hx
  obtain ⟨e5, e6⟩ := oWl_ai (G := G) (m := m) hp
  rw [List.map_cons, List.map_cons, List.map_cons, oCv_lt e5]
  refine va_iast C.1 C.2.1 C.2.2.2.2.2.1.1 hP (oWl_D G m) hS p0 0 e6 rfl hin hd (fun H1 locs1 hP1 hD1 hS1 => ?_)
  refine k p e R s mi args below meth c H1 locs1 ls cells slots Q C h1 h2 ?_ hS1 hl hr
  rw [← oWl_set G m (oSI m p0 i.toNatClampNeg x) p0 e5 (fun q hq => oE_SI_ne G m p0 _ x q hq), oE_SI_a G m x hp]
  exact hP1
theorem oRun.laload {p0 nn : Nat} {i : Int32} {x : Int64} (n : Nat) (hd : decode M.2.1 pc = .ok (.laload, 1)) (hp : oShp p0 = .inr (1, nn)) (hx : oALL m p0 i = some x) (hn : pc + 1 = n) (k : oRun G M n lv (.long x :: st) m r m') : oRun G M pc lv (.int i :: .ref p0 :: st) m r m' := by
  subst hn
  intro p e R s mi args below meth c H locs ls cells slots Q C h1 h2 hP hS hl hr
  have k1 := (k p e R s mi args below meth c H locs ls cells slots Q C h1 h2 hP hS hl hr)
  have h62 : p0 ≠ 62 := by intro h; subst h; rw [oShp62] at hp; cases hp
  obtain ⟨hin, rfl⟩ := oIn_of h62 ⟨_, hp⟩ hx
  obtain ⟨e5, e6⟩ := oWl_al (G := G) (m := m) hp
  rw [List.map_cons, List.map_cons, oCv_lt e5]
  exact va_lald C.1 C.2.1 C.2.2.2.2.2.1.1 hP p0 1 e6 rfl hin hd k1
theorem oRun.lastore {p0 nn : Nat} {i : Int32} {x : Int64} {m1 : oM} (n : Nat) (hd : decode M.2.1 pc = .ok (.lastore, 1)) (hp : oShp p0 = .inr (1, nn)) (hx : oASL m p0 i x = some m1) (hn : pc + 1 = n) (k : oRun G M n lv st m1 r m') : oRun G M pc lv (.long x :: .int i :: .ref p0 :: st) m r m' := by
  subst hn
  intro p e R s mi args below meth c H locs ls cells slots Q C h1 h2 hP hS hl hr
  have h62 : p0 ≠ 62 := by intro h; subst h; rw [oShp62] at hp; cases hp
  obtain ⟨hin, rfl⟩ := oIn_of h62 ⟨_, hp⟩ hx
  obtain ⟨e5, e6⟩ := oWl_al (G := G) (m := m) hp
  rw [List.map_cons, List.map_cons, List.map_cons, oCv_lt e5]
  refine va_last C.1 C.2.1 C.2.2.2.2.2.1.1 hP (oWl_D G m) hS p0 1 e6 rfl hin hd (fun H1 locs1 hP1 hD1 hS1 => ?_)
  refine k p e R s mi args below meth c H1 locs1 ls cells slots Q C h1 h2 ?_ hS1 hl hr
  rw [← oWl_set G m (oSL m p0 i.toNatClampNeg x) p0 e5 (fun q hq => oE_SL_ne G m p0 _ x q hq), oE_SL_a G m x hp]
  exact hP1
theorem oRun.alen {p0 kd nn : Nat} {v : Int32} (n : Nat) (hd : decode M.2.1 pc = .ok (.arraylength, 1)) (hp : oShp p0 = .inr (kd, nn)) (h61 : p0 < 61) (hkd : kd = 0 ∨ kd = 1) (hv : Int32.ofNat nn = v) (hn : pc + 1 = n) (k : oRun G M n lv (.int v :: st) m r m') : oRun G M pc lv (.ref p0 :: st) m r m' := by
  subst hn
  intro p e R s mi args below meth c H locs ls cells slots Q C h1 h2 hP hS hl hr
  have k1 := (k p e R s mi args below meth c H locs ls cells slots Q C h1 h2 hP hS hl hr)
  rw [List.map_cons, oCv_lt h61]
  rcases hkd with rfl | rfl
  · obtain ⟨-, e6⟩ := oWl_ai (G := G) (m := m) hp
    exact va_alen C.1 C.2.1 C.2.2.2.2.2.1.1 hP p0 0 e6 rfl hv hd k1
  · obtain ⟨-, e6⟩ := oWl_al (G := G) (m := m) hp
    exact va_alen C.1 C.2.1 C.2.2.2.2.2.1.1 hP p0 1 e6 rfl hv hd k1
/-- the length of an array of ints, ORDERS too -/
theorem oRun.aleni {p0 : Nat} (n : Nat) (hd : decode M.2.1 pc = .ok (.arraylength, 1)) (hp : oIA p0) (hn : pc + 1 = n) (k : oRun G M n lv (.int (Int32.ofNat (oLn p0)) :: st) m r m') : oRun G M pc lv (.ref p0 :: st) m r m' := by
  by_cases h62 : p0 = 62
  · subst h62
    subst hn
    intro p e R s mi args below meth c H locs ls cells slots Q C h1 h2 hP hS hl hr
    have k1 := (k p e R s mi args below meth c H locs ls cells slots Q C h1 h2 hP hS hl hr)
    obtain ⟨-, ⟨t, e1, e2, e3⟩, -⟩ := C.2.2.2.2.2.1.2
    have e4 : oCv G (.ref 62) = .ref t := e1
    rw [List.map_cons, e4]
    exact va_tlen C.1 C.2.1 e3 hS rfl hd k1
  · rcases hp with hp | ⟨nn, hp⟩
    · exact absurd hp h62
    · have hl : oLn p0 = nn := by
        unfold oLn
        rw [if_neg h62, hp]
      rw [hl] at k
      exact oRun.alen n hd hp (oShp_lt hp (by intro q; cases q)) (Or.inl rfl) rfl hn k
/-- the letters of KIND_LETTERS -/
theorem oRun.caload {i : Int32} (n : Nat) (hd : decode M.2.1 pc = .ok (.caload, 1)) (hi : vp_in i 6) (hn : pc + 1 = n) (k : oRun G M n lv (.int (oKL i.toNatClampNeg) :: st) m r m') : oRun G M pc lv (.int i :: .ref 61 :: st) m r m' := by
  subst hn
  intro p e R s mi args below meth c H locs ls cells slots Q C h1 h2 hP hS hl hr
  have k1 := (k p e R s mi args below meth c H locs ls cells slots Q C h1 h2 hP hS hl hr)
  obtain ⟨⟨t, e1, -, e3⟩, -⟩ := C.2.2.2.2.2.1.2
  have e4 : oCv G (.ref 61) = .ref t := e1
  rw [List.map_cons, List.map_cons, e4]
  exact va_tc C.1 C.2.1 e3 hS hi rfl hd k1
theorem oRun.clen (n : Nat) (hd : decode M.2.1 pc = .ok (.arraylength, 1)) (hn : pc + 1 = n) (k : oRun G M n lv (.int 6 :: st) m r m') : oRun G M pc lv (.ref 61 :: st) m r m' := by
  subst hn
  intro p e R s mi args below meth c H locs ls cells slots Q C h1 h2 hP hS hl hr
  have k1 := (k p e R s mi args below meth c H locs ls cells slots Q C h1 h2 hP hS hl hr)
  obtain ⟨⟨t, e1, -, e3⟩, -⟩ := C.2.2.2.2.2.1.2
  have e4 : oCv G (.ref 61) = .ref t := e1
  rw [List.map_cons, e4]
  exact va_tlen C.1 C.2.1 e3 hS rfl hd k1
theorem oRun.gets61 {idx : Nat} (n : Nat) (hd : decode M.2.1 pc = .ok (.getstatic idx, 3)) (hk : Cond.fieldLink M.1.cls idx RX8 "KIND_LETTERS" "[C" ∈ oTB) (hn : pc + 3 = n) (k : oRun G M n lv (.ref 61 :: st) m r m') : oRun G M pc lv st m r m' := by
  subst hn
  intro p e R s mi args below meth c H locs ls cells slots Q C h1 h2 hP hS hl hr
  have k1 := (k p e R s mi args below meth c H locs ls cells slots Q C h1 h2 hP hS hl hr)
  obtain ⟨⟨t, e1, e2, -⟩, -⟩ := C.2.2.2.2.2.1.2
  have e4 : oCv G (.ref 61) = .ref t := e1
  rw [List.map_cons, e4] at k1
  exact va_gets C.1 C.2.1 e2 hS C.2.2.2.1 (C.2.2.2.2.1 _ hk) (fun x h => h) hd k1
theorem oRun.gets62 {idx : Nat} (n : Nat) (hd : decode M.2.1 pc = .ok (.getstatic idx, 3)) (hk : Cond.fieldLink M.1.cls idx RX8 "ORDERS" "[I" ∈ oTB) (hn : pc + 3 = n) (k : oRun G M n lv (.ref 62 :: st) m r m') : oRun G M pc lv st m r m' := by
  subst hn
  intro p e R s mi args below meth c H locs ls cells slots Q C h1 h2 hP hS hl hr
  have k1 := (k p e R s mi args below meth c H locs ls cells slots Q C h1 h2 hP hS hl hr)
  obtain ⟨-, ⟨t, e1, e2, -⟩, -⟩ := C.2.2.2.2.2.1.2
  have e4 : oCv G (.ref 62) = .ref t := e1
  rw [List.map_cons, e4] at k1
  exact va_gets C.1 C.2.1 e2 hS C.2.2.2.1 (C.2.2.2.2.1 _ hk) (fun x h => h) hd k1
theorem oRun.gets66 {idx : Nat} (n : Nat) (hd : decode M.2.1 pc = .ok (.getstatic idx, 3)) (hk : Cond.fieldLink M.1.cls idx "jdk/internal/util/Preconditions" "SIOOBE_FORMATTER" "Ljava/util/function/BiFunction;" ∈ oTB) (hn : pc + 3 = n) (k : oRun G M n lv (.ref 66 :: st) m r m') : oRun G M pc lv st m r m' := by
  subst hn
  intro p e R s mi args below meth c H locs ls cells slots Q C h1 h2 hP hS hl hr
  have k1 := (k p e R s mi args below meth c H locs ls cells slots Q C h1 h2 hP hS hl hr)
  obtain ⟨-, -, -, -, -, e2, -⟩ := C.2.2.2.2.2.1.2
  exact va_gets C.1 C.2.1 e2 hS C.2.2.2.1 (C.2.2.2.2.1 _ hk) (fun x h => h) hd k1
theorem oRun.getsCS {idx : Nat} (n : Nat) (hd : decode M.2.1 pc = .ok (.getstatic idx, 3)) (hk : Cond.fieldLink M.1.cls idx "java/lang/String" "COMPACT_STRINGS" "Z" ∈ oTB) (hn : pc + 3 = n) (k : oRun G M n lv (.int 1 :: st) m r m') : oRun G M pc lv st m r m' := by
  subst hn
  intro p e R s mi args below meth c H locs ls cells slots Q C h1 h2 hP hS hl hr
  have k1 := (k p e R s mi args below meth c H locs ls cells slots Q C h1 h2 hP hS hl hr)
  obtain ⟨-, -, -, -, e2, -⟩ := C.2.2.2.2.2.1.2
  exact va_gets C.1 C.2.1 e2 hS C.2.2.2.1 (C.2.2.2.2.1 _ hk) (fun x h => h) hd k1
theorem oRun.getCoder {idx : Nat} (n : Nat) (hd : decode M.2.1 pc = .ok (.getfield idx, 3)) (hk : Cond.fieldLink M.1.cls idx "java/lang/String" "coder" "B" ∈ oTB) (hn : pc + 3 = n) (k : oRun G M n lv (.int 0 :: st) m r m') : oRun G M pc lv (.ref 63 :: st) m r m' := by
  subst hn
  intro p e R s mi args below meth c H locs ls cells slots Q C h1 h2 hP hS hl hr
  have k1 := (k p e R s mi args below meth c H locs ls cells slots Q C h1 h2 hP hS hl hr)
  obtain ⟨-, -, -, ⟨a, v, e1, e2, -, -, e5, -⟩, -⟩ := C.2.2.2.2.2.1.2
  have e4 : oCv G (.ref 63) = .ref a := e1
  rw [List.map_cons, e4]
  exact vk_getf C.1 C.2.1 e5 hS C.2.2.2.1 (C.2.2.2.2.1 _ hk) (fun x h => h) hd k1
theorem oRun.getValue {idx : Nat} (n : Nat) (hd : decode M.2.1 pc = .ok (.getfield idx, 3)) (hk : Cond.fieldLink M.1.cls idx "java/lang/String" "value" "[B" ∈ oTB) (hn : pc + 3 = n) (k : oRun G M n lv (.ref 65 :: st) m r m') : oRun G M pc lv (.ref 63 :: st) m r m' := by
  subst hn
  intro p e R s mi args below meth c H locs ls cells slots Q C h1 h2 hP hS hl hr
  have k1 := (k p e R s mi args below meth c H locs ls cells slots Q C h1 h2 hP hS hl hr)
  obtain ⟨-, -, -, ⟨a, v, e1, e2, -, -, -, e6, -⟩, -⟩ := C.2.2.2.2.2.1.2
  have e4 : oCv G (.ref 63) = .ref a := e1
  have e5 : oCv G (.ref 65) = .ref v := e2
  rw [List.map_cons, e5] at k1
  rw [List.map_cons, e4]
  exact vk_getf C.1 C.2.1 e6 hS C.2.2.2.1 (C.2.2.2.2.1 _ hk) (fun x h => h) hd k1
theorem oRun.baload {i : Int32} (n : Nat) (hd : decode M.2.1 pc = .ok (.baload, 1)) (hi : vp_in i 6) (hn : pc + 1 = n) (k : oRun G M n lv (.int (oKL i.toNatClampNeg) :: st) m r m') : oRun G M pc lv (.int i :: .ref 65 :: st) m r m' := by
  subst hn
  intro p e R s mi args below meth c H locs ls cells slots Q C h1 h2 hP hS hl hr
  have k1 := (k p e R s mi args below meth c H locs ls cells slots Q C h1 h2 hP hS hl hr)
  obtain ⟨-, -, -, ⟨a, v, e1, e2, -, -, -, -, e7⟩, -⟩ := C.2.2.2.2.2.1.2
  have e5 : oCv G (.ref 65) = .ref v := e2
  rw [List.map_cons, List.map_cons, e5]
  exact va_tb C.1 C.2.1 e7 hS hi rfl hd k1
theorem oRun.blen (n : Nat) (hd : decode M.2.1 pc = .ok (.arraylength, 1)) (hn : pc + 1 = n) (k : oRun G M n lv (.int 6 :: st) m r m') : oRun G M pc lv (.ref 65 :: st) m r m' := by
  subst hn
  intro p e R s mi args below meth c H locs ls cells slots Q C h1 h2 hP hS hl hr
  have k1 := (k p e R s mi args below meth c H locs ls cells slots Q C h1 h2 hP hS hl hr)
  obtain ⟨-, -, -, ⟨a, v, e1, e2, -, -, -, -, e7⟩, -⟩ := C.2.2.2.2.2.1.2
  have e5 : oCv G (.ref 65) = .ref v := e2
  rw [List.map_cons, e5]
  exact va_tlen C.1 C.2.1 e7 hS rfl hd k1
-- calls
theorem oEv.met {N : oD} {n : Nat} {as : List Value} {r1 : Option Value} {m1 : oM} (hm : oMd N n) (hw : (as.map fun v => v.category).sum ≤ N.2.2.1) (hs : ∀ p, (oSp G p).category = 1) (h : oEv G N as m r1 m1) :
    Met (oL G) N.1 (oWs N) N.2.2.2.2 (va_Pc (as.map (oCv G)) (fun U => va_P (oDD G) vwCl (oWl G m) U.heap ∧ oW G U)) (fun _ st oc t => oc = .returned (r1.map (oCv G)) ∧ va_P (oDD G) vwCl (oWl G m1) t.heap ∧ va_F (oA G) st t) 0 0 (oA G) := by
  refine oMet_ofW (cc := N.2.1) (maxL := N.2.2.1) (ret := N.2.2.2.1) hm.2.2.2.2.1 rfl ?_
  intro p e s mi args below meth c s₁ B hml hv
  obtain ⟨rfl, hP, hW⟩ := hv
  have hts := atoms_spec (ws := oWs N) B.pre
  have hown : s.vm.findClass N.1.cls = some mi.cls := findClass_of_methodNamed B.named
  have hlocks := B.notSynchronized
  have hr := B.returns
  have hl := lv_entry (as.map (oCv G)) (n := N.2.2.1) (by rw [oSl_len, oCat_map hs]; exact hw)
  rw [lg_entry_eq]
  rw [← oLv_args hs] at hl
  refine h.1 p e _ s mi (as.map (oCv G)).toArray below meth c s.heap [] _ 0 0 _ ⟨B.exec, B.bytes, hml, hown, fun w hw => hts w (List.mem_cons_of_mem _ hw), hW, Nat.le_refl _, Nat.le_refl _⟩ (Nat.zero_le _) (Nat.zero_le _) hP va_S.rf hl ?_
  intro H' locs' ls' pc' hP' hS' hd
  have hok := h.2
  have post : ∀ t : State, t.heap = H' → s.WarmedH t.vm → (Outcome.returned (r1.map (oCv G)) = .returned (r1.map (oCv G)) ∧ va_P (oDD G) vwCl (oWl G m1) t.heap ∧ va_F (oA G) s t) := fun t ht _ => ⟨rfl, by rw [ht]; exact hP', hS'.F ht⟩
  cases r1 with
  | none =>
    cases hq : N.2.2.2.1 with
    | none =>
      rw [hq] at hr
      exact W.vret B.exec B.bytes hr post hS'.2.2 hd
    | some ty => rw [hq] at hok; cases ty <;> exact hok.elim
  | some v =>
    cases hq : N.2.2.2.1 with
    | none => rw [hq] at hok; cases v <;> exact hok.elim
    | some ty =>
      rw [hq] at hok hr
      cases v with
      | int x =>
        have post' : ∀ t : State, t.heap = H' → s.WarmedH t.vm → (Outcome.returned (some (.int x)) = .returned ((some (Value.int x)).map (oCv G)) ∧ va_P (oDD G) vwCl (oWl G m1) t.heap ∧ va_F (oA G) s t) := post
        cases ty with
        | int => exact W.iret B.exec B.bytes hr post' hS'.2.2 hd
        | boolean => exact W.zret B.exec B.bytes hr (by rcases hok with rfl | rfl <;> rfl) post' hS'.2.2 hd
        | char => exact W.zret B.exec B.bytes hr hok post' hS'.2.2 hd
        | _ => exact hok.elim
      | long x =>
        have post' : ∀ t : State, t.heap = H' → s.WarmedH t.vm → (Outcome.returned (some (.long x)) = .returned ((some (Value.long x)).map (oCv G)) ∧ va_P (oDD G) vwCl (oWl G m1) t.heap ∧ va_F (oA G) s t) := post
        cases ty with
        | long => exact W.lret B.exec B.bytes hr post' hS'.2.2 hd
        | _ => exact hok.elim
      | _ => cases ty <;> exact hok.elim
theorem oBlind {B : State → Prop} {av : List Value} (h : ∀ (U : State) (g : JFrame) (mk : MethodId) (a : Array Value), B U → B (U.calling g mk a)) : FrameBlind (va_Pc av B) := fun a U g mk q => ⟨q.1, h U g mk a q.2⟩
theorem oBlindW (m : oM) (U : State) (g : JFrame) (mk : MethodId) (a : Array Value) (h : va_P (oDD G) vwCl (oWl G m) U.heap ∧ oW G U) : va_P (oDD G) vwCl (oWl G m) (U.calling g mk a).heap ∧ oW G (U.calling g mk a) := ⟨h.1, oW_calling g mk a h.2⟩
end OMEM
section OCALL
variable {p : Program} {e : Env} {R : Room} {s : State} {mi : MethodId} {args : Array Value} {below : List Frame} {meth : Method} {c : Code} {H : Heap} {locs : List Loc} {cells slots : Nat} {Q : State → Prop} {G : oG}
theorem oCall_go {pc : Nat} {ls : Array Slot} {st0 rest : List Value} {r1 : Option Value} {m1 : oM}
    (hr : va_Run p (oL G) e R s mi args below meth c H locs cells slots 0 0 (F0 mi pc ls st0) rest (fun st oc t => oc = .returned (r1.map (oCv G)) ∧ va_P (oDD G) vwCl (oWl G m1) t.heap ∧ va_F (oA G) st t) (oA G)) (hS : va_S (oA G) s.heap H locs)
    (kk : ∀ (H1 : Heap) (locs1 : List Loc), va_P (oDD G) vwCl (oWl G m1) H1 → va_S (oA G) s.heap H1 locs1 → W p (oL G) e R s mi args below meth c H1 locs1 cells slots Q (F0 mi (pc + 3) ls ((r1.map (oCv G)).toList ++ rest))) :
    W p (oL G) e R s mi args below meth c H locs cells slots Q (F0 mi pc ls st0) := by
  intro T hT X
  obtain ⟨v, st₀, t, T', L, h0, X', hL, e1, e2, ⟨hv, hp, hz, hk⟩, st⟩ := hr T hT X
  cases hv
  rw [h0] at hz hk
  obtain ⟨t2, a1, b1⟩ := kk T'.heap (locs ++ L) (by rw [e1]; exact hp) ⟨Nat.le_trans hS.1 (by rw [e1]; exact hz), fun q h1 h2 => by rw [e1, hk q (Nat.lt_of_lt_of_le h1 hS.1) h2]; exact hS.2.1 q h1 h2, fun q hq => by
      rcases List.mem_append.mp hq with h | h
      · exact hS.2.2 q h
      · exact hL q h⟩ T' rfl X'
  exact ⟨t2, st t2 a1, b1⟩
end OCALL
section ORUNC
variable {G : oG} {M : oD} {pc : Nat} {lv : List (Nat × Value)} {st : List Value} {m m' : oM} {r : Option Value}
theorem oRun.callV {N : oD} {o1 n1 idx ci : Nat} {as stk : List Value} {r1 : Option Value} {m1 : oM} {fs : List (Nat × Nat)} {q : vw_C} (n : Nat) (hd : decode M.2.1 pc = .ok (.invokevirtual idx, 3)) (hk : oLkV M.1.cls idx N n1) (hf : oFit N M) (hsh : oShp o1 = .inl (ci, fs)) (hc : vwCl[ci]? = some q) (hcq : q.1 = N.1.cls) (hn1 : as.length = n1)
    (hw : (st.map fun v => v.category).sum ≤ 8) (hwa : ((Value.ref o1 :: as).map fun v => v.category).sum ≤ N.2.2.1) (hst : stk = as.reverse ++ .ref o1 :: st) (hv : oEv G N (.ref o1 :: as) m r1 m1) (hn : pc + 3 = n) (k : oRun G M n lv (r1.toList ++ st) m1 r m') : oRun G M pc lv stk m r m' := by
  subst hn; subst hst
  intro p e R s mi args below meth c H locs ls cells slots Q C h1 h2 hP hS hl hr
  obtain ⟨k1, k2, k3, hm⟩ := hk
  have hs := C.2.2.2.2.2.1.2.2.2.2.2.2.2.1
  obtain ⟨e5, e6⟩ := oWl_ob (G := G) (m := m) hsh
  have hgood : ∀ w ∈ oWs N, ∀ (a' : Array Value) (U : State), s.WarmedH U.vm → w.before a' U = true := fun w hw' a' U hU => by
    have hw2 : w ∈ oTB := (List.mem_cons.mp hw').elim (fun h => h ▸ hm.2.1) id
    exact word_at hU (oTB_good w hw2) (C.2.2.2.2.1 _ hw2)
  have hrun := va_runV (l := oL G) (e := e) (below := below) (meth := meth) (H := H) (locs := locs) (cells := cells) (slots := slots) (As := as.map (oCv G)) (rest := st.map (oCv G)) (b := oB G + o1) (C := N.1.cls) (g := F0 mi pc ls ((as.map (oCv G)).reverse ++ .ref (oB G + o1) :: st.map (oCv G))) (R := R) ⟨C.1, C.2.1, C.2.2.1, C.2.2.2.1, C.2.2.2.2.1⟩ (hv.met hm hwa hs)
    (⟨⟨hm.2.2.2.2.2.1, hm.2.2.2.2.2.2, Nat.le_trans hf.1 C.2.2.2.2.2.2.1, Nat.le_trans hf.2 C.2.2.2.2.2.2.2, hgood, List.mem_cons_self, C.2.2.2.2.1 _ hm.2.1, C.2.2.2.2.1 _ hm.1, hm.2.2.1, fun sig h => by have h2 := hm.2.2.2.1; rw [h] at h2; exact (Option.some.inj h2).symm, C.2.2.2.2.1 _ k1⟩, C.2.2.2.2.1 _ k2, C.2.2.2.2.1 _ k3⟩ : CallW R s args M.1.cls N.1.cls idx N.1 N.2.1 N.2.2.1 N.2.2.2.1 (oWs N) N.2.2.2.2 0 0 n1)
    ⟨oBlind (oBlindW m), by have h := va_recv C.2.2.2.2.2.1.1 hP hc e6; rwa [hcq] at h, fun U hU hW => ⟨by rw [List.map_cons, oCv_lt e5], by rw [hU]; exact hP, oW_moved hW (fun a h1 h2 => by rw [hU]; exact hS.2.1 a h1 h2) C.2.2.2.2.2.1⟩⟩
    rfl (by rw [List.length_map]; exact hn1) hl.1 rfl (lv_room (by rw [oCat_map hs]; exact hw)) hd ⟨h1, h2⟩
  have e7 : (as.reverse ++ Value.ref o1 :: st).map (oCv G) = (as.map (oCv G)).reverse ++ .ref (oB G + o1) :: st.map (oCv G) := by
    rw [List.map_append, List.map_reverse, List.map_cons, oCv_lt e5]
  rw [e7]
  refine oCall_go hrun hS (fun H1 locs1 hP1 hS1 => ?_)
  have k4 := k p e R s mi args below meth c H1 locs1 ls cells slots Q C h1 h2 hP1 hS1 hl hr
  have e8 : (r1.toList ++ st).map (oCv G) = (r1.map (oCv G)).toList ++ st.map (oCv G) := by cases r1 <;> simp
  rwa [e8] at k4
theorem oRun.callStr {N : oD} {n1 idx : Nat} {as stk : List Value} {r1 : Option Value} {m1 : oM} (n : Nat) (hd : decode M.2.1 pc = .ok (.invokevirtual idx, 3)) (hk : oLkV M.1.cls idx N n1) (hf : oFit N M) (hcq : N.1.cls = "java/lang/String") (hn1 : as.length = n1)
    (hw : (st.map fun v => v.category).sum ≤ 8) (hwa : ((Value.ref 63 :: as).map fun v => v.category).sum ≤ N.2.2.1) (hst : stk = as.reverse ++ .ref 63 :: st) (hv : oEv G N (.ref 63 :: as) m r1 m1) (hn : pc + 3 = n) (k : oRun G M n lv (r1.toList ++ st) m1 r m') : oRun G M pc lv stk m r m' := by
  subst hn; subst hst
  intro p e R s mi args below meth c H locs ls cells slots Q C h1 h2 hP hS hl hr
  obtain ⟨k1, k2, k3, hm⟩ := hk
  have hs := C.2.2.2.2.2.1.2.2.2.2.2.2.2.1
  obtain ⟨-, -, -, ⟨a, v, e1, e2, -, e4, -⟩, -⟩ := C.2.2.2.2.2.1.2
  have e5 : oCv G (.ref 63) = .ref a := e1
  have hgood : ∀ w ∈ oWs N, ∀ (a' : Array Value) (U : State), s.WarmedH U.vm → w.before a' U = true := fun w hw' a' U hU => by
    have hw2 : w ∈ oTB := (List.mem_cons.mp hw').elim (fun h => h ▸ hm.2.1) id
    exact word_at hU (oTB_good w hw2) (C.2.2.2.2.1 _ hw2)
  have hrun := va_runV (l := oL G) (e := e) (below := below) (meth := meth) (H := H) (locs := locs) (cells := cells) (slots := slots) (As := as.map (oCv G)) (rest := st.map (oCv G)) (b := a) (C := N.1.cls) (g := F0 mi pc ls ((as.map (oCv G)).reverse ++ .ref a :: st.map (oCv G))) (R := R) ⟨C.1, C.2.1, C.2.2.1, C.2.2.2.1, C.2.2.2.2.1⟩ (hv.met hm hwa hs)
    (⟨⟨hm.2.2.2.2.2.1, hm.2.2.2.2.2.2, Nat.le_trans hf.1 C.2.2.2.2.2.2.1, Nat.le_trans hf.2 C.2.2.2.2.2.2.2, hgood, List.mem_cons_self, C.2.2.2.2.1 _ hm.2.1, C.2.2.2.2.1 _ hm.1, hm.2.2.1, fun sig h => by have h2 := hm.2.2.2.1; rw [h] at h2; exact (Option.some.inj h2).symm, C.2.2.2.2.1 _ k1⟩, C.2.2.2.2.1 _ k2, C.2.2.2.2.1 _ k3⟩ : CallW R s args M.1.cls N.1.cls idx N.1 N.2.1 N.2.2.1 N.2.2.2.1 (oWs N) N.2.2.2.2 0 0 n1)
    ⟨oBlind (oBlindW m), by
      obtain ⟨cell, f1, f2, f3, -⟩ := e4.kept hS.2.1
      exact ⟨cell, f1, f2, by rw [hcq]; exact f3⟩, fun U hU hW => ⟨by rw [List.map_cons, e5], by rw [hU]; exact hP, oW_moved hW (fun a h1 h2 => by rw [hU]; exact hS.2.1 a h1 h2) C.2.2.2.2.2.1⟩⟩
    rfl (by rw [List.length_map]; exact hn1) hl.1 rfl (lv_room (by rw [oCat_map hs]; exact hw)) hd ⟨h1, h2⟩
  have e7 : (as.reverse ++ Value.ref 63 :: st).map (oCv G) = (as.map (oCv G)).reverse ++ .ref a :: st.map (oCv G) := by
    rw [List.map_append, List.map_reverse, List.map_cons, e5]
  rw [e7]
  refine oCall_go hrun hS (fun H1 locs1 hP1 hS1 => ?_)
  have k4 := k p e R s mi args below meth c H1 locs1 ls cells slots Q C h1 h2 hP1 hS1 hl hr
  have e8 : (r1.toList ++ st).map (oCv G) = (r1.map (oCv G)).toList ++ st.map (oCv G) := by cases r1 <;> simp
  rwa [e8] at k4
theorem oRun.callS {N : oD} {n1 idx : Nat} {as stk : List Value} {r1 : Option Value} {m1 : oM} (n : Nat) (hd : decode M.2.1 pc = .ok (.invokestatic idx, 3)) (hk : oLkS M.1.cls idx N n1) (hf : oFit N M) (hn1 : as.length = n1)
    (hw : (st.map fun v => v.category).sum ≤ 8) (hwa : (as.map fun v => v.category).sum ≤ N.2.2.1) (hst : stk = as.reverse ++ st) (hv : oEv G N as m r1 m1) (hn : pc + 3 = n) (k : oRun G M n lv (r1.toList ++ st) m1 r m') : oRun G M pc lv stk m r m' := by
  subst hn; subst hst
  intro p e R s mi args below meth c H locs ls cells slots Q C h1 h2 hP hS hl hr
  obtain ⟨k1, k2, hm⟩ := hk
  have hs := C.2.2.2.2.2.1.2.2.2.2.2.2.2.1
  have hgood : ∀ w ∈ oWs N, ∀ (a' : Array Value) (U : State), s.WarmedH U.vm → w.before a' U = true := fun w hw' a' U hU => by
    have hw2 : w ∈ oTB := (List.mem_cons.mp hw').elim (fun h => h ▸ hm.2.1) id
    exact word_at hU (oTB_good w hw2) (C.2.2.2.2.1 _ hw2)
  have hrun := va_runS (l := oL G) (e := e) (below := below) (meth := meth) (H := H) (locs := locs) (cells := cells) (slots := slots) (As := as.map (oCv G)) (rest := st.map (oCv G)) (g := F0 mi pc ls ((as.map (oCv G)).reverse ++ st.map (oCv G))) (R := R) ⟨C.1, C.2.1, C.2.2.1, C.2.2.2.1, C.2.2.2.2.1⟩ (hv.met hm hwa hs)
    (⟨⟨hm.2.2.2.2.2.1, hm.2.2.2.2.2.2, Nat.le_trans hf.1 C.2.2.2.2.2.2.1, Nat.le_trans hf.2 C.2.2.2.2.2.2.2, hgood, List.mem_cons_self, C.2.2.2.2.1 _ hm.2.1, C.2.2.2.2.1 _ hm.1, hm.2.2.1, fun sig h => by have h2 := hm.2.2.2.1; rw [h] at h2; exact (Option.some.inj h2).symm, C.2.2.2.2.1 _ k1⟩, C.2.2.2.2.1 _ k2⟩ : CallB R s args M.1.cls idx N.1 N.2.1 N.2.2.1 N.2.2.2.1 (oWs N) N.2.2.2.2 0 0 n1 ∧ (Cond.static N.1).before args s = true)
    ⟨oBlind (oBlindW m), fun U hU hW => ⟨rfl, by rw [hU]; exact hP, oW_moved hW (fun a h1 h2 => by rw [hU]; exact hS.2.1 a h1 h2) C.2.2.2.2.2.1⟩⟩
    rfl (by rw [List.length_map]; exact hn1) hl.1 rfl (lv_room (by rw [oCat_map hs]; exact hw)) hd ⟨h1, h2⟩
  have e7 : (as.reverse ++ st).map (oCv G) = (as.map (oCv G)).reverse ++ st.map (oCv G) := by
    rw [List.map_append, List.map_reverse]
  rw [e7]
  refine oCall_go hrun hS (fun H1 locs1 hP1 hS1 => ?_)
  have k4 := k p e R s mi args below meth c H1 locs1 ls cells slots Q C h1 h2 hP1 hS1 hl hr
  have e8 : (r1.toList ++ st).map (oCv G) = (r1.map (oCv G)).toList ++ st.map (oCv G) := by cases r1 <;> simp
  rwa [e8] at k4
theorem oRun.callN {N : oD} {n1 idx : Nat} {as stk : List Value} {r1 : Option Value} {m1 : oM} (n : Nat) (hd : decode M.2.1 pc = .ok (.invokestatic idx, 3)) (hk : oLkN M.1.cls idx N n1) (hf : oFit N M) (hn1 : as.length = n1)
    (hw : (st.map fun v => v.category).sum ≤ 8) (hwa : (as.map fun v => v.category).sum ≤ N.2.2.1) (hst : stk = as.reverse ++ st) (hv : oEv G N as m r1 m1) (hn : pc + 3 = n) (k : oRun G M n lv (r1.toList ++ st) m1 r m') : oRun G M pc lv stk m r m' := by
  subst hn; subst hst
  intro p e R s mi args below meth c H locs ls cells slots Q C h1 h2 hP hS hl hr
  obtain ⟨k1, k2, hm⟩ := hk
  have hs := C.2.2.2.2.2.1.2.2.2.2.2.2.2.1
  have hnw : va_Nw (.methodLinkNest M.1.cls idx N.1 "OrreryTrains") s := C.2.2.2.2.2.1.2.2.2.2.2.2.2.2 _ k1
  have hgood : ∀ w ∈ oWs N, ∀ (a' : Array Value) (U : State), s.WarmedH U.vm → w.before a' U = true := fun w hw' a' U hU => by
    have hw2 : w ∈ oTB := (List.mem_cons.mp hw').elim (fun h => h ▸ hm.2.1) id
    exact word_at hU (oTB_good w hw2) (C.2.2.2.2.1 _ hw2)
  have hrun := va_runSN (l := oL G) (e := e) (below := below) (meth := meth) (H := H) (locs := locs) (cells := cells) (slots := slots) (As := as.map (oCv G)) (rest := st.map (oCv G)) (g := F0 mi pc ls ((as.map (oCv G)).reverse ++ st.map (oCv G))) (R := R) (host := "OrreryTrains") ⟨C.1, C.2.1, C.2.2.1, C.2.2.2.1, C.2.2.2.2.1⟩ (hv.met hm hwa hs)
    (⟨⟨⟨hm.2.2.2.2.2.1, hm.2.2.2.2.2.2, Nat.le_trans hf.1 C.2.2.2.2.2.2.1, Nat.le_trans hf.2 C.2.2.2.2.2.2.2, hgood, List.mem_cons_self⟩, C.2.2.2.2.1 _ hm.2.1, C.2.2.2.2.1 _ hm.1, hm.2.2.1, fun sig h => by have h2 := hm.2.2.2.1; rw [h] at h2; exact (Option.some.inj h2).symm, va_Nw.use rfl hnw⟩, C.2.2.2.2.1 _ k2, trivial⟩ : va_CN R s args M.1.cls idx N.1 "OrreryTrains" N.2.1 N.2.2.1 N.2.2.2.1 (oWs N) N.2.2.2.2 0 0 n1 ∧ (Cond.static N.1).before args s = true ∧ True)
    ⟨oBlind (oBlindW m), fun U hU hW => ⟨rfl, by rw [hU]; exact hP, oW_moved hW (fun a h1 h2 => by rw [hU]; exact hS.2.1 a h1 h2) C.2.2.2.2.2.1⟩⟩
    rfl (by rw [List.length_map]; exact hn1) hl.1 rfl (lv_room (by rw [oCat_map hs]; exact hw)) hd ⟨h1, h2⟩
  have e7 : (as.reverse ++ st).map (oCv G) = (as.map (oCv G)).reverse ++ st.map (oCv G) := by
    rw [List.map_append, List.map_reverse]
  rw [e7]
  refine oCall_go hrun hS (fun H1 locs1 hP1 hS1 => ?_)
  have k4 := k p e R s mi args below meth c H1 locs1 ls cells slots Q C h1 h2 hP1 hS1 hl hr
  have e8 : (r1.toList ++ st).map (oCv G) = (r1.map (oCv G)).toList ++ st.map (oCv G) := by cases r1 <;> simp
  rwa [e8] at k4
end ORUNC
theorem oLc_lt (x y : Int64) : lg_cmp x y < 0 ↔ x < y := by
  unfold lg_cmp
  by_cases h1 : y < x
  · simp [h1]; exact Int64.not_lt.mp (Int64.lt_asymm h1)
  · by_cases h2 : x = y
    · subst h2; simp [Int64.lt_irrefl]
    · simp [h1, h2]; exact Int64.lt_of_le_of_ne (Int64.not_lt.mp h1) h2
theorem oLc_gt (x y : Int64) : 0 < lg_cmp x y ↔ y < x := by
  unfold lg_cmp
  by_cases h1 : y < x
  · simp [h1]
  · by_cases h2 : x = y
    · subst h2; simp [Int64.lt_irrefl]
    · simp [h1, h2]
theorem oLc_eq (x y : Int64) : lg_cmp x y = 0 ↔ x = y := by
  unfold lg_cmp
  by_cases h1 : y < x
  · simp [h1]; intro h; subst h; exact absurd h1 (Int64.lt_irrefl)
  · by_cases h2 : x = y
    · simp [h2]
    · simp [h1, h2]
theorem oLc_ge (x y : Int64) : 0 ≤ lg_cmp x y ↔ y ≤ x := by
  rw [← Int64.not_lt, ← oLc_lt, Int32.not_lt]
theorem oLc_le (x y : Int64) : lg_cmp x y ≤ 0 ↔ x ≤ y := by
  rw [← Int64.not_lt, ← oLc_gt, Int32.not_lt]

