section ORUN
variable {G : oG} {M : oD} {pc : Nat} {lv : List (Nat × Value)} {st : List Value} {m m' : oM} {r : Option Value}
/-- what holds of the world, put together -/
theorem oWl_ob {p ci : Nat} {fs : List (Nat × Nat)} (h : oShp p = .inl (ci, fs)) : p < 61 ∧ (oWl G m)[p]? = some (oB G + p, .inr (ci, oFs (oB G) (m.1 p) (m.2 p) 0 fs)) := by
  have hp := oShp_lt h (by intro q; cases q)
  refine ⟨hp, ?_⟩
  rw [oWl_at G m hp]
  unfold oE
  rw [h]
  rfl
theorem oWl_ai {p n : Nat} (h : oShp p = .inr (0, n)) : p < 61 ∧ (oWl G m)[p]? = some (oB G + p, .inl (oCI G, n, .inl (m.1 p))) := by
  have hp := oShp_lt h (by intro q; cases q)
  refine ⟨hp, ?_⟩
  rw [oWl_at G m hp]
  unfold oE
  rw [h]
  rfl
theorem oWl_al {p n : Nat} (h : oShp p = .inr (1, n)) : p < 61 ∧ (oWl G m)[p]? = some (oB G + p, .inl (oCL G, n, .inr (.inl (m.2 p)))) := by
  have hp := oShp_lt h (by intro q; cases q)
  refine ⟨hp, ?_⟩
  rw [oWl_at G m hp]
  unfold oE
  rw [h]
  rfl
theorem oCv_lt {p : Nat} (h : p < 61) : oCv G (.ref p) = .ref (oB G + p) := by simp [oCv, h]
theorem oLv_at {j i : Nat} {v : Value} (h : lv[j]? = some (i, v)) : (oLv G lv)[j]? = some (i, oCv G v) := by
  unfold oLv
  rw [List.getElem?_map, h]
  rfl
theorem oLv_pick (ks : List Nat) : oLv G (lv_pick lv ks) = lv_pick (oLv G lv) ks := by
  induction ks with
  | nil => rfl
  | cons k ks ih =>
    unfold lv_pick oLv at ih ⊢
    rw [List.filterMap_cons, List.filterMap_cons, List.getElem?_map]
    cases h : lv[k]? with
    | none => exact ih
    | some q =>
      show _ :: _ = _ :: _
      rw [ih]
theorem oLv_filter (hs : ∀ p, (oSp G p).category = 1) (f : Nat → Nat → Bool) : oLv G (lv.filter (fun q => f q.1 q.2.category)) = (oLv G lv).filter (fun q => f q.1 q.2.category) := by
  unfold oLv
  rw [List.filter_map]
  congr 2
  funext q
  show _ = f q.1 (oCv G q.2).category
  rw [oCv_cat G hs]
theorem oRun.ret (hd : decode M.2.1 pc = .ok (oRet r, 1)) : oRun G M pc lv r.toList m r m := by
  intro p e R s mi args below meth c H locs ls cells slots Q C h1 h2 hP hS hl hr
  have e : r.toList.map (oCv G) = (r.map (oCv G)).toList := by cases r <;> rfl
  have h := hr H locs ls pc hP hS hd
  exact h
theorem oRun.sub {lv' : List (Nat × Value)} (ks : List Nat) (h : lv_pick lv ks = lv') (k : oRun G M pc lv' st m r m') : oRun G M pc lv st m r m' := by
  intro p e R s mi args below meth c H locs ls cells slots Q C h1 h2 hP hS hl hr
  exact k p e R s mi args below meth c H locs ls cells slots Q C h1 h2 hP hS (lv_sub hl ks (by rw [← h, oLv_pick])) hr

theorem oRun.iadd {x y : Int32} (n : Nat) (hd : decode M.2.1 pc = .ok (.iadd, 1)) (hn : pc + 1 = n) (k : oRun G M n lv (.int (x + y) :: st) m r m') : oRun G M pc lv (.int y :: .int x :: st) m r m' := by
  subst hn
  intro p e R s mi args below meth c H locs ls cells slots Q C h1 h2 hP hS hl hr
  exact lv_iadd C.1 C.2.1 hd (k p e R s mi args below meth c H locs ls cells slots Q C h1 h2 hP hS hl hr)
theorem oRun.isub {x y : Int32} (n : Nat) (hd : decode M.2.1 pc = .ok (.isub, 1)) (hn : pc + 1 = n) (k : oRun G M n lv (.int (x - y) :: st) m r m') : oRun G M pc lv (.int y :: .int x :: st) m r m' := by
  subst hn
  intro p e R s mi args below meth c H locs ls cells slots Q C h1 h2 hP hS hl hr
  exact lv_isub C.1 C.2.1 hd (k p e R s mi args below meth c H locs ls cells slots Q C h1 h2 hP hS hl hr)
theorem oRun.imul {x y : Int32} (n : Nat) (hd : decode M.2.1 pc = .ok (.imul, 1)) (hn : pc + 1 = n) (k : oRun G M n lv (.int (x * y) :: st) m r m') : oRun G M pc lv (.int y :: .int x :: st) m r m' := by
  subst hn
  intro p e R s mi args below meth c H locs ls cells slots Q C h1 h2 hP hS hl hr
  exact lv_imul C.1 C.2.1 hd (k p e R s mi args below meth c H locs ls cells slots Q C h1 h2 hP hS hl hr)
theorem oRun.iand {x y : Int32} (n : Nat) (hd : decode M.2.1 pc = .ok (.iand, 1)) (hn : pc + 1 = n) (k : oRun G M n lv (.int (x &&& y) :: st) m r m') : oRun G M pc lv (.int y :: .int x :: st) m r m' := by
  subst hn
  intro p e R s mi args below meth c H locs ls cells slots Q C h1 h2 hP hS hl hr
  exact lv_iand C.1 C.2.1 hd (k p e R s mi args below meth c H locs ls cells slots Q C h1 h2 hP hS hl hr)
theorem oRun.ior {x y : Int32} (n : Nat) (hd : decode M.2.1 pc = .ok (.ior, 1)) (hn : pc + 1 = n) (k : oRun G M n lv (.int (x ||| y) :: st) m r m') : oRun G M pc lv (.int y :: .int x :: st) m r m' := by
  subst hn
  intro p e R s mi args below meth c H locs ls cells slots Q C h1 h2 hP hS hl hr
  exact lv_ior C.1 C.2.1 hd (k p e R s mi args below meth c H locs ls cells slots Q C h1 h2 hP hS hl hr)
theorem oRun.ishl {x y : Int32} (n : Nat) (hd : decode M.2.1 pc = .ok (.ishl, 1)) (hn : pc + 1 = n) (k : oRun G M n lv (.int (x <<< (y &&& 31)) :: st) m r m') : oRun G M pc lv (.int y :: .int x :: st) m r m' := by
  subst hn
  intro p e R s mi args below meth c H locs ls cells slots Q C h1 h2 hP hS hl hr
  exact lv_ishl C.1 C.2.1 hd (k p e R s mi args below meth c H locs ls cells slots Q C h1 h2 hP hS hl hr)
theorem oRun.ishr {x y : Int32} (n : Nat) (hd : decode M.2.1 pc = .ok (.ishr, 1)) (hn : pc + 1 = n) (k : oRun G M n lv (.int (x >>> (y &&& 31)) :: st) m r m') : oRun G M pc lv (.int y :: .int x :: st) m r m' := by
  subst hn
  intro p e R s mi args below meth c H locs ls cells slots Q C h1 h2 hP hS hl hr
  exact lv_ishr C.1 C.2.1 hd (k p e R s mi args below meth c H locs ls cells slots Q C h1 h2 hP hS hl hr)
theorem oRun.ladd {x y : Int64} (n : Nat) (hd : decode M.2.1 pc = .ok (.ladd, 1)) (hn : pc + 1 = n) (k : oRun G M n lv (.long (x + y) :: st) m r m') : oRun G M pc lv (.long y :: .long x :: st) m r m' := by
  subst hn
  intro p e R s mi args below meth c H locs ls cells slots Q C h1 h2 hP hS hl hr
  exact lv_ladd C.1 C.2.1 hd (k p e R s mi args below meth c H locs ls cells slots Q C h1 h2 hP hS hl hr)
theorem oRun.lsub {x y : Int64} (n : Nat) (hd : decode M.2.1 pc = .ok (.lsub, 1)) (hn : pc + 1 = n) (k : oRun G M n lv (.long (x - y) :: st) m r m') : oRun G M pc lv (.long y :: .long x :: st) m r m' := by
  subst hn
  intro p e R s mi args below meth c H locs ls cells slots Q C h1 h2 hP hS hl hr
  exact lv_lsub C.1 C.2.1 hd (k p e R s mi args below meth c H locs ls cells slots Q C h1 h2 hP hS hl hr)
theorem oRun.lmul {x y : Int64} (n : Nat) (hd : decode M.2.1 pc = .ok (.lmul, 1)) (hn : pc + 1 = n) (k : oRun G M n lv (.long (x * y) :: st) m r m') : oRun G M pc lv (.long y :: .long x :: st) m r m' := by
  subst hn
  intro p e R s mi args below meth c H locs ls cells slots Q C h1 h2 hP hS hl hr
  exact lv_lmul C.1 C.2.1 hd (k p e R s mi args below meth c H locs ls cells slots Q C h1 h2 hP hS hl hr)
theorem oRun.land {x y : Int64} (n : Nat) (hd : decode M.2.1 pc = .ok (.land, 1)) (hn : pc + 1 = n) (k : oRun G M n lv (.long (x &&& y) :: st) m r m') : oRun G M pc lv (.long y :: .long x :: st) m r m' := by
  subst hn
  intro p e R s mi args below meth c H locs ls cells slots Q C h1 h2 hP hS hl hr
  exact lv_land C.1 C.2.1 hd (k p e R s mi args below meth c H locs ls cells slots Q C h1 h2 hP hS hl hr)
theorem oRun.lor {x y : Int64} (n : Nat) (hd : decode M.2.1 pc = .ok (.lor, 1)) (hn : pc + 1 = n) (k : oRun G M n lv (.long (x ||| y) :: st) m r m') : oRun G M pc lv (.long y :: .long x :: st) m r m' := by
  subst hn
  intro p e R s mi args below meth c H locs ls cells slots Q C h1 h2 hP hS hl hr
  exact lv_lor C.1 C.2.1 hd (k p e R s mi args below meth c H locs ls cells slots Q C h1 h2 hP hS hl hr)
theorem oRun.lxor {x y : Int64} (n : Nat) (hd : decode M.2.1 pc = .ok (.lxor, 1)) (hn : pc + 1 = n) (k : oRun G M n lv (.long (x ^^^ y) :: st) m r m') : oRun G M pc lv (.long y :: .long x :: st) m r m' := by
  subst hn
  intro p e R s mi args below meth c H locs ls cells slots Q C h1 h2 hP hS hl hr
  exact lv_lxor C.1 C.2.1 hd (k p e R s mi args below meth c H locs ls cells slots Q C h1 h2 hP hS hl hr)
def oRI (x y : Int32) : Int32 := x - x / y * y
def oRG (x y : Int64) : Int64 := x - x / y * y
def oUS (x y : Int32) : Int32 := (x.toUInt32 >>> (y.toUInt32 &&& Int32.toUInt32 31)).toInt32
def oLS (x : Int64) (y : Int32) : Int64 := x <<< (y.toInt64 &&& 63)
theorem oRun.idiv {x y : Int32} (n : Nat) (hd : decode M.2.1 pc = .ok (.idiv, 1)) (hz : ¬ y = 0) (hn : pc + 1 = n) (k : oRun G M n lv (.int (x / y) :: st) m r m') : oRun G M pc lv (.int y :: .int x :: st) m r m' := by
  subst hn
  intro p e R s mi args below meth c H locs ls cells slots Q C h1 h2 hP hS hl hr
  exact lv_idiv C.1 C.2.1 hd hz (k p e R s mi args below meth c H locs ls cells slots Q C h1 h2 hP hS hl hr)
theorem oRun.irem {x y : Int32} (n : Nat) (hd : decode M.2.1 pc = .ok (.irem, 1)) (hz : ¬ y = 0) (hn : pc + 1 = n) (k : oRun G M n lv (.int (oRI x y) :: st) m r m') : oRun G M pc lv (.int y :: .int x :: st) m r m' := by
  subst hn
  intro p e R s mi args below meth c H locs ls cells slots Q C h1 h2 hP hS hl hr
  exact lv_irem C.1 C.2.1 hd hz (k p e R s mi args below meth c H locs ls cells slots Q C h1 h2 hP hS hl hr)
theorem oRun.ldiv {x y : Int64} (n : Nat) (hd : decode M.2.1 pc = .ok (.ldiv, 1)) (hz : ¬ y = 0) (hn : pc + 1 = n) (k : oRun G M n lv (.long (x / y) :: st) m r m') : oRun G M pc lv (.long y :: .long x :: st) m r m' := by
  subst hn
  intro p e R s mi args below meth c H locs ls cells slots Q C h1 h2 hP hS hl hr
  exact lv_ldiv C.1 C.2.1 hd hz (k p e R s mi args below meth c H locs ls cells slots Q C h1 h2 hP hS hl hr)
theorem oRun.lrem {x y : Int64} (n : Nat) (hd : decode M.2.1 pc = .ok (.lrem, 1)) (hz : ¬ y = 0) (hn : pc + 1 = n) (k : oRun G M n lv (.long (oRG x y) :: st) m r m') : oRun G M pc lv (.long y :: .long x :: st) m r m' := by
  subst hn
  intro p e R s mi args below meth c H locs ls cells slots Q C h1 h2 hP hS hl hr
  exact lv_lrem C.1 C.2.1 hd hz (k p e R s mi args below meth c H locs ls cells slots Q C h1 h2 hP hS hl hr)
theorem oRun.ineg {x : Int32} (n : Nat) (hd : decode M.2.1 pc = .ok (.ineg, 1)) (hn : pc + 1 = n) (k : oRun G M n lv (.int (-x) :: st) m r m') : oRun G M pc lv (.int x :: st) m r m' := by
  subst hn
  intro p e R s mi args below meth c H locs ls cells slots Q C h1 h2 hP hS hl hr
  exact lv_ineg C.1 C.2.1 hd (k p e R s mi args below meth c H locs ls cells slots Q C h1 h2 hP hS hl hr)
theorem oRun.lneg {x : Int64} (n : Nat) (hd : decode M.2.1 pc = .ok (.lneg, 1)) (hn : pc + 1 = n) (k : oRun G M n lv (.long (-x) :: st) m r m') : oRun G M pc lv (.long x :: st) m r m' := by
  subst hn
  intro p e R s mi args below meth c H locs ls cells slots Q C h1 h2 hP hS hl hr
  exact lv_lneg C.1 C.2.1 hd (k p e R s mi args below meth c H locs ls cells slots Q C h1 h2 hP hS hl hr)
theorem oRun.iushr {x y : Int32} (n : Nat) (hd : decode M.2.1 pc = .ok (.iushr, 1)) (hn : pc + 1 = n) (k : oRun G M n lv (.int (oUS x y) :: st) m r m') : oRun G M pc lv (.int y :: .int x :: st) m r m' := by
  subst hn
  intro p e R s mi args below meth c H locs ls cells slots Q C h1 h2 hP hS hl hr
  exact lv_iushr C.1 C.2.1 hd rfl (k p e R s mi args below meth c H locs ls cells slots Q C h1 h2 hP hS hl hr)
theorem oRun.lshl {x : Int64} {y : Int32} (n : Nat) (hd : decode M.2.1 pc = .ok (.lshl, 1)) (hn : pc + 1 = n) (k : oRun G M n lv (.long (oLS x y) :: st) m r m') : oRun G M pc lv (.int y :: .long x :: st) m r m' := by
  subst hn
  intro p e R s mi args below meth c H locs ls cells slots Q C h1 h2 hP hS hl hr
  exact lv_lshl C.1 C.2.1 hd rfl (k p e R s mi args below meth c H locs ls cells slots Q C h1 h2 hP hS hl hr)
theorem oRun.i2l {x : Int32} (n : Nat) (hd : decode M.2.1 pc = .ok (.i2l, 1)) (hn : pc + 1 = n) (k : oRun G M n lv (.long x.toInt64 :: st) m r m') : oRun G M pc lv (.int x :: st) m r m' := by
  subst hn
  intro p e R s mi args below meth c H locs ls cells slots Q C h1 h2 hP hS hl hr
  exact lv_i2l C.1 C.2.1 hd rfl (k p e R s mi args below meth c H locs ls cells slots Q C h1 h2 hP hS hl hr)
theorem oRun.l2i {x : Int64} (n : Nat) (hd : decode M.2.1 pc = .ok (.l2i, 1)) (hn : pc + 1 = n) (k : oRun G M n lv (.int x.toInt32 :: st) m r m') : oRun G M pc lv (.long x :: st) m r m' := by
  subst hn
  intro p e R s mi args below meth c H locs ls cells slots Q C h1 h2 hP hS hl hr
  exact lv_l2i C.1 C.2.1 hd rfl (k p e R s mi args below meth c H locs ls cells slots Q C h1 h2 hP hS hl hr)
theorem oRun.i2c {x : Int32} (n : Nat) (hd : decode M.2.1 pc = .ok (.i2c, 1)) (hn : pc + 1 = n) (k : oRun G M n lv (.int (x.toUInt32 % 65536).toInt32 :: st) m r m') : oRun G M pc lv (.int x :: st) m r m' := by
  subst hn
  intro p e R s mi args below meth c H locs ls cells slots Q C h1 h2 hP hS hl hr
  exact lv_i2c C.1 C.2.1 hd rfl (k p e R s mi args below meth c H locs ls cells slots Q C h1 h2 hP hS hl hr)
theorem oRun.iconst {i : Int} {v : Int32} (n : Nat) (hd : decode M.2.1 pc = .ok (.iconst i, 1)) (hv : Int32.ofInt i = v) (hn : pc + 1 = n) (k : oRun G M n lv (.int v :: st) m r m') : oRun G M pc lv st m r m' := by
  subst hn
  intro p e R s mi args below meth c H locs ls cells slots Q C h1 h2 hP hS hl hr
  exact lv_iconst C.1 C.2.1 hd hv (k p e R s mi args below meth c H locs ls cells slots Q C h1 h2 hP hS hl hr)
theorem oRun.bipush {i : Int} {v : Int32} (n : Nat) (hd : decode M.2.1 pc = .ok (.bipush i, 2)) (hv : (Int8.ofInt i).toInt32 = v) (hn : pc + 2 = n) (k : oRun G M n lv (.int v :: st) m r m') : oRun G M pc lv st m r m' := by
  subst hn
  intro p e R s mi args below meth c H locs ls cells slots Q C h1 h2 hP hS hl hr
  exact lv_bipush C.1 C.2.1 hd hv (k p e R s mi args below meth c H locs ls cells slots Q C h1 h2 hP hS hl hr)
theorem oRun.sipush {i : Int} {v : Int32} (n : Nat) (hd : decode M.2.1 pc = .ok (.sipush i, 3)) (hv : (Int16.ofInt i).toInt32 = v) (hn : pc + 3 = n) (k : oRun G M n lv (.int v :: st) m r m') : oRun G M pc lv st m r m' := by
  subst hn
  intro p e R s mi args below meth c H locs ls cells slots Q C h1 h2 hP hS hl hr
  exact lv_sipush C.1 C.2.1 hd hv (k p e R s mi args below meth c H locs ls cells slots Q C h1 h2 hP hS hl hr)
theorem oRun.lconst {i : Fin 2} {v : Int64} (n : Nat) (hd : decode M.2.1 pc = .ok (.lconst i, 1)) (hv : Int64.ofNat (i : Nat) = v) (hn : pc + 1 = n) (k : oRun G M n lv (.long v :: st) m r m') : oRun G M pc lv st m r m' := by
  subst hn
  intro p e R s mi args below meth c H locs ls cells slots Q C h1 h2 hP hS hl hr
  exact lv_lconst C.1 C.2.1 hd hv (k p e R s mi args below meth c H locs ls cells slots Q C h1 h2 hP hS hl hr)
theorem oRun.ldc {i : Nat} {v : Int32} (n : Nat) (hd : decode M.2.1 pc = .ok (.ldc i, 2)) (hc : Cond.constant M.1.cls i v ∈ oTB) (hn : pc + 2 = n) (k : oRun G M n lv (.int v :: st) m r m') : oRun G M pc lv st m r m' := by
  subst hn
  intro p e R s mi args below meth c H locs ls cells slots Q C h1 h2 hP hS hl hr
  exact lv_ldc C.1 C.2.1 C.2.2.2.1 (C.2.2.2.2.1 _ hc) hd (k p e R s mi args below meth c H locs ls cells slots Q C h1 h2 hP hS hl hr)
theorem oRun.ldc2 {i : Nat} {v : Int64} (n : Nat) (hd : decode M.2.1 pc = .ok (.ldc2_w i, 3)) (hc : Cond.constantLong M.1.cls i v ∈ oTB) (hn : pc + 3 = n) (k : oRun G M n lv (.long v :: st) m r m') : oRun G M pc lv st m r m' := by
  subst hn
  intro p e R s mi args below meth c H locs ls cells slots Q C h1 h2 hP hS hl hr
  exact lv_ldc2 C.1 C.2.1 C.2.2.2.1 (C.2.2.2.2.1 _ hc) hd (k p e R s mi args below meth c H locs ls cells slots Q C h1 h2 hP hS hl hr)
theorem oRun.dup {v : Value} (n : Nat) (hd : decode M.2.1 pc = .ok (.dup, 1)) (hv : v.category = 1) (hn : pc + 1 = n) (k : oRun G M n lv (v :: v :: st) m r m') : oRun G M pc lv (v :: st) m r m' := by
  subst hn
  intro p e R s mi args below meth c H locs ls cells slots Q C h1 h2 hP hS hl hr
  exact lv_dup C.1 C.2.1 hd (by rw [oCv_cat G C.2.2.2.2.2.1.2.2.2.2.2.2.2.1]; exact hv) (k p e R s mi args below meth c H locs ls cells slots Q C h1 h2 hP hS hl hr)
theorem oRun.pop {v : Value} (n : Nat) (hd : decode M.2.1 pc = .ok (.pop, 1)) (hv : v.category = 1) (hn : pc + 1 = n) (k : oRun G M n lv st m r m') : oRun G M pc lv (v :: st) m r m' := by
  subst hn
  intro p e R s mi args below meth c H locs ls cells slots Q C h1 h2 hP hS hl hr
  exact lv_pop C.1 C.2.1 hd (by rw [oCv_cat G C.2.2.2.2.2.1.2.2.2.2.2.2.2.1]; exact hv) (k p e R s mi args below meth c H locs ls cells slots Q C h1 h2 hP hS hl hr)
theorem oRun.dup2 {v u : Value} (n : Nat) (hd : decode M.2.1 pc = .ok (.dup2, 1)) (hv : v.category = 1) (hu : u.category = 1) (hn : pc + 1 = n) (k : oRun G M n lv (v :: u :: v :: u :: st) m r m') : oRun G M pc lv (v :: u :: st) m r m' := by
  subst hn
  intro p e R s mi args below meth c H locs ls cells slots Q C h1 h2 hP hS hl hr
  exact lv_dup2_11 C.1 C.2.1 hd (by rw [oCv_cat G C.2.2.2.2.2.1.2.2.2.2.2.2.2.1]; exact hv) (by rw [oCv_cat G C.2.2.2.2.2.1.2.2.2.2.2.2.2.1]; exact hu) (k p e R s mi args below meth c H locs ls cells slots Q C h1 h2 hP hS hl hr)
theorem oRun.iload_n {x : Int32} {a : Fin 4} {i : Nat} (n : Nat) (hd : decode M.2.1 pc = .ok (.iload_n a, 1)) (j : Nat) (hi : (a : Nat) = i) (hj : lv[j]? = some (i, .int x)) (hn : pc + 1 = n) (k : oRun G M n lv (.int x :: st) m r m') : oRun G M pc lv st m r m' := by
  subst hn
  intro p e R s mi args below meth c H locs ls cells slots Q C h1 h2 hP hS hl hr
  exact lv_iload_n C.1 C.2.1 hd hi (lv_at hl j (oLv_at hj)) (k p e R s mi args below meth c H locs ls cells slots Q C h1 h2 hP hS hl hr)
theorem oRun.iload {x : Int32} {i : Nat} (n : Nat) (hd : decode M.2.1 pc = .ok (.iload i, 2)) (j : Nat) (hj : lv[j]? = some (i, .int x)) (hn : pc + 2 = n) (k : oRun G M n lv (.int x :: st) m r m') : oRun G M pc lv st m r m' := by
  subst hn
  intro p e R s mi args below meth c H locs ls cells slots Q C h1 h2 hP hS hl hr
  exact lv_iload C.1 C.2.1 hd (lv_at hl j (oLv_at hj)) (k p e R s mi args below meth c H locs ls cells slots Q C h1 h2 hP hS hl hr)
theorem oRun.lload_n {x : Int64} {a : Fin 4} {i : Nat} (n : Nat) (hd : decode M.2.1 pc = .ok (.lload_n a, 1)) (j : Nat) (hi : (a : Nat) = i) (hj : lv[j]? = some (i, .long x)) (hn : pc + 1 = n) (k : oRun G M n lv (.long x :: st) m r m') : oRun G M pc lv st m r m' := by
  subst hn
  intro p e R s mi args below meth c H locs ls cells slots Q C h1 h2 hP hS hl hr
  exact lv_lload_n C.1 C.2.1 hd hi (lv_at hl j (oLv_at hj)) (k p e R s mi args below meth c H locs ls cells slots Q C h1 h2 hP hS hl hr)
theorem oRun.lload {x : Int64} {i : Nat} (n : Nat) (hd : decode M.2.1 pc = .ok (.lload i, 2)) (j : Nat) (hj : lv[j]? = some (i, .long x)) (hn : pc + 2 = n) (k : oRun G M n lv (.long x :: st) m r m') : oRun G M pc lv st m r m' := by
  subst hn
  intro p e R s mi args below meth c H locs ls cells slots Q C h1 h2 hP hS hl hr
  exact lv_lload C.1 C.2.1 hd (lv_at hl j (oLv_at hj)) (k p e R s mi args below meth c H locs ls cells slots Q C h1 h2 hP hS hl hr)
/-- a reference, at its address -/
theorem oCv_ref (hs : ∀ p, (oSp G p).category = 1) (q : Nat) (hq : q < 66) {s : State} (h : oSt G s) : ∃ a, oCv G (.ref q) = .ref a := by
  obtain ⟨⟨t1, a1, -⟩, ⟨t2, a2, -⟩, ⟨t3, a3, -⟩, ⟨t4, v4, a4, b4, -⟩, -⟩ := h
  by_cases h : q < 61
  · exact ⟨_, oCv_lt h⟩
  · have h2 : q = 61 ∨ q = 62 ∨ q = 63 ∨ q = 64 ∨ q = 65 := by omega
    rcases h2 with rfl | rfl | rfl | rfl | rfl
    · exact ⟨t1, a1⟩
    · exact ⟨t2, a2⟩
    · exact ⟨t4, a4⟩
    · exact ⟨t3, a3⟩
    · exact ⟨v4, b4⟩

theorem oRun.aload_n {x : Nat} {a : Fin 4} {i : Nat} (n : Nat) (hd : decode M.2.1 pc = .ok (.aload_n a, 1)) (j : Nat) (hi : (a : Nat) = i) (hj : lv[j]? = some (i, .ref x)) (hx : x < 66) (hn : pc + 1 = n) (k : oRun G M n lv (.ref x :: st) m r m') : oRun G M pc lv st m r m' := by
  subst hn
  intro p e R s mi args below meth c H locs ls cells slots Q C h1 h2 hP hS hl hr
  obtain ⟨b, hb⟩ := oCv_ref C.2.2.2.2.2.1.2.2.2.2.2.2.2.1 x hx C.2.2.2.2.2.1.2
  have k1 := (k p e R s mi args below meth c H locs ls cells slots Q C h1 h2 hP hS hl hr)
  rw [List.map_cons, hb] at k1
  exact lv_aload_n C.1 C.2.1 hd hi (lv_at hl j (by rw [oLv_at hj, hb])) k1
theorem oRun.aload {x i : Nat} (n : Nat) (hd : decode M.2.1 pc = .ok (.aload i, 2)) (j : Nat) (hj : lv[j]? = some (i, .ref x)) (hx : x < 66) (hn : pc + 2 = n) (k : oRun G M n lv (.ref x :: st) m r m') : oRun G M pc lv st m r m' := by
  subst hn
  intro p e R s mi args below meth c H locs ls cells slots Q C h1 h2 hP hS hl hr
  obtain ⟨b, hb⟩ := oCv_ref C.2.2.2.2.2.1.2.2.2.2.2.2.2.1 x hx C.2.2.2.2.2.1.2
  have k1 := (k p e R s mi args below meth c H locs ls cells slots Q C h1 h2 hP hS hl hr)
  rw [List.map_cons, hb] at k1
  exact lv_aload C.1 C.2.1 hd (lv_at hl j (by rw [oLv_at hj, hb])) k1
theorem oRun.istore_n {x : Int32} {a : Fin 4} {i : Nat} {lv' : List (Nat × Value)} (n : Nat) (hd : decode M.2.1 pc = .ok (.istore_n a, 1)) (hi : (a : Nat) = i) (hb : i < M.2.2.1) (hl' : (i, .int x) :: lv.filter (fun q => !(q.1 == i) && !(q.1 + 1 == i && q.2.category == 2)) = lv') (hn : pc + 1 = n) (k : oRun G M n lv' st m r m') : oRun G M pc lv (.int x :: st) m r m' := by
  subst hn
  intro p e R s mi args below meth c H locs ls cells slots Q C h1 h2 hP hS hl hr
  refine lv_istore_n (lv' := oLv G lv') C.1 C.2.1 hd hi hl hb ?_ (fun ls' hl2 => k p e R s mi args below meth c H locs ls' cells slots Q C h1 h2 hP hS hl2 hr)
  rw [← hl']
  show _ = (i, oCv G (.int x)) :: oLv G (lv.filter _)
  rw [oLv_filter C.2.2.2.2.2.1.2.2.2.2.2.2.2.1 (fun a b => !(a == i) && !(a + 1 == i && b == 2))]
  rfl
theorem oRun.lstore_n {x : Int64} {a : Fin 4} {i : Nat} {lv' : List (Nat × Value)} (n : Nat) (hd : decode M.2.1 pc = .ok (.lstore_n a, 1)) (hi : (a : Nat) = i) (hb : i + 1 < M.2.2.1) (hl' : (i, .long x) :: lv.filter (fun q => !(q.1 == i) && (!(q.1 == i + 1) && !(q.1 + 1 == i && q.2.category == 2))) = lv') (hn : pc + 1 = n) (k : oRun G M n lv' st m r m') : oRun G M pc lv (.long x :: st) m r m' := by
  subst hn
  intro p e R s mi args below meth c H locs ls cells slots Q C h1 h2 hP hS hl hr
  refine lv_lstore_n (lv' := oLv G lv') C.1 C.2.1 hd hi hl hb ?_ (fun ls' hl2 => k p e R s mi args below meth c H locs ls' cells slots Q C h1 h2 hP hS hl2 hr)
  rw [← hl']
  show _ = (i, oCv G (.long x)) :: oLv G (lv.filter _)
  rw [oLv_filter C.2.2.2.2.2.1.2.2.2.2.2.2.2.1 (fun a b => !(a == i) && (!(a == i + 1) && !(a + 1 == i && b == 2)))]
  rfl
theorem oRun.istore {x : Int32} {i : Nat} {lv' : List (Nat × Value)} (n : Nat) (hd : decode M.2.1 pc = .ok (.istore i, 2)) (hb : i < M.2.2.1) (hl' : (i, .int x) :: lv.filter (fun q => !(q.1 == i) && !(q.1 + 1 == i && q.2.category == 2)) = lv') (hn : pc + 2 = n) (k : oRun G M n lv' st m r m') : oRun G M pc lv (.int x :: st) m r m' := by
  subst hn
  intro p e R s mi args below meth c H locs ls cells slots Q C h1 h2 hP hS hl hr
  refine lv_istore (lv' := oLv G lv') C.1 C.2.1 hd hl hb ?_ (fun ls' hl2 => k p e R s mi args below meth c H locs ls' cells slots Q C h1 h2 hP hS hl2 hr)
  rw [← hl']
  show _ = (i, oCv G (.int x)) :: oLv G (lv.filter _)
  rw [oLv_filter C.2.2.2.2.2.1.2.2.2.2.2.2.2.1 (fun a b => !(a == i) && !(a + 1 == i && b == 2))]
  rfl
theorem oRun.lstore {x : Int64} {i : Nat} {lv' : List (Nat × Value)} (n : Nat) (hd : decode M.2.1 pc = .ok (.lstore i, 2)) (hb : i + 1 < M.2.2.1) (hl' : (i, .long x) :: lv.filter (fun q => !(q.1 == i) && (!(q.1 == i + 1) && !(q.1 + 1 == i && q.2.category == 2))) = lv') (hn : pc + 2 = n) (k : oRun G M n lv' st m r m') : oRun G M pc lv (.long x :: st) m r m' := by
  subst hn
  intro p e R s mi args below meth c H locs ls cells slots Q C h1 h2 hP hS hl hr
  refine lv_lstore (lv' := oLv G lv') C.1 C.2.1 hd hl hb ?_ (fun ls' hl2 => k p e R s mi args below meth c H locs ls' cells slots Q C h1 h2 hP hS hl2 hr)
  rw [← hl']
  show _ = (i, oCv G (.long x)) :: oLv G (lv.filter _)
  rw [oLv_filter C.2.2.2.2.2.1.2.2.2.2.2.2.2.1 (fun a b => !(a == i) && (!(a == i + 1) && !(a + 1 == i && b == 2)))]
  rfl
theorem oRun.astore_n {x : Nat} {a : Fin 4} {i : Nat} {lv' : List (Nat × Value)} (n : Nat) (hd : decode M.2.1 pc = .ok (.astore_n a, 1)) (hi : (a : Nat) = i) (hx : x < 66) (hb : i < M.2.2.1) (hl' : (i, .ref x) :: lv.filter (fun q => !(q.1 == i) && !(q.1 + 1 == i && q.2.category == 2)) = lv') (hn : pc + 1 = n) (k : oRun G M n lv' st m r m') : oRun G M pc lv (.ref x :: st) m r m' := by
  subst hn
  intro p e R s mi args below meth c H locs ls cells slots Q C h1 h2 hP hS hl hr
  obtain ⟨b, hb2⟩ := oCv_ref C.2.2.2.2.2.1.2.2.2.2.2.2.2.1 x hx C.2.2.2.2.2.1.2
  rw [List.map_cons, hb2]
  refine lv_astore_n (lv' := oLv G lv') C.1 C.2.1 hd hi hl hb ?_ (fun ls' hl2 => k p e R s mi args below meth c H locs ls' cells slots Q C h1 h2 hP hS hl2 hr)
  rw [← hl']
  show _ = (i, oCv G (.ref x)) :: oLv G (lv.filter _)
  rw [oLv_filter C.2.2.2.2.2.1.2.2.2.2.2.2.2.1 (fun a b => !(a == i) && !(a + 1 == i && b == 2)), hb2]
theorem oRun.astore {x : Nat} {i : Nat} {lv' : List (Nat × Value)} (n : Nat) (hd : decode M.2.1 pc = .ok (.astore i, 2)) (hx : x < 66) (hb : i < M.2.2.1) (hl' : (i, .ref x) :: lv.filter (fun q => !(q.1 == i) && !(q.1 + 1 == i && q.2.category == 2)) = lv') (hn : pc + 2 = n) (k : oRun G M n lv' st m r m') : oRun G M pc lv (.ref x :: st) m r m' := by
  subst hn
  intro p e R s mi args below meth c H locs ls cells slots Q C h1 h2 hP hS hl hr
  obtain ⟨b, hb2⟩ := oCv_ref C.2.2.2.2.2.1.2.2.2.2.2.2.2.1 x hx C.2.2.2.2.2.1.2
  rw [List.map_cons, hb2]
  refine lv_astore (lv' := oLv G lv') C.1 C.2.1 hd hl hb ?_ (fun ls' hl2 => k p e R s mi args below meth c H locs ls' cells slots Q C h1 h2 hP hS hl2 hr)
  rw [← hl']
  show _ = (i, oCv G (.ref x)) :: oLv G (lv.filter _)
  rw [oLv_filter C.2.2.2.2.2.1.2.2.2.2.2.2.2.1 (fun a b => !(a == i) && !(a + 1 == i && b == 2)), hb2]
theorem oRun.iinc {x v : Int32} {i : Nat} {d : Int} {lv' : List (Nat × Value)} (n : Nat) (hd : decode M.2.1 pc = .ok (.iinc i d, 3)) (j : Nat) (hj : lv[j]? = some (i, .int x)) (hv : x + Int32.ofInt d = v) (hb : i < M.2.2.1) (hl' : (i, .int v) :: lv.filter (fun q => !(q.1 == i) && !(q.1 + 1 == i && q.2.category == 2)) = lv') (hn : pc + 3 = n) (k : oRun G M n lv' st m r m') : oRun G M pc lv st m r m' := by
  subst hn
  intro p e R s mi args below meth c H locs ls cells slots Q C h1 h2 hP hS hl hr
  refine lv_iinc (v := v) (lv' := oLv G lv') C.1 C.2.1 hd hl (oLv_at hj) hv hb ?_ (fun ls' hl2 => k p e R s mi args below meth c H locs ls' cells slots Q C h1 h2 hP hS hl2 hr)
  rw [← hl']
  show _ = (i, oCv G (.int v)) :: oLv G (lv.filter _)
  rw [oLv_filter C.2.2.2.2.2.1.2.2.2.2.2.2.2.1 (fun a b => !(a == i) && !(a + 1 == i && b == 2))]
  rfl
theorem oRun.goto {off : Int} (n : Nat) (hd : decode M.2.1 pc = .ok (.goto off, 3)) (hn : (pc : Int) + off = (n : Int)) (k : oRun G M n lv st m r m') : oRun G M pc lv st m r m' := by
  intro p e R s mi args below meth c H locs ls cells slots Q C h1 h2 hP hS hl hr
  exact lv_goto C.1 C.2.1 hd hn (k p e R s mi args below meth c H locs ls cells slots Q C h1 h2 hP hS hl hr)
theorem oRun.if_eq_t {x : Int32} {off : Int} (n : Nat) (hd : decode M.2.1 pc = .ok (.ifCond .eq off, 3)) (h : x = 0) (hn : (pc : Int) + off = (n : Int)) (k : oRun G M n lv st m r m') : oRun G M pc lv (.int x :: st) m r m' := by
  intro p e R s mi args below meth c H locs ls cells slots Q C h1 h2 hP hS hl hr
  exact lv_if_eq C.1 C.2.1 hd hn (fun _ => (k p e R s mi args below meth c H locs ls cells slots Q C h1 h2 hP hS hl hr)) (fun hq => by first | exact absurd h hq | exact absurd hq h)
theorem oRun.if_eq_f {x : Int32} {off : Int} {tgt : Nat} (n : Nat) (hd : decode M.2.1 pc = .ok (.ifCond .eq off, 3)) (ht : (pc : Int) + off = (tgt : Int)) (h : ¬ x = 0) (hn : pc + 3 = n) (k : oRun G M n lv st m r m') : oRun G M pc lv (.int x :: st) m r m' := by
  subst hn
  intro p e R s mi args below meth c H locs ls cells slots Q C h1 h2 hP hS hl hr
  exact lv_if_eq C.1 C.2.1 hd ht (fun hq => by first | exact absurd hq h | exact absurd h hq) (fun _ => (k p e R s mi args below meth c H locs ls cells slots Q C h1 h2 hP hS hl hr))
theorem oRun.icmp_eq_t {x y : Int32} {off : Int} (n : Nat) (hd : decode M.2.1 pc = .ok (.if_icmp .eq off, 3)) (h : x = y) (hn : (pc : Int) + off = (n : Int)) (k : oRun G M n lv st m r m') : oRun G M pc lv (.int y :: .int x :: st) m r m' := by
  intro p e R s mi args below meth c H locs ls cells slots Q C h1 h2 hP hS hl hr
  exact lv_icmp_eq C.1 C.2.1 hd hn (fun _ => (k p e R s mi args below meth c H locs ls cells slots Q C h1 h2 hP hS hl hr)) (fun hq => by first | exact absurd h hq | exact absurd hq h)
theorem oRun.icmp_eq_f {x y : Int32} {off : Int} {tgt : Nat} (n : Nat) (hd : decode M.2.1 pc = .ok (.if_icmp .eq off, 3)) (ht : (pc : Int) + off = (tgt : Int)) (h : ¬ x = y) (hn : pc + 3 = n) (k : oRun G M n lv st m r m') : oRun G M pc lv (.int y :: .int x :: st) m r m' := by
  subst hn
  intro p e R s mi args below meth c H locs ls cells slots Q C h1 h2 hP hS hl hr
  exact lv_icmp_eq C.1 C.2.1 hd ht (fun hq => by first | exact absurd hq h | exact absurd h hq) (fun _ => (k p e R s mi args below meth c H locs ls cells slots Q C h1 h2 hP hS hl hr))
theorem oRun.if_ne_t {x : Int32} {off : Int} (n : Nat) (hd : decode M.2.1 pc = .ok (.ifCond .ne off, 3)) (h : ¬ x = 0) (hn : (pc : Int) + off = (n : Int)) (k : oRun G M n lv st m r m') : oRun G M pc lv (.int x :: st) m r m' := by
  intro p e R s mi args below meth c H locs ls cells slots Q C h1 h2 hP hS hl hr
  exact lv_if_ne C.1 C.2.1 hd hn (fun _ => (k p e R s mi args below meth c H locs ls cells slots Q C h1 h2 hP hS hl hr)) (fun hq => by first | exact absurd h hq | exact absurd hq h)
theorem oRun.if_ne_f {x : Int32} {off : Int} {tgt : Nat} (n : Nat) (hd : decode M.2.1 pc = .ok (.ifCond .ne off, 3)) (ht : (pc : Int) + off = (tgt : Int)) (h : x = 0) (hn : pc + 3 = n) (k : oRun G M n lv st m r m') : oRun G M pc lv (.int x :: st) m r m' := by
  subst hn
  intro p e R s mi args below meth c H locs ls cells slots Q C h1 h2 hP hS hl hr
  exact lv_if_ne C.1 C.2.1 hd ht (fun hq => by first | exact absurd hq h | exact absurd h hq) (fun _ => (k p e R s mi args below meth c H locs ls cells slots Q C h1 h2 hP hS hl hr))
theorem oRun.icmp_ne_t {x y : Int32} {off : Int} (n : Nat) (hd : decode M.2.1 pc = .ok (.if_icmp .ne off, 3)) (h : ¬ x = y) (hn : (pc : Int) + off = (n : Int)) (k : oRun G M n lv st m r m') : oRun G M pc lv (.int y :: .int x :: st) m r m' := by
  intro p e R s mi args below meth c H locs ls cells slots Q C h1 h2 hP hS hl hr
  exact lv_icmp_ne C.1 C.2.1 hd hn (fun _ => (k p e R s mi args below meth c H locs ls cells slots Q C h1 h2 hP hS hl hr)) (fun hq => by first | exact absurd h hq | exact absurd hq h)
theorem oRun.icmp_ne_f {x y : Int32} {off : Int} {tgt : Nat} (n : Nat) (hd : decode M.2.1 pc = .ok (.if_icmp .ne off, 3)) (ht : (pc : Int) + off = (tgt : Int)) (h : x = y) (hn : pc + 3 = n) (k : oRun G M n lv st m r m') : oRun G M pc lv (.int y :: .int x :: st) m r m' := by
  subst hn
  intro p e R s mi args below meth c H locs ls cells slots Q C h1 h2 hP hS hl hr
  exact lv_icmp_ne C.1 C.2.1 hd ht (fun hq => by first | exact absurd hq h | exact absurd h hq) (fun _ => (k p e R s mi args below meth c H locs ls cells slots Q C h1 h2 hP hS hl hr))
theorem oRun.if_lt_t {x : Int32} {off : Int} (n : Nat) (hd : decode M.2.1 pc = .ok (.ifCond .lt off, 3)) (h : x < 0) (hn : (pc : Int) + off = (n : Int)) (k : oRun G M n lv st m r m') : oRun G M pc lv (.int x :: st) m r m' := by
  intro p e R s mi args below meth c H locs ls cells slots Q C h1 h2 hP hS hl hr
  exact lv_if_lt C.1 C.2.1 hd hn (fun _ => (k p e R s mi args below meth c H locs ls cells slots Q C h1 h2 hP hS hl hr)) (fun hq => by first | exact absurd h hq | exact absurd hq h)
theorem oRun.if_lt_f {x : Int32} {off : Int} {tgt : Nat} (n : Nat) (hd : decode M.2.1 pc = .ok (.ifCond .lt off, 3)) (ht : (pc : Int) + off = (tgt : Int)) (h : ¬ x < 0) (hn : pc + 3 = n) (k : oRun G M n lv st m r m') : oRun G M pc lv (.int x :: st) m r m' := by
  subst hn
  intro p e R s mi args below meth c H locs ls cells slots Q C h1 h2 hP hS hl hr
  exact lv_if_lt C.1 C.2.1 hd ht (fun hq => by first | exact absurd hq h | exact absurd h hq) (fun _ => (k p e R s mi args below meth c H locs ls cells slots Q C h1 h2 hP hS hl hr))
theorem oRun.icmp_lt_t {x y : Int32} {off : Int} (n : Nat) (hd : decode M.2.1 pc = .ok (.if_icmp .lt off, 3)) (h : x < y) (hn : (pc : Int) + off = (n : Int)) (k : oRun G M n lv st m r m') : oRun G M pc lv (.int y :: .int x :: st) m r m' := by
  intro p e R s mi args below meth c H locs ls cells slots Q C h1 h2 hP hS hl hr
  exact lv_icmp_lt C.1 C.2.1 hd hn (fun _ => (k p e R s mi args below meth c H locs ls cells slots Q C h1 h2 hP hS hl hr)) (fun hq => by first | exact absurd h hq | exact absurd hq h)
theorem oRun.icmp_lt_f {x y : Int32} {off : Int} {tgt : Nat} (n : Nat) (hd : decode M.2.1 pc = .ok (.if_icmp .lt off, 3)) (ht : (pc : Int) + off = (tgt : Int)) (h : ¬ x < y) (hn : pc + 3 = n) (k : oRun G M n lv st m r m') : oRun G M pc lv (.int y :: .int x :: st) m r m' := by
  subst hn
  intro p e R s mi args below meth c H locs ls cells slots Q C h1 h2 hP hS hl hr
  exact lv_icmp_lt C.1 C.2.1 hd ht (fun hq => by first | exact absurd hq h | exact absurd h hq) (fun _ => (k p e R s mi args below meth c H locs ls cells slots Q C h1 h2 hP hS hl hr))
theorem oRun.if_ge_t {x : Int32} {off : Int} (n : Nat) (hd : decode M.2.1 pc = .ok (.ifCond .ge off, 3)) (h : 0 ≤ x) (hn : (pc : Int) + off = (n : Int)) (k : oRun G M n lv st m r m') : oRun G M pc lv (.int x :: st) m r m' := by
  intro p e R s mi args below meth c H locs ls cells slots Q C h1 h2 hP hS hl hr
  exact lv_if_ge C.1 C.2.1 hd hn (fun _ => (k p e R s mi args below meth c H locs ls cells slots Q C h1 h2 hP hS hl hr)) (fun hq => by first | exact absurd h hq | exact absurd hq h)
theorem oRun.if_ge_f {x : Int32} {off : Int} {tgt : Nat} (n : Nat) (hd : decode M.2.1 pc = .ok (.ifCond .ge off, 3)) (ht : (pc : Int) + off = (tgt : Int)) (h : ¬ 0 ≤ x) (hn : pc + 3 = n) (k : oRun G M n lv st m r m') : oRun G M pc lv (.int x :: st) m r m' := by
  subst hn
  intro p e R s mi args below meth c H locs ls cells slots Q C h1 h2 hP hS hl hr
  exact lv_if_ge C.1 C.2.1 hd ht (fun hq => by first | exact absurd hq h | exact absurd h hq) (fun _ => (k p e R s mi args below meth c H locs ls cells slots Q C h1 h2 hP hS hl hr))
theorem oRun.icmp_ge_t {x y : Int32} {off : Int} (n : Nat) (hd : decode M.2.1 pc = .ok (.if_icmp .ge off, 3)) (h : y ≤ x) (hn : (pc : Int) + off = (n : Int)) (k : oRun G M n lv st m r m') : oRun G M pc lv (.int y :: .int x :: st) m r m' := by
  intro p e R s mi args below meth c H locs ls cells slots Q C h1 h2 hP hS hl hr
  exact lv_icmp_ge C.1 C.2.1 hd hn (fun _ => (k p e R s mi args below meth c H locs ls cells slots Q C h1 h2 hP hS hl hr)) (fun hq => by first | exact absurd h hq | exact absurd hq h)
theorem oRun.icmp_ge_f {x y : Int32} {off : Int} {tgt : Nat} (n : Nat) (hd : decode M.2.1 pc = .ok (.if_icmp .ge off, 3)) (ht : (pc : Int) + off = (tgt : Int)) (h : ¬ y ≤ x) (hn : pc + 3 = n) (k : oRun G M n lv st m r m') : oRun G M pc lv (.int y :: .int x :: st) m r m' := by
  subst hn
  intro p e R s mi args below meth c H locs ls cells slots Q C h1 h2 hP hS hl hr
  exact lv_icmp_ge C.1 C.2.1 hd ht (fun hq => by first | exact absurd hq h | exact absurd h hq) (fun _ => (k p e R s mi args below meth c H locs ls cells slots Q C h1 h2 hP hS hl hr))
theorem oRun.if_gt_t {x : Int32} {off : Int} (n : Nat) (hd : decode M.2.1 pc = .ok (.ifCond .gt off, 3)) (h : 0 < x) (hn : (pc : Int) + off = (n : Int)) (k : oRun G M n lv st m r m') : oRun G M pc lv (.int x :: st) m r m' := by
  intro p e R s mi args below meth c H locs ls cells slots Q C h1 h2 hP hS hl hr
  exact lv_if_gt C.1 C.2.1 hd hn (fun _ => (k p e R s mi args below meth c H locs ls cells slots Q C h1 h2 hP hS hl hr)) (fun hq => by first | exact absurd h hq | exact absurd hq h)
theorem oRun.if_gt_f {x : Int32} {off : Int} {tgt : Nat} (n : Nat) (hd : decode M.2.1 pc = .ok (.ifCond .gt off, 3)) (ht : (pc : Int) + off = (tgt : Int)) (h : ¬ 0 < x) (hn : pc + 3 = n) (k : oRun G M n lv st m r m') : oRun G M pc lv (.int x :: st) m r m' := by
  subst hn
  intro p e R s mi args below meth c H locs ls cells slots Q C h1 h2 hP hS hl hr
  exact lv_if_gt C.1 C.2.1 hd ht (fun hq => by first | exact absurd hq h | exact absurd h hq) (fun _ => (k p e R s mi args below meth c H locs ls cells slots Q C h1 h2 hP hS hl hr))
theorem oRun.icmp_gt_t {x y : Int32} {off : Int} (n : Nat) (hd : decode M.2.1 pc = .ok (.if_icmp .gt off, 3)) (h : y < x) (hn : (pc : Int) + off = (n : Int)) (k : oRun G M n lv st m r m') : oRun G M pc lv (.int y :: .int x :: st) m r m' := by
  intro p e R s mi args below meth c H locs ls cells slots Q C h1 h2 hP hS hl hr
  exact lv_icmp_gt C.1 C.2.1 hd hn (fun _ => (k p e R s mi args below meth c H locs ls cells slots Q C h1 h2 hP hS hl hr)) (fun hq => by first | exact absurd h hq | exact absurd hq h)
theorem oRun.icmp_gt_f {x y : Int32} {off : Int} {tgt : Nat} (n : Nat) (hd : decode M.2.1 pc = .ok (.if_icmp .gt off, 3)) (ht : (pc : Int) + off = (tgt : Int)) (h : ¬ y < x) (hn : pc + 3 = n) (k : oRun G M n lv st m r m') : oRun G M pc lv (.int y :: .int x :: st) m r m' := by
  subst hn
  intro p e R s mi args below meth c H locs ls cells slots Q C h1 h2 hP hS hl hr
  exact lv_icmp_gt C.1 C.2.1 hd ht (fun hq => by first | exact absurd hq h | exact absurd h hq) (fun _ => (k p e R s mi args below meth c H locs ls cells slots Q C h1 h2 hP hS hl hr))
theorem oRun.if_le_t {x : Int32} {off : Int} (n : Nat) (hd : decode M.2.1 pc = .ok (.ifCond .le off, 3)) (h : x ≤ 0) (hn : (pc : Int) + off = (n : Int)) (k : oRun G M n lv st m r m') : oRun G M pc lv (.int x :: st) m r m' := by
  intro p e R s mi args below meth c H locs ls cells slots Q C h1 h2 hP hS hl hr
  exact lv_if_le C.1 C.2.1 hd hn (fun _ => (k p e R s mi args below meth c H locs ls cells slots Q C h1 h2 hP hS hl hr)) (fun hq => by first | exact absurd h hq | exact absurd hq h)
theorem oRun.if_le_f {x : Int32} {off : Int} {tgt : Nat} (n : Nat) (hd : decode M.2.1 pc = .ok (.ifCond .le off, 3)) (ht : (pc : Int) + off = (tgt : Int)) (h : ¬ x ≤ 0) (hn : pc + 3 = n) (k : oRun G M n lv st m r m') : oRun G M pc lv (.int x :: st) m r m' := by
  subst hn
  intro p e R s mi args below meth c H locs ls cells slots Q C h1 h2 hP hS hl hr
  exact lv_if_le C.1 C.2.1 hd ht (fun hq => by first | exact absurd hq h | exact absurd h hq) (fun _ => (k p e R s mi args below meth c H locs ls cells slots Q C h1 h2 hP hS hl hr))
theorem oRun.icmp_le_t {x y : Int32} {off : Int} (n : Nat) (hd : decode M.2.1 pc = .ok (.if_icmp .le off, 3)) (h : x ≤ y) (hn : (pc : Int) + off = (n : Int)) (k : oRun G M n lv st m r m') : oRun G M pc lv (.int y :: .int x :: st) m r m' := by
  intro p e R s mi args below meth c H locs ls cells slots Q C h1 h2 hP hS hl hr
  exact lv_icmp_le C.1 C.2.1 hd hn (fun _ => (k p e R s mi args below meth c H locs ls cells slots Q C h1 h2 hP hS hl hr)) (fun hq => by first | exact absurd h hq | exact absurd hq h)
theorem oRun.icmp_le_f {x y : Int32} {off : Int} {tgt : Nat} (n : Nat) (hd : decode M.2.1 pc = .ok (.if_icmp .le off, 3)) (ht : (pc : Int) + off = (tgt : Int)) (h : ¬ x ≤ y) (hn : pc + 3 = n) (k : oRun G M n lv st m r m') : oRun G M pc lv (.int y :: .int x :: st) m r m' := by
  subst hn
  intro p e R s mi args below meth c H locs ls cells slots Q C h1 h2 hP hS hl hr
  exact lv_icmp_le C.1 C.2.1 hd ht (fun hq => by first | exact absurd hq h | exact absurd h hq) (fun _ => (k p e R s mi args below meth c H locs ls cells slots Q C h1 h2 hP hS hl hr))
theorem oRun.lcmp {x y : Int64} (n : Nat) (hd : decode M.2.1 pc = .ok (.lcmp, 1)) (hn : pc + 1 = n) (k : oRun G M n lv (.int (lg_cmp x y) :: st) m r m') : oRun G M pc lv (.long y :: .long x :: st) m r m' := by
  subst hn
  intro p e R s mi args below meth c H locs ls cells slots Q C h1 h2 hP hS hl hr
  exact W.lcmp C.1 C.2.1 hd (k p e R s mi args below meth c H locs ls cells slots Q C h1 h2 hP hS hl hr)
theorem oRun.tsin {x : Int32} {dflt lo hi off : Int} {offs : Array Int} {len : Nat} (n : Nat) (hd : decode M.2.1 pc = .ok (.tableswitch dflt lo hi offs, len)) {q : Int} (hx : x.toInt = q) (h1' : ¬ q < lo) (h2' : ¬ hi < q) (ho : offs[(q - lo).toNat]? = some off) (hn : (pc : Int) + off = (n : Int)) (k : oRun G M n lv st m r m') : oRun G M pc lv (.int x :: st) m r m' := by
  subst hx
  intro p e R s mi args below meth c H locs ls cells slots Q C h1 h2 hP hS hl hr
  exact lv_tableIn C.1 C.2.1 hd h1' h2' ho hn (k p e R s mi args below meth c H locs ls cells slots Q C h1 h2 hP hS hl hr)
theorem oRun.tsout {x : Int32} {dflt lo hi : Int} {offs : Array Int} {len : Nat} (n : Nat) (hd : decode M.2.1 pc = .ok (.tableswitch dflt lo hi offs, len)) (h : x.toInt < lo ∨ hi < x.toInt) (hn : (pc : Int) + dflt = (n : Int)) (k : oRun G M n lv st m r m') : oRun G M pc lv (.int x :: st) m r m' := by
  intro p e R s mi args below meth c H locs ls cells slots Q C h1 h2 hP hS hl hr
  exact lv_tableOut C.1 C.2.1 hd h hn (k p e R s mi args below meth c H locs ls cells slots Q C h1 h2 hP hS hl hr)
theorem oRun.ldcS (n : Nat) {own : String} (ho : M.1.cls = RX9) (hd : decode M.2.1 pc = .ok (.ldc 111, 2)) (hn : pc + 2 = n) (k : oRun G M n lv (.ref 63 :: st) m r m') : oRun G M pc lv st m r m' := by
  subst hn
  intro p e R s mi args below meth c H locs ls cells slots Q C h1 h2 hP hS hl hr
  obtain ⟨-, -, -, ⟨a, v, e1, e2, hR, -⟩, -⟩ := C.2.2.2.2.2.1.2
  have k1 := (k p e R s mi args below meth c H locs ls cells slots Q C h1 h2 hP hS hl hr)
  have e3 : oCv G (.ref 63) = .ref a := e1
  rw [List.map_cons, e3] at k1
  exact va_ldcS C.1 C.2.1 (by rw [← ho]; exact C.2.2.2.1) hR hd k1
end ORUN
