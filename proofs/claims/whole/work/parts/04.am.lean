/-! the abstract judgement: a method's walk over numbered cells (a fixed layout 'lay') that hold Int32s (am_D: cell, place) -/
abbrev am_D : Type := Nat → Nat → Int32
/-- a cell: an object (class, fields: none a number, some j the cell j); an array of ints (false) or chars (true) of a length; an array of cells -/
abbrev am_L : Type := (Nat × List (Option Nat)) ⊕ ((Bool × Nat) ⊕ List Nat)
/-- what a run knows: the classes, the array classes, the cells' addresses -/
abbrev am_X : Type := va_G × (ClassId × ClassId × ClassId) × (Nat → Nat)
/-- a method: name, bytes, locals, what it returns -/
abbrev am_M : Type := MethodName × ByteArray × Nat × Option FieldType
def am_tr (ad : Nat → Nat) : Value → Value
  | .ref k => .ref (ad k)
  | v => v
def am_fv (X : am_X) (D : am_D) (k i : Nat) (f : Option Nat) : Value := match f with
  | some j => .ref (X.2.2 j)
  | none => .int (D k i)
def am_cell (X : am_X) (D : am_D) (k : Nat) (c : am_L) : va_E := match c with
  | .inl q => .inr (q.1, q.2.mapIdx fun i f => am_fv X D k i f)
  | .inr (.inl (false, n)) => .inl (X.2.1.1, n, .inl (D k))
  | .inr (.inl (true, n)) => .inl (X.2.1.2.1, n, .inl (D k))
  | .inr (.inr rs) => .inl (X.2.1.2.2, rs.length, .inr (.inr (.inr (.inr fun i => (rs[i]?).map X.2.2))))
def am_W (X : am_X) (lay : List am_L) (D : am_D) : va_W := lay.mapIdx fun k c => (X.2.2 k, am_cell X D k c)
abbrev am_tys (X : am_X) : List (ClassId × FieldType) := [(X.2.1.1, .int), (X.2.1.2.1, .char), (X.2.1.2.2, .object RX0)]
def am_good : List Cond := lw_tbl.filter goodWord
def am_isNest : Cond → Bool
  | .methodLinkNest .. => true
  | _ => false
def am_nest : List Cond := lw_tbl.filter am_isNest
def am_N (U : State) : Prop := ∀ w ∈ am_nest, va_Nw w U
theorem am_N.warm {s U : State} (hW : s.WarmedH U.vm) (h : am_N s) : am_N U := by
  intro w hw
  have h1 := h w hw
  have h2 : am_isNest w = true := (List.mem_filter.mp hw).2
  cases w <;> first | (exact va_Nw.warmM hW h1) | (simp [am_isNest] at h2; done)
theorem am_N.same {u U : State} (e : u.vm = U.vm) (h : am_N u) : am_N U := by
  intro w hw
  have h1 := h w hw
  have h2 : am_isNest w = true := (List.mem_filter.mp hw).2
  cases w <;> first | (exact va_Nw.same rfl e h1) | (simp [am_isNest] at h2; done)
def am_ws (M : am_M) : List Cond := .code M.1 M.2.1 M.2.2.1 M.2.2.2 :: am_good
def am_rm (d : Nat) : Room := { frames := d, cells := 0, slots := 0, locals := 64 * d }
def am_B (X : am_X) (lay : List am_L) (D : am_D) (U : State) : Prop := va_P X.1 vwCl (am_W X lay D) U.heap ∧ va_K X.1 vwCl (am_tys X) U ∧ am_N U
def am_Pc (X : am_X) (lay : List am_L) (av : List Value) (D : am_D) : Array Value → State → Prop := va_Pc (av.map (am_tr X.2.2)) (am_B X lay D)
def am_Qc (X : am_X) (lay : List am_L) (A : Nat → Prop) (Q : Option Value → am_D → Prop) : Array Value → State → Outcome → State → Prop := fun _ st oc t => ∃ (r : Option Value) (D1 : am_D), Q r D1 ∧ oc = .returned (r.map (am_tr X.2.2)) ∧ am_B X lay D1 t ∧ va_F A st t
/-- M called at depth d on av over D comes back, and Q holds of its answer and of what the cells hold then -/
def am_Met (lay : List am_L) (d : Nat) (M : am_M) (av : List Value) (D : am_D) (Q : Option Value → am_D → Prop) : Prop :=
  ∀ (l : Launch) (X : am_X) (A : Nat → Prop), (∀ D, va_D A (am_W X lay D)) → Met l M.1 (am_ws M) (am_rm d) (am_Pc X lay av D) (am_Qc X lay A Q) 0 0 A
def am_nn : Value → Bool
  | .int _ => true
  | .ref _ => true
  | _ => false
/-- the locals that are told: ints and cells (.null tells nothing) -/
def am_ll (ad : Nat → Nat) (L : List Value) : List (Nat × Value) := (L.zipIdx.filter fun q => am_nn q.1).map fun q => (q.2, am_tr ad q.1)
theorem am_ll_mem {ad : Nat → Nat} {L : List Value} {q : Nat × Value} : q ∈ am_ll ad L ↔ ∃ v, L[q.1]? = some v ∧ am_nn v = true ∧ q.2 = am_tr ad v := by
  obtain ⟨i, z⟩ := q
  simp only [am_ll, List.mem_map, List.mem_filter, Prod.mk.injEq]
  constructor
  · rintro ⟨⟨v, j⟩, ⟨h1, h2⟩, h3, h4⟩
    have h5 := List.mem_zipIdx_iff_getElem?.mp h1
    exact ⟨v, by rw [← h3]; exact h5, h2, h4.symm⟩
  · rintro ⟨v, h1, h2, h3⟩
    exact ⟨(v, i), ⟨List.mem_zipIdx_iff_getElem?.mpr h1, h2⟩, rfl, h3.symm⟩
theorem am_lget {ls : Array Slot} {nL i : Nat} {ad : Nat → Nat} {L : List Value} {v : Value} (h : lv_has ls nL (am_ll ad L)) (hL : L[i]? = some v) (hn : am_nn v = true) : ls[i]? = some (.val (am_tr ad v)) :=
  h.2.2 (i, am_tr ad v) (am_ll_mem.mpr ⟨v, hL, hn, rfl⟩)
theorem am_nn_cat {ad : Nat → Nat} {v : Value} (h : am_nn v = true) : (am_tr ad v).category = 1 := by
  cases v <;> first | rfl | (simp [am_nn] at h; done)
theorem am_lset {ls : Array Slot} {nL i : Nat} {ad : Nat → Nat} {L : List Value} {v : Value} (h : lv_has ls nL ((i, am_tr ad v) :: (am_ll ad L).filter (fun q => !(q.1 == i) && !(q.1 + 1 == i && q.2.category == 2)))) : lv_has ls nL (am_ll ad (L.set i v)) := by
  refine ⟨h.1, h.2.1, fun q hq => h.2.2 q ?_⟩
  obtain ⟨z, h1, h2, h3⟩ := am_ll_mem.mp hq
  by_cases e : q.1 = i
  · have hz : z = v := by
      rw [e] at h1
      by_cases hl : i < L.length
      · rw [List.getElem?_set_self hl] at h1
        exact (Option.some.inj h1).symm
      · rw [List.getElem?_eq_none (by rw [List.length_set]; omega)] at h1
        cases h1
    refine List.mem_cons.mpr (Or.inl ?_)
    obtain ⟨a, b⟩ := q
    simp only at e h3
    rw [e, h3, hz]
  · rw [List.getElem?_set_ne (Ne.symm e)] at h1
    refine List.mem_cons.mpr (Or.inr (List.mem_filter.mpr ⟨am_ll_mem.mpr ⟨z, h1, h2, h3⟩, ?_⟩))
    have hc : q.2.category = 1 := by rw [h3]; exact am_nn_cat h2
    rw [hc]
    simp [e]
def am_At (p : Program) (s : State) (m : MethodId) (args : Array Value) (meth : Method) (c : Code) (M : am_M) : Prop :=
  p.tables.exec = Jvm.exec ∧ c.code = M.2.1 ∧ c.maxLocals = M.2.2.1 ∧ meth.sig.returnType = M.2.2.2 ∧ meth.locks = false ∧ s.vm.findClass M.1.cls = some m.cls ∧ ∀ w ∈ am_ws M, w.before args s = true
def am_In (lay : List am_L) (M : am_M) (D : am_D) (X : am_X) (A : Nat → Prop) (p : Program) (s : State) (m : MethodId) (args : Array Value) (meth : Method) (c : Code) (H : Heap) (locs : List Loc) : Prop :=
  am_At p s m args meth c M ∧ (∀ D, va_D A (am_W X lay D)) ∧ va_P X.1 vwCl (am_W X lay D) H ∧ va_K X.1 vwCl (am_tys X) s ∧ am_N s ∧ va_S A s.heap H locs
/-- the walk of M at depth d from pc, with locals L, operands st, over D, comes to an end with Q -/
def am_AW (lay : List am_L) (d : Nat) (M : am_M) (pc : Nat) (L st : List Value) (D : am_D) (Q : Option Value → am_D → Prop) : Prop :=
  ∀ (l : Launch) (X : am_X) (A : Nat → Prop) (p : Program) (e : Env) (s : State) (m : MethodId) (args : Array Value) (below : List Frame) (meth : Method) (c : Code) (H : Heap) (locs : List Loc) (ls : Array Slot),
    am_In lay M D X A p s m args meth c H locs → lv_has ls M.2.2.1 (am_ll X.2.2 L) → W p l e (am_rm d) s m args below meth c H locs 0 0 (MQ below (am_Qc X lay A Q) args s 0 0 A) (F0 m pc ls (st.map (am_tr X.2.2)))
def am_up (D : am_D) (q k : Nat) (x : Int32) : am_D := fun q1 k1 => if q1 = q ∧ k1 = k then x else D q1 k1
theorem am_W_get {X : am_X} {lay : List am_L} {D : am_D} {k : Nat} {c : am_L} (h : lay[k]? = some c) : (am_W X lay D)[k]? = some (X.2.2 k, am_cell X D k c) := by
  simp [am_W, List.getElem?_mapIdx, h]
theorem am_W_put {X : am_X} {lay : List am_L} {D D1 : am_D} {q : Nat} {c : am_L} {v : va_E} (h : lay[q]? = some c) (hv : am_cell X D1 q c = v) (ho : ∀ k, k ≠ q → D1 k = D k) : (am_W X lay D).set q (X.2.2 q, v) = am_W X lay D1 := by
  apply List.ext_getElem?
  intro k
  by_cases e : k = q
  · subst e
    have hl : k < (am_W X lay D).length := by
      have := (List.getElem?_eq_some_iff.mp h).1
      simpa [am_W] using this
    rw [List.getElem?_set_self hl, am_W_get h, hv]
  · rw [List.getElem?_set_ne (Ne.symm e)]
    simp only [am_W, List.getElem?_mapIdx]
    cases hk : lay[k]? with
    | none => rfl
    | some c1 =>
      simp only [Option.map_some, Option.some.injEq, Prod.mk.injEq, true_and]
      unfold am_cell am_fv
      rw [ho k e]
theorem am_up_ne {D : am_D} {q k : Nat} {x : Int32} (k1 : Nat) (h : k1 ≠ q) : am_up D q k x k1 = D k1 := by
  funext j
  simp [am_up, h]
theorem am_up_row {D : am_D} {q k : Nat} {x : Int32} : am_up D q k x q = upd (D q) k x := by
  funext j
  by_cases h : j = k <;> simp [am_up, upd, h]
theorem am_cat (ad : Nat → Nat) (v : Value) : (am_tr ad v).category = v.category := by cases v <;> rfl
theorem am_cats (ad : Nat → Nat) (st : List Value) : ((st.map (am_tr ad)).map fun v => v.category) = st.map fun v => v.category := by
  rw [List.map_map]
  exact List.map_congr_left fun v _ => am_cat ad v
section AMR
variable {lay : List am_L} {d : Nat} {M : am_M} {pc : Nat} {L st : List Value} {D : am_D} {Q : Option Value → am_D → Prop}
/-- Q may be weakened -/
theorem am_AW.mono {Q1 : Option Value → am_D → Prop} (h : am_AW lay d M pc L st D Q1) (hq : ∀ r D1, Q1 r D1 → Q r D1) : am_AW lay d M pc L st D Q := by
  intro l X A p e s m args below meth c H locs ls I hl T hT S
  obtain ⟨t, h1, o, h2, h3, h4, h5⟩ := h l X A p e s m args below meth c H locs ls I hl T hT S
  obtain ⟨r, D1, q1, q2⟩ := h4
  exact ⟨t, h1, o, h2, h3, ⟨r, D1, hq r D1 q1, q2⟩, h5⟩
theorem am_Met.mono {av : List Value} {Q1 : Option Value → am_D → Prop} (h : am_Met lay d M av D Q1) (hq : ∀ r D1, Q1 r D1 → Q r D1) : am_Met lay d M av D Q := by
  intro l X A hA p e h1 h2 h3 s m args below h4 h5 h6 h7
  obtain ⟨t, o, k1, k2, k3, k4, k5⟩ := h l X A hA p e h1 h2 h3 s m args below h4 h5 h6 h7
  obtain ⟨r, D1, q1, q2⟩ := k4
  exact ⟨t, o, k1, k2, k3, ⟨r, D1, hq r D1 q1, q2⟩, k5⟩
theorem am_iconst {n : Int} {v : Int32} (hd : decode M.2.1 pc = .ok (.iconst n, 1)) (hv : Int32.ofInt n = v) (k : am_AW lay d M (pc + 1) L (.int v :: st) D Q) : am_AW lay d M pc L (st) D Q := by
  intro l X A p e s m args below meth c H locs ls I hl
  exact lv_iconst I.1.1 I.1.2.1 hd hv (k l X A p e s m args below meth c H locs ls I hl)
theorem am_bipush {n : Int} {v : Int32} (hd : decode M.2.1 pc = .ok (.bipush n, 2)) (hv : (Int8.ofInt n).toInt32 = v) (k : am_AW lay d M (pc + 2) L (.int v :: st) D Q) : am_AW lay d M pc L (st) D Q := by
  intro l X A p e s m args below meth c H locs ls I hl
  exact lv_bipush I.1.1 I.1.2.1 hd hv (k l X A p e s m args below meth c H locs ls I hl)
theorem am_sipush {n : Int} {v : Int32} (hd : decode M.2.1 pc = .ok (.sipush n, 3)) (hv : (Int16.ofInt n).toInt32 = v) (k : am_AW lay d M (pc + 3) L (.int v :: st) D Q) : am_AW lay d M pc L (st) D Q := by
  intro l X A p e s m args below meth c H locs ls I hl
  exact lv_sipush I.1.1 I.1.2.1 hd hv (k l X A p e s m args below meth c H locs ls I hl)
theorem am_iload_n {i : Fin 4} {x : Int32} (hd : decode M.2.1 pc = .ok (.iload_n i, 1)) (hL : L[(i : Nat)]? = some (.int x)) (k : am_AW lay d M (pc + 1) L (.int x :: st) D Q) : am_AW lay d M pc L (st) D Q := by
  intro l X A p e s m args below meth c H locs ls I hl
  exact lv_iload_n I.1.1 I.1.2.1 hd rfl (am_lget hl hL rfl) (k l X A p e s m args below meth c H locs ls I hl)
theorem am_iload {i : Nat} {x : Int32} (hd : decode M.2.1 pc = .ok (.iload i, 2)) (hL : L[i]? = some (.int x)) (k : am_AW lay d M (pc + 2) L (.int x :: st) D Q) : am_AW lay d M pc L (st) D Q := by
  intro l X A p e s m args below meth c H locs ls I hl
  exact lv_iload I.1.1 I.1.2.1 hd (am_lget hl hL rfl) (k l X A p e s m args below meth c H locs ls I hl)
theorem am_aload_n {i : Fin 4} {x : Nat} (hd : decode M.2.1 pc = .ok (.aload_n i, 1)) (hL : L[(i : Nat)]? = some (.ref x)) (k : am_AW lay d M (pc + 1) L (.ref x :: st) D Q) : am_AW lay d M pc L (st) D Q := by
  intro l X A p e s m args below meth c H locs ls I hl
  exact lv_aload_n I.1.1 I.1.2.1 hd rfl (am_lget hl hL rfl) (k l X A p e s m args below meth c H locs ls I hl)
theorem am_aload {i x : Nat} (hd : decode M.2.1 pc = .ok (.aload i, 2)) (hL : L[i]? = some (.ref x)) (k : am_AW lay d M (pc + 2) L (.ref x :: st) D Q) : am_AW lay d M pc L (st) D Q := by
  intro l X A p e s m args below meth c H locs ls I hl
  exact lv_aload I.1.1 I.1.2.1 hd (am_lget hl hL rfl) (k l X A p e s m args below meth c H locs ls I hl)
theorem am_iadd {x y : Int32} (hd : decode M.2.1 pc = .ok (.iadd, 1)) (k : am_AW lay d M (pc + 1) L (.int (x + y) :: st) D Q) : am_AW lay d M pc L (.int y :: .int x :: st) D Q := by
  intro l X A p e s m args below meth c H locs ls I hl
  exact lv_iadd I.1.1 I.1.2.1 hd (k l X A p e s m args below meth c H locs ls I hl)
theorem am_isub {x y : Int32} (hd : decode M.2.1 pc = .ok (.isub, 1)) (k : am_AW lay d M (pc + 1) L (.int (x - y) :: st) D Q) : am_AW lay d M pc L (.int y :: .int x :: st) D Q := by
  intro l X A p e s m args below meth c H locs ls I hl
  exact lv_isub I.1.1 I.1.2.1 hd (k l X A p e s m args below meth c H locs ls I hl)
theorem am_imul {x y : Int32} (hd : decode M.2.1 pc = .ok (.imul, 1)) (k : am_AW lay d M (pc + 1) L (.int (x * y) :: st) D Q) : am_AW lay d M pc L (.int y :: .int x :: st) D Q := by
  intro l X A p e s m args below meth c H locs ls I hl
  exact lv_imul I.1.1 I.1.2.1 hd (k l X A p e s m args below meth c H locs ls I hl)
theorem am_iand {x y : Int32} (hd : decode M.2.1 pc = .ok (.iand, 1)) (k : am_AW lay d M (pc + 1) L (.int (x &&& y) :: st) D Q) : am_AW lay d M pc L (.int y :: .int x :: st) D Q := by
  intro l X A p e s m args below meth c H locs ls I hl
  exact lv_iand I.1.1 I.1.2.1 hd (k l X A p e s m args below meth c H locs ls I hl)
theorem am_ior {x y : Int32} (hd : decode M.2.1 pc = .ok (.ior, 1)) (k : am_AW lay d M (pc + 1) L (.int (x ||| y) :: st) D Q) : am_AW lay d M pc L (.int y :: .int x :: st) D Q := by
  intro l X A p e s m args below meth c H locs ls I hl
  exact lv_ior I.1.1 I.1.2.1 hd (k l X A p e s m args below meth c H locs ls I hl)
theorem am_ixor {x y : Int32} (hd : decode M.2.1 pc = .ok (.ixor, 1)) (k : am_AW lay d M (pc + 1) L (.int (x ^^^ y) :: st) D Q) : am_AW lay d M pc L (.int y :: .int x :: st) D Q := by
  intro l X A p e s m args below meth c H locs ls I hl
  exact lv_ixor I.1.1 I.1.2.1 hd (k l X A p e s m args below meth c H locs ls I hl)
theorem am_ishl {x y : Int32} (hd : decode M.2.1 pc = .ok (.ishl, 1)) (k : am_AW lay d M (pc + 1) L (.int (x <<< (y &&& 31)) :: st) D Q) : am_AW lay d M pc L (.int y :: .int x :: st) D Q := by
  intro l X A p e s m args below meth c H locs ls I hl
  exact lv_ishl I.1.1 I.1.2.1 hd (k l X A p e s m args below meth c H locs ls I hl)
theorem am_ishr {x y : Int32} (hd : decode M.2.1 pc = .ok (.ishr, 1)) (k : am_AW lay d M (pc + 1) L (.int (x >>> (y &&& 31)) :: st) D Q) : am_AW lay d M pc L (.int y :: .int x :: st) D Q := by
  intro l X A p e s m args below meth c H locs ls I hl
  exact lv_ishr I.1.1 I.1.2.1 hd (k l X A p e s m args below meth c H locs ls I hl)
theorem am_idiv {x y : Int32} (hd : decode M.2.1 pc = .ok (.idiv, 1)) (hne : ¬ y = 0) (k : am_AW lay d M (pc + 1) L (.int (x / y) :: st) D Q) : am_AW lay d M pc L (.int y :: .int x :: st) D Q := by
  intro l X A p e s m args below meth c H locs ls I hl
  exact lv_idiv I.1.1 I.1.2.1 hd hne (k l X A p e s m args below meth c H locs ls I hl)
theorem am_irem {x y : Int32} (hd : decode M.2.1 pc = .ok (.irem, 1)) (hne : ¬ y = 0) (k : am_AW lay d M (pc + 1) L (.int (x - x / y * y) :: st) D Q) : am_AW lay d M pc L (.int y :: .int x :: st) D Q := by
  intro l X A p e s m args below meth c H locs ls I hl
  exact lv_irem I.1.1 I.1.2.1 hd hne (k l X A p e s m args below meth c H locs ls I hl)
theorem am_iushr {x y : Int32} (hd : decode M.2.1 pc = .ok (.iushr, 1)) (k : am_AW lay d M (pc + 1) L (.int ((x.toUInt32 >>> (y.toUInt32 &&& Int32.toUInt32 31)).toInt32) :: st) D Q) : am_AW lay d M pc L (.int y :: .int x :: st) D Q := by
  intro l X A p e s m args below meth c H locs ls I hl
  exact lv_iushr I.1.1 I.1.2.1 hd rfl (k l X A p e s m args below meth c H locs ls I hl)
theorem am_ineg {x : Int32} (hd : decode M.2.1 pc = .ok (.ineg, 1)) (k : am_AW lay d M (pc + 1) L (.int (-x) :: st) D Q) : am_AW lay d M pc L (.int x :: st) D Q := by
  intro l X A p e s m args below meth c H locs ls I hl
  exact lv_ineg I.1.1 I.1.2.1 hd (k l X A p e s m args below meth c H locs ls I hl)
theorem am_i2c {x : Int32} (hd : decode M.2.1 pc = .ok (.i2c, 1)) (k : am_AW lay d M (pc + 1) L (.int ((x.toUInt32 % 65536).toInt32) :: st) D Q) : am_AW lay d M pc L (.int x :: st) D Q := by
  intro l X A p e s m args below meth c H locs ls I hl
  exact lv_i2c I.1.1 I.1.2.1 hd rfl (k l X A p e s m args below meth c H locs ls I hl)
theorem am_dup {v : Value} (hd : decode M.2.1 pc = .ok (.dup, 1)) (hn : am_nn v = true) (k : am_AW lay d M (pc + 1) L (v :: v :: st) D Q) : am_AW lay d M pc L (v :: st) D Q := by
  intro l X A p e s m args below meth c H locs ls I hl
  exact lv_dup I.1.1 I.1.2.1 hd (am_nn_cat hn) (k l X A p e s m args below meth c H locs ls I hl)
theorem am_dup2 {v w : Value} (hd : decode M.2.1 pc = .ok (.dup2, 1)) (hn : am_nn v = true) (hm : am_nn w = true) (k : am_AW lay d M (pc + 1) L (v :: w :: v :: w :: st) D Q) : am_AW lay d M pc L (v :: w :: st) D Q := by
  intro l X A p e s m args below meth c H locs ls I hl
  exact lv_dup2_11 I.1.1 I.1.2.1 hd (am_nn_cat hn) (am_nn_cat hm) (k l X A p e s m args below meth c H locs ls I hl)
theorem am_istore_n {i : Fin 4} {x : Int32} (hd : decode M.2.1 pc = .ok (.istore_n i, 1)) (hn : (i : Nat) < M.2.2.1) (k : am_AW lay d M (pc + 1) (L.set (i : Nat) (.int x)) st D Q) : am_AW lay d M pc L (.int x :: st) D Q := by
  intro l X A p e s m args below meth c H locs ls I hl
  exact lv_istore_n I.1.1 I.1.2.1 hd rfl hl hn rfl (fun ls1 h1 => k l X A p e s m args below meth c H locs ls1 I (am_lset (v := .int x) h1))
theorem am_istore {i : Nat} {x : Int32} (hd : decode M.2.1 pc = .ok (.istore i, 2)) (hn : i < M.2.2.1) (k : am_AW lay d M (pc + 2) (L.set i (.int x)) st D Q) : am_AW lay d M pc L (.int x :: st) D Q := by
  intro l X A p e s m args below meth c H locs ls I hl
  exact lv_istore I.1.1 I.1.2.1 hd hl hn rfl (fun ls1 h1 => k l X A p e s m args below meth c H locs ls1 I (am_lset (v := .int x) h1))
theorem am_astore_n {i : Fin 4} {x : Nat} (hd : decode M.2.1 pc = .ok (.astore_n i, 1)) (hn : (i : Nat) < M.2.2.1) (k : am_AW lay d M (pc + 1) (L.set (i : Nat) (.ref x)) st D Q) : am_AW lay d M pc L (.ref x :: st) D Q := by
  intro l X A p e s m args below meth c H locs ls I hl
  exact lv_astore_n I.1.1 I.1.2.1 hd rfl hl hn rfl (fun ls1 h1 => k l X A p e s m args below meth c H locs ls1 I (am_lset (v := .ref x) h1))
theorem am_astore {i : Nat} {x : Nat} (hd : decode M.2.1 pc = .ok (.astore i, 2)) (hn : i < M.2.2.1) (k : am_AW lay d M (pc + 2) (L.set i (.ref x)) st D Q) : am_AW lay d M pc L (.ref x :: st) D Q := by
  intro l X A p e s m args below meth c H locs ls I hl
  exact lv_astore I.1.1 I.1.2.1 hd hl hn rfl (fun ls1 h1 => k l X A p e s m args below meth c H locs ls1 I (am_lset (v := .ref x) h1))
theorem am_iinc {i : Nat} {n : Int} {x c0 : Int32} (hd : decode M.2.1 pc = .ok (.iinc i n, 3)) (hc : Int32.ofInt n = c0) (hL : L[i]? = some (.int x)) (hn : i < M.2.2.1) (k : am_AW lay d M (pc + 3) (L.set i (.int (x + c0))) st D Q) : am_AW lay d M pc L st D Q := by
  subst hc
  intro l X A p e s m args below meth c H locs ls I hl
  have hm : (i, am_tr X.2.2 (.int x)) ∈ am_ll X.2.2 L := am_ll_mem.mpr ⟨.int x, hL, rfl, rfl⟩
  obtain ⟨j, hj⟩ := List.getElem?_of_mem hm
  exact lv_iinc I.1.1 I.1.2.1 hd hl hj rfl hn rfl (fun ls1 h1 => k l X A p e s m args below meth c H locs ls1 I (am_lset (v := .int (x + Int32.ofInt n)) h1))
theorem am_goto {off : Int} {tgt : Nat} (hd : decode M.2.1 pc = .ok (.goto off, 3)) (ht : (pc : Int) + off = (tgt : Int)) (k : am_AW lay d M tgt L st D Q) : am_AW lay d M pc L st D Q := by
  intro l X A p e s m args below meth c H locs ls I hl
  exact lv_goto I.1.1 I.1.2.1 hd ht (k l X A p e s m args below meth c H locs ls I hl)
theorem am_ifnull {x : Nat} {off : Int} (hd : decode M.2.1 pc = .ok (.ifnull off, 3)) (k : am_AW lay d M (pc + 3) L st D Q) : am_AW lay d M pc L (.ref x :: st) D Q := by
  intro l X A p e s m args below meth c H locs ls I hl
  exact lv_ifnull I.1.1 I.1.2.1 hd (k l X A p e s m args below meth c H locs ls I hl)
theorem am_if_eq {x : Int32} {off : Int} {tgt : Nat} (hd : decode M.2.1 pc = .ok (.ifCond .eq off, 3)) (ht : (pc : Int) + off = (tgt : Int)) (kt : x = 0 → am_AW lay d M tgt L st D Q) (kf : ¬ (x = 0) → am_AW lay d M (pc + 3) L st D Q) : am_AW lay d M pc L (.int x :: st) D Q := by
  intro l X A p e s m args below meth c H locs ls I hl
  exact lv_if_eq I.1.1 I.1.2.1 hd ht (fun h => kt (by first | exact h | simpa using h) l X A p e s m args below meth c H locs ls I hl) (fun h => kf (by first | exact h | simpa using h) l X A p e s m args below meth c H locs ls I hl)
theorem am_icmp_eq {x y : Int32} {off : Int} {tgt : Nat} (hd : decode M.2.1 pc = .ok (.if_icmp .eq off, 3)) (ht : (pc : Int) + off = (tgt : Int)) (kt : x = y → am_AW lay d M tgt L st D Q) (kf : ¬ (x = y) → am_AW lay d M (pc + 3) L st D Q) : am_AW lay d M pc L (.int y :: .int x :: st) D Q := by
  intro l X A p e s m args below meth c H locs ls I hl
  exact lv_icmp_eq I.1.1 I.1.2.1 hd ht (fun h => kt (by first | exact h | simpa using h) l X A p e s m args below meth c H locs ls I hl) (fun h => kf (by first | exact h | simpa using h) l X A p e s m args below meth c H locs ls I hl)
theorem am_if_ne {x : Int32} {off : Int} {tgt : Nat} (hd : decode M.2.1 pc = .ok (.ifCond .ne off, 3)) (ht : (pc : Int) + off = (tgt : Int)) (kt : ¬ x = 0 → am_AW lay d M tgt L st D Q) (kf : ¬ (¬ x = 0) → am_AW lay d M (pc + 3) L st D Q) : am_AW lay d M pc L (.int x :: st) D Q := by
  intro l X A p e s m args below meth c H locs ls I hl
  exact lv_if_ne I.1.1 I.1.2.1 hd ht (fun h => kt (by first | exact h | simpa using h) l X A p e s m args below meth c H locs ls I hl) (fun h => kf (by first | exact h | simpa using h) l X A p e s m args below meth c H locs ls I hl)
theorem am_icmp_ne {x y : Int32} {off : Int} {tgt : Nat} (hd : decode M.2.1 pc = .ok (.if_icmp .ne off, 3)) (ht : (pc : Int) + off = (tgt : Int)) (kt : ¬ x = y → am_AW lay d M tgt L st D Q) (kf : ¬ (¬ x = y) → am_AW lay d M (pc + 3) L st D Q) : am_AW lay d M pc L (.int y :: .int x :: st) D Q := by
  intro l X A p e s m args below meth c H locs ls I hl
  exact lv_icmp_ne I.1.1 I.1.2.1 hd ht (fun h => kt (by first | exact h | simpa using h) l X A p e s m args below meth c H locs ls I hl) (fun h => kf (by first | exact h | simpa using h) l X A p e s m args below meth c H locs ls I hl)
theorem am_if_lt {x : Int32} {off : Int} {tgt : Nat} (hd : decode M.2.1 pc = .ok (.ifCond .lt off, 3)) (ht : (pc : Int) + off = (tgt : Int)) (kt : x < 0 → am_AW lay d M tgt L st D Q) (kf : ¬ (x < 0) → am_AW lay d M (pc + 3) L st D Q) : am_AW lay d M pc L (.int x :: st) D Q := by
  intro l X A p e s m args below meth c H locs ls I hl
  exact lv_if_lt I.1.1 I.1.2.1 hd ht (fun h => kt (by first | exact h | simpa using h) l X A p e s m args below meth c H locs ls I hl) (fun h => kf (by first | exact h | simpa using h) l X A p e s m args below meth c H locs ls I hl)
theorem am_icmp_lt {x y : Int32} {off : Int} {tgt : Nat} (hd : decode M.2.1 pc = .ok (.if_icmp .lt off, 3)) (ht : (pc : Int) + off = (tgt : Int)) (kt : x < y → am_AW lay d M tgt L st D Q) (kf : ¬ (x < y) → am_AW lay d M (pc + 3) L st D Q) : am_AW lay d M pc L (.int y :: .int x :: st) D Q := by
  intro l X A p e s m args below meth c H locs ls I hl
  exact lv_icmp_lt I.1.1 I.1.2.1 hd ht (fun h => kt (by first | exact h | simpa using h) l X A p e s m args below meth c H locs ls I hl) (fun h => kf (by first | exact h | simpa using h) l X A p e s m args below meth c H locs ls I hl)
theorem am_if_ge {x : Int32} {off : Int} {tgt : Nat} (hd : decode M.2.1 pc = .ok (.ifCond .ge off, 3)) (ht : (pc : Int) + off = (tgt : Int)) (kt : 0 ≤ x → am_AW lay d M tgt L st D Q) (kf : ¬ (0 ≤ x) → am_AW lay d M (pc + 3) L st D Q) : am_AW lay d M pc L (.int x :: st) D Q := by
  intro l X A p e s m args below meth c H locs ls I hl
  exact lv_if_ge I.1.1 I.1.2.1 hd ht (fun h => kt (by first | exact h | simpa using h) l X A p e s m args below meth c H locs ls I hl) (fun h => kf (by first | exact h | simpa using h) l X A p e s m args below meth c H locs ls I hl)
theorem am_icmp_ge {x y : Int32} {off : Int} {tgt : Nat} (hd : decode M.2.1 pc = .ok (.if_icmp .ge off, 3)) (ht : (pc : Int) + off = (tgt : Int)) (kt : y ≤ x → am_AW lay d M tgt L st D Q) (kf : ¬ (y ≤ x) → am_AW lay d M (pc + 3) L st D Q) : am_AW lay d M pc L (.int y :: .int x :: st) D Q := by
  intro l X A p e s m args below meth c H locs ls I hl
  exact lv_icmp_ge I.1.1 I.1.2.1 hd ht (fun h => kt (by first | exact h | simpa using h) l X A p e s m args below meth c H locs ls I hl) (fun h => kf (by first | exact h | simpa using h) l X A p e s m args below meth c H locs ls I hl)
theorem am_if_gt {x : Int32} {off : Int} {tgt : Nat} (hd : decode M.2.1 pc = .ok (.ifCond .gt off, 3)) (ht : (pc : Int) + off = (tgt : Int)) (kt : 0 < x → am_AW lay d M tgt L st D Q) (kf : ¬ (0 < x) → am_AW lay d M (pc + 3) L st D Q) : am_AW lay d M pc L (.int x :: st) D Q := by
  intro l X A p e s m args below meth c H locs ls I hl
  exact lv_if_gt I.1.1 I.1.2.1 hd ht (fun h => kt (by first | exact h | simpa using h) l X A p e s m args below meth c H locs ls I hl) (fun h => kf (by first | exact h | simpa using h) l X A p e s m args below meth c H locs ls I hl)
theorem am_icmp_gt {x y : Int32} {off : Int} {tgt : Nat} (hd : decode M.2.1 pc = .ok (.if_icmp .gt off, 3)) (ht : (pc : Int) + off = (tgt : Int)) (kt : y < x → am_AW lay d M tgt L st D Q) (kf : ¬ (y < x) → am_AW lay d M (pc + 3) L st D Q) : am_AW lay d M pc L (.int y :: .int x :: st) D Q := by
  intro l X A p e s m args below meth c H locs ls I hl
  exact lv_icmp_gt I.1.1 I.1.2.1 hd ht (fun h => kt (by first | exact h | simpa using h) l X A p e s m args below meth c H locs ls I hl) (fun h => kf (by first | exact h | simpa using h) l X A p e s m args below meth c H locs ls I hl)
theorem am_if_le {x : Int32} {off : Int} {tgt : Nat} (hd : decode M.2.1 pc = .ok (.ifCond .le off, 3)) (ht : (pc : Int) + off = (tgt : Int)) (kt : x ≤ 0 → am_AW lay d M tgt L st D Q) (kf : ¬ (x ≤ 0) → am_AW lay d M (pc + 3) L st D Q) : am_AW lay d M pc L (.int x :: st) D Q := by
  intro l X A p e s m args below meth c H locs ls I hl
  exact lv_if_le I.1.1 I.1.2.1 hd ht (fun h => kt (by first | exact h | simpa using h) l X A p e s m args below meth c H locs ls I hl) (fun h => kf (by first | exact h | simpa using h) l X A p e s m args below meth c H locs ls I hl)
theorem am_icmp_le {x y : Int32} {off : Int} {tgt : Nat} (hd : decode M.2.1 pc = .ok (.if_icmp .le off, 3)) (ht : (pc : Int) + off = (tgt : Int)) (kt : x ≤ y → am_AW lay d M tgt L st D Q) (kf : ¬ (x ≤ y) → am_AW lay d M (pc + 3) L st D Q) : am_AW lay d M pc L (.int y :: .int x :: st) D Q := by
  intro l X A p e s m args below meth c H locs ls I hl
  exact lv_icmp_le I.1.1 I.1.2.1 hd ht (fun h => kt (by first | exact h | simpa using h) l X A p e s m args below meth c H locs ls I hl) (fun h => kf (by first | exact h | simpa using h) l X A p e s m args below meth c H locs ls I hl)
theorem am_tableIn {dflt lo hi : Int} {offs : Array Int} {len : Nat} {x : Int32} {off : Int} {tgt : Nat} (hd : decode M.2.1 pc = .ok (.tableswitch dflt lo hi offs, len)) (h1 : ¬ x.toInt < lo) (h2 : ¬ hi < x.toInt) (ho : offs[(x.toInt - lo).toNat]? = some off) (ht : (pc : Int) + off = (tgt : Int)) (k : am_AW lay d M tgt L st D Q) : am_AW lay d M pc L (.int x :: st) D Q := by
  intro l X A p e s m args below meth c H locs ls I hl
  exact lv_tableIn I.1.1 I.1.2.1 hd h1 h2 ho ht (k l X A p e s m args below meth c H locs ls I hl)
theorem am_tableOut {dflt lo hi : Int} {offs : Array Int} {len : Nat} {x : Int32} {tgt : Nat} (hd : decode M.2.1 pc = .ok (.tableswitch dflt lo hi offs, len)) (h1 : x.toInt < lo ∨ hi < x.toInt) (ht : (pc : Int) + dflt = (tgt : Int)) (k : am_AW lay d M tgt L st D Q) : am_AW lay d M pc L (.int x :: st) D Q := by
  intro l X A p e s m args below meth c H locs ls I hl
  exact lv_tableOut I.1.1 I.1.2.1 hd h1 ht (k l X A p e s m args below meth c H locs ls I hl)
theorem am_word {w : Cond} {p : Program} {s : State} {m : MethodId} {args : Array Value} {meth : Method} {c : Code} (h : am_At p s m args meth c M) (hw : w ∈ am_good) : w.before args s = true := h.2.2.2.2.2.2 w (List.mem_cons_of_mem _ hw)
theorem am_ldc {index : Nat} {v : Int32} (hd : decode M.2.1 pc = .ok (.ldc index, 2)) (hw : Cond.constant M.1.cls index v ∈ am_good) (k : am_AW lay d M (pc + 2) L (.int v :: st) D Q) : am_AW lay d M pc L st D Q := by
  intro l X A p e s m args below meth c H locs ls I hl
  exact lv_ldc I.1.1 I.1.2.1 I.1.2.2.2.2.2.1 (am_word I.1 hw) hd (k l X A p e s m args below meth c H locs ls I hl)
theorem am_ldcw {index : Nat} {v : Int32} (hd : decode M.2.1 pc = .ok (.ldc_w index, 3)) (hw : Cond.constant M.1.cls index v ∈ am_good) (k : am_AW lay d M (pc + 3) L (.int v :: st) D Q) : am_AW lay d M pc L st D Q := by
  intro l X A p e s m args below meth c H locs ls I hl
  exact lv_ldcw I.1.1 I.1.2.1 I.1.2.2.2.2.2.1 (am_word I.1 hw) hd (k l X A p e s m args below meth c H locs ls I hl)
/-- what the tables say of a field that class 'own' names by its pool's entry: the class (a place in vwCl) and the field's place -/
def am_FW (own : String) (index ci k : Nat) (C : String) (T : u_T) (N : Nat) : Prop := vwCl[ci]? = some (C, T, N) ∧ k < N ∧ (∀ w ∈ u_ws C T N, w ∈ am_good) ∧ Cond.fieldLink own index (T k).1 (T k).2.1 (T k).2.2.1 ∈ am_good
theorem am_fs {X : am_X} {q i ci : Nat} {fs : List (Option Nat)} {f : Option Nat} (hf : fs[i]? = some f) : (fs.mapIdx fun i f => am_fv X D q i f)[i]? = some (am_fv X D q i f) := by
  simp [List.getElem?_mapIdx, hf]
theorem am_getI {index q ci i N : Nat} {C : String} {T : u_T} {fs : List (Option Nat)} (hd : decode M.2.1 pc = .ok (.getfield index, 3)) (hw : am_FW M.1.cls index ci i C T N) (hl0 : lay[q]? = some (.inl (ci, fs))) (hf : fs[i]? = some none) (k : am_AW lay d M (pc + 3) L (.int (D q i) :: st) D Q) : am_AW lay d M pc L (.ref q :: st) D Q := by
  intro l X A p e s m args below meth c H locs ls I hl
  exact va_get I.1.1 I.1.2.1 I.1.2.2.2.2.2.2 (fun w h => List.mem_cons_of_mem _ (hw.2.2.1 w h)) I.1.2.2.2.2.2.1 I.2.2.2.1 I.2.2.1 q (am_W_get hl0) hw.1 i hw.2.1 (am_word I.1 hw.2.2.2) (fun _ h => h) (am_fs (ci := ci) hf) hd (k l X A p e s m args below meth c H locs ls I hl)
theorem am_getR {index q ci i j N : Nat} {C : String} {T : u_T} {fs : List (Option Nat)} (hd : decode M.2.1 pc = .ok (.getfield index, 3)) (hw : am_FW M.1.cls index ci i C T N) (hl0 : lay[q]? = some (.inl (ci, fs))) (hf : fs[i]? = some (some j)) (k : am_AW lay d M (pc + 3) L (.ref j :: st) D Q) : am_AW lay d M pc L (.ref q :: st) D Q := by
  intro l X A p e s m args below meth c H locs ls I hl
  exact va_get I.1.1 I.1.2.1 I.1.2.2.2.2.2.2 (fun w h => List.mem_cons_of_mem _ (hw.2.2.1 w h)) I.1.2.2.2.2.2.1 I.2.2.2.1 I.2.2.1 q (am_W_get hl0) hw.1 i hw.2.1 (am_word I.1 hw.2.2.2) (fun _ h => h) (am_fs (ci := ci) hf) hd (k l X A p e s m args below meth c H locs ls I hl)
/-- .. and of a field that may be written -/
def am_FP (T : u_T) (N i : Nat) : Prop := (∃ ty0 : Nat → FieldType, ∀ k, k < N → parseFieldDescriptor (T k).2.2.1 = some (ty0 k)) ∧ (∀ a, a < N → ∀ b, b < N → a ≠ b → (T a).2.1 ≠ (T b).2.1) ∧ (T i).2.2.2 = false ∧ parseFieldDescriptor (T i).2.2.1 = some .int
theorem am_putI {index q ci i N : Nat} {x : Int32} {C : String} {T : u_T} {fs : List (Option Nat)} (hd : decode M.2.1 pc = .ok (.putfield index, 3)) (hw : am_FW M.1.cls index ci i C T N) (hp : am_FP T N i) (hl0 : lay[q]? = some (.inl (ci, fs))) (hf : fs[i]? = some none) (k : am_AW lay d M (pc + 3) L st (am_up D q i x) Q) : am_AW lay d M pc L (.int x :: .ref q :: st) D Q := by
  intro l X A p e s m args below meth c H locs ls I hl
  obtain ⟨ty0, hty⟩ := hp.1
  have hlt : i < fs.length := (List.getElem?_eq_some_iff.mp hf).1
  have hc : am_cell X (am_up D q i x) q (.inl (ci, fs)) = .inr (ci, (fs.mapIdx fun i f => am_fv X D q i f).set i (.int x)) := by
    show Sum.inr _ = Sum.inr _
    congr 2
    apply List.ext_getElem?
    intro j
    by_cases e : j = i
    · subst e
      rw [List.getElem?_set_self (by simpa using hlt)]
      simp [List.getElem?_mapIdx, hf, am_fv, am_up]
    · rw [List.getElem?_set_ne (Ne.symm e)]
      simp only [List.getElem?_mapIdx]
      cases fs[j]? with
      | none => rfl
      | some f => cases f <;> simp [am_fv, am_up, e]
  refine va_put I.1.1 I.1.2.1 I.1.2.2.2.2.2.2 (fun w h => List.mem_cons_of_mem _ (hw.2.2.1 w h)) ty0 hty hp.2.1 I.1.2.2.2.2.2.1 I.2.2.2.1 I.2.2.1 (I.2.1 D) I.2.2.2.2.2 q (am_W_get hl0) hw.1 i hw.2.1 (am_word I.1 hw.2.2.2) (fun _ h => h) hp.2.2.1 (v := .int x) hp.2.2.2 rfl rfl (by simpa using hlt) hd (fun H1 locs1 P1 D1 S1 => ?_)
  rw [am_W_put hl0 hc (fun k h => am_up_ne k h)] at P1
  exact k l X A p e s m args below meth c H1 locs1 ls ⟨I.1, I.2.1, P1, I.2.2.2.1, I.2.2.2.2.1, S1⟩ hl
theorem am_iald {q n : Nat} {i : Int32} (hd : decode M.2.1 pc = .ok (.iaload, 1)) (hl0 : lay[q]? = some (.inr (.inl (false, n)))) (hin : vp_in i n) (k : am_AW lay d M (pc + 1) L (.int (D q i.toNatClampNeg) :: st) D Q) : am_AW lay d M pc L (.int i :: .ref q :: st) D Q := by
  intro l X A p e s m args below meth c H locs ls I hl
  exact va_iald I.1.1 I.1.2.1 I.2.2.2.1 I.2.2.1 q 0 (am_W_get hl0) rfl hin hd (k l X A p e s m args below meth c H locs ls I hl)
theorem am_cald {q n : Nat} {i : Int32} (hd : decode M.2.1 pc = .ok (.caload, 1)) (hl0 : lay[q]? = some (.inr (.inl (true, n)))) (hin : vp_in i n) (k : am_AW lay d M (pc + 1) L (.int (D q i.toNatClampNeg) :: st) D Q) : am_AW lay d M pc L (.int i :: .ref q :: st) D Q := by
  intro l X A p e s m args below meth c H locs ls I hl
  exact va_cald I.1.1 I.1.2.1 I.2.2.2.1 I.2.2.1 q 1 (am_W_get hl0) rfl hin hd (k l X A p e s m args below meth c H locs ls I hl)
theorem am_aald {q j : Nat} {rs : List Nat} {i : Int32} (hd : decode M.2.1 pc = .ok (.aaload, 1)) (hl0 : lay[q]? = some (.inr (.inr rs))) (hin : vp_in i rs.length) (hj : rs[i.toNatClampNeg]? = some j) (k : am_AW lay d M (pc + 1) L (.ref j :: st) D Q) : am_AW lay d M pc L (.int i :: .ref q :: st) D Q := by
  intro l X A p e s m args below meth c H locs ls I hl
  have hk := k l X A p e s m args below meth c H locs ls I hl
  refine va_aldq I.1.1 I.1.2.1 I.2.2.2.1 I.2.2.1 q 2 (am_W_get hl0) rfl hin hd ?_
  rw [hj]
  exact hk
theorem am_iast {q n : Nat} {i x : Int32} (hd : decode M.2.1 pc = .ok (.iastore, 1)) (hl0 : lay[q]? = some (.inr (.inl (false, n)))) (hin : vp_in i n) (k : am_AW lay d M (pc + 1) L st (am_up D q i.toNatClampNeg x) Q) : am_AW lay d M pc L (.int x :: .int i :: .ref q :: st) D Q := by
  intro l X A p e s m args below meth c H locs ls I hl
  refine va_iast I.1.1 I.1.2.1 I.2.2.2.1 I.2.2.1 (I.2.1 D) I.2.2.2.2.2 q 0 (am_W_get hl0) rfl hin hd (fun H1 locs1 P1 D1 S1 => ?_)
  rw [am_W_put (D1 := am_up D q i.toNatClampNeg x) hl0 (by show Sum.inl _ = Sum.inl _; rw [am_up_row]) (fun k h => am_up_ne k h)] at P1
  exact k l X A p e s m args below meth c H1 locs1 ls ⟨I.1, I.2.1, P1, I.2.2.2.1, I.2.2.2.2.1, S1⟩ hl
theorem am_cast {q n : Nat} {i x : Int32} (hd : decode M.2.1 pc = .ok (.castore, 1)) (hl0 : lay[q]? = some (.inr (.inl (true, n)))) (hin : vp_in i n) (k : am_AW lay d M (pc + 1) L st (am_up D q i.toNatClampNeg (vp_nar .char x)) Q) : am_AW lay d M pc L (.int x :: .int i :: .ref q :: st) D Q := by
  intro l X A p e s m args below meth c H locs ls I hl
  refine va_cast I.1.1 I.1.2.1 I.2.2.2.1 I.2.2.1 (I.2.1 D) I.2.2.2.2.2 q 1 (am_W_get hl0) rfl hin hd (fun H1 locs1 P1 D1 S1 => ?_)
  rw [am_W_put (D1 := am_up D q i.toNatClampNeg (vp_nar .char x)) hl0 (by show Sum.inl _ = Sum.inl _; rw [am_up_row]) (fun k h => am_up_ne k h)] at P1
  exact k l X A p e s m args below meth c H1 locs1 ls ⟨I.1, I.2.1, P1, I.2.2.2.1, I.2.2.2.2.1, S1⟩ hl
def am_len : am_L → Option (Nat × Nat)
  | .inl _ => none
  | .inr (.inl (false, n)) => some (n, 0)
  | .inr (.inl (true, n)) => some (n, 1)
  | .inr (.inr rs) => some (rs.length, 2)
theorem am_alen {q n j : Nat} {c0 : am_L} {v : Int32} (hd : decode M.2.1 pc = .ok (.arraylength, 1)) (hl0 : lay[q]? = some c0) (hc0 : am_len c0 = some (n, j)) (hv : Int32.ofNat n = v) (k : am_AW lay d M (pc + 1) L (.int v :: st) D Q) : am_AW lay d M pc L (.ref q :: st) D Q := by
  intro l X A p e s m args below meth c H locs ls I hl
  have hk := k l X A p e s m args below meth c H locs ls I hl
  rcases c0 with c0 | ⟨_ | _, n0⟩ | rs
  · cases hc0
  · cases hc0; exact va_alen I.1.1 I.1.2.1 I.2.2.2.1 I.2.2.1 q 0 (am_W_get hl0) rfl hv hd hk
  · cases hc0; exact va_alen I.1.1 I.1.2.1 I.2.2.2.1 I.2.2.1 q 1 (am_W_get hl0) rfl hv hd hk
  · cases hc0; exact va_alen I.1.1 I.1.2.1 I.2.2.2.1 I.2.2.1 q 2 (am_W_get hl0) rfl hv hd hk
/-! returns -/
theorem am_ireturn {v : Int32} {ty : FieldType} (hd : decode M.2.1 pc = .ok (.ireturn, 1)) (hr : M.2.2.2 = some ty) (hn : narrow ty (.int v) = .int v) (hq : Q (some (.int v)) D) : am_AW lay d M pc L [.int v] D Q := by
  intro l X A p e s m args below meth c H locs ls I hl
  exact W.zret I.1.1 I.1.2.1 (I.1.2.2.2.1.trans hr) hn (fun t ht hW => ⟨some (.int v), D, hq, rfl, ⟨by rw [ht]; exact I.2.2.1, va_K.moved hW.alike I.2.2.2.1, I.2.2.2.2.1.warm hW⟩, I.2.2.2.2.2.F ht⟩) I.2.2.2.2.2.2.2 hd I.1.2.2.2.2.1
theorem am_areturn {v : Nat} {ty : FieldType} (hd : decode M.2.1 pc = .ok (.areturn, 1)) (hr : M.2.2.2 = some ty) (hn : (∃ n, ty = .object n) ∨ ∃ t, ty = .array t) (hq : Q (some (.ref v)) D) : am_AW lay d M pc L [.ref v] D Q := by
  intro l X A p e s m args below meth c H locs ls I hl
  exact W.aret I.1.1 I.1.2.1 (I.1.2.2.2.1.trans hr) hn (Or.inr ⟨_, rfl⟩) (fun t ht hW => ⟨some (.ref v), D, hq, rfl, ⟨by rw [ht]; exact I.2.2.1, va_K.moved hW.alike I.2.2.2.1, I.2.2.2.2.1.warm hW⟩, I.2.2.2.2.2.F ht⟩) I.2.2.2.2.2.2.2 hd I.1.2.2.2.2.1
theorem am_return (hd : decode M.2.1 pc = .ok (.return_, 1)) (hr : M.2.2.2 = none) (hq : Q none D) : am_AW lay d M pc L [] D Q := by
  intro l X A p e s m args below meth c H locs ls I hl
  exact W.vret I.1.1 I.1.2.1 (I.1.2.2.2.1.trans hr) (fun t ht hW => ⟨none, D, hq, rfl, ⟨by rw [ht]; exact I.2.2.1, va_K.moved hW.alike I.2.2.2.1, I.2.2.2.2.1.warm hW⟩, I.2.2.2.2.2.F ht⟩) I.2.2.2.2.2.2.2 hd I.1.2.2.2.2.1
/-! a method's entry -/
theorem am_args_mem {ad : Nat → Nat} : ∀ (av : List Value) (i0 : Nat), (∀ v ∈ av, am_nn v = true) → ∀ (i : Nat) (v : Value), av[i]? = some v → (i0 + i, am_tr ad v) ∈ lv_args i0 (av.map (am_tr ad)) := by
  intro av
  induction av with
  | nil => intro i0 _ i v h; simp at h
  | cons a r ih =>
    intro i0 hn i v h
    have ha : (am_tr ad a).category = 1 := am_nn_cat (hn a List.mem_cons_self)
    show (i0 + i, am_tr ad v) ∈ (i0, am_tr ad a) :: lv_args (if (am_tr ad a).category = 2 then i0 + 2 else i0 + 1) (r.map (am_tr ad))
    rw [ha, if_neg (by decide)]
    cases i with
    | zero =>
      simp only [List.getElem?_cons_zero, Option.some.injEq] at h
      subst h
      exact List.mem_cons_self
    | succ i =>
      simp only [List.getElem?_cons_succ] at h
      have := ih (i0 + 1) (fun v hv => hn v (List.mem_cons_of_mem _ hv)) i v h
      rw [show i0 + (i + 1) = i0 + 1 + i by omega]
      exact List.mem_cons_of_mem _ this
theorem am_sl_len {ad : Nat → Nat} : ∀ (av : List Value), (∀ v ∈ av, am_nn v = true) → (lg_sl (av.map (am_tr ad))).length = av.length := by
  intro av
  induction av with
  | nil => intro _; rfl
  | cons a r ih =>
    intro hn
    have ha : (am_tr ad a).category = 1 := am_nn_cat (hn a List.mem_cons_self)
    have hr := ih (fun v hv => hn v (List.mem_cons_of_mem _ hv))
    simp only [lg_sl, List.map_cons, List.flatMap_cons, ha] at hr ⊢
    rw [if_neg (by decide), List.length_append, hr]
    simp [Nat.add_comm]
theorem am_ofW {l : Launch} {y : MethodName} {ws ws' : List Cond} {rm : Room} {Pc : Array Value → State → Prop} {Qc : Array Value → State → Outcome → State → Prop} {mc ms : Nat} {free : Addr → Prop} {cc : ByteArray} {maxL : Nat} {ret : Option FieldType}
    (hy : plainFor y = true) (hw : ws = Cond.code y cc maxL ret :: ws')
    (body : ∀ p e s m args below meth c s₁, BodyLoose p l y (headSpec ws rm) cc maxL ret e s m args below meth c s₁ → c.maxLocals = maxL → Pc args s →
      W p l e (headSpec ws rm).room s m args below meth c s.heap [] 0 0 (MQ below Qc args s mc ms free) (entryFrame m args maxL)) : Met l y ws rm Pc Qc mc ms free := by
  refine MetFree.of_bodySF (code := cc) (maxLocals := maxL) (ret := ret) hy ?_ ?_
  · intro args s m h hn
    obtain ⟨meth, c, h1, h2, h3, h4, h5, h6, -, -⟩ := Cond.code_spec hn (atoms_spec (ws := ws) h _ (by rw [hw]; exact List.mem_cons_self))
    exact ⟨meth, c, h1, h2, h3, h4, h5, h6⟩
  · intro p e s m args below meth c s₁ B hml hP _
    have hh0 : s₁.heap = s.heap := by rw [B.state]; rfl
    obtain ⟨t, a1, o, b1, b2, b3⟩ := body p e s m args below meth c s₁ B hml hP s₁ hh0 (Stand.of_body B)
    exact ⟨t, o, a1, b1, b2, ⟨b3.1, b3.2⟩⟩
theorem am_enter {av : List Value} (hy : plainFor M.1 = true) (hn : av.all am_nn = true) (hlen : av.length ≤ M.2.2.1) (k : am_AW lay d M 0 (av ++ List.replicate (M.2.2.1 - av.length) .null) [] D Q) : am_Met lay d M av D Q := by
  intro l X A hA
  have hn : ∀ v ∈ av, am_nn v = true := List.all_eq_true.mp hn
  refine am_ofW (cc := M.2.1) (maxL := M.2.2.1) (ret := M.2.2.2) hy rfl ?_
  intro p e s m args below meth c s₁ B hml hv
  obtain ⟨rfl, hP, hK, hN⟩ := hv
  have hz := am_sl_len (ad := X.2.2) av hn
  have hl := lv_entry (av.map (am_tr X.2.2)) (n := M.2.2.1) (by rw [hz]; exact hlen)
  rw [lg_entry_eq]
  refine k l X A p e s m _ below meth c s.heap [] _ ⟨⟨B.exec, B.bytes, hml, B.returns, B.notSynchronized, findClass_of_methodNamed B.named, atoms_spec (ws := am_ws M) B.pre⟩, hA, hP, hK, hN, va_S.rf⟩ ⟨hl.1, hl.2.1, fun q hq => hl.2.2 q ?_⟩
  obtain ⟨z, h1, h2, h3⟩ := am_ll_mem.mp hq
  obtain ⟨i, u⟩ := q
  simp only at h1 h3
  subst h3
  by_cases hi : i < av.length
  · rw [List.getElem?_append_left hi] at h1
    have := am_args_mem (ad := X.2.2) av 0 hn i z h1
    rwa [Nat.zero_add] at this
  · rw [List.getElem?_append_right (by omega), List.getElem?_replicate] at h1
    split at h1
    · cases h1; cases h2
    · cases h1
/-! calls -/
/-- what the tables say of a callee -/
def am_CW (M' : am_M) (n : Nat) : Prop := (M'.1.cls ≠ "java/lang/invoke/MethodHandle" ∧ M'.1.cls ≠ "java/lang/invoke/VarHandle") ∧ (parseMethodDescriptor M'.1.desc).map (fun d => d.parameters.length) = some n ∧ Cond.initialized M'.1.cls ∈ am_good ∧ Cond.code M'.1 M'.2.1 M'.2.2.1 M'.2.2.2 ∈ am_good ∧ M'.2.2.1 ≤ 45
theorem am_goodIn {M' : am_M} {n : Nat} (h : am_CW M' n) : GoodIn (am_ws M) (am_ws M') := by
  have hg : ∀ w ∈ am_good, w ∈ am_ws M ∧ ((w.onTables && w.keeps) = true ∨ ∃ ty, w = .arrayClass ty) := fun w hw => ⟨List.mem_cons_of_mem _ hw, good_of_word (List.mem_filter.mp hw).2⟩
  intro w hw
  rcases List.mem_cons.mp hw with rfl | hw
  · exact hg _ h.2.2.2.1
  · exact hg w hw
theorem am_callB {M' : am_M} {n index : Nat} {p : Program} {s : State} {m : MethodId} {args : Array Value} {meth : Method} {c : Code} (h : am_CW M' n) (C : am_At p s m args meth c M) (hl : Cond.methodLink M.1.cls index M'.1 ∈ am_good) : CallB (am_rm (d + 1)) s args M.1.cls index M'.1 M'.2.1 M'.2.2.1 M'.2.2.2 (am_ws M') (am_rm d) 0 0 n := by
  refine ⟨rfl, rfl, Nat.le_refl _, ?_, pay_in C.2.2.2.2.2.2 (am_goodIn h), List.mem_cons_self, am_word C h.2.2.2.1, am_word C h.2.2.1, h.1, fun sig hs => ?_, am_word C hl⟩
  · have := h.2.2.2.2
    show 8 + (M'.2.2.1 + 11) + 64 * d ≤ 64 * (d + 1)
    omega
  · have h2 := h.2.1
    rw [hs] at h2
    exact (Option.some.inj h2).symm
theorem am_callN {M' : am_M} {n index : Nat} {host : String} {p : Program} {s : State} {m : MethodId} {args : Array Value} {meth : Method} {c : Code} (h : am_CW M' n) (C : am_At p s m args meth c M) (hN : am_N s) (hl : Cond.methodLinkNest M.1.cls index M'.1 host ∈ am_nest) : va_CN (am_rm (d + 1)) s args M.1.cls index M'.1 host M'.2.1 M'.2.2.1 M'.2.2.2 (am_ws M') (am_rm d) 0 0 n := by
  refine ⟨⟨rfl, rfl, Nat.le_refl _, ?_, pay_in C.2.2.2.2.2.2 (am_goodIn h), List.mem_cons_self⟩, am_word C h.2.2.2.1, am_word C h.2.2.1, h.1, fun sig hs => ?_, va_Nw.use rfl (hN _ hl)⟩
  · have := h.2.2.2.2
    show 8 + (M'.2.2.1 + 11) + 64 * d ≤ 64 * (d + 1)
    omega
  · have h2 := h.2.1
    rw [hs] at h2
    exact (Option.some.inj h2).symm
theorem am_blind {X : am_X} {av : List Value} : FrameBlind (am_Pc X lay av D) := fun a U g mk q => ⟨q.1, q.2.1, va_K.moved (u := U) (U := U.calling g mk a) (Vm.Alike.refl U.vm) q.2.2.1, am_N.same (u := U) (U := U.calling g mk a) rfl q.2.2.2⟩
theorem am_pre {X : am_X} {av : List Value} {s U : State} {H : Heap} (hP : va_P X.1 vwCl (am_W X lay D) H) (hK : va_K X.1 vwCl (am_tys X) s) (hN : am_N s) (hU : U.heap = H) (hW : s.WarmedH U.vm) : am_Pc X lay av D (av.map (am_tr X.2.2)).toArray U := ⟨rfl, by rw [hU]; exact hP, va_K.moved hW.alike hK, hN.warm hW⟩
/-- behind a call -/
theorem am_after {K : Option Value → am_D → Prop} {l : Launch} {X : am_X} {A : Nat → Prop} {p : Program} {e : Env} {s : State} {m : MethodId} {args : Array Value} {below : List Frame} {meth : Method} {c : Code} {H : Heap} {locs : List Loc} {ls : Array Slot} {g : JFrame} {as : Array Value}
    (I : am_In lay M D X A p s m args meth c H locs) (hl : lv_has ls M.2.2.1 (am_ll X.2.2 L)) (hg : g = F0 m pc ls g.stack)
    (hr : va_Run p l e (am_rm d) s m args below meth c H locs 0 0 0 0 g (st.map (am_tr X.2.2)) (am_Qc X lay A K as) A)
    (k : ∀ r D1, K r D1 → am_AW lay d M (pc + 3) L (r.toList ++ st) D1 Q) : W p l e (am_rm d) s m args below meth c H locs 0 0 (MQ below (am_Qc X lay A Q) args s 0 0 A) g := by
  intro T hT S
  obtain ⟨v, st₀, t, T', Lc, h0, X', hL, e1, e2, ⟨r, D1, hK1, hv, ⟨hP1, hKt, hNt⟩, hF⟩, stp⟩ := hr T hT S
  obtain rfl := Outcome.returned.inj hv
  rw [hg] at stp
  have hS : va_S A s.heap T'.heap (locs ++ Lc) := by
    rw [e1]
    obtain ⟨f1, f2⟩ := hF
    rw [h0] at f1 f2
    refine ⟨Nat.le_trans I.2.2.2.2.2.1 f1, fun q h1 h2 => by rw [f2 q (Nat.lt_of_lt_of_le h1 I.2.2.2.2.2.1) h2]; exact I.2.2.2.2.2.2.1 q h1 h2, fun q hq => ?_⟩
    rcases List.mem_append.mp hq with h | h
    · exact I.2.2.2.2.2.2.2 q h
    · exact hL q h
  obtain ⟨t2, a1, b1⟩ := k r D1 hK1 l X A p e s m args below meth c T'.heap (locs ++ Lc) ls ⟨I.1, I.2.1, by rw [e1]; exact hP1, I.2.2.2.1, I.2.2.2.2.1, hS⟩ hl T' rfl X'
  refine ⟨t2, ?_, b1⟩
  rw [hg]
  refine stp t2 ?_
  have e3 : (r.map (am_tr X.2.2)).toList ++ st.map (am_tr X.2.2) = (r.toList ++ st).map (am_tr X.2.2) := by cases r <;> rfl
  rw [e3]
  exact a1
theorem am_callV {M' : am_M} {av : List Value} {b ci index N : Nat} {C : String} {T : u_T} {fs : List (Option Nat)} {K : Option Value → am_D → Prop} (hw : am_CW M' av.length) (hl1 : Cond.methodLink M.1.cls index M'.1 ∈ am_good) (hi : Cond.instanceMethod M'.1 ∈ am_good) (hse : Cond.selects M'.1.cls M'.1 M'.1 ∈ am_good)
    (hl0 : lay[b]? = some (.inl (ci, fs))) (hci : vwCl[ci]? = some (C, T, N)) (hC : C = M'.1.cls) (hst : (st.map fun v => v.category).sum ≤ 8) (hd : decode M.2.1 pc = .ok (.invokevirtual index, 3)) (hm : am_Met lay d M' (.ref b :: av) D K)
    (k : ∀ r D1, K r D1 → am_AW lay (d + 1) M (pc + 3) L (r.toList ++ st) D1 Q) : am_AW lay (d + 1) M pc L (av.reverse ++ .ref b :: st) D Q := by
  intro l X A p e s m args below meth c H locs ls I hl
  subst hC
  have hrv := va_recv I.2.2.2.1 I.2.2.1 hci (am_W_get hl0)
  refine am_after I hl rfl (as := ((.ref b :: av).map (am_tr X.2.2)).toArray) (K := K) ?_ k
  exact va_runV (As := av.map (am_tr X.2.2)) (rest := st.map (am_tr X.2.2)) ⟨I.1.1, I.1.2.1, I.1.2.2.1, I.1.2.2.2.2.2.1, I.1.2.2.2.2.2.2⟩ (hm l X A I.2.1) ⟨am_callB hw I.1 hl1, am_word I.1 hi, am_word I.1 hse⟩ ⟨am_blind, hrv, fun U hU hW => am_pre I.2.2.1 I.2.2.2.1 I.2.2.2.2.1 hU hW⟩ rfl (by simp) hl.1 (by simp [am_tr]) (lv_room (by rw [am_cats]; exact hst)) hd ⟨Nat.le_refl _, Nat.le_refl _⟩
theorem am_callVN {M' : am_M} {av : List Value} {b ci index N : Nat} {host C : String} {T : u_T} {fs : List (Option Nat)} {K : Option Value → am_D → Prop} (hw : am_CW M' av.length) (hl1 : Cond.methodLinkNest M.1.cls index M'.1 host ∈ am_nest) (hi : Cond.instanceMethod M'.1 ∈ am_good) (hse : Cond.selects M'.1.cls M'.1 M'.1 ∈ am_good)
    (hl0 : lay[b]? = some (.inl (ci, fs))) (hci : vwCl[ci]? = some (C, T, N)) (hC : C = M'.1.cls) (hst : (st.map fun v => v.category).sum ≤ 8) (hd : decode M.2.1 pc = .ok (.invokevirtual index, 3)) (hm : am_Met lay d M' (.ref b :: av) D K)
    (k : ∀ r D1, K r D1 → am_AW lay (d + 1) M (pc + 3) L (r.toList ++ st) D1 Q) : am_AW lay (d + 1) M pc L (av.reverse ++ .ref b :: st) D Q := by
  intro l X A p e s m args below meth c H locs ls I hl
  subst hC
  have hrv := va_recv I.2.2.2.1 I.2.2.1 hci (am_W_get hl0)
  refine am_after I hl rfl (as := ((.ref b :: av).map (am_tr X.2.2)).toArray) (K := K) ?_ k
  exact va_runVN (As := av.map (am_tr X.2.2)) (rest := st.map (am_tr X.2.2)) ⟨I.1.1, I.1.2.1, I.1.2.2.1, I.1.2.2.2.2.2.1, I.1.2.2.2.2.2.2⟩ (hm l X A I.2.1) ⟨am_callN hw I.1 I.2.2.2.2.1 hl1, am_word I.1 hi, am_word I.1 hse⟩ ⟨am_blind, hrv, fun U hU hW => am_pre I.2.2.1 I.2.2.2.1 I.2.2.2.2.1 hU hW⟩ rfl (by simp) hl.1 (by simp [am_tr]) (lv_room (by rw [am_cats]; exact hst)) hd ⟨Nat.le_refl _, Nat.le_refl _⟩
theorem am_callS {M' : am_M} {av : List Value} {index : Nat} {K : Option Value → am_D → Prop} (hw : am_CW M' av.length) (hl1 : Cond.methodLink M.1.cls index M'.1 ∈ am_good) (hi : Cond.static M'.1 ∈ am_good)
    (hst : (st.map fun v => v.category).sum ≤ 8) (hd : decode M.2.1 pc = .ok (.invokestatic index, 3)) (hm : am_Met lay d M' av D K)
    (k : ∀ r D1, K r D1 → am_AW lay (d + 1) M (pc + 3) L (r.toList ++ st) D1 Q) : am_AW lay (d + 1) M pc L (av.reverse ++ st) D Q := by
  intro l X A p e s m args below meth c H locs ls I hl
  refine am_after I hl rfl (as := (av.map (am_tr X.2.2)).toArray) (K := K) ?_ k
  exact va_runS (As := av.map (am_tr X.2.2)) (rest := st.map (am_tr X.2.2)) ⟨I.1.1, I.1.2.1, I.1.2.2.1, I.1.2.2.2.2.2.1, I.1.2.2.2.2.2.2⟩ (hm l X A I.2.1) ⟨am_callB hw I.1 hl1, am_word I.1 hi⟩ ⟨am_blind, fun U hU hW => am_pre I.2.2.1 I.2.2.2.1 I.2.2.2.2.1 hU hW⟩ rfl (by simp) hl.1 (by simp) (lv_room (by rw [am_cats]; exact hst)) hd ⟨Nat.le_refl _, Nat.le_refl _⟩
theorem am_callSN {M' : am_M} {av : List Value} {index : Nat} {host : String} {K : Option Value → am_D → Prop} (hw : am_CW M' av.length) (hl1 : Cond.methodLinkNest M.1.cls index M'.1 host ∈ am_nest) (hi : Cond.static M'.1 ∈ am_good)
    (hst : (st.map fun v => v.category).sum ≤ 8) (hd : decode M.2.1 pc = .ok (.invokestatic index, 3)) (hm : am_Met lay d M' av D K)
    (k : ∀ r D1, K r D1 → am_AW lay (d + 1) M (pc + 3) L (r.toList ++ st) D1 Q) : am_AW lay (d + 1) M pc L (av.reverse ++ st) D Q := by
  intro l X A p e s m args below meth c H locs ls I hl
  refine am_after I hl rfl (as := (av.map (am_tr X.2.2)).toArray) (K := K) ?_ k
  exact va_runSN (As := av.map (am_tr X.2.2)) (rest := st.map (am_tr X.2.2)) ⟨I.1.1, I.1.2.1, I.1.2.2.1, I.1.2.2.2.2.2.1, I.1.2.2.2.2.2.2⟩ (hm l X A I.2.1) ⟨am_callN hw I.1 I.2.2.2.2.1 hl1, am_word I.1 hi, trivial⟩ ⟨am_blind, fun U hU hW => am_pre I.2.2.1 I.2.2.2.1 I.2.2.2.2.1 hU hW⟩ rfl (by simp) hl.1 (by simp) (lv_room (by rw [am_cats]; exact hst)) hd ⟨Nat.le_refl _, Nat.le_refl _⟩
/-! the JDK's own: max, min, arraycopy -/
theorem am_max {index : Nat} {x y : Int32} (hd : decode M.2.1 pc = .ok (.invokestatic index, 3)) (hw : Cond.methodLink M.1.cls index Lib.Math.max.name ∈ am_good ∧ Cond.static Lib.Math.max.name ∈ am_good ∧ Cond.initialized "java/lang/Math" ∈ am_good ∧ Cond.code Lib.Math.max.name Lib.Math.max.code 2 (some .int) ∈ am_good) (hst : (st.map fun v => v.category).sum ≤ 8) (k : am_AW lay (d + 1) M (pc + 3) L (.int (if x < y then y else x) :: st) D Q) : am_AW lay (d + 1) M pc L (.int y :: .int x :: st) D Q := by
  intro l X A p e s m args below meth c H locs ls I hl
  refine va_mmax I.1.1 I.1.2.1 (I.1.2.2.1.trans hl.1.symm) I.1.2.2.2.2.2.1 (am_word I.1 hw.1) (am_word I.1 hw.2.1) (am_word I.1 hw.2.2.1) (am_word I.1 hw.2.2.2) (Nat.le_add_left 1 d) ?_ (Nat.le_refl _) (Nat.le_refl _) hd (k l X A p e s m args below meth c H locs ls I hl)
  rw [am_cats]
  show _ ≤ 64 * (d + 1)
  omega
theorem am_min {index : Nat} {x y : Int32} (hd : decode M.2.1 pc = .ok (.invokestatic index, 3)) (hw : Cond.methodLink M.1.cls index Lib.Math.min.name ∈ am_good ∧ Cond.static Lib.Math.min.name ∈ am_good ∧ Cond.initialized "java/lang/Math" ∈ am_good ∧ Cond.code Lib.Math.min.name Lib.Math.min.code 2 (some .int) ∈ am_good) (hst : (st.map fun v => v.category).sum ≤ 8) (k : am_AW lay (d + 1) M (pc + 3) L (.int (if y < x then y else x) :: st) D Q) : am_AW lay (d + 1) M pc L (.int y :: .int x :: st) D Q := by
  intro l X A p e s m args below meth c H locs ls I hl
  refine va_mmin I.1.1 I.1.2.1 (I.1.2.2.1.trans hl.1.symm) I.1.2.2.2.2.2.1 (am_word I.1 hw.1) (am_word I.1 hw.2.1) (am_word I.1 hw.2.2.1) (am_word I.1 hw.2.2.2) (Nat.le_add_left 1 d) ?_ (Nat.le_refl _) (Nat.le_refl _) hd (k l X A p e s m args below meth c H locs ls I hl)
  rw [am_cats]
  show _ ≤ 64 * (d + 1)
  omega
/-- the first n places of the row at q0 go to the row at q1 -/
def am_cp (D : am_D) (q0 q1 n : Nat) : am_D := fun q j => if q = q1 ∧ j < n then D q0 j else D q j
theorem am_copy {index q0 q1 n0 n1 : Nat} {n : Int32} (hw : Cond.methodLink M.1.cls index arraycopyName ∈ am_good ∧ Cond.native arraycopyName ∈ am_good ∧ Cond.static arraycopyName ∈ am_good ∧ Cond.initialized "java/lang/System" ∈ am_good) (hl0 : lay[q0]? = some (.inr (.inl (false, n0)))) (hl1 : lay[q1]? = some (.inr (.inl (false, n1)))) (hn : ¬ n < 0) (h0 : n.toNatClampNeg ≤ n0) (h1 : n.toNatClampNeg ≤ n1)
    (hst : (st.map fun v => v.category).sum ≤ 8) (hd : decode M.2.1 pc = .ok (.invokestatic index, 3)) (k : am_AW lay (d + 1) M (pc + 3) L st (am_cp D q0 q1 n.toNatClampNeg) Q) : am_AW lay (d + 1) M pc L (.int n :: .int 0 :: .ref q1 :: .int 0 :: .ref q0 :: st) D Q := by
  intro l X A p e s m args below meth c H locs ls I hl
  have e0 : (0 : Int32).toNatClampNeg = 0 := rfl
  refine va_copyi I.1.1 I.1.2.1 (I.1.2.2.1.trans hl.1.symm) I.1.2.2.2.2.2.1 (am_word I.1 hw.1) (am_word I.1 hw.2.1) (am_word I.1 hw.2.2.1) (am_word I.1 hw.2.2.2) I.2.2.2.1 I.2.2.1 (I.2.1 D) I.2.2.2.2.2 q0 q1 0 0 (am_W_get hl0) (am_W_get hl1) rfl rfl rfl (by decide) (by decide) hn (by rw [e0]; omega) (by rw [e0]; omega) (fun i _ => rfl) (Nat.le_add_left 1 d) ?_ hd (fun H1 locs1 P1 D1 S1 => ?_)
  · rw [am_cats]
    show _ + (nativeFrameWords "java/lang/System" "arraycopy" 5 + 11) ≤ 64 * (d + 1)
    have : nativeFrameWords "java/lang/System" "arraycopy" 5 ≤ 20 := by decide
    omega
  · rw [am_W_put (D1 := am_cp D q0 q1 n.toNatClampNeg) hl1 ?_ (fun k h => by funext j; simp [am_cp, h])] at P1
    · exact k l X A p e s m args below meth c H1 locs1 ls ⟨I.1, I.2.1, P1, I.2.2.2.1, I.2.2.2.2.1, S1⟩ hl
    · have hc : am_cp D q0 q1 n.toNatClampNeg q1 = va_cpy (D q0) (D q1) (0 : Int32).toNatClampNeg (0 : Int32).toNatClampNeg n.toNatClampNeg := by
        funext j
        simp [am_cp, va_cpy, e0]
      show Sum.inl (_, _, Sum.inl _) = Sum.inl (_, _, Sum.inl _)
      rw [hc]
end AMR
