/-! constructors: the world grows, cell by cell -/
def am_zA (h0 sz : Nat) : Nat → Prop := fun q => q = h0 ∨ sz ≤ q
abbrev am_cs : Type := ClassId × ClassId × ClassId
def am_CQ (G : va_G) (cs : am_cs) (h0 sz : Nat) (L : List am_L) (P : am_D → Prop) : Array Value → State → Outcome → State → Prop := fun _ st oc t => oc = .returned none ∧ (∃ (ad : Nat → Nat) (D1 : am_D), ad 0 = h0 ∧ P D1 ∧ va_P G vwCl (am_W (G, cs, ad) L D1) t.heap ∧ va_D (am_zA h0 sz) (am_W (G, cs, ad) L D1)) ∧ va_F (am_zA h0 sz) st t
def am_CP (G : va_G) (cs : am_cs) (h0 sz ci : Nat) (fs0 : List Value) : State → Prop := fun U => U.heap.size = sz ∧ va_P G vwCl [(h0, .inr (ci, fs0))] U.heap ∧ va_K G vwCl (am_tys (G, cs, fun _ => 0)) U ∧ am_N U ∧ va_AO RX0 U
abbrev am_rc (d mc ms : Nat) : Room := { frames := d, cells := mc, slots := ms, locals := 64 * d }
/-- a constructor's contract: out of the fresh object it makes the layout L, whose numbers have P -/
def am_Con (d : Nat) (M : am_M) (ci : Nat) (fs0 : List Value) (L : List am_L) (P : am_D → Prop) (mc ms : Nat) : Prop :=
  ∀ (l : Launch) (G : va_G) (cs : am_cs) (h0 sz : Nat), h0 < sz → Met l M.1 (am_ws M) (am_rc d mc ms) (va_Pc [.ref h0] (am_CP G cs h0 sz ci fs0)) (am_CQ G cs h0 sz L P) mc ms (am_zA h0 sz)
def am_ZI (G : va_G) (cs : am_cs) (h0 sz : Nat) (M : am_M) (p : Program) (s : State) (m : MethodId) (args : Array Value) (meth : Method) (c : Code) (H : Heap) (locs : List Loc) (ws : va_W) : Prop :=
  am_At p s m args meth c M ∧ meth.name = "<init>" ∧ va_P G vwCl ws H ∧ va_D (am_zA h0 sz) ws ∧ va_K G vwCl (am_tys (G, cs, fun _ => 0)) s ∧ am_N s ∧ va_AO RX0 s ∧ va_S (am_zA h0 sz) s.heap H locs ∧ s.heap.size = sz
def am_Z (l : Launch) (G : va_G) (cs : am_cs) (h0 sz d mc ms : Nat) (M : am_M) (L : List am_L) (P : am_D → Prop) (pc : Nat) (Lv : List (Nat × Value)) (st : List Value) (ws : va_W) (cells slots : Nat) : Prop :=
  ∀ (p : Program) (e : Env) (s : State) (m : MethodId) (args : Array Value) (below : List Frame) (meth : Method) (c : Code) (H : Heap) (locs : List Loc) (ls : Array Slot),
    am_ZI G cs h0 sz M p s m args meth c H locs ws → lv_has ls M.2.2.1 Lv → W p l e (am_rc d mc ms) s m args below meth c H locs cells slots (MQ below (am_CQ G cs h0 sz L P) args s mc ms (am_zA h0 sz)) (F0 m pc ls st)
theorem am_W_adr {G : va_G} {cs : am_cs} {ad : Nat → Nat} {L : List am_L} {D1 D2 : am_D} {A : Nat → Prop} (h : va_D A (am_W (G, cs, ad) L D1)) : va_D A (am_W (G, cs, ad) L D2) := by
  have key : ∀ (k : Nat) (q : Nat × va_E), (am_W (G, cs, ad) L D2)[k]? = some q → ∃ q', (am_W (G, cs, ad) L D1)[k]? = some q' ∧ q'.1 = q.1 := by
    intro k q hk
    simp only [am_W, List.getElem?_mapIdx] at hk ⊢
    cases hL : L[k]? with
    | none => rw [hL] at hk; simp at hk
    | some c0 =>
      rw [hL] at hk
      simp only [Option.map_some, Option.some.injEq] at hk
      exact ⟨_, rfl, by rw [← hk]⟩
  refine ⟨fun i j x y hi hj e => ?_, fun k q hk => ?_⟩
  · obtain ⟨x', a1, a2⟩ := key i x hi
    obtain ⟨y', b1, b2⟩ := key j y hj
    exact h.1 i j x' y' a1 b1 (by rw [a2, b2]; exact e)
  · obtain ⟨q', a1, a2⟩ := key k q hk
    rw [← a2]; exact h.2 k q' a1
theorem fcls_eq {s : State} {G : va_G} {tys : List (ClassId × FieldType)} {ty : FieldType} {cA cB : ClassId} {i j : Nat} (hK : va_K G vwCl tys s) (h1 : tys[i]? = some (cA, ty)) (h2 : tys[j]? = some (cB, ty)) : cA = cB := by
  have a := (hK.2 i _ h1).2
  have b := (hK.2 j _ h2).2
  cases ty with
  | object C =>
    obtain ⟨_, _, _, _, _, h4⟩ := a
    obtain ⟨_, _, _, _, _, h5⟩ := b
    exact Option.some.inj (h4.symm.trans h5)
  | _ => exact Option.some.inj (Eq.trans (Eq.symm a) b)
section ZZ
variable {l : Launch} {G : va_G} {cs : am_cs} {h0 sz d mc ms : Nat} {M : am_M} {L : List am_L} {P : am_D → Prop} {pc cells slots : Nat} {Lv : List (Nat × Value)} {st : List Value} {ws : va_W}
theorem z_aload {k : Fin 4} {x : Nat} {i : Nat} (hd : decode M.2.1 pc = .ok (.aload_n k, 1)) (hi : Lv[i]? = some ((k : Nat), .ref x)) (kk : am_Z l G cs h0 sz d mc ms M L P (pc + 1) Lv (.ref x :: st) ws cells slots) : am_Z l G cs h0 sz d mc ms M L P pc Lv st ws cells slots := by
  intro p e s m args below meth c H locs ls I hl
  exact lv_aload_n I.1.1 I.1.2.1 hd rfl (lv_at hl i hi) (kk p e s m args below meth c H locs ls I hl)
theorem z_iload {k : Fin 4} {x : Int32} {i : Nat} (hd : decode M.2.1 pc = .ok (.iload_n k, 1)) (hi : Lv[i]? = some ((k : Nat), .int x)) (kk : am_Z l G cs h0 sz d mc ms M L P (pc + 1) Lv (.int x :: st) ws cells slots) : am_Z l G cs h0 sz d mc ms M L P pc Lv st ws cells slots := by
  intro p e s m args below meth c H locs ls I hl
  exact lv_iload_n I.1.1 I.1.2.1 hd rfl (lv_at hl i hi) (kk p e s m args below meth c H locs ls I hl)
theorem z_iconst {n : Int} {v : Int32} (hd : decode M.2.1 pc = .ok (.iconst n, 1)) (hv : Int32.ofInt n = v) (kk : am_Z l G cs h0 sz d mc ms M L P (pc + 1) Lv (.int v :: st) ws cells slots) : am_Z l G cs h0 sz d mc ms M L P pc Lv st ws cells slots := by
  intro p e s m args below meth c H locs ls I hl
  exact lv_iconst I.1.1 I.1.2.1 hd hv (kk p e s m args below meth c H locs ls I hl)
theorem z_bipush {n : Int} {v : Int32} (hd : decode M.2.1 pc = .ok (.bipush n, 2)) (hv : (Int8.ofInt n).toInt32 = v) (kk : am_Z l G cs h0 sz d mc ms M L P (pc + 2) Lv (.int v :: st) ws cells slots) : am_Z l G cs h0 sz d mc ms M L P pc Lv st ws cells slots := by
  intro p e s m args below meth c H locs ls I hl
  exact lv_bipush I.1.1 I.1.2.1 hd hv (kk p e s m args below meth c H locs ls I hl)
theorem z_sipush {n : Int} {v : Int32} (hd : decode M.2.1 pc = .ok (.sipush n, 3)) (hv : (Int16.ofInt n).toInt32 = v) (kk : am_Z l G cs h0 sz d mc ms M L P (pc + 3) Lv (.int v :: st) ws cells slots) : am_Z l G cs h0 sz d mc ms M L P pc Lv st ws cells slots := by
  intro p e s m args below meth c H locs ls I hl
  exact lv_sipush I.1.1 I.1.2.1 hd hv (kk p e s m args below meth c H locs ls I hl)
theorem z_dup {x : Nat} (hd : decode M.2.1 pc = .ok (.dup, 1)) (kk : am_Z l G cs h0 sz d mc ms M L P (pc + 1) Lv (.ref x :: .ref x :: st) ws cells slots) : am_Z l G cs h0 sz d mc ms M L P pc Lv (.ref x :: st) ws cells slots := by
  intro p e s m args below meth c H locs ls I hl
  exact lv_dup I.1.1 I.1.2.1 hd rfl (kk p e s m args below meth c H locs ls I hl)
theorem z_goto {off : Int} {tgt : Nat} (hd : decode M.2.1 pc = .ok (.goto off, 3)) (ht : (pc : Int) + off = (tgt : Int)) (kk : am_Z l G cs h0 sz d mc ms M L P tgt Lv st ws cells slots) : am_Z l G cs h0 sz d mc ms M L P pc Lv st ws cells slots := by
  intro p e s m args below meth c H locs ls I hl
  exact lv_goto I.1.1 I.1.2.1 hd ht (kk p e s m args below meth c H locs ls I hl)
theorem z_istore {k : Fin 4} {x : Int32} {Lv' : List (Nat × Value)} (hd : decode M.2.1 pc = .ok (.istore_n k, 1)) (hn : (k : Nat) < M.2.2.1) (he : ((k : Nat), Value.int x) :: Lv.filter (fun q => !(q.1 == (k : Nat)) && !(q.1 + 1 == (k : Nat) && q.2.category == 2)) = Lv') (kk : am_Z l G cs h0 sz d mc ms M L P (pc + 1) Lv' st ws cells slots) : am_Z l G cs h0 sz d mc ms M L P pc Lv (.int x :: st) ws cells slots := by
  intro p e s m args below meth c H locs ls I hl
  exact lv_istore_n I.1.1 I.1.2.1 hd rfl hl hn he fun ls' hl' => kk p e s m args below meth c H locs ls' I hl'
theorem z_iinc {i k : Nat} {n : Int} {x v : Int32} {Lv' : List (Nat × Value)} (hd : decode M.2.1 pc = .ok (.iinc i n, 3)) (hk : Lv[k]? = some (i, .int x)) (hv : x + Int32.ofInt n = v) (hn : i < M.2.2.1) (he : (i, Value.int v) :: Lv.filter (fun q => !(q.1 == i) && !(q.1 + 1 == i && q.2.category == 2)) = Lv') (kk : am_Z l G cs h0 sz d mc ms M L P (pc + 3) Lv' st ws cells slots) : am_Z l G cs h0 sz d mc ms M L P pc Lv st ws cells slots := by
  intro p e s m args below meth c H locs ls I hl
  exact lv_iinc I.1.1 I.1.2.1 hd hl hk hv hn he fun ls' hl' => kk p e s m args below meth c H locs ls' I hl'
theorem z_ge {x y : Int32} {off : Int} {tgt : Nat} (hd : decode M.2.1 pc = .ok (.if_icmp .ge off, 3)) (ht : (pc : Int) + off = (tgt : Int)) (kt : y ≤ x → am_Z l G cs h0 sz d mc ms M L P tgt Lv st ws cells slots) (kf : ¬ y ≤ x → am_Z l G cs h0 sz d mc ms M L P (pc + 3) Lv st ws cells slots) : am_Z l G cs h0 sz d mc ms M L P pc Lv (.int y :: .int x :: st) ws cells slots := by
  intro p e s m args below meth c H locs ls I hl
  exact lv_icmp_ge I.1.1 I.1.2.1 hd ht (fun h => kt h p e s m args below meth c H locs ls I hl) (fun h => kf h p e s m args below meth c H locs ls I hl)
theorem z_obj {idx a : Nat} (hd : decode M.2.1 pc = .ok (.invokespecial idx, 3)) (h1 : Cond.methodLink M.1.cls idx Lib.objectInit ∈ am_good) (h2 : Cond.instanceMethod Lib.objectInit ∈ am_good) (h3 : Cond.code Lib.objectInit ⟨#[0xb1]⟩ 1 none ∈ am_good) (hd1 : 1 ≤ d) (kk : am_Z l G cs h0 sz d mc ms M L P (pc + 3) Lv [] ws cells slots) : am_Z l G cs h0 sz d mc ms M L P pc Lv [.ref a] ws cells slots := by
  intro p e s m args below meth c H locs ls I hl
  refine W.objInit I.1.1 I.1.2.1 I.1.2.2.2.2.2.1 (am_word I.1 h1) (am_word I.1 h2) (am_word I.1 h3) rfl (by rw [I.1.2.2.1]; exact hl.1) rfl hd hd1 ?_ ?_
  · show 2 * 0 + 0 + 12 ≤ 64 * d
    omega
  · exact W.eq (g2 := F0 m (pc + 3) ls []) rfl (kk p e s m args below meth c H locs ls I hl)
theorem z_newI {n : Int32} {N : Nat} (hd : decode M.2.1 pc = .ok (.newarray .int, 2)) (hw : Cond.arrayClass .int ∈ am_good) (hn : n = nI N) (hN : N < 100000) (hc : cells + 1 ≤ mc) (hs : slots + N ≤ ms) (kk : ∀ q, am_Z l G cs h0 sz d mc ms M L P (pc + 2) Lv (.ref q :: st) (ws ++ [(q, .inl (cs.1, N, .inl fun _ => 0))]) (cells + 1) (slots + N)) : am_Z l G cs h0 sz d mc ms M L P pc Lv (.int n :: st) ws cells slots := by
  subst hn
  intro p e s m args below meth c H locs ls I hl
  obtain ⟨I1, I2, I3, I4, I5, I6, I7, I8, I9⟩ := I
  refine va_newa (atype := .int) (ty := .int) (a0 := (N, .inl fun _ => 0)) I1.1 I1.2.1 (am_word I1 hw) rfl I5 I3 I4 I8 (fun q hq => Or.inr (by rw [← I9]; exact hq)) (fun _ => rfl) (nn_neg (by omega)) (nI_clamp (by omega)) ?_ hc hs hd fun q cA H1 hK hP hD hS => ?_
  · show N * 4 ≤ 536870912
    omega
  · have e : cs.1 = cA := fcls_eq (i := 0) (j := 3) hK rfl rfl
    subst e
    exact kk q p e s m args below meth c H1 locs ls ⟨I1, I2, hP, hD, I5, I6, I7, hS, I9⟩ hl
theorem z_newC {n : Int32} {N : Nat} (hd : decode M.2.1 pc = .ok (.newarray .char, 2)) (hw : Cond.arrayClass .char ∈ am_good) (hn : n = nI N) (hN : N < 100000) (hc : cells + 1 ≤ mc) (hs : slots + N ≤ ms) (kk : ∀ q, am_Z l G cs h0 sz d mc ms M L P (pc + 2) Lv (.ref q :: st) (ws ++ [(q, .inl (cs.2.1, N, .inl fun _ => 0))]) (cells + 1) (slots + N)) : am_Z l G cs h0 sz d mc ms M L P pc Lv (.int n :: st) ws cells slots := by
  subst hn
  intro p e s m args below meth c H locs ls I hl
  obtain ⟨I1, I2, I3, I4, I5, I6, I7, I8, I9⟩ := I
  refine va_newa (atype := .char) (ty := .char) (a0 := (N, .inl fun _ => 0)) I1.1 I1.2.1 (am_word I1 hw) rfl I5 I3 I4 I8 (fun q hq => Or.inr (by rw [← I9]; exact hq)) (fun _ => rfl) (nn_neg (by omega)) (nI_clamp (by omega)) ?_ hc hs hd fun q cA H1 hK hP hD hS => ?_
  · show N * 2 ≤ 536870912
    omega
  · have e : cs.2.1 = cA := fcls_eq (i := 1) (j := 3) hK rfl rfl
    subst e
    exact kk q p e s m args below meth c H1 locs ls ⟨I1, I2, hP, hD, I5, I6, I7, hS, I9⟩ hl
theorem z_newQ {n : Int32} {N index : Nat} (hd : decode M.2.1 pc = .ok (.anewarray index, 3)) (hw : Cond.classLink M.1.cls index RX0 ∈ am_good) (hn : n = nI N) (hN : N < 100000) (hc : cells + 1 ≤ mc) (hs : slots + N ≤ ms) (kk : ∀ q, am_Z l G cs h0 sz d mc ms M L P (pc + 3) Lv (.ref q :: st) (ws ++ [(q, .inl (cs.2.2, N, .inr (.inr (.inr (.inr fun _ => none)))))]) (cells + 1) (slots + N)) : am_Z l G cs h0 sz d mc ms M L P pc Lv (.int n :: st) ws cells slots := by
  subst hn
  intro p e s m args below meth c H locs ls I hl
  obtain ⟨I1, I2, I3, I4, I5, I6, I7, I8, I9⟩ := I
  refine va_newq (C := RX0) I1.1 I1.2.1 I1.2.2.2.2.2.1 (am_word I1 hw) I7 I5 I3 I4 I8 (fun q hq => Or.inr (by rw [← I9]; exact hq)) (nn_neg (by omega)) (nI_clamp (by omega)) (by omega) hc hs hd fun q cA H1 hK hP hD hS => ?_
  have e : cs.2.2 = cA := fcls_eq (i := 2) (j := 3) hK rfl rfl
  subst e
  exact kk q p e s m args below meth c H1 locs ls ⟨I1, I2, hP, hD, I5, I6, I7, hS, I9⟩ hl
theorem z_putF {index ci k N i0 a : Nat} {C : String} {T : u_T} {fs : List Value} {v : Value} {ty : FieldType} (ty0 : Nat → FieldType) (hd : decode M.2.1 pc = .ok (.putfield index, 3)) (hw : am_FW M.1.cls index ci k C T N) (hty : ∀ k, k < N → parseFieldDescriptor (T k).2.2.1 = some (ty0 k)) (hnm : ∀ a, a < N → ∀ b, b < N → a ≠ b → (T a).2.1 ≠ (T b).2.1) (he : ws[i0]? = some (a, .inr (ci, fs))) (hfin : (T k).2.2.2 = true) (hdecl : (T k).1 = M.1.cls) (htk : parseFieldDescriptor (T k).2.2.1 = some ty) (hn : narrow ty v = v) (hfit : fits ty v = true) (hl0 : k < fs.length) (kk : am_Z l G cs h0 sz d mc ms M L P (pc + 3) Lv st (ws.set i0 (a, .inr (ci, fs.set k v))) cells slots) : am_Z l G cs h0 sz d mc ms M L P pc Lv (v :: .ref a :: st) ws cells slots := by
  intro p e s m args below meth c H locs ls I hl
  obtain ⟨I1, I2, I3, I4, I5, I6, I7, I8, I9⟩ := I
  exact va_putF I1.1 I1.2.1 I1.2.2.2.2.2.2 (fun w h => List.mem_cons_of_mem _ (hw.2.2.1 w h)) ty0 hty hnm I1.2.2.2.2.2.1 I5 I3 I4 I8 i0 he hw.1 k hw.2.1 (am_word I1 hw.2.2.2) (fun _ h => h) hfin I2 hdecl htk hn hfit hl0 hd fun H1 locs1 hP hD hS => kk p e s m args below meth c H1 locs1 ls ⟨I1, I2, hP, hD, I5, I6, I7, hS, I9⟩ hl
theorem z_get {index ci k N i0 a : Nat} {C : String} {T : u_T} {fs : List Value} {v : Value} (hd : decode M.2.1 pc = .ok (.getfield index, 3)) (hw : am_FW M.1.cls index ci k C T N) (he : ws[i0]? = some (a, .inr (ci, fs))) (hv : fs[k]? = some v) (kk : am_Z l G cs h0 sz d mc ms M L P (pc + 3) Lv (v :: st) ws cells slots) : am_Z l G cs h0 sz d mc ms M L P pc Lv (.ref a :: st) ws cells slots := by
  intro p e s m args below meth c H locs ls I hl
  exact va_get I.1.1 I.1.2.1 I.1.2.2.2.2.2.2 (fun w h => List.mem_cons_of_mem _ (hw.2.2.1 w h)) I.1.2.2.2.2.2.1 I.2.2.2.2.1 I.2.2.1 i0 he hw.1 k hw.2.1 (am_word I.1 hw.2.2.2) (fun _ h => h) hv hd (kk p e s m args below meth c H locs ls I hl)
theorem z_alenQ {i0 a N : Nat} {f : Nat → Option Nat} {v : Int32} (hd : decode M.2.1 pc = .ok (.arraylength, 1)) (he : ws[i0]? = some (a, .inl (cs.2.2, N, .inr (.inr (.inr (.inr f)))))) (hv : nI N = v) (kk : am_Z l G cs h0 sz d mc ms M L P (pc + 1) Lv (.int v :: st) ws cells slots) : am_Z l G cs h0 sz d mc ms M L P pc Lv (.ref a :: st) ws cells slots := by
  intro p e s m args below meth c H locs ls I hl
  exact va_alen I.1.1 I.1.2.1 I.2.2.2.2.1 I.2.2.1 i0 2 he rfl hv hd (kk p e s m args below meth c H locs ls I hl)
theorem z_astQ {i0 qk a b N ci : Nat} {f : Nat → Option Nat} {vs : List Value} {r : vw_C} {i : Int32} (hd : decode M.2.1 pc = .ok (.aastore, 1)) (he : ws[i0]? = some (a, .inl (cs.2.2, N, .inr (.inr (.inr (.inr f)))))) (hv : ws[qk]? = some (b, .inr (ci, vs))) (hc : vwCl[ci]? = some r) (hr : r.1 = RX0) (hin : vp_in i N) (kk : am_Z l G cs h0 sz d mc ms M L P (pc + 1) Lv st (ws.set i0 (a, .inl (cs.2.2, N, .inr (.inr (.inr (.inr (va_up f i.toNatClampNeg (some b)))))))) cells slots) : am_Z l G cs h0 sz d mc ms M L P pc Lv (.ref b :: .int i :: .ref a :: st) ws cells slots := by
  intro p e s m args below meth c H locs ls I hl
  obtain ⟨I1, I2, I3, I4, I5, I6, I7, I8, I9⟩ := I
  exact va_astq I1.1 I1.2.1 I5 I3 I4 I8 i0 2 qk ci he (by rw [hr]; rfl) hv hc hin hd fun H1 locs1 hP hD hS => kk p e s m args below meth c H1 locs1 ls ⟨I1, I2, hP, hD, I5, I6, I7, hS, I9⟩ hl
theorem z_new {index ci N : Nat} {C : String} {T : u_T} {fs : List Value} (ty : Nat → FieldType) (hd : decode M.2.1 pc = .ok (.new index, 3)) (hci : vwCl[ci]? = some (C, T, N)) (hg : ∀ w ∈ u_ws C T N, w ∈ am_good) (hty : ∀ k, k < N → parseFieldDescriptor (T k).2.2.1 = some (ty k)) (h1 : Cond.classLink M.1.cls index C ∈ am_good) (h2 : Cond.instantiable C N ∈ am_good) (h3 : Cond.initialized C ∈ am_good) (hfs : ∀ j, j < N → defaultValue (ty j) = vp_V fs j) (hc : cells + 1 ≤ mc) (hs : slots + N ≤ ms) (kk : ∀ q, am_Z l G cs h0 sz d mc ms M L P (pc + 3) Lv (.ref q :: st) (ws ++ [(q, .inr (ci, fs))]) (cells + 1) (slots + N)) : am_Z l G cs h0 sz d mc ms M L P pc Lv st ws cells slots := by
  intro p e s m args below meth c H locs ls I hl
  obtain ⟨I1, I2, I3, I4, I5, I6, I7, I8, I9⟩ := I
  exact va_new I1.1 I1.2.1 I1.2.2.2.2.2.2 (fun w h => List.mem_cons_of_mem _ (hg w h)) ty hty I1.2.2.2.2.2.1 (am_word I1 h1) (am_word I1 h2) (am_word I1 h3) I5 I3 I4 I8 (fun q hq => Or.inr (by rw [← I9]; exact hq)) hci hfs hc hs hd fun q H1 hP hD hS => kk q p e s m args below meth c H1 locs ls ⟨I1, I2, hP, hD, I5, I6, I7, hS, I9⟩ hl
/-- the end -/
theorem z_ret {ad : Nat → Nat} {D1 : am_D} (hd : decode M.2.1 pc = .ok (.return_, 1)) (hr : M.2.2.2 = none) (h0e : ad 0 = h0) (hP : P D1) (hw : ws = am_W (G, cs, ad) L D1) (hc : cells ≤ mc) (hs : slots ≤ ms) : am_Z l G cs h0 sz d mc ms M L P pc Lv [] ws cells slots := by
  intro p e s m args below meth c H locs ls I hl
  obtain ⟨I1, I2, I3, I4, I5, I6, I7, I8, I9⟩ := I
  subst hw
  refine W.widen (k := mc) (n := ms) hc hs ?_
  exact W.vret I1.1 I1.2.1 (I1.2.2.2.1.trans hr) (fun t ht hW => ⟨rfl, ⟨ad, D1, h0e, hP, by rw [ht]; exact I3, I4⟩, I8.F ht⟩) I8.2.2 hd I1.2.2.2.2.1
/-- what stands behind a constructor's call -/
theorem z_conR {q : Nat} {e0 : va_E} {L' : List am_L} {P' : am_D → Prop} {mc' ms' : Nat} {w : va_W} {p : Program} {e : Env} {s : State} {m : MethodId} {args : Array Value} {below : List Frame} {meth : Method} {c : Code} {H : Heap} {locs : List Loc} {ls : Array Slot} {st0 : List Value} {as : Array Value}
    (I : am_ZI G cs h0 sz M p s m args meth c H locs (w ++ [(q, e0)])) (hl : lv_has ls M.2.2.1 Lv)
    (hr : va_Run p l e (am_rc d mc ms) s m args below meth c H locs cells slots mc' ms' (F0 m pc ls st0) st (am_CQ G cs q H.size L' P' as) (am_zA q H.size))
    (kk : ∀ ad D1, ad 0 = q → P' D1 → am_Z l G cs h0 sz d mc ms M L P (pc + 3) Lv st (w ++ am_W (G, cs, ad) L' D1) (cells + mc') (slots + ms')) : W p l e (am_rc d mc ms) s m args below meth c H locs cells slots (MQ below (am_CQ G cs h0 sz L P) args s mc ms (am_zA h0 sz)) (F0 m pc ls st0) := by
  intro T hT S
  obtain ⟨v, st₀, t, T', Lc, hh, X', hL, e1, e2, ⟨hv, ⟨ad, D1, a1, a2, a3, a4⟩, hF⟩, stp⟩ := hr T hT S
  obtain rfl := Outcome.returned.inj hv
  obtain ⟨I1, I2, I3, I4, I5, I6, I7, I8, I9⟩ := I
  obtain ⟨f1, f2⟩ := hF
  rw [hh] at f1 f2
  have hqw : (w ++ [(q, e0)])[w.length]? = some (q, e0) := by rw [List.getElem?_append_right (Nat.le_refl _), Nat.sub_self]; rfl
  have hqA : am_zA h0 sz q := I4.2 _ _ hqw
  have hszH : sz ≤ H.size := by rw [← I9]; exact I8.1
  have hwk : ∀ (k : Nat) (x : Nat × va_E), w[k]? = some x → x.1 < H.size ∧ x.1 ≠ q ∧ am_zA h0 sz x.1 := by
    intro k x hx
    have hk := (List.getElem?_eq_some_iff.mp hx).1
    have hx2 : (w ++ [(q, e0)])[k]? = some x := by rw [List.getElem?_append_left hk]; exact hx
    refine ⟨(I3 k x hx2).lt, fun ex => ?_, I4.2 k x hx2⟩
    have := I4.1 k w.length x (q, e0) hx2 hqw ex
    omega
  have hPn : va_P G vwCl (w ++ am_W (G, cs, ad) L' D1) T'.heap := by
    rw [e1]
    intro k x hx
    by_cases hk : k < w.length
    · rw [List.getElem?_append_left hk] at hx
      obtain ⟨b1, b2, -⟩ := hwk k x hx
      have hx2 : (w ++ [(q, e0)])[k]? = some x := by rw [List.getElem?_append_left hk]; exact hx
      exact (I3 k x hx2).kept (f2 x.1 b1 (by unfold am_zA; omega))
    · rw [List.getElem?_append_right (by omega)] at hx
      exact a3 _ x hx
  have hDn : va_D (am_zA h0 sz) (w ++ am_W (G, cs, ad) L' D1) := by
    refine ⟨fun i j x y hi hj exy => ?_, fun k x hx => ?_⟩
    · by_cases hi2 : i < w.length
      · rw [List.getElem?_append_left hi2] at hi
        by_cases hj2 : j < w.length
        · rw [List.getElem?_append_left hj2] at hj
          exact I4.1 i j x y (by rw [List.getElem?_append_left hi2]; exact hi) (by rw [List.getElem?_append_left hj2]; exact hj) exy
        · rw [List.getElem?_append_right (by omega)] at hj
          obtain ⟨b1, b2, -⟩ := hwk i x hi
          have := a4.2 _ y hj
          unfold am_zA at this
          omega
      · rw [List.getElem?_append_right (by omega)] at hi
        by_cases hj2 : j < w.length
        · rw [List.getElem?_append_left hj2] at hj
          obtain ⟨b1, b2, -⟩ := hwk j y hj
          have := a4.2 _ x hi
          unfold am_zA at this
          omega
        · rw [List.getElem?_append_right (by omega)] at hj
          have := a4.1 _ _ x y hi hj exy
          omega
    · by_cases hk : k < w.length
      · rw [List.getElem?_append_left hk] at hx
        exact (hwk k x hx).2.2
      · rw [List.getElem?_append_right (by omega)] at hx
        rcases a4.2 _ x hx with c1 | c1
        · rw [c1]; exact hqA
        · exact Or.inr (by omega)
  have hSn : va_S (am_zA h0 sz) s.heap T'.heap (locs ++ Lc) := by
    rw [e1]
    refine ⟨Nat.le_trans I8.1 f1, fun x h1 h2 => ?_, fun x hx => ?_⟩
    · rw [f2 x (Nat.lt_of_lt_of_le h1 I8.1) (fun c1 => ?_)]
      · exact I8.2.1 x h1 h2
      · rcases c1 with c1 | c1
        · rw [c1] at h2; exact h2 hqA
        · have := I8.1; omega
    · rcases List.mem_append.mp hx with h | h
      · exact I8.2.2 x h
      · rcases hL x h with c1 | c1
        · rw [c1]; exact hqA
        · exact Or.inr (by omega)
  obtain ⟨t2, b1, b2⟩ := kk ad D1 a1 a2 p e s m args below meth c T'.heap (locs ++ Lc) ls ⟨I1, I2, hPn, hDn, I5, I6, I7, hSn, I9⟩ hl T' rfl X'
  exact ⟨t2, stp t2 b1, b2⟩
theorem z_pre {q ci : Nat} {fs0 : List Value} {w : va_W} {p : Program} {s : State} {m : MethodId} {args : Array Value} {meth : Method} {c : Code} {H : Heap} {locs : List Loc} (I : am_ZI G cs h0 sz M p s m args meth c H locs (w ++ [(q, .inr (ci, fs0))])) : q < H.size ∧ PreS s H (va_Pc [.ref q] (am_CP G cs q H.size ci fs0)) [.ref q] := by
  obtain ⟨I1, I2, I3, I4, I5, I6, I7, I8, I9⟩ := I
  have hqw : (w ++ [(q, (.inr (ci, fs0) : va_E))])[w.length]? = some (q, .inr (ci, fs0)) := by rw [List.getElem?_append_right (Nat.le_refl _), Nat.sub_self]; rfl
  have hat := I3 _ _ hqw
  refine ⟨hat.lt, fun a U g mk h => ⟨h.1, h.2.1, h.2.2.1, va_K.moved (u := U) (U := U.calling g mk a) (Vm.Alike.refl U.vm) h.2.2.2.1, am_N.same (u := U) (U := U.calling g mk a) rfl h.2.2.2.2.1, va_AO.moved (u := U) (U := U.calling g mk a) (Vm.Alike.refl U.vm) h.2.2.2.2.2⟩, fun U hU hW => ⟨rfl, by rw [hU], ?_, va_K.moved hW.alike I5, I6.warm hW, va_AO.moved hW.alike I7⟩⟩
  rw [hU]
  intro k x hx
  cases k with
  | zero => cases hx; exact hat
  | succ k => simp at hx
theorem z_con {index ci q d' mc' ms' : Nat} {M' : am_M} {fs0 : List Value} {L' : List am_L} {P' : am_D → Prop} {w : va_W} (hd : decode M.2.1 pc = .ok (.invokespecial index, 3)) (hw : am_CW M' 0) (hl1 : Cond.methodLink M.1.cls index M'.1 ∈ am_good) (hi : Cond.instanceMethod M'.1 ∈ am_good) (hnm : M'.1.name = "<init>") (hret : M'.2.2.2 = none) (hm : am_Con d' M' ci fs0 L' P' mc' ms') (hdd : d' + 1 ≤ d) (hc : cells + mc' ≤ mc) (hs : slots + ms' ≤ ms) (hst : (st.map fun v => v.category).sum ≤ 8) (kk : ∀ ad D1, ad 0 = q → P' D1 → am_Z l G cs h0 sz d mc ms M L P (pc + 3) Lv st (w ++ am_W (G, cs, ad) L' D1) (cells + mc') (slots + ms')) : am_Z l G cs h0 sz d mc ms M L P pc Lv (.ref q :: st) (w ++ [(q, .inr (ci, fs0))]) cells slots := by
  intro p e s m args below meth c H locs ls I hl
  obtain ⟨hq, hpre⟩ := z_pre I
  refine z_conR I hl (as := (Value.ref q :: ([] : List Value)).toArray) ?_ kk
  refine va_runI (As := []) (rest := st) ⟨I.1.1, I.1.2.1, I.1.2.2.1, I.1.2.2.2.2.2.1, I.1.2.2.2.2.2.2⟩ (hm l G cs q H.size hq) ⟨⟨rfl, rfl, hdd, ?_, pay_in I.1.2.2.2.2.2.2 (am_goodIn hw), by rw [← hret]; exact List.mem_cons_self, by rw [← hret]; exact am_word I.1 hw.2.2.2.1, am_word I.1 hw.2.2.1, hw.1, fun sig hs => ?_, am_word I.1 hl1⟩, hnm, am_word I.1 hi⟩ hpre rfl rfl hl.1 rfl (lv_room hst) hd ⟨hc, hs⟩
  · have := hw.2.2.2.2
    show 8 + (M'.2.2.1 + 11) + 64 * d' ≤ 64 * d
    omega
  · have h2 := hw.2.1
    rw [hs] at h2
    exact (Option.some.inj h2).symm
theorem z_conN {index ci q d' mc' ms' : Nat} {M' : am_M} {host : String} {fs0 : List Value} {L' : List am_L} {P' : am_D → Prop} {w : va_W} (hd : decode M.2.1 pc = .ok (.invokespecial index, 3)) (hw : am_CW M' 0) (hl1 : Cond.methodLinkNest M.1.cls index M'.1 host ∈ am_nest) (hi : Cond.instanceMethod M'.1 ∈ am_good) (hnm : M'.1.name = "<init>") (hret : M'.2.2.2 = none) (hm : am_Con d' M' ci fs0 L' P' mc' ms') (hdd : d' + 1 ≤ d) (hc : cells + mc' ≤ mc) (hs : slots + ms' ≤ ms) (hst : (st.map fun v => v.category).sum ≤ 8) (kk : ∀ ad D1, ad 0 = q → P' D1 → am_Z l G cs h0 sz d mc ms M L P (pc + 3) Lv st (w ++ am_W (G, cs, ad) L' D1) (cells + mc') (slots + ms')) : am_Z l G cs h0 sz d mc ms M L P pc Lv (.ref q :: st) (w ++ [(q, .inr (ci, fs0))]) cells slots := by
  intro p e s m args below meth c H locs ls I hl
  obtain ⟨hq, hpre⟩ := z_pre I
  refine z_conR I hl (as := (Value.ref q :: ([] : List Value)).toArray) ?_ kk
  refine va_runIN (As := []) (rest := st) ⟨I.1.1, I.1.2.1, I.1.2.2.1, I.1.2.2.2.2.2.1, I.1.2.2.2.2.2.2⟩ (hm l G cs q H.size hq) ⟨⟨⟨rfl, rfl, hdd, ?_, pay_in I.1.2.2.2.2.2.2 (am_goodIn hw), by rw [← hret]; exact List.mem_cons_self⟩, by rw [← hret]; exact am_word I.1 hw.2.2.2.1, am_word I.1 hw.2.2.1, hw.1, fun sig hs => ?_, va_Nw.use rfl (I.2.2.2.2.2.1 _ hl1)⟩, hnm, am_word I.1 hi⟩ hpre rfl rfl hl.1 rfl (lv_room hst) hd ⟨hc, hs⟩
  · have := hw.2.2.2.2
    show 8 + (M'.2.2.1 + 11) + 64 * d' ≤ 64 * d
    omega
  · have h2 := hw.2.1
    rw [hs] at h2
    exact (Option.some.inj h2).symm
/-- a method of the whole layout, called in a constructor -/
theorem z_metR {lay : List am_L} {ad : Nat → Nat} {D D1 : am_D} {as : Array Value} {p : Program} {e : Env} {s : State} {m : MethodId} {args : Array Value} {below : List Frame} {meth : Method} {c : Code} {H : Heap} {locs : List Loc} {ls : Array Slot} {st0 : List Value}
    (I : am_ZI G cs h0 sz M p s m args meth c H locs (am_W (G, cs, ad) lay D)) (hl : lv_has ls M.2.2.1 Lv)
    (hr : va_Run p l e (am_rc d mc ms) s m args below meth c H locs cells slots 0 0 (F0 m pc ls st0) st (am_Qc (G, cs, ad) lay (am_zA h0 sz) (fun r D2 => r = none ∧ D2 = D1) as) (am_zA h0 sz))
    (kk : am_Z l G cs h0 sz d mc ms M L P (pc + 3) Lv st (am_W (G, cs, ad) lay D1) cells slots) : W p l e (am_rc d mc ms) s m args below meth c H locs cells slots (MQ below (am_CQ G cs h0 sz L P) args s mc ms (am_zA h0 sz)) (F0 m pc ls st0) := by
  intro T hT S
  obtain ⟨v, st₀, t, T', Lc, hh, X', hL, e1, e2, ⟨r, D2, ⟨hr1, hr2⟩, hv, ⟨hP1, hKt, hNt⟩, hF⟩, stp⟩ := hr T hT S
  subst hr1; subst hr2
  obtain rfl := Outcome.returned.inj hv
  obtain ⟨I1, I2, I3, I4, I5, I6, I7, I8, I9⟩ := I
  obtain ⟨f1, f2⟩ := hF
  rw [hh] at f1 f2
  have hSn : va_S (am_zA h0 sz) s.heap T'.heap (locs ++ Lc) := by
    rw [e1]
    refine ⟨Nat.le_trans I8.1 f1, fun x h1 h2 => by rw [f2 x (Nat.lt_of_lt_of_le h1 I8.1) h2]; exact I8.2.1 x h1 h2, fun x hx => ?_⟩
    rcases List.mem_append.mp hx with h | h
    · exact I8.2.2 x h
    · exact hL x h
  obtain ⟨t2, b1, b2⟩ := kk p e s m args below meth c T'.heap (locs ++ Lc) ls ⟨I1, I2, by rw [e1]; exact hP1, am_W_adr I4, I5, I6, I7, hSn, I9⟩ hl T' rfl X'
  exact ⟨t2, stp t2 b1, b2⟩
theorem z_metV {index ci d' b : Nat} {C : String} {T : u_T} {N : Nat} {fs : List (Option Nat)} {M' : am_M} {lay : List am_L} {ad : Nat → Nat} {D D1 : am_D} {av : List Value} (hd : decode M.2.1 pc = .ok (.invokevirtual index, 3)) (hw : am_CW M' av.length) (hl1 : Cond.methodLink M.1.cls index M'.1 ∈ am_good) (hi : Cond.instanceMethod M'.1 ∈ am_good) (hse : Cond.selects M'.1.cls M'.1 M'.1 ∈ am_good) (hl0 : lay[b]? = some (.inl (ci, fs))) (hci : vwCl[ci]? = some (C, T, N)) (hC : C = M'.1.cls) (hm : am_MetV lay d' M' (.ref b :: av) D D1) (hdd : d' + 1 ≤ d) (hst : (st.map fun v => v.category).sum ≤ 8) (hcs : cells ≤ mc ∧ slots ≤ ms) (kk : am_Z l G cs h0 sz d mc ms M L P (pc + 3) Lv st (am_W (G, cs, ad) lay D1) cells slots) : am_Z l G cs h0 sz d mc ms M L P pc Lv ((av.map (am_tr ad)).reverse ++ .ref (ad b) :: st) (am_W (G, cs, ad) lay D) cells slots := by
  intro p e s m args below meth c H locs ls I hl
  subst hC
  have hrv := va_recv I.2.2.2.2.1 I.2.2.1 hci (am_W_get hl0)
  refine z_metR I hl (as := ((.ref b :: av).map (am_tr ad)).toArray) ?_ kk
  have hmm : Met l M'.1 (am_ws M') (am_rm d') (am_Pc (G, cs, ad) lay (.ref b :: av) D) (am_Qc (G, cs, ad) lay (am_zA h0 sz) (fun r D2 => r = none ∧ D2 = D1)) 0 0 (am_zA h0 sz) := hm l (G, cs, ad) (am_zA h0 sz) fun D' => am_W_adr I.2.2.2.1
  refine va_runV (n := av.length) (As := av.map (am_tr ad)) (rest := st) ⟨I.1.1, I.1.2.1, I.1.2.2.1, I.1.2.2.2.2.2.1, I.1.2.2.2.2.2.2⟩ hmm ⟨⟨rfl, rfl, hdd, ?_, pay_in I.1.2.2.2.2.2.2 (am_goodIn hw), List.mem_cons_self, am_word I.1 hw.2.2.2.1, am_word I.1 hw.2.2.1, hw.1, fun sig hs => ?_, am_word I.1 hl1⟩, am_word I.1 hi, am_word I.1 hse⟩ ⟨am_blind, hrv, fun U hU hW => am_pre I.2.2.1 I.2.2.2.2.1 I.2.2.2.2.2.1 hU hW⟩ rfl (by simp) hl.1 rfl (lv_room hst) hd ⟨hcs.1, hcs.2⟩
  · have := hw.2.2.2.2
    show 8 + (M'.2.2.1 + 11) + 64 * d' ≤ 64 * d
    omega
  · have h2 := hw.2.1
    rw [hs] at h2
    exact (Option.some.inj h2).symm
theorem z_metS {index d' : Nat} {M' : am_M} {lay : List am_L} {ad : Nat → Nat} {D D1 : am_D} {av : List Value} (hd : decode M.2.1 pc = .ok (.invokestatic index, 3)) (hw : am_CW M' av.length) (hl1 : Cond.methodLink M.1.cls index M'.1 ∈ am_good) (hi : Cond.static M'.1 ∈ am_good) (hm : am_MetV lay d' M' av D D1) (hdd : d' + 1 ≤ d) (hst : (st.map fun v => v.category).sum ≤ 8) (hcs : cells ≤ mc ∧ slots ≤ ms) (kk : am_Z l G cs h0 sz d mc ms M L P (pc + 3) Lv st (am_W (G, cs, ad) lay D1) cells slots) : am_Z l G cs h0 sz d mc ms M L P pc Lv ((av.map (am_tr ad)).reverse ++ st) (am_W (G, cs, ad) lay D) cells slots := by
  intro p e s m args below meth c H locs ls I hl
  refine z_metR I hl (as := (av.map (am_tr ad)).toArray) ?_ kk
  have hmm : Met l M'.1 (am_ws M') (am_rm d') (am_Pc (G, cs, ad) lay av D) (am_Qc (G, cs, ad) lay (am_zA h0 sz) (fun r D2 => r = none ∧ D2 = D1)) 0 0 (am_zA h0 sz) := hm l (G, cs, ad) (am_zA h0 sz) fun D' => am_W_adr I.2.2.2.1
  refine va_runS (n := av.length) (As := av.map (am_tr ad)) (rest := st) ⟨I.1.1, I.1.2.1, I.1.2.2.1, I.1.2.2.2.2.2.1, I.1.2.2.2.2.2.2⟩ hmm ⟨⟨rfl, rfl, hdd, ?_, pay_in I.1.2.2.2.2.2.2 (am_goodIn hw), List.mem_cons_self, am_word I.1 hw.2.2.2.1, am_word I.1 hw.2.2.1, hw.1, fun sig hs => ?_, am_word I.1 hl1⟩, am_word I.1 hi⟩ ⟨am_blind, fun U hU hW => am_pre I.2.2.1 I.2.2.2.2.1 I.2.2.2.2.2.1 hU hW⟩ rfl (by simp) hl.1 rfl (lv_room hst) hd ⟨hcs.1, hcs.2⟩
  · have := hw.2.2.2.2
    show 8 + (M'.2.2.1 + 11) + 64 * d' ≤ 64 * d
    omega
  · have h2 := hw.2.1
    rw [hs] at h2
    exact (Option.some.inj h2).symm
end ZZ
/-- from the entry -/
theorem z_enter {d mc ms ci : Nat} {M : am_M} {fs0 : List Value} {L : List am_L} {P : am_D → Prop} (hy : plainName M.1.cls = true) (hn : M.1.name = "<init>") (h1 : 1 ≤ M.2.2.1) (kk : ∀ l G cs h0 sz, am_Z l G cs h0 sz d mc ms M L P 0 [(0, .ref h0)] [] [(h0, .inr (ci, fs0))] 0 0) : am_Con d M ci fs0 L P mc ms := by
  intro l G cs h0 sz hlt
  refine Met.ofW (cc := M.2.1) (maxL := M.2.2.1) (ret := M.2.2.2) hy rfl ?_
  intro p e s m args below meth c s₁ B hml hv
  obtain ⟨rfl, hsz, hP, hK, hN, hAO⟩ := hv
  have hin : meth.name = "<init>" := (name_of_methodNamed B.named B.method).1.trans hn
  have hl := lv_entry ([.ref h0]) (n := M.2.2.1) h1
  rw [lg_entry_eq]
  refine kk l G cs h0 sz p e s m _ below meth c s.heap [] _ ⟨⟨B.exec, B.bytes, hml, B.returns, B.notSynchronized, findClass_of_methodNamed B.named, atoms_spec (ws := am_ws M) B.pre⟩, hin, hP, ⟨fun i j x y hi hj _ => ?_, fun k x hx => ?_⟩, hK, hN, hAO, va_S.rf, hsz⟩ hl
  · have a := (List.getElem?_eq_some_iff.mp hi).1
    have b := (List.getElem?_eq_some_iff.mp hj).1
    simp at a b
    omega
  · have a := (List.getElem?_eq_some_iff.mp hx).1
    simp at a
    subst a
    cases hx
    exact Or.inl rfl
