/-! the law's body: what holds between its instructions -/
def g_A (s : State) : Nat → Prop := fun q => s.heap.size ≤ q
def g_I (G : va_G) (ws : va_W) (s : State) (H : Heap) (locs : List Loc) : Prop := va_P G vwCl ws H ∧ va_D (g_A s) ws ∧ va_S (g_A s) s.heap H locs
def g_E (G : va_G) (cs : am_cs) (s : State) : Prop := va_K G vwCl (am_tys (G, cs, fun _ => 0)) s ∧ am_N s ∧ va_AO RX0 s
def g_W (p : Program) (l : Launch) (e : Env) (s : State) (m : MethodId) (below : List Frame) (meth : Method) (c : Code) (b : Nat) (G : va_G) (pc : Nat) (Lv : List (Nat × Value)) (st : List Value) (ws : va_W) (cells slots : Nat) : Prop :=
  ∀ (H : Heap) (locs : List Loc) (ls : Array Slot), g_I G ws s H locs → lv_has ls 4 Lv → W p l e room_1 s m #[Value.ref b] below meth c H locs cells slots (lw_Z below #[Value.ref b] s) (F0 m pc ls st)
theorem g_good {p : Program} {s : State} {m : MethodId} {meth : Method} {c : Code} {b L : Nat} {xs : Nat → Int32} (C0 : lw_At p s m meth c b L xs) : ∀ w ∈ am_good, w.before #[Value.ref b] s = true := fun w hw => C0.2.2.2.2.2.1 w (List.mem_filter.mp hw).1
theorem g_goodIn {M' : am_M} {n : Nat} (h : am_CW M' n) : GoodIn am_good (am_ws M') := by
  have hg : ∀ w ∈ am_good, w ∈ am_good ∧ ((w.onTables && w.keeps) = true ∨ ∃ ty, w = .arrayClass ty) := fun w hw => ⟨hw, good_of_word (List.mem_filter.mp hw).2⟩
  intro w hw
  rcases List.mem_cons.mp hw with rfl | hw
  · exact hg _ h.2.2.2.1
  · exact hg w hw
section GL
variable {p : Program} {l : Launch} {e : Env} {s : State} {m : MethodId} {below : List Frame} {meth : Method} {c : Code} {b L : Nat} {xs : Nat → Int32} {G : va_G} {cs : am_cs} {pc cells slots : Nat} {Lv : List (Nat × Value)} {st : List Value} {ws : va_W}
theorem g_aload {k : Fin 4} {x : Nat} {i : Nat} (C0 : lw_At p s m meth c b L xs) (hd : decode code pc = .ok (.aload_n k, 1)) (hi : Lv[i]? = some ((k : Nat), .ref x)) (kk : g_W p l e s m below meth c b G (pc + 1) Lv (.ref x :: st) ws cells slots) : g_W p l e s m below meth c b G pc Lv st ws cells slots := by
  intro H locs ls I hl
  exact lv_aload_n C0.1 C0.2.1 hd rfl (lv_at hl i hi) (kk H locs ls I hl)
theorem g_iload {k : Fin 4} {x : Int32} {i : Nat} (C0 : lw_At p s m meth c b L xs) (hd : decode code pc = .ok (.iload_n k, 1)) (hi : Lv[i]? = some ((k : Nat), .int x)) (kk : g_W p l e s m below meth c b G (pc + 1) Lv (.int x :: st) ws cells slots) : g_W p l e s m below meth c b G pc Lv st ws cells slots := by
  intro H locs ls I hl
  exact lv_iload_n C0.1 C0.2.1 hd rfl (lv_at hl i hi) (kk H locs ls I hl)
theorem g_iconst {n : Int} {v : Int32} (C0 : lw_At p s m meth c b L xs) (hd : decode code pc = .ok (.iconst n, 1)) (hv : Int32.ofInt n = v) (kk : g_W p l e s m below meth c b G (pc + 1) Lv (.int v :: st) ws cells slots) : g_W p l e s m below meth c b G pc Lv st ws cells slots := by
  intro H locs ls I hl
  exact lv_iconst C0.1 C0.2.1 hd hv (kk H locs ls I hl)
theorem g_bipush {n : Int} {v : Int32} (C0 : lw_At p s m meth c b L xs) (hd : decode code pc = .ok (.bipush n, 2)) (hv : (Int8.ofInt n).toInt32 = v) (kk : g_W p l e s m below meth c b G (pc + 2) Lv (.int v :: st) ws cells slots) : g_W p l e s m below meth c b G pc Lv st ws cells slots := by
  intro H locs ls I hl
  exact lv_bipush C0.1 C0.2.1 hd hv (kk H locs ls I hl)
theorem g_dup {x : Nat} (C0 : lw_At p s m meth c b L xs) (hd : decode code pc = .ok (.dup, 1)) (kk : g_W p l e s m below meth c b G (pc + 1) Lv (.ref x :: .ref x :: st) ws cells slots) : g_W p l e s m below meth c b G pc Lv (.ref x :: st) ws cells slots := by
  intro H locs ls I hl
  exact lv_dup C0.1 C0.2.1 hd rfl (kk H locs ls I hl)
theorem g_goto {off : Int} {tgt : Nat} (C0 : lw_At p s m meth c b L xs) (hd : decode code pc = .ok (.goto off, 3)) (ht : (pc : Int) + off = (tgt : Int)) (kk : g_W p l e s m below meth c b G tgt Lv st ws cells slots) : g_W p l e s m below meth c b G pc Lv st ws cells slots := by
  intro H locs ls I hl
  exact lv_goto C0.1 C0.2.1 hd ht (kk H locs ls I hl)
theorem g_iadd {x y v : Int32} (C0 : lw_At p s m meth c b L xs) (hd : decode code pc = .ok (.iadd, 1)) (hv : x + y = v) (kk : g_W p l e s m below meth c b G (pc + 1) Lv (.int v :: st) ws cells slots) : g_W p l e s m below meth c b G pc Lv (.int y :: .int x :: st) ws cells slots := by
  intro H locs ls I hl
  subst hv; exact lv_iadd C0.1 C0.2.1 hd (kk H locs ls I hl)
theorem g_isub {x y v : Int32} (C0 : lw_At p s m meth c b L xs) (hd : decode code pc = .ok (.isub, 1)) (hv : x - y = v) (kk : g_W p l e s m below meth c b G (pc + 1) Lv (.int v :: st) ws cells slots) : g_W p l e s m below meth c b G pc Lv (.int y :: .int x :: st) ws cells slots := by
  intro H locs ls I hl
  subst hv; exact lv_isub C0.1 C0.2.1 hd (kk H locs ls I hl)
theorem g_iand {x y v : Int32} (C0 : lw_At p s m meth c b L xs) (hd : decode code pc = .ok (.iand, 1)) (hv : x &&& y = v) (kk : g_W p l e s m below meth c b G (pc + 1) Lv (.int v :: st) ws cells slots) : g_W p l e s m below meth c b G pc Lv (.int y :: .int x :: st) ws cells slots := by
  intro H locs ls I hl
  subst hv; exact lv_iand C0.1 C0.2.1 hd (kk H locs ls I hl)
theorem g_len  (C0 : lw_At p s m meth c b L xs) (hd : decode code pc = .ok (.arraylength, 1)) (kk : g_W p l e s m below meth c b G (pc + 1) Lv (.int (Int32.ofNat L) :: st) ws cells slots) : g_W p l e s m below meth c b G pc Lv (.ref b :: st) ws cells slots := by
  intro H locs ls I hl
  exact va_slen C0.1 C0.2.1 C0.2.2.2.2.2.2.1 C0.2.2.2.2.2.2.2.1 (show ¬ s.heap.size ≤ b from Nat.not_le.mpr C0.2.2.2.2.2.2.2.1) I.2.2 hd (kk H locs ls I hl)
theorem g_ald {i : Int32} {v : Int32} (C0 : lw_At p s m meth c b L xs) (hd : decode code pc = .ok (.iaload, 1)) (hin : vp_in i L) (hv : xs i.toNatClampNeg = v) (kk : g_W p l e s m below meth c b G (pc + 1) Lv (.int v :: st) ws cells slots) : g_W p l e s m below meth c b G pc Lv (.int i :: .ref b :: st) ws cells slots := by
  intro H locs ls I hl
  subst hv; exact va_sld C0.1 C0.2.1 C0.2.2.2.2.2.2.1 C0.2.2.2.2.2.2.2.1 (show ¬ s.heap.size ≤ b from Nat.not_le.mpr C0.2.2.2.2.2.2.2.1) I.2.2 hin hd (kk H locs ls I hl)
theorem g_eq {x : Int32} {off : Int} {tgt : Nat} (C0 : lw_At p s m meth c b L xs) (hd : decode code pc = .ok (.if_icmp .eq off, 3)) (ht : (pc : Int) + off = (tgt : Int)) (kk : g_W p l e s m below meth c b G tgt Lv st ws cells slots) : g_W p l e s m below meth c b G pc Lv (.int x :: .int x :: st) ws cells slots := by
  intro H locs ls I hl
  exact lv_icmp_eq C0.1 C0.2.1 hd ht (fun _ => kk H locs ls I hl) (fun h => absurd rfl h)
theorem g_gt {x y : Int32} {off : Int} {tgt : Nat} (C0 : lw_At p s m meth c b L xs) (hd : decode code pc = .ok (.if_icmp .gt off, 3)) (ht : (pc : Int) + off = (tgt : Int)) (kt : y < x → g_W p l e s m below meth c b G tgt Lv st ws cells slots) (kf : ¬ y < x → g_W p l e s m below meth c b G (pc + 3) Lv st ws cells slots) : g_W p l e s m below meth c b G pc Lv (.int y :: .int x :: st) ws cells slots := by
  intro H locs ls I hl
  exact lv_icmp_gt C0.1 C0.2.1 hd ht (fun h => kt h H locs ls I hl) (fun h => kf h H locs ls I hl)
theorem g_tin {dflt lo hi : Int} {offs : Array Int} {len : Nat} {x : Int32} {off : Int} {tgt : Nat} (C0 : lw_At p s m meth c b L xs) (hd : decode code pc = .ok (.tableswitch dflt lo hi offs, len)) (h1 : ¬ x.toInt < lo) (h2 : ¬ hi < x.toInt) (ho : offs[(x.toInt - lo).toNat]? = some off) (ht : (pc : Int) + off = (tgt : Int)) (kk : g_W p l e s m below meth c b G tgt Lv st ws cells slots) : g_W p l e s m below meth c b G pc Lv (.int x :: st) ws cells slots := by
  intro H locs ls I hl
  exact lv_tableIn C0.1 C0.2.1 hd h1 h2 ho ht (kk H locs ls I hl)
theorem g_tout {dflt lo hi : Int} {offs : Array Int} {len : Nat} {x : Int32} {tgt : Nat} (C0 : lw_At p s m meth c b L xs) (hd : decode code pc = .ok (.tableswitch dflt lo hi offs, len)) (h1 : x.toInt < lo ∨ hi < x.toInt) (ht : (pc : Int) + dflt = (tgt : Int)) (kk : g_W p l e s m below meth c b G tgt Lv st ws cells slots) : g_W p l e s m below meth c b G pc Lv (.int x :: st) ws cells slots := by
  intro H locs ls I hl
  exact lv_tableOut C0.1 C0.2.1 hd h1 ht (kk H locs ls I hl)
theorem g_astore {k : Fin 4} {x : Nat} {Lv' : List (Nat × Value)} (C0 : lw_At p s m meth c b L xs) (hd : decode code pc = .ok (.astore_n k, 1)) (he : ((k : Nat), Value.ref x) :: Lv.filter (fun q => !(q.1 == (k : Nat)) && !(q.1 + 1 == (k : Nat) && q.2.category == 2)) = Lv') (kk : g_W p l e s m below meth c b G (pc + 1) Lv' st ws cells slots) : g_W p l e s m below meth c b G pc Lv (.ref x :: st) ws cells slots := by
  intro H locs ls I hl
  exact lv_astore_n C0.1 C0.2.1 hd rfl hl k.isLt he fun ls' hl' => kk H locs ls' I hl'
theorem g_istore {k : Fin 4} {x : Int32} {Lv' : List (Nat × Value)} (C0 : lw_At p s m meth c b L xs) (hd : decode code pc = .ok (.istore_n k, 1)) (he : ((k : Nat), Value.int x) :: Lv.filter (fun q => !(q.1 == (k : Nat)) && !(q.1 + 1 == (k : Nat) && q.2.category == 2)) = Lv') (kk : g_W p l e s m below meth c b G (pc + 1) Lv' st ws cells slots) : g_W p l e s m below meth c b G pc Lv (.int x :: st) ws cells slots := by
  intro H locs ls I hl
  exact lv_istore_n C0.1 C0.2.1 hd rfl hl k.isLt he fun ls' hl' => kk H locs ls' I hl'
theorem g_iinc {i k : Nat} {n : Int} {x v : Int32} {Lv' : List (Nat × Value)} (C0 : lw_At p s m meth c b L xs) (hd : decode code pc = .ok (.iinc i n, 3)) (hk : Lv[k]? = some (i, .int x)) (hv : x + Int32.ofInt n = v) (hn : i < 4) (he : (i, Value.int v) :: Lv.filter (fun q => !(q.1 == i) && !(q.1 + 1 == i && q.2.category == 2)) = Lv') (kk : g_W p l e s m below meth c b G (pc + 3) Lv' st ws cells slots) : g_W p l e s m below meth c b G pc Lv st ws cells slots := by
  intro H locs ls I hl
  exact lv_iinc C0.1 C0.2.1 hd hl hk hv hn he fun ls' hl' => kk H locs ls' I hl'
theorem g_w (ws' : va_W) (e1 : ws = ws') (kk : g_W p l e s m below meth c b G pc Lv st ws' cells slots) : g_W p l e s m below meth c b G pc Lv st ws cells slots := by
  rw [e1]; exact kk
theorem g_room (hc : cells ≤ 600000) (hs : slots ≤ 7302250) (kk : g_W p l e s m below meth c b G pc Lv st ws 600000 7302250) : g_W p l e s m below meth c b G pc Lv st ws cells slots := by
  intro H locs ls I hl
  exact W.widen hc hs (kk H locs ls I hl)
theorem g_end (C0 : lw_At p s m meth c b L xs) (hd : decode code pc = .ok (.ireturn, 1)) : g_W p l e s m below meth c b G pc Lv [.int 1] ws 600000 7302250 := by
  intro H locs ls I hl
  exact va_forget (fun q hq => I.2.2.2.2 q hq) (lw_ret C0.1 C0.2.1 C0.2.2.1 C0.2.2.2.2.2.2.2.2.1 hd)
theorem g_new {index ci N : Nat} {C : String} {T : u_T} {fs : List Value} (C0 : lw_At p s m meth c b L xs) (E0 : g_E G cs s) (ty : Nat → FieldType) (hd : decode code pc = .ok (.new index, 3)) (hci : vwCl[ci]? = some (C, T, N)) (hg : ∀ w ∈ u_ws C T N, w ∈ am_good) (hty : ∀ k, k < N → parseFieldDescriptor (T k).2.2.1 = some (ty k)) (h1 : Cond.classLink R_law index C ∈ am_good) (h2 : Cond.instantiable C N ∈ am_good) (h3 : Cond.initialized C ∈ am_good) (hfs : ∀ j, j < N → defaultValue (ty j) = vp_V fs j) (hc : cells + 1 ≤ 600000) (hs : slots + N ≤ 7302250) (kk : ∀ q, g_W p l e s m below meth c b G (pc + 3) Lv (.ref q :: st) (ws ++ [(q, .inr (ci, fs))]) (cells + 1) (slots + N)) : g_W p l e s m below meth c b G pc Lv st ws cells slots := by
  intro H locs ls I hl
  have gd := g_good C0
  exact va_new C0.1 C0.2.1 gd hg ty hty C0.2.2.2.2.1 (gd _ h1) (gd _ h2) (gd _ h3) E0.1 I.1 I.2.1 I.2.2 (fun q hq => hq) hci hfs hc hs hd fun q H1 hP hD hS => kk q H1 locs ls ⟨hP, hD, hS⟩ hl

theorem g_conR {q : Nat} {e0 : va_E} {L' : List am_L} {P' : am_D → Prop} {mc' ms' : Nat} {w : va_W} {H : Heap} {locs : List Loc} {ls : Array Slot} {st0 : List Value} {as : Array Value}
    (I : g_I G (w ++ [(q, e0)]) s H locs) (hl : lv_has ls 4 Lv)
    (hr : va_Run p l e room_1 s m #[Value.ref b] below meth c H locs cells slots mc' ms' (F0 m pc ls st0) st (am_CQ G cs q H.size L' P' as) (am_zA q H.size))
    (kk : ∀ ad D1, ad 0 = q → P' D1 → g_W p l e s m below meth c b G (pc + 3) Lv st (w ++ am_W (G, cs, ad) L' D1) (cells + mc') (slots + ms')) : W p l e room_1 s m #[Value.ref b] below meth c H locs cells slots (lw_Z below #[Value.ref b] s) (F0 m pc ls st0) := by
  intro T hT S
  obtain ⟨v, st₀, t, T', Lc, hh, X', hL, e1, e2, ⟨hv, ⟨ad, D1, a1, a2, a3, a4⟩, hF⟩, stp⟩ := hr T hT S
  obtain rfl := Outcome.returned.inj hv
  obtain ⟨I3, I4, I8⟩ := I
  obtain ⟨f1, f2⟩ := hF
  rw [hh] at f1 f2
  have hqw : (w ++ [(q, e0)])[w.length]? = some (q, e0) := by rw [List.getElem?_append_right (Nat.le_refl _), Nat.sub_self]; rfl
  have hqA : g_A s q := I4.2 _ _ hqw
  have hszH : s.heap.size ≤ H.size := I8.1
  have hwk : ∀ (k : Nat) (x : Nat × va_E), w[k]? = some x → x.1 < H.size ∧ x.1 ≠ q ∧ g_A s x.1 := by
    intro k x hx
    have hk := (List.getElem?_eq_some_iff.mp hx).1
    have hx2 : (w ++ [(q, e0)])[k]? = some x := by rw [List.getElem?_append_left hk]; exact hx
    refine ⟨(I3 k x hx2).lt, fun ex => ?_, I4.2 k x hx2⟩
    have := I4.1 k w.length x (q, e0) hx2 hqw ex
    omega
  have hPn : va_P G vwCl (w ++ am_W (G, cs, ad) L' D1) T'.heap := by
    rw [e1]
    intro k x hx
    by_cases hk : k < w.length
    · rw [List.getElem?_append_left hk] at hx
      obtain ⟨b1, b2, -⟩ := hwk k x hx
      have hx2 : (w ++ [(q, e0)])[k]? = some x := by rw [List.getElem?_append_left hk]; exact hx
      exact (I3 k x hx2).kept (f2 x.1 b1 (by unfold am_zA; omega))
    · rw [List.getElem?_append_right (by omega)] at hx
      exact a3 _ x hx
  have hDn : va_D (g_A s) (w ++ am_W (G, cs, ad) L' D1) := by
    refine ⟨fun i j x y hi hj exy => ?_, fun k x hx => ?_⟩
    · by_cases hi2 : i < w.length
      · rw [List.getElem?_append_left hi2] at hi
        by_cases hj2 : j < w.length
        · rw [List.getElem?_append_left hj2] at hj
          exact I4.1 i j x y (by rw [List.getElem?_append_left hi2]; exact hi) (by rw [List.getElem?_append_left hj2]; exact hj) exy
        · rw [List.getElem?_append_right (by omega)] at hj
          obtain ⟨b1, b2, -⟩ := hwk i x hi
          have := a4.2 _ y hj
          unfold am_zA at this
          omega
      · rw [List.getElem?_append_right (by omega)] at hi
        by_cases hj2 : j < w.length
        · rw [List.getElem?_append_left hj2] at hj
          obtain ⟨b1, b2, -⟩ := hwk j y hj
          have := a4.2 _ x hi
          unfold am_zA at this
          omega
        · rw [List.getElem?_append_right (by omega)] at hj
          have := a4.1 _ _ x y hi hj exy
          omega
    · by_cases hk : k < w.length
      · rw [List.getElem?_append_left hk] at hx
        exact (hwk k x hx).2.2
      · rw [List.getElem?_append_right (by omega)] at hx
        rcases a4.2 _ x hx with c1 | c1
        · rw [c1]; exact hqA
        · exact Nat.le_trans hszH c1
  have hSn : va_S (g_A s) s.heap T'.heap (locs ++ Lc) := by
    rw [e1]
    refine ⟨Nat.le_trans I8.1 f1, fun x h1 h2 => ?_, fun x hx => ?_⟩
    · rw [f2 x (Nat.lt_of_lt_of_le h1 I8.1) (fun c1 => ?_)]
      · exact I8.2.1 x h1 h2
      · rcases c1 with c1 | c1
        · rw [c1] at h2; exact h2 hqA
        · omega
    · rcases List.mem_append.mp hx with h | h
      · exact I8.2.2 x h
      · rcases hL x h with c1 | c1
        · rw [c1]; exact hqA
        · exact Nat.le_trans hszH c1
  obtain ⟨t2, b1, b2⟩ := kk ad D1 a1 a2 T'.heap (locs ++ Lc) ls ⟨hPn, hDn, hSn⟩ hl T' rfl X'
  exact ⟨t2, stp t2 b1, b2⟩
theorem g_con {index ci q d' mc' ms' : Nat} {M' : am_M} {fs0 : List Value} {L' : List am_L} {P' : am_D → Prop} {w : va_W} (C0 : lw_At p s m meth c b L xs) (E0 : g_E G cs s) (hd : decode code pc = .ok (.invokespecial index, 3)) (hw : am_CW M' 0) (hl1 : Cond.methodLink R_law index M'.1 ∈ am_good) (hi : Cond.instanceMethod M'.1 ∈ am_good) (hnm : M'.1.name = "<init>") (hret : M'.2.2.2 = none) (hm : am_Con d' M' ci fs0 L' P' mc' ms') (hdd : d' ≤ 20) (hc : cells + mc' ≤ 600000) (hs : slots + ms' ≤ 7302250) (hst : (st.map fun v => v.category).sum ≤ 8) (kk : ∀ ad D1, ad 0 = q → P' D1 → g_W p l e s m below meth c b G (pc + 3) Lv st (w ++ am_W (G, cs, ad) L' D1) (cells + mc') (slots + ms')) : g_W p l e s m below meth c b G pc Lv (.ref q :: st) (w ++ [(q, .inr (ci, fs0))]) cells slots := by
  intro H locs ls I hl
  have gd := g_good C0
  have hqw : (w ++ [(q, (.inr (ci, fs0) : va_E))])[w.length]? = some (q, .inr (ci, fs0)) := by rw [List.getElem?_append_right (Nat.le_refl _), Nat.sub_self]; rfl
  have hat := I.1 _ _ hqw
  have hpre : PreS s H (va_Pc [.ref q] (am_CP G cs q H.size ci fs0)) [.ref q] := by
    refine ⟨fun a U g mk h => ⟨h.1, h.2.1, h.2.2.1, va_K.moved (u := U) (U := U.calling g mk a) (Vm.Alike.refl U.vm) h.2.2.2.1, am_N.same (u := U) (U := U.calling g mk a) rfl h.2.2.2.2.1, va_AO.moved (u := U) (U := U.calling g mk a) (Vm.Alike.refl U.vm) h.2.2.2.2.2⟩, fun U hU hW => ⟨rfl, by rw [hU], ?_, va_K.moved hW.alike E0.1, E0.2.1.warm hW, va_AO.moved hW.alike E0.2.2⟩⟩
    rw [hU]
    intro k x hx
    cases k with
    | zero => cases hx; exact hat
    | succ k => simp at hx
  refine g_conR I hl (as := (Value.ref q :: ([] : List Value)).toArray) ?_ kk
  refine va_runI (n := 0) (As := []) (rest := st) (Ts := am_good) (own := R_law) ⟨C0.1, C0.2.1, C0.2.2.2.1, C0.2.2.2.2.1, gd⟩ (hm l G cs q H.size hat.lt) ⟨⟨rfl, rfl, ?_, ?_, pay_in gd (g_goodIn hw), by rw [← hret]; exact List.mem_cons_self, by rw [← hret]; exact gd _ hw.2.2.2.1, gd _ hw.2.2.1, hw.1, fun sig hs => ?_, gd _ hl1⟩, hnm, gd _ hi⟩ hpre rfl rfl hl.1 rfl (lv_room hst) hd ⟨hc, hs⟩
  · show d' + 1 ≤ 2048
    omega
  · have := hw.2.2.2.2
    show 8 + (M'.2.2.1 + 11) + 64 * d' ≤ 84000
    omega
  · have h2 := hw.2.1
    rw [hs] at h2
    exact (Option.some.inj h2).symm
theorem g_call {index ci bk : Nat} {C : String} {T : u_T} {N : Nat} {fs : List (Option Nat)} {M' : am_M} {lay : List am_L} {ad : Nat → Nat} {D D1 : am_D} {av : List Value} {x : Int32} (C0 : lw_At p s m meth c b L xs) (E0 : g_E G cs s) (hd : decode code pc = .ok (.invokevirtual index, 3)) (hw : am_CW M' av.length) (hl1 : Cond.methodLink R_law index M'.1 ∈ am_good) (hi : Cond.instanceMethod M'.1 ∈ am_good) (hse : Cond.selects M'.1.cls M'.1 M'.1 ∈ am_good) (hl0 : lay[bk]? = some (.inl (ci, fs))) (hci : vwCl[ci]? = some (C, T, N)) (hC : C = M'.1.cls) (hm : am_MetI lay 20 M' (.ref bk :: av) D x D1) (hst : (st.map fun v => v.category).sum ≤ 8) (kk : g_W p l e s m below meth c b G (pc + 3) Lv (.int x :: st) (am_W (G, cs, ad) lay D1) 600000 7302250) : g_W p l e s m below meth c b G pc Lv ((av.map (am_tr ad)).reverse ++ .ref (ad bk) :: st) (am_W (G, cs, ad) lay D) 600000 7302250 := by
  intro H locs ls I hl
  subst hC
  have gd := g_good C0
  have hrv := va_recv E0.1 I.1 hci (am_W_get hl0)
  have hmm : Met l M'.1 (am_ws M') (am_rm 20) (am_Pc (G, cs, ad) lay (.ref bk :: av) D) (am_Qc (G, cs, ad) lay (g_A s) (fun r D2 => r = some (.int x) ∧ D2 = D1)) 0 0 (g_A s) := hm l (G, cs, ad) (g_A s) fun D' => am_W_adr I.2.1
  have hr : va_Run p l e room_1 s m #[Value.ref b] below meth c H locs 600000 7302250 0 0 (F0 m pc ls ((av.map (am_tr ad)).reverse ++ .ref (ad bk) :: st)) st (am_Qc (G, cs, ad) lay (g_A s) (fun r D2 => r = some (.int x) ∧ D2 = D1) ((.ref bk :: av).map (am_tr ad)).toArray) (g_A s) := by
    refine va_runV (n := av.length) (As := av.map (am_tr ad)) (rest := st) (Ts := am_good) (own := R_law) ⟨C0.1, C0.2.1, C0.2.2.2.1, C0.2.2.2.2.1, gd⟩ hmm ⟨⟨rfl, rfl, (by decide), ?_, pay_in gd (g_goodIn hw), List.mem_cons_self, gd _ hw.2.2.2.1, gd _ hw.2.2.1, hw.1, fun sig hs => ?_, gd _ hl1⟩, gd _ hi, gd _ hse⟩ ⟨am_blind, hrv, fun U hU hW => am_pre I.1 E0.1 E0.2.1 hU hW⟩ rfl (by simp) hl.1 rfl (lv_room hst) hd ⟨Nat.le_refl _, Nat.le_refl _⟩
    · have := hw.2.2.2.2
      show 8 + (M'.2.2.1 + 11) + 64 * 20 ≤ 84000
      omega
    · have h2 := hw.2.1
      rw [hs] at h2
      exact (Option.some.inj h2).symm
  intro T0 hT S
  obtain ⟨v, st₀, t, T', Lc, hh, X', hL, e1, e2, ⟨r, D2, ⟨hr1, hr2⟩, hv, ⟨hP1, hKt, hNt⟩, hF⟩, stp⟩ := hr T0 hT S
  subst hr1; subst hr2
  obtain rfl := Outcome.returned.inj hv
  obtain ⟨I3, I4, I8⟩ := I
  obtain ⟨f1, f2⟩ := hF
  rw [hh] at f1 f2
  have hSn : va_S (g_A s) s.heap T'.heap (locs ++ Lc) := by
    rw [e1]
    refine ⟨Nat.le_trans I8.1 f1, fun x h1 h2 => by rw [f2 x (Nat.lt_of_lt_of_le h1 I8.1) h2]; exact I8.2.1 x h1 h2, fun x hx => ?_⟩
    rcases List.mem_append.mp hx with h | h
    · exact I8.2.2 x h
    · exact hL x h
  obtain ⟨t2, b1, b2⟩ := kk T'.heap (locs ++ Lc) ls ⟨by rw [e1]; exact hP1, am_W_adr I4, hSn⟩ hl T' rfl X'
  exact ⟨t2, stp t2 b1, b2⟩
end GL
theorem g_entry {p : Program} {s : State} {m : MethodId} {meth : Method} {c : Code} {b L : Nat} {xs : Nat → Int32} (C0 : lw_At p s m meth c b L xs) : ∃ (G : va_G) (cs : am_cs), g_E G cs s := by
  have hts := C0.2.2.2.2.2.1
  have gd := g_good C0
  have hkn : ∀ (k : Nat), ∃ (cC : ClassId) (iS : Nat → Nat), ∀ q, vwCl[k]? = some q → u_Kn s q.1 q.2.1 q.2.2 cC iS := by
    intro k
    have one : ∀ {C : String} {T : u_T} {N : Nat}, vwCl[k]? = some (C, T, N) → (∀ w ∈ u_ws C T N, w ∈ am_good) → Cond.instantiable C N ∈ am_good → ∃ (cC : ClassId) (iS : Nat → Nat), ∀ q, vwCl[k]? = some q → u_Kn s q.1 q.2.1 q.2.2 cC iS := by
      intro C T N hk hg hi
      obtain ⟨cC, iS, h⟩ := u_known gd hg (gd _ hi)
      exact ⟨cC, iS, fun q hq => by rw [hk] at hq; cases hq; exact h⟩
    match k with
    | 0 => exact one rfl fg_X0 (am_mem 78 (by decide +kernel) rfl)
    | 1 => exact one rfl fg_X1 (am_mem 154 (by decide +kernel) rfl)
    | 2 => exact one rfl fg_X2 (am_mem 177 (by decide +kernel) rfl)
    | 3 => exact one rfl fg_X3 (am_mem 108 (by decide +kernel) rfl)
    | 4 => exact one rfl fg_X4 (am_mem 209 (by decide +kernel) rfl)
    | 5 => exact one rfl fg_X5 (am_mem 190 (by decide +kernel) rfl)
    | 6 => exact one rfl fg_X6 (am_mem 164 (by decide +kernel) rfl)
    | 7 => exact one rfl fg_X7 (am_mem 140 (by decide +kernel) rfl)
    | 8 => exact one rfl fg_X8 (am_mem 127 (by decide +kernel) rfl)
    | 9 => exact one rfl fg_X10 (am_mem 70 (by decide +kernel) rfl)
    | 10 => exact one rfl fg_X11 (am_mem 815 (by decide +kernel) rfl)
    | n + 11 => exact ⟨0, fun _ => 0, fun q hq => by simp [vwCl] at hq⟩
  have h1 := fun k => (hkn k).choose_spec.choose_spec
  obtain ⟨c1, k1, m1, f1, g1, e1⟩ := Cond.arrayClass_spec (gd (.arrayClass .int) (am_mem 106 (by decide +kernel) rfl))
  obtain ⟨c2, k2, m2, f2, g2, e2⟩ := Cond.arrayClass_spec (gd (.arrayClass .char) (am_mem 152 (by decide +kernel) rfl))
  have hao := hts (.arrayOver (.object RX0)) (List.mem_of_getElem? (i := 114) (by decide +kernel))
  obtain ⟨m3, c3, k3, a1, a2, a3, a4, a5⟩ := Cond.arrayOver_spec hao
  refine ⟨(fun k => (hkn k).choose, fun k => (hkn k).choose_spec.choose), (c1, c2, c3), ⟨fun k q hq => h1 k q hq, fun k q hq => ?_⟩, fun w hw => ?_, va_AO.of hao⟩
  · match k with
    | 0 => cases hq; exact ⟨fun n z => ⟨(fun k h => by cases h), k1, g1, m1, e1⟩, f1⟩
    | 1 => cases hq; exact ⟨fun n z => ⟨(fun k h => by cases h), k2, g2, m2, e2⟩, f2⟩
    | 2 => cases hq; exact ⟨fun n z => ⟨(fun k h => by cases h), k3, a3, m3, a4⟩, k3, m3, a3, a4, a1, a5⟩
    | n + 3 => simp at hq
  · have hw2 := List.mem_filter.mp hw
    refine va_Nw.of ?_ (hts w hw2.1)
    revert hw2
    cases w <;> simp [am_isNest] <;> intros <;> rfl
