/-! the law from its start -/
abbrev adA (a1 a2 : Nat → Nat) : Nat → Nat := adL [a1 0, a1 1, a1 2, a1 3, a1 4, a1 5, a1 6, a1 7, a1 8, a1 9, a1 10, a1 11, a1 12, a1 13, a1 14, a1 15, a1 16, a1 17, a1 18, a1 19, a1 20, a1 21, a1 22, a1 23, a1 24, a1 25, a1 26, a1 27, a1 28, a1 29, a1 30, a1 31, a1 32, a1 33, a1 34, a1 35, a1 36, a1 37, a1 38, a1 39, a1 40, a1 41, a1 42, a1 43, a1 44, a1 45, a1 46, a1 47, a1 48, a1 49, a1 50, a2 0, a2 1, a2 2, a2 3, a2 4, a2 5, a2 6, a2 7, a2 8, a2 9]
abbrev dA (D1 D2 : am_D) : am_D := dL [D1 0, D1 1, D1 2, D1 3, D1 4, D1 5, D1 6, D1 7, D1 8, D1 9, D1 10, D1 11, D1 12, D1 13, D1 14, D1 15, D1 16, D1 17, D1 18, D1 19, D1 20, D1 21, D1 22, D1 23, D1 24, D1 25, D1 26, D1 27, D1 28, D1 29, D1 30, D1 31, D1 32, D1 33, D1 34, D1 35, D1 36, D1 37, D1 38, D1 39, D1 40, D1 41, D1 42, D1 43, D1 44, D1 45, D1 46, D1 47, D1 48, D1 49, D1 50, D2 0, D2 1, D2 2, D2 3, D2 4, D2 5, D2 6, D2 7, D2 8, D2 9]
theorem law_world {G : va_G} {cs : am_cs} {a1 a2 : Nat → Nat} {D1 D2 : am_D} : (([] ++ am_W (G, cs, a1) lyX10 D1) ++ am_W (G, cs, a2) lyX11 D2) = am_W (G, cs, adA a1 a2) lyA (dA D1 D2) := by
  simp only [am_W_eq]
  rfl
theorem dA_lo {D1 D2 : am_D} : ∀ q, q < 51 → dA D1 D2 q = D1 q := by
  intro q hq
  match q, hq with
  | 0, _ => rfl
  | 1, _ => rfl
  | 2, _ => rfl
  | 3, _ => rfl
  | 4, _ => rfl
  | 5, _ => rfl
  | 6, _ => rfl
  | 7, _ => rfl
  | 8, _ => rfl
  | 9, _ => rfl
  | 10, _ => rfl
  | 11, _ => rfl
  | 12, _ => rfl
  | 13, _ => rfl
  | 14, _ => rfl
  | 15, _ => rfl
  | 16, _ => rfl
  | 17, _ => rfl
  | 18, _ => rfl
  | 19, _ => rfl
  | 20, _ => rfl
  | 21, _ => rfl
  | 22, _ => rfl
  | 23, _ => rfl
  | 24, _ => rfl
  | 25, _ => rfl
  | 26, _ => rfl
  | 27, _ => rfl
  | 28, _ => rfl
  | 29, _ => rfl
  | 30, _ => rfl
  | 31, _ => rfl
  | 32, _ => rfl
  | 33, _ => rfl
  | 34, _ => rfl
  | 35, _ => rfl
  | 36, _ => rfl
  | 37, _ => rfl
  | 38, _ => rfl
  | 39, _ => rfl
  | 40, _ => rfl
  | 41, _ => rfl
  | 42, _ => rfl
  | 43, _ => rfl
  | 44, _ => rfl
  | 45, _ => rfl
  | 46, _ => rfl
  | 47, _ => rfl
  | 48, _ => rfl
  | 49, _ => rfl
  | 50, _ => rfl
  | n + 51, h => exact absurd h (by omega)
theorem dA_LS {D1 D2 : am_D} (h1 : RD D1 0 1 (T0, T0, [], [], [])) (h2 : RM D2 0 (T0, T0, [], [], [])) : LS2 (dA D1 D2) 1 (T0, T0, [], [], []) := by
  refine ⟨h1.scratch fun q hq => dA_lo q (by omega), h2.1, h2.2.1, ⟨h2.2.2.1.1, h2.2.2.1.2.1, fun i U h => by simp at h⟩, ⟨h2.2.2.2.1.1, h2.2.2.2.1.2.1, fun i U h => by simp at h⟩, ⟨h2.2.2.2.2.1, h2.2.2.2.2.2.1, fun i U h => by simp at h⟩⟩
-- ===== YOUR PART BEGINS =====
/-- YOUR PART: from the entry, for every script of at most 2048 ints, the law comes to its end with true ('hflags': the launch's flags, for a law that throws: no stack traces) -/
theorem whole_start {p : Program} {e : Env} {s : State} {m : MethodId} {below : List Frame} {meth : Method} {c : Code} (l : Launch) (hflags : l.flags = flags0) {b L : Nat} {xs : Nat → Int32} (hL : L ≤ 2048) (C0 : lw_At p s m meth c b L xs) : W p l e room_1 s m #[Value.ref b] below meth c s.heap [] 0 0 (lw_Z below #[Value.ref b] s) (entryFrame m ([Value.ref b] : List Value).toArray 4) := by
  obtain ⟨G, cs, E0⟩ := g_entry C0
  have hlv := lv_entry ([.ref b]) (n := 4) (Nat.le_of_ble_eq_true rfl)
  rw [lg_entry_eq]
  refine (?_ : g_W p l e s m below meth c b G 0 [(0, .ref b)] [] [] 0 0) s.heap [] _ ⟨fun k x hx => by simp at hx, ⟨fun i j x y h => by simp at h, fun k x h => by simp at h⟩, va_S.rf⟩ hlv
  refine g_new (ci := 9) (fs := [.null, .null, .null, .null, .null, .null, .null, .null, .null, .null]) C0 E0 tyX10 dL_law_0 rfl fg_X10 tyX10_ok (am_mem 69 (by decide +kernel) rfl) (am_mem 70 (by decide +kernel) rfl) (am_mem 54 (by decide +kernel) rfl) (by decide +kernel) (by decide) (by decide) fun q1 => ?_
  refine g_dup C0 dL_law_3 ?_
  refine g_con (w := []) C0 E0 dL_law_4 cw_X10_init (am_mem 71 (by decide +kernel) rfl) (am_mem 72 (by decide +kernel) rfl) rfl rfl con_X10 (by decide) (by decide) (by decide) (Nat.le_of_ble_eq_true rfl) fun a1 D1 ha hP1 => ?_
  subst ha
  refine g_astore (k := 1) C0 dL_law_7 rfl ?_
  refine g_new (ci := 10) (fs := [.null, .null, .null, .int 0, .int 0, .null, .int 0, .null, .null, .null, .null, .null]) C0 E0 tyX11 dL_law_8 rfl fg_X11 tyX11_ok (am_mem 814 (by decide +kernel) rfl) (am_mem 815 (by decide +kernel) rfl) (am_mem 65 (by decide +kernel) rfl) (by decide +kernel) (by decide) (by decide) fun q2 => ?_
  refine g_dup C0 dL_law_11 ?_
  refine g_con C0 E0 dL_law_12 cw_X11_init (am_mem 816 (by decide +kernel) rfl) (am_mem 817 (by decide +kernel) rfl) rfl rfl con_X11 (by decide) (by decide) (by decide) (Nat.le_of_ble_eq_true rfl) fun a2 D2 ha hP2 => ?_
  subst ha
  refine g_astore (k := 2) C0 dL_law_15 rfl ?_
  refine g_iconst (v := nI 0) C0 dL_law_16 (by decide) ?_
  refine g_istore (k := 3) C0 dL_law_17 rfl ?_
  refine g_w (am_W (G, cs, adA a1 a2) lyA (dA D1 D2)) law_world ?_
  refine g_room (by decide) (by decide) ?_
  exact g_loop (ad := adA a1 a2) C0 E0 hL 512 0 (dA D1 D2) 1 (T0, T0, [], [], []) (by omega) (Nat.zero_le L) (dA_LS hP1 hP2) (by decide)
-- ===== YOUR PART ENDS =====
