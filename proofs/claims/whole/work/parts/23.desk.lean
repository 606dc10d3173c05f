/-! the desk's state: present, stored, history, sequence, text -/
abbrev am_S : Type := am_T × am_T × List am_T × List Nat × List Nat
def RD (D : am_D) (o B : Nat) (st : am_S) : Prop :=
  brdT D (o + 1) st.1 ∧ okT st.1 ∧ brdT D (o + 4) st.2.1 ∧ okT st.2.1 ∧ rH D (o + 7) st.2.2.1 ∧ (rL D (o + 33) 10 st.2.2.2.1 ∧ ∀ x ∈ st.2.2.2.1, x ≤ 9) ∧ (rL D (o + 35) 120 st.2.2.2.2 ∧ okX st.2.2.2.2) ∧
  ordZ D (o + 45) ∧ ∃ u v, D (o + 1) 1 = nI u ∧ D (o + 45) 3 = nI v ∧ v ≤ u ∧ u ≤ B ∧ (v = u → ordOK D (o + 45) st.1.1 st.1.2.1 st.1.2.2)
theorem msk_inj {f g : Nat → Bool} (h : msk f = msk g) : ∀ i, i < 10 → f i = g i := by
  intro i hi
  have := congrArg (fun s => s.testBit i) h
  simp only [msk_t, decide_eq_true hi, Bool.true_and] at this
  exact this
/-- a board holds one tournament -/
theorem brd_one {D : am_D} {b : Nat} {T U : am_T} (h1 : brdT D b T) (h2 : brdT D b U) (g1 : okT T) (g2 : okT U) : T = U := by
  obtain ⟨n, be, we⟩ := T
  obtain ⟨m, bf, wf⟩ := U
  have n10 : n ≤ 10 := g1.1.2.1
  have m10 : m ≤ 10 := g2.1.2.1
  have tA : trn n be := g1.1
  have tB : trn m bf := g2.1
  have e0 : n = m := by
    have : nI n = nI m := h1.1.symm.trans h2.1
    rwa [nI_eq (by omega) (by omega)] at this
  subst e0
  have e1 : be = bf := by
    funext p q
    by_cases hp : p < 10
    · by_cases hq : q < 10
      · have : nI (msk (be p)) = nI (msk (bf p)) := (h1.2.1 p hp).symm.trans (h2.2.1 p hp)
        rw [nI_eq (Nat.lt_trans (msk_lt _) (by decide)) (Nat.lt_trans (msk_lt _) (by decide))] at this
        exact msk_inj this q hq
      · rw [tA.out2 (by omega : ¬ q < n), tB.out2 (by omega : ¬ q < n)]
    · rw [tA.out1 (by omega : ¬ p < n), tB.out1 (by omega : ¬ p < n)]
  have e2 : we = wf := by
    funext p q
    by_cases hp : p < 10
    · by_cases hq : q < 10
      · have : nI (we p q) = nI (wf p q) := (h1.2.2 p q hp hq).symm.trans (h2.2.2 p q hp hq)
        have a1 := (g1.2.2.1 p q).2
        have a2 := (g2.2.2.1 p q).2
        rwa [nI_eq (by show we p q < _; have : we p q ≤ 100 := a1; omega) (by show wf p q < _; have : wf p q ≤ 100 := a2; omega)] at this
      · have a := g1.2.2.2 p q (Or.inr (by omega)); have c := g2.2.2.2 p q (Or.inr (by omega))
        exact a.trans c.symm
    · have a := g1.2.2.2 p q (Or.inl (by omega)); have c := g2.2.2.2 p q (Or.inl (by omega))
      exact a.trans c.symm
  rw [e1, e2]
theorem ordOK.keep {D D1 : am_D} {o n : Nat} {be : Nat → Nat → Bool} {we : Nat → Nat → Nat} (h : ordOK D o n be we) (e1 : D1 (o + 1) = D (o + 1)) (e2 : D1 (o + 2) = D (o + 2)) (e3 : D1 (o + 3) = D (o + 3)) : ordOK D1 o n be we :=
  ⟨fun p hh a c e => by rw [e2, e3]; exact h.1 p hh a c e, fun s hs => by rw [e1]; exact h.2 s hs⟩
theorem ordZ.keep {D D1 : am_D} {o : Nat} (h : ordZ D o) (e1 : D1 (o + 1) = D (o + 1)) (e2 : D1 (o + 2) = D (o + 2)) (e3 : D1 (o + 3) = D (o + 3)) : ordZ D1 o := ⟨by rw [e1]; exact h.1, fun p hp => by rw [e2, e3]; exact h.2 p hp⟩
/-- a cell that isn't scratch nor of the present board or the history -/
def rest_ (o q : Nat) : Prop := (4 + o ≤ q ∧ q ≤ 6 + o) ∨ (33 + o ≤ q ∧ q ≤ 36 + o) ∨ (45 + o ≤ q ∧ q ≤ 48 + o)
/-- the present board changes, and perhaps the history -/
theorem RD.change {D D1 : am_D} {o B k : Nat} {st : am_S} {T : am_T} {H : List am_T} (h : RD D o B st) (hB : brdT D1 (o + 1) T) (hT : okT T) (hH : rH D1 (o + 7) H) (hst : stq D D1 (o + 1) k) (hfr : ∀ q, rest_ o q → D1 q = D q) : RD D1 o (B + k) (T, st.2.1, H, st.2.2.2.1, st.2.2.2.2) := by
  obtain ⟨a1, a2, a3, a4, a5, ⟨a6, a7⟩, ⟨a8, a9⟩, a10, u, v, a11, a12, a13, a14, a15⟩ := h
  have fr : ∀ j, (4 ≤ j ∧ j ≤ 6) ∨ (33 ≤ j ∧ j ≤ 36) ∨ (45 ≤ j ∧ j ≤ 48) → D1 (o + j) = D (o + j) := fun j hj => hfr _ (by unfold rest_; omega)
  obtain ⟨j, j1, j2, j3⟩ := hst
  refine ⟨hB, hT, a3.keep fun q hq => hfr q (by unfold rest_; omega), a4, hH, ⟨a6.keep (fr 33 (by omega)) (fr 34 (by omega)), a7⟩, ⟨a8.keep (fr 35 (by omega)) (fr 36 (by omega)), a9⟩, a10.keep (fr 46 (by omega)) (fr 47 (by omega)) (fr 48 (by omega)), u + j, v, by rw [j2, a11, nI_add], by rw [fr 45 (by omega)]; exact a12, by omega, by omega, fun e => ?_⟩
  have ej : j = 0 := by omega
  have e1 : v = u := by omega
  have hsame := j3 ej
  have hB0 : brdT D1 (o + 1) st.1 := a1.keep fun q hq => hsame q hq
  have eT := brd_one hB0 hB a2 hT
  have := (a15 e1).keep (D1 := D1) (fr 46 (by omega)) (fr 47 (by omega)) (fr 48 (by omega))
  rw [← eT]; exact this
/-- only scratch changes -/
theorem RD.scratch {D D1 : am_D} {o B : Nat} {st : am_S} (h : RD D o B st) (hfr : ∀ q, (o + 1 ≤ q ∧ q ≤ o + 36) ∨ (o + 45 ≤ q ∧ q ≤ o + 48) → D1 q = D q) : RD D1 o B st := by
  obtain ⟨a1, a2, a3, a4, a5, ⟨a6, a7⟩, ⟨a8, a9⟩, a10, u, v, a11, a12, a13, a14, a15⟩ := h
  obtain ⟨b1, b2, old, b3, b4, b5, b6⟩ := a5
  have fr : ∀ j, (1 ≤ j ∧ j ≤ 36) ∨ (45 ≤ j ∧ j ≤ 48) → D1 (o + j) = D (o + j) := fun j hj => hfr _ (by omega)
  refine ⟨a1.keep fun q hq => hfr q (by omega), a2, a3.keep fun q hq => hfr q (by omega), a4, ⟨b1, b2, old, b3, by rw [fr 7 (by omega)]; exact b4, by rw [fr 7 (by omega)]; exact b5, fun i T hi => (b6 i T hi).keep fun q hq => hfr q (by omega)⟩, ⟨a6.keep (fr 33 (by omega)) (fr 34 (by omega)), a7⟩, ⟨a8.keep (fr 35 (by omega)) (fr 36 (by omega)), a9⟩, a10.keep (fr 46 (by omega)) (fr 47 (by omega)) (fr 48 (by omega)), u, v, by rw [fr 1 (by omega)]; exact a11, by rw [fr 45 (by omega)]; exact a12, a13, a14, fun e => (a15 e).keep (fr 46 (by omega)) (fr 47 (by omega)) (fr 48 (by omega))⟩
section DSK
variable {lay : List am_L} {d : Nat} {D : am_D} {o B : Nat} {T T' : am_T} {H : List am_T} {s t : List Nat}
theorem X10.pr (ho : isX10 lay o) : isX0 lay (o + 1) := ho.2.1
theorem X10.kp (ho : isX10 lay o) : isX0 lay (o + 4) := ho.2.2.1
theorem X10.hi (ho : isX10 lay o) : isX3 lay (o + 7) := ho.2.2.2.1
/-- what a method of the desk leaves: cells of the desk alone change -/
def onlyD (D D1 : am_D) (o : Nat) : Prop := ∀ q, q < o ∨ o + 51 ≤ q → D1 q = D q
theorem d_record (ho : isX10 lay o) (h : RD D o B (T, T', H, s, t)) : ∃ D2, am_MetV lay (d + 3) mX3_record [.ref (o + 7), .ref (o + 1)] D D2 ∧ rH D2 (o + 7) (pushH H T) ∧ ∀ q, ¬ inH (o + 7) q → D2 q = D q :=
  c_record (X10.hi ho) (X10.pr ho) h.2.2.2.2.1 h.1 h.2.1 (by omega)
/-- record, then a change of the present board -/
theorem d_step {k : Nat} {T2 : am_T} {D2 D3 : am_D} (h : RD D o B (T, T', H, s, t)) (r1 : rH D2 (o + 7) (pushH H T)) (r2 : ∀ q, ¬ inH (o + 7) q → D2 q = D q) (hB : brdT D3 (o + 1) T2) (hT : okT T2) (hfr : ∀ q, q ≠ o + 1 → q ≠ o + 2 → q ≠ o + 3 → q ≠ o + 38 → q ≠ o + 40 → D3 q = D2 q) (hst : stq D2 D3 (o + 1) k) : RD D3 o (B + k) (T2, T', pushH H T, s, t) ∧ onlyD D D3 o := by
  have r2' : ∀ q, (q < o + 7 ∨ o + 33 ≤ q) → D2 q = D q := fun q hq => r2 q (by unfold inH; omega)
  obtain ⟨j, j1, j2, j3⟩ := hst
  refine ⟨h.change hB hT ?_ ⟨j, j1, by rw [j2, r2' (o + 1) (by omega)], fun e q hq => by rw [j3 e q (by omega), r2' q (by omega)]⟩ (fun q hq => ?_), fun q hq => ?_⟩
  · obtain ⟨b1, b2, old, b3, b4, b5, b6⟩ := r1
    exact ⟨b1, b2, old, b3, by rw [hfr (o + 7) (by omega) (by omega) (by omega) (by omega) (by omega)]; exact b4, by rw [hfr (o + 7) (by omega) (by omega) (by omega) (by omega) (by omega)]; exact b5, fun i U hi => (b6 i U hi).keep fun q hq => hfr q (by omega) (by omega) (by omega) (by omega) (by omega)⟩
  · unfold rest_ at hq
    rw [hfr q (by omega) (by omega) (by omega) (by omega) (by omega), r2' q (by omega)]
  · rw [hfr q (by omega) (by omega) (by omega) (by omega) (by omega), r2' q (by omega)]
theorem ok_start {n : Nat} (h2 : 2 ≤ n) (h : n ≤ 10) : okT (n, bg0 n, fun _ _ => 1) := ⟨bg0_trn h2 h, fun _ _ => rfl, fun _ _ => ⟨Nat.le_refl 1, (by decide : 1 ≤ 100)⟩, fun _ _ _ => rfl⟩
theorem ok_stw (h : okT T) {x y : Nat} (hx : x < T.1) (hy : y < T.1) (hne : x ≠ y) : okT (T.1, stw T.2.1 x y, T.2.2) := ⟨stw_trn h.1 hx hy hne, h.2⟩
theorem ok_flp (h : okT T) {x y : Nat} (hx : x < T.1) (hy : y < T.1) (hne : x ≠ y) : okT (T.1, flp T.2.1 x y, T.2.2) := ⟨flp_trn h.1 hx hy hne, h.2⟩
theorem ok_stv (h : okT T) {x y w : Nat} (hx : x < T.1) (hy : y < T.1) (h1 : 1 ≤ w) (h2 : w ≤ 100) : okT (T.1, T.2.1, stv T.2.2 x y w) := by
  have h10 := h.1.2.1
  refine ⟨h.1, fun p q => ?_, fun p q => ?_, fun p q hpq => ?_⟩
  · show stv T.2.2 x y w p q = stv T.2.2 x y w q p
    unfold stv
    by_cases c : (p = x ∧ q = y) ∨ (p = y ∧ q = x)
    · rw [if_pos c, if_pos (by omega)]
    · rw [if_neg c, if_neg (by omega)]; exact h.2.1 p q
  · show 1 ≤ stv T.2.2 x y w p q ∧ stv T.2.2 x y w p q ≤ 100
    unfold stv
    split
    · exact ⟨h1, h2⟩
    · exact h.2.2.1 p q
  · show stv T.2.2 x y w p q = 1
    unfold stv
    rw [if_neg (by omega)]
    exact h.2.2.2 p q hpq
/-- the three answers -1, -2 apart, a method's answer and the new state -/
theorem d_reset (ho : isX10 lay o) (h : RD D o B (T, T', H, s, t)) {n : Nat} (h2 : 2 ≤ n) (h10 : n ≤ 10) : ∃ D1, am_MetI lay (d + 4) mX10_reset [.ref o, .int (nI n)] D (nI T.1) D1 ∧ RD D1 o (B + 1) ((n, bg0 n, fun _ _ => 1), T', pushH H T, s, t) ∧ onlyD D D1 o := by
  obtain ⟨D2, r0, r1, r2⟩ := d_record (d := d) ho h
  obtain ⟨D3, s1, s2, s3⟩ := c_start (d := d + 2) (D := D2) (X10.pr ho) h2 h10
  obtain ⟨g1, g2⟩ := d_step h r1 r2 (T2 := (n, bg0 n, fun _ _ => 1)) s2 (ok_start h2 h10) (fun q a b c _ _ => s3.1 q a b c) s3.stq
  refine ⟨D3, eX10_reset ho ⟨fun h3 => ?_, fun _ => ⟨fun _ => ⟨_, c_size (X10.pr ho) h.1, D2, r0, D3, s1, rfl, rfl⟩, fun h3 => ?_⟩⟩, g1, g2⟩
  · rw [nI_ltI (by omega) (by decide)] at h3; omega
  · exact absurd ((nI_leI (by omega) (by decide)).mpr h10) h3
theorem d_reset_no (ho : isX10 lay o) {v : Int32} (hv : v < nI 2 ∨ ¬ v ≤ nI 10) : am_MetI lay (d + 4) mX10_reset [.ref o, .int v] D (-1) D := by
  refine eX10_reset ho ⟨fun _ => ⟨rfl, rfl⟩, fun h1 => ⟨fun h2 => ?_, fun _ => ⟨rfl, rfl⟩⟩⟩
  rcases hv with h | h
  · exact absurd h h1
  · exact absurd h2 h
theorem d_setResult (ho : isX10 lay o) (h : RD D o B (T, T', H, s, t)) {x y : Nat} (hx : x < T.1) (hy : y < T.1) (hne : x ≠ y) : ∃ D1, am_MetI lay (d + 4) mX10_setResult [.ref o, .int (nI x), .int (nI y)] D (bI (T.2.1 x y)) D1 ∧ RD D1 o (B + 1) ((T.1, stw T.2.1 x y, T.2.2), T', pushH H T, s, t) ∧ onlyD D D1 o := by
  have h10 : T.1 ≤ 10 := h.2.1.1.2.1
  obtain ⟨D2, r0, r1, r2⟩ := d_record (d := d) ho h
  have hB2 : brdT D2 (o + 1) T := h.1.keep fun q hq => r2 q (by unfold inH; omega)
  obtain ⟨D3, s1, s2, s3⟩ := c_setWinner (d := d) (X10.pr ho) hB2 h.2.1.1 hx hy hne
  obtain ⟨g1, g2⟩ := d_step h r1 r2 (T2 := (T.1, stw T.2.1 x y, T.2.2)) s2 (ok_stw h.2.1 hx hy hne) (fun q a b c _ _ => s3.1 q a b c) s3.stq
  refine ⟨D3, eX10_setResult ho ⟨_, c_hasPair (X10.pr ho) h.1 _ _, fun _ => ⟨_, c_wins (X10.pr ho) h.1 h.2.1.1 (by omega) (by omega), D2, r0, D3, s1, fun h3 => ?_, fun h3 => ?_⟩, fun h3 => ?_⟩, g1, g2⟩
  · exact ⟨by rw [bI_0.mp h3]; rfl, rfl⟩
  · exact ⟨by rw [bI_n0.mp h3]; rfl, rfl⟩
  · rw [Classical.not_not, isPr_n h10 (by omega) (by omega), decide_eq_true ⟨hx, hy, hne⟩] at h3; cases bI_0.mp h3
theorem d_setResult_no (ho : isX10 lay o) (h : RD D o B (T, T', H, s, t)) {v w : Int32} (hv : isPr T.1 v w = false) : am_MetI lay (d + 4) mX10_setResult [.ref o, .int v, .int w] D (-1) D := by
  refine eX10_setResult ho ⟨_, c_hasPair (X10.pr ho) h.1 _ _, fun h3 => ?_, fun _ => ⟨rfl, rfl⟩⟩
  rw [hv] at h3; exact absurd rfl h3
theorem d_setWeight (ho : isX10 lay o) (h : RD D o B (T, T', H, s, t)) {x y w : Nat} (hx : x < T.1) (hy : y < T.1) (hne : x ≠ y) (h1 : 1 ≤ w) (h2 : w ≤ 100) : ∃ D1, am_MetI lay (d + 4) mX10_setWeight [.ref o, .int (nI x), .int (nI y), .int (nI w)] D (nI (T.2.2 x y)) D1 ∧ RD D1 o (B + 1) ((T.1, T.2.1, stv T.2.2 x y w), T', pushH H T, s, t) ∧ onlyD D D1 o := by
  have h10 : T.1 ≤ 10 := h.2.1.1.2.1
  obtain ⟨D2, r0, r1, r2⟩ := d_record (d := d) ho h
  have hB2 : brdT D2 (o + 1) T := h.1.keep fun q hq => r2 q (by unfold inH; omega)
  obtain ⟨D3, s1, s2, s3⟩ := c_putWeight (d := d + 1) (w := w) (X10.pr ho) hB2 h.2.1.1 hx hy hne
  obtain ⟨g1, g2⟩ := d_step h r1 r2 (T2 := (T.1, T.2.1, stv T.2.2 x y w)) s2 (ok_stv h.2.1 hx hy h1 h2) (fun q a b c _ _ => s3.1 q a b c) s3.stq
  refine ⟨D3, eX10_setWeight ho ⟨_, c_hasPair (X10.pr ho) h.1 _ _, fun h3 => ?_, fun _ => ⟨fun h3 => ?_, fun _ => ⟨fun _ => ⟨_, c_weightOf (X10.pr ho) h.1 h.2.1.1 hx hy, D2, r0, D3, s1, rfl, rfl⟩, fun h3 => ?_⟩⟩⟩, g1, g2⟩
  · rw [isPr_n h10 (by omega) (by omega), decide_eq_true ⟨hx, hy, hne⟩] at h3; cases bI_0.mp h3
  · rw [nI_ltI (by omega) (by decide)] at h3; omega
  · exact absurd ((nI_leI (by omega) (by decide)).mpr h2) h3
theorem d_setWeight_no (ho : isX10 lay o) (h : RD D o B (T, T', H, s, t)) {v w z : Int32} (hv : isPr T.1 v w = false ∨ z < nI 1 ∨ ¬ z ≤ nI 100) : am_MetI lay (d + 4) mX10_setWeight [.ref o, .int v, .int w, .int z] D (-1) D := by
  refine eX10_setWeight ho ⟨_, c_hasPair (X10.pr ho) h.1 _ _, fun _ => ⟨rfl, rfl⟩, fun h3 => ⟨fun _ => ⟨rfl, rfl⟩, fun h4 => ⟨fun h5 => ?_, fun _ => ⟨rfl, rfl⟩⟩⟩⟩
  rcases hv with h | h | h
  · rw [h] at h3; exact absurd rfl h3
  · exact absurd h h4
  · exact absurd h5 h
end DSK
