/-! the desk's methods: reads, lists, comparison -/
section DS2
variable {lay : List am_L} {d : Nat} {D : am_D} {o B : Nat} {T T' : am_T} {H : List am_T} {s t : List Nat}
theorem RD.n10 (h : RD D o B (T, T', H, s, t)) : T.1 ≤ 10 := h.2.1.1.2.1
theorem d_recall (ho : isX10 lay o) (h : RD D o B (T, T', H, s, t)) : ∃ D1, am_MetI lay (d + 4) mX10_recall [.ref o] D (nI T'.1) D1 ∧ RD D1 o (B + 1) (T', T', pushH H T, s, t) ∧ onlyD D D1 o := by
  obtain ⟨D2, r0, r1, r2⟩ := d_record (d := d) ho h
  have hB2 : brdT D2 (o + 4) T' := h.2.2.1.keep fun q hq => r2 q (by unfold inH; omega)
  obtain ⟨D3, s1, s2, s3⟩ := c_copyFrom (d := d + 2) (b := o + 1) (a := o + 4) (X10.pr ho) (X10.kp ho) hB2 (by omega)
  obtain ⟨g1, g2⟩ := d_step h r1 r2 (T2 := T') s2 h.2.2.2.1 (fun q a b c _ _ => s3.1 q a b c) s3.stq
  exact ⟨D3, eX10_recall ho ⟨D2, r0, D3, s1, _, c_size (X10.pr ho) s2, rfl, rfl⟩, g1, g2⟩
theorem c_h_size (ho : isX3 lay o) (h : rH D o H) : am_MetP lay d mX3_size [.ref o] D (nI H.length) := by
  obtain ⟨-, -, old, -, -, e2, -⟩ := h
  exact eX3_size ho ⟨by rw [e2], rfl⟩
theorem c_h_isEmpty (ho : isX3 lay o) (h : rH D o H) : am_MetP lay d mX3_isEmpty [.ref o] D (bI (decide (H.length = 0))) := by
  obtain ⟨h8, -, old, -, -, e2, -⟩ := h
  refine eX3_isEmpty ho ?_
  rw [e2, nI_eq (by omega) (by decide)]
  exact ⟨fun h => ⟨by rw [decide_eq_false h]; rfl, rfl⟩, fun h => ⟨by rw [decide_eq_true (Classical.not_not.mp h)]; rfl, rfl⟩⟩
theorem d_undo_no (ho : isX10 lay o) (h : RD D o B (T, T', [], s, t)) : am_MetI lay (d + 4) mX10_undo [.ref o] D (-2) D :=
  eX10_undo ho ⟨_, c_h_isEmpty (X10.hi ho) h.2.2.2.2.1, fun h => absurd (show bI true = nI 0 from h) (by decide), fun _ => ⟨rfl, rfl⟩⟩
theorem d_undo (ho : isX10 lay o) {U : am_T} (h : RD D o B (T, T', H ++ [U], s, t)) : ∃ D1, am_MetI lay (d + 4) mX10_undo [.ref o] D (nI H.length) D1 ∧ RD D1 o (B + 1) (U, T', H, s, t) ∧ onlyD D D1 o := by
  obtain ⟨D2, r1, r2, r3, r4, r5, r6, r7⟩ := c_takeLatest (d := d) (X10.hi ho) (X10.pr ho) h.2.2.2.2.1 (by omega)
  refine ⟨D2, eX10_undo ho ⟨_, c_h_isEmpty (X10.hi ho) h.2.2.2.2.1, fun _ => ⟨D2, r1, _, c_h_size (X10.hi ho) r2, rfl, rfl⟩, fun h3 => ?_⟩, h.change r3 r4 r2 r7 (fun q hq => ?_), fun q hq => r5 q (by omega) (by omega) (by omega) (by omega)⟩
  · rw [decide_eq_false (by simp)] at h3; exact absurd rfl h3
  · unfold rest_ at hq
    exact r5 q (by omega) (by omega) (by omega) (by omega)
/-- sequence or text change -/
theorem RD.lists {D1 : am_D} {s' t' : List Nat} (h : RD D o B (T, T', H, s, t)) (hs : rL D1 (o + 33) 10 s' ∧ ∀ x ∈ s', x ≤ 9) (ht : rL D1 (o + 35) 120 t' ∧ okX t') (hfr : ∀ q, q ≠ o + 33 → q ≠ o + 34 → q ≠ o + 35 → q ≠ o + 36 → D1 q = D q) : RD D1 o B (T, T', H, s', t') ∧ (onlyD D D1 o) := by
  obtain ⟨a1, a2, a3, a4, a5, -, -, a10, u, v, a11, a12, a13, a14, a15⟩ := h
  obtain ⟨b1, b2, old, b3, b4, b5, b6⟩ := a5
  have fr : ∀ j, (j ≤ 32) ∨ (37 ≤ j) → D1 (o + j) = D (o + j) := fun j hj => hfr _ (by omega) (by omega) (by omega) (by omega)
  refine ⟨⟨a1.keep fun q hq => hfr q (by omega) (by omega) (by omega) (by omega), a2, a3.keep fun q hq => hfr q (by omega) (by omega) (by omega) (by omega), a4, ⟨b1, b2, old, b3, by rw [fr 7 (by omega)]; exact b4, by rw [fr 7 (by omega)]; exact b5, fun i U hi => (b6 i U hi).keep fun q hq => hfr q (by omega) (by omega) (by omega) (by omega)⟩, hs, ht, a10.keep (fr 46 (by omega)) (fr 47 (by omega)) (fr 48 (by omega)), u, v, by rw [fr 1 (by omega)]; exact a11, by rw [fr 45 (by omega)]; exact a12, a13, a14, fun e => (a15 e).keep (fr 46 (by omega)) (fr 47 (by omega)) (fr 48 (by omega))⟩, fun q hq => hfr q (by omega) (by omega) (by omega) (by omega)⟩
theorem X10.sq (ho : isX10 lay o) : isX8 lay (o + 33) := ho.2.2.2.2.1
theorem X10.tx (ho : isX10 lay o) : isX7 lay (o + 35) := ho.2.2.2.2.2.1
theorem d_append_no (ho : isX10 lay o) {v : Int32} (hv : v < nI 0 ∨ ¬ v ≤ nI 9) : am_MetI lay (d + 1) mX10_append [.ref o, .int v] D (-1) D := by
  refine eX10_append ho ⟨fun _ => ⟨rfl, rfl⟩, fun h1 => ⟨fun h2 => ?_, fun _ => ⟨rfl, rfl⟩⟩⟩
  rcases hv with h | h
  · exact absurd h h1
  · exact absurd h2 h
theorem d_append_full (ho : isX10 lay o) (h : RD D o B (T, T', H, s, t)) (hl : s.length = 10) {x : Nat} (hx : x ≤ 9) : am_MetI lay (d + 1) mX10_append [.ref o, .int (nI x)] D (-3) D :=
  eX10_append ho ⟨fun h3 => absurd h3 (nn_neg (by omega)), fun _ => ⟨fun _ => ⟨_, D, c_s_add_full (X10.sq ho) h.2.2.2.2.2.1.1 hl _, fun _ => ⟨rfl, rfl⟩, fun h3 => absurd rfl h3⟩, fun h3 => absurd ((nI_leI (by omega) (by decide)).mpr hx) h3⟩⟩
theorem d_append (ho : isX10 lay o) (h : RD D o B (T, T', H, s, t)) (hl : s.length < 10) {x : Nat} (hx : x ≤ 9) : ∃ D1, am_MetI lay (d + 1) mX10_append [.ref o, .int (nI x)] D (nI (s.length + 1)) D1 ∧ RD D1 o B (T, T', H, s ++ [x], t) ∧ onlyD D D1 o := by
  have hr := h.2.2.2.2.2.1
  have hp := hr.1.push hl x
  have hfr : ∀ q, q ≠ o + 33 → q ≠ o + 34 → q ≠ o + 35 → q ≠ o + 36 → am_up (am_up D (o + 33 + 1) s.length (nI x)) (o + 33) 1 (nI (s.length + 1)) q = D q := fun q a b _ _ => by rw [am_up_ne q a, am_up_ne q b]
  have hx2 := h.2.2.2.2.2.2.1
  obtain ⟨g1, g2⟩ := h.lists (s' := s ++ [x]) (t' := t) ⟨hp, fun y hy => by
    rcases List.mem_append.mp hy with h1 | h1
    · exact hr.2 y h1
    · rw [List.mem_singleton.mp h1]; exact hx⟩ ⟨hx2.1.keep (by rw [am_up_ne _ (by omega), am_up_ne _ (by omega)]) (by rw [am_up_ne _ (by omega), am_up_ne _ (by omega)]), hx2.2⟩ hfr
  have hsz := c_s_size (d := d) (X10.sq ho) hp
  rw [List.length_append, List.length_singleton] at hsz
  exact ⟨_, eX10_append ho ⟨fun h3 => absurd h3 (nn_neg (by omega)), fun _ => ⟨fun _ => ⟨_, _, c_s_add (X10.sq ho) hr.1 hl _, fun h3 => absurd h3 (by decide), fun _ => ⟨_, hsz, rfl, rfl⟩⟩, fun h3 => absurd ((nI_leI (by omega) (by decide)).mpr hx) h3⟩⟩, g1, g2⟩
theorem d_clearSequence (ho : isX10 lay o) (h : RD D o B (T, T', H, s, t)) : ∃ D1, am_MetI lay (d + 1) mX10_clearSequence [.ref o] D (nI s.length) D1 ∧ RD D1 o B (T, T', H, [], t) ∧ onlyD D D1 o := by
  have hr := h.2.2.2.2.2.1
  have hx2 := h.2.2.2.2.2.2.1
  obtain ⟨g1, g2⟩ := h.lists (D1 := am_up D (o + 33) 1 (nI 0)) (s' := []) (t' := t) ⟨rL.nil (D := D) (by simp [am_up]), fun y hy => by cases hy⟩ ⟨hx2.1.keep (am_up_ne _ (by omega)) (am_up_ne _ (by omega)), hx2.2⟩ (fun q a _ _ _ => am_up_ne q a)
  exact ⟨_, eX10_clearSequence ho ⟨_, c_s_size (X10.sq ho) hr.1, _, c_s_empty (X10.sq ho), rfl, rfl⟩, g1, g2⟩
theorem d_checkSequence (ho : isX10 lay o) (h : RD D o B (T, T', H, s, t)) : am_MetP lay (d + 4) mX10_checkSequence [.ref o] D (chkSeq s) := eX10_checkSequence ho ⟨_, c_failingCount (X10.sq ho) h.2.2.2.2.2.1.1 h.2.2.2.2.2.1.2, rfl, rfl⟩
theorem d_type_no (ho : isX10 lay o) {v : Int32} (hv : v < nI 32 ∨ ¬ v ≤ nI 126) : am_MetI lay (d + 1) mX10_type [.ref o, .int v] D (-1) D := by
  refine eX10_type ho ⟨fun _ => ⟨rfl, rfl⟩, fun h1 => ⟨fun h2 => ?_, fun _ => ⟨rfl, rfl⟩⟩⟩
  rcases hv with h | h
  · exact absurd h h1
  · exact absurd h2 h
theorem i2c_n : ∀ x, x < 127 → ((nI x).toUInt32 % 65536).toInt32 = nI x := by decide +kernel
theorem d_type_full (ho : isX10 lay o) (h : RD D o B (T, T', H, s, t)) (hl : t.length = 120) {x : Nat} (h1 : 32 ≤ x) (h2 : x ≤ 126) : am_MetI lay (d + 1) mX10_type [.ref o, .int (nI x)] D (-3) D := by
  refine eX10_type ho ⟨fun h3 => ?_, fun _ => ⟨fun _ => ⟨_, D, c_x_add_full (X10.tx ho) h.2.2.2.2.2.2.1.1 hl _, fun _ => ⟨rfl, rfl⟩, fun h3 => absurd rfl h3⟩, fun h3 => absurd ((nI_leI (by omega) (by decide)).mpr h2) h3⟩⟩
  rw [nI_ltI (by omega) (by decide)] at h3; omega
theorem d_type (ho : isX10 lay o) (h : RD D o B (T, T', H, s, t)) (hl : t.length < 120) {x : Nat} (h1 : 32 ≤ x) (h2 : x ≤ 126) : ∃ D1, am_MetI lay (d + 1) mX10_type [.ref o, .int (nI x)] D (nI (t.length + 1)) D1 ∧ RD D1 o B (T, T', H, s, t ++ [x]) ∧ onlyD D D1 o := by
  have hr := h.2.2.2.2.2.2.1
  have hs := h.2.2.2.2.2.1
  have hp := hr.1.push hl x
  have hfr : ∀ q, q ≠ o + 33 → q ≠ o + 34 → q ≠ o + 35 → q ≠ o + 36 → am_up (am_up D (o + 35 + 1) t.length (nI x)) (o + 35) 1 (nI (t.length + 1)) q = D q := fun q _ _ a b => by rw [am_up_ne q a, am_up_ne q b]
  obtain ⟨g1, g2⟩ := h.lists (s' := s) (t' := t ++ [x]) ⟨hs.1.keep (by rw [am_up_ne _ (by omega), am_up_ne _ (by omega)]) (by rw [am_up_ne _ (by omega), am_up_ne _ (by omega)]), hs.2⟩ ⟨hp, fun y hy => by
    rcases List.mem_append.mp hy with h3 | h3
    · exact hr.2 y h3
    · rw [List.mem_singleton.mp h3]; exact ⟨h1, h2⟩⟩ hfr
  have hsz := c_x_size (d := d) (X10.tx ho) hp
  rw [List.length_append, List.length_singleton] at hsz
  have hadd := c_x_add (d := d) (X10.tx ho) hr.1 hl (x := x) (by omega)
  rw [← i2c_n x (by omega)] at hadd
  refine ⟨_, eX10_type ho ⟨fun h3 => ?_, fun _ => ⟨fun _ => ⟨_, _, hadd, fun h3 => absurd h3 (by decide), fun _ => ?_⟩, fun h3 => absurd ((nI_leI (by omega) (by decide)).mpr h2) h3⟩⟩, g1, g2⟩
  · rw [nI_ltI (by omega) (by decide)] at h3; omega
  · rw [i2c_n x (by omega)]; exact ⟨_, hsz, rfl, rfl⟩
theorem d_clearText (ho : isX10 lay o) (h : RD D o B (T, T', H, s, t)) : ∃ D1, am_MetI lay (d + 1) mX10_clearText [.ref o] D (nI t.length) D1 ∧ RD D1 o B (T, T', H, s, []) ∧ onlyD D D1 o := by
  have hs := h.2.2.2.2.2.1
  have hx2 := h.2.2.2.2.2.2.1
  obtain ⟨g1, g2⟩ := h.lists (D1 := am_up D (o + 35) 1 (nI 0)) (s' := s) (t' := []) ⟨hs.1.keep (am_up_ne _ (by omega)) (am_up_ne _ (by omega)), hs.2⟩ ⟨rL.nil (D := D) (by simp [am_up]), fun y hy => by cases hy⟩ (fun q _ _ a _ => am_up_ne q a)
  exact ⟨_, eX10_clearText ho ⟨_, c_x_size (X10.tx ho) hx2.1, _, c_x_empty (X10.tx ho), rfl, rfl⟩, g1, g2⟩
theorem d_fault (ho : isX10 lay o) (h : RD D o B (T, T', H, s, t)) : am_MetP lay (d + 4) mX10_fault [.ref o] D (fault_ T.1 t) := eX10_fault ho ⟨_, c_faultFor (X10.tx ho) h.2.2.2.2.2.2.1.1 h.2.2.2.2.2.2.1.2 (X10.pr ho) h.1, rfl, rfl⟩
theorem d_players (ho : isX10 lay o) (h : RD D o B (T, T', H, s, t)) : am_MetP lay (d + 1) mX10_players [.ref o] D (nI T.1) := eX10_players ho ⟨_, c_size (X10.pr ho) h.1, rfl, rfl⟩
theorem d_components (ho : isX10 lay o) (h : RD D o B (T, T', H, s, t)) : am_MetP lay (d + 4) mX10_components [.ref o] D (nI (cpt T.1 T.2.1 10 0)) := eX10_components ho ⟨_, c_countParts (X10.pr ho) h.1 h.2.1.1, rfl, rfl⟩
/-- a method that asks for a player first, and answers -1 else -/
theorem d_score (ho : isX10 lay o) (h : RD D o B (T, T', H, s, t)) (v : Int32) : (isP T.1 v = false → am_MetP lay (d + 2) mX10_score [.ref o, .int v] D (-1)) ∧ ∀ p, p < T.1 → v = nI p → am_MetP lay (d + 2) mX10_score [.ref o, .int v] D (nI (sc T.2.1 p)) := by
  have h10 := h.n10
  refine ⟨fun hv => eX10_score ho ⟨_, c_has (X10.pr ho) h.1 v, fun _ => ⟨rfl, rfl⟩, fun h3 => ?_⟩, fun p hp hv => ?_⟩
  · rw [hv] at h3; exact absurd rfl h3
  · subst hv
    refine eX10_score ho ⟨_, c_has (X10.pr ho) h.1 _, fun h3 => ?_, fun _ => ⟨_, c_winsOf (X10.pr ho) h.1 h.2.1.1 (by omega), rfl, rfl⟩⟩
    rw [isP_n h10 (by omega), decide_eq_true hp] at h3; cases bI_0.mp h3
theorem d_componentOf (ho : isX10 lay o) (h : RD D o B (T, T', H, s, t)) (v : Int32) : (isP T.1 v = false → am_MetP lay (d + 4) mX10_componentOf [.ref o, .int v] D (-1)) ∧ ∀ p, p < T.1 → v = nI p → am_MetP lay (d + 4) mX10_componentOf [.ref o, .int v] D (nI (pnm T.1 T.2.1 p 10 0)) := by
  have h10 := h.n10
  refine ⟨fun hv => eX10_componentOf ho ⟨_, c_has (X10.pr ho) h.1 v, fun _ => ⟨rfl, rfl⟩, fun h3 => ?_⟩, fun p hp hv => ?_⟩
  · rw [hv] at h3; exact absurd rfl h3
  · subst hv
    refine eX10_componentOf ho ⟨_, c_has (X10.pr ho) h.1 _, fun h3 => ?_, fun _ => ⟨_, c_partNumber (X10.pr ho) h.1 h.2.1.1 (by omega), rfl, rfl⟩⟩
    rw [isP_n h10 (by omega), decide_eq_true hp] at h3; cases bI_0.mp h3
theorem d_cycleLengths (ho : isX10 lay o) (h : RD D o B (T, T', H, s, t)) (v : Int32) : (isP T.1 v = false → am_MetP lay (d + 5) mX10_cycleLengths [.ref o, .int v] D (-1)) ∧ ∀ p, p < T.1 → v = nI p → am_MetP lay (d + 5) mX10_cycleLengths [.ref o, .int v] D (nI (cnt (prt T.1 T.2.1 p) - 2)) := by
  have h10 := h.n10
  refine ⟨fun hv => eX10_cycleLengths ho ⟨_, c_has (X10.pr ho) h.1 v, fun _ => ⟨rfl, rfl⟩, fun h3 => ?_⟩, fun p hp hv => ?_⟩
  · rw [hv] at h3; exact absurd rfl h3
  · subst hv
    refine eX10_cycleLengths ho ⟨_, c_has (X10.pr ho) h.1 _, fun h3 => ?_, fun _ => ⟨_, c_countLengths (X10.pr ho) h.1 h.2.1.1 (by omega), rfl, rfl⟩⟩
    rw [isP_n h10 (by omega), decide_eq_true hp] at h3; cases bI_0.mp h3
theorem d_beats (ho : isX10 lay o) (h : RD D o B (T, T', H, s, t)) (v w : Int32) : (isP T.1 v = false ∨ isP T.1 w = false → am_MetP lay (d + 2) mX10_beats [.ref o, .int v, .int w] D (-1)) ∧ ∀ p q, p < T.1 → q < T.1 → v = nI p → w = nI q → am_MetP lay (d + 2) mX10_beats [.ref o, .int v, .int w] D (bI (T.2.1 p q)) := by
  have h10 := h.n10
  refine ⟨fun hv => eX10_beats ho ⟨_, c_has (X10.pr ho) h.1 v, fun _ => ⟨rfl, rfl⟩, fun h3 => ⟨_, c_has (X10.pr ho) h.1 w, fun h4 => ?_, fun _ => ⟨rfl, rfl⟩⟩⟩, fun p q hp hq hv hw => ?_⟩
  · rcases hv with e | e
    · rw [e] at h3; exact absurd rfl h3
    · rw [e] at h4; exact absurd rfl h4
  · subst hv; subst hw
    have e1 : isP T.1 (nI p) = true := by rw [isP_n h10 (by omega), decide_eq_true hp]
    have e2 : isP T.1 (nI q) = true := by rw [isP_n h10 (by omega), decide_eq_true hq]
    refine eX10_beats ho ⟨_, c_has (X10.pr ho) h.1 _, fun h3 => ?_, fun _ => ⟨_, c_has (X10.pr ho) h.1 _, fun _ => ⟨_, c_wins (X10.pr ho) h.1 h.2.1.1 (by omega) (by omega), fun h5 => ⟨by rw [bI_0.mp h5]; rfl, rfl⟩, fun h5 => ⟨by rw [bI_n0.mp h5]; rfl, rfl⟩⟩, fun h3 => ?_⟩⟩
    · rw [e1] at h3; cases bI_0.mp h3
    · rw [e2] at h3; exact absurd (by decide) h3
theorem d_weight (ho : isX10 lay o) (h : RD D o B (T, T', H, s, t)) (v w : Int32) : (isPr T.1 v w = false → am_MetP lay (d + 2) mX10_weight [.ref o, .int v, .int w] D (-1)) ∧ ∀ p q, p < T.1 → q < T.1 → p ≠ q → v = nI p → w = nI q → am_MetP lay (d + 2) mX10_weight [.ref o, .int v, .int w] D (nI (T.2.2 p q)) := by
  have h10 := h.n10
  refine ⟨fun hv => eX10_weight ho ⟨_, c_hasPair (X10.pr ho) h.1 v w, fun _ => ⟨rfl, rfl⟩, fun h3 => ?_⟩, fun p q hp hq hne hv hw => ?_⟩
  · rw [hv] at h3; exact absurd rfl h3
  · subst hv; subst hw
    refine eX10_weight ho ⟨_, c_hasPair (X10.pr ho) h.1 _ _, fun h3 => ?_, fun _ => ⟨_, c_weightOf (X10.pr ho) h.1 h.2.1.1 hp hq, rfl, rfl⟩⟩
    rw [isPr_n h10 (by omega) (by omega), decide_eq_true ⟨hp, hq, hne⟩] at h3; cases bI_0.mp h3
theorem d_distance (ho : isX10 lay o) (h : RD D o B (T, T', H, s, t)) (v w : Int32) : (isP T.1 v = false ∨ isP T.1 w = false → am_MetP lay (d + 3) mX10_distance [.ref o, .int v, .int w] D (-1)) ∧ ∀ p q, p < T.1 → q < T.1 → v = nI p → w = nI q → am_MetP lay (d + 3) mX10_distance [.ref o, .int v, .int w] D (dst T.1 T.2.1 p q) := by
  have h10 := h.n10
  refine ⟨fun hv => eX10_distance ho ⟨_, c_has (X10.pr ho) h.1 v, fun _ => ⟨rfl, rfl⟩, fun h3 => ⟨_, c_has (X10.pr ho) h.1 w, fun h4 => ?_, fun _ => ⟨rfl, rfl⟩⟩⟩, fun p q hp hq hv hw => ?_⟩
  · rcases hv with e | e
    · rw [e] at h3; exact absurd rfl h3
    · rw [e] at h4; exact absurd rfl h4
  · subst hv; subst hw
    have e1 : isP T.1 (nI p) = true := by rw [isP_n h10 (by omega), decide_eq_true hp]
    have e2 : isP T.1 (nI q) = true := by rw [isP_n h10 (by omega), decide_eq_true hq]
    refine eX10_distance ho ⟨_, c_has (X10.pr ho) h.1 _, fun h3 => ?_, fun _ => ⟨_, c_has (X10.pr ho) h.1 _, fun _ => ⟨_, c_stepsBetween (X10.pr ho) h.1 h.2.1.1 hp hq, rfl, rfl⟩, fun h3 => ?_⟩⟩
    · rw [e1] at h3; cases bI_0.mp h3
    · rw [e2] at h3; exact absurd (by decide) h3
end DS2
