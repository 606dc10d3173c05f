/-! the desk's methods: reversals of a player, exchange, construction, entry, store, comparison, orders -/
def rvI (be : Nat → Nat → Bool) (x i p q : Nat) : Bool := if (p = x ∧ q < i ∧ q ≠ x) ∨ (q = x ∧ p < i ∧ p ≠ x) then !be p q else be p q
section DS3
variable {lay : List am_L} {d : Nat} {D : am_D} {o B : Nat} {T T' : am_T} {H : List am_T} {s t : List Nat} {n : Nat} {be : Nat → Nat → Bool} {we : Nat → Nat → Nat}
theorem rvI_step {x i : Nat} (h : i ≠ x) : flp (rvI be x i) x i = rvI be x (i + 1) := by
  funext p q
  unfold flp rvI
  by_cases c : (p = x ∧ q = i) ∨ (p = i ∧ q = x)
  · rw [if_pos c, if_neg (by omega), if_pos (by omega)]
  · rw [if_neg c]
    by_cases e : (p = x ∧ q < i ∧ q ≠ x) ∨ (q = x ∧ p < i ∧ p ≠ x)
    · rw [if_pos e, if_pos (by omega)]
    · rw [if_neg e, if_neg (by omega)]
theorem rvI_same {x : Nat} : rvI be x x = rvI be x (x + 1) := by
  funext p q
  unfold rvI
  have : ((p = x ∧ q < x ∧ q ≠ x) ∨ (q = x ∧ p < x ∧ p ≠ x)) ↔ ((p = x ∧ q < x + 1 ∧ q ≠ x) ∨ (q = x ∧ p < x + 1 ∧ p ≠ x)) := by omega
  simp only [this]
theorem rvI_trn (hT : trn n be) {x : Nat} (hx : x < n) : ∀ i, i ≤ n → trn n (rvI be x i) := by
  intro i
  induction i with
  | zero =>
    intro _
    have : rvI be x 0 = be := by funext p q; simp [rvI]
    rw [this]; exact hT
  | succ i ih =>
    intro hi
    by_cases e : i = x
    · subst e; rw [← rvI_same]; exact ih (by omega)
    · rw [← rvI_step e]; exact flp_trn (ih (by omega)) hx (by omega) (Ne.symm e)
theorem l_reversePlayer (ho : isX10 lay o) (hT : trn n be) {x : Nat} (hx : x < n) : ∀ j i D, i + j = n → brd D (o + 1) n (rvI be x i) we → ∃ D1, brd D1 (o + 1) n (rvI be x n) we ∧ chg D D1 (o + 1) j ∧ ∀ Q : Option Value → am_D → Prop, Q (some (.int (nI (sc (rvI be x n) x)))) D1 → am_AW lay (d + 3) mX10_reversePlayer 26 [.ref o, .int (nI x), .int (nI i)] [] D Q := by
  have h10 := hT.2.1
  intro j
  induction j with
  | zero =>
    intro i D hi hB
    obtain rfl : i = n := by omega
    exact ⟨D, hB, chg.rf, fun Q hQ => rX10_reversePlayer_26 ho ⟨_, c_size (X10.pr ho) hB, fun _ => ⟨_, c_winsOf (X10.pr ho) hB (rvI_trn hT hx _ (Nat.le_refl _)) (by omega), hQ⟩, fun h => absurd (nI_le (Nat.le_refl _) (by omega)) h⟩⟩
  | succ j ih =>
    intro i D hi hB
    have hTi := rvI_trn hT hx i (by omega)
    have hout : ¬ nI n ≤ nI i := by rw [nI_leI (by omega) (by omega)]; omega
    by_cases e : i = x
    · subst e
      obtain ⟨D1, a1, a2, a3⟩ := ih (i + 1) D (by omega) (by rw [← rvI_same]; exact hB)
      refine ⟨D1, a1, a2.mono (by omega), fun Q hQ => rX10_reversePlayer_26 ho ⟨_, c_size (X10.pr ho) hB, fun h => absurd h hout, fun _ => ⟨D, c_turn_no (X10.pr ho) hB hTi hx, ?_⟩⟩⟩
      rw [nI_add]; exact a3 Q hQ
    · obtain ⟨D3, s1, s2, s3⟩ := c_turn (d := d) (X10.pr ho) hB hTi hx (by omega : i < n) (Ne.symm e)
      rw [rvI_step e] at s2
      obtain ⟨D1, a1, a2, a3⟩ := ih (i + 1) D3 (by omega) s2
      refine ⟨D1, a1, (s3.tr a2).mono (by omega), fun Q hQ => rX10_reversePlayer_26 ho ⟨_, c_size (X10.pr ho) hB, fun h => absurd h hout, fun _ => ⟨D3, s1, ?_⟩⟩⟩
      rw [nI_add]; exact a3 Q hQ
theorem d_no1 (ho : isX10 lay o) (h : RD D o B (T, T', H, s, t)) {v : Int32} (hv : isP T.1 v = false) : am_MetI lay (d + 4) mX10_reversePlayer [.ref o, .int v] D (-1) D := by
  refine eX10_reversePlayer ho ⟨_, c_has (X10.pr ho) h.1 v, fun h3 => ?_, fun _ => ⟨rfl, rfl⟩⟩
  rw [hv] at h3; exact absurd rfl h3
theorem d_reversePlayer (ho : isX10 lay o) (h : RD D o B (T, T', H, s, t)) {x : Nat} (hx : x < T.1) : ∃ D1, am_MetI lay (d + 4) mX10_reversePlayer [.ref o, .int (nI x)] D (nI (sc (rvI T.2.1 x T.1) x)) D1 ∧ RD D1 o (B + 10) ((T.1, rvI T.2.1 x T.1, T.2.2), T', pushH H T, s, t) ∧ onlyD D D1 o := by
  have h10 := h.n10
  obtain ⟨D2, r0, r1, r2⟩ := d_record (d := d) ho h
  have hB2 : brdT D2 (o + 1) T := h.1.keep fun q hq => r2 q (by unfold inH; omega)
  have e0 : rvI T.2.1 x 0 = T.2.1 := by funext p q; simp [rvI]
  have hT : trn T.1 T.2.1 := h.2.1.1
  obtain ⟨D3, s1, s2, s3⟩ := l_reversePlayer (d := d + 1) ho hT hx (we := T.2.2) T.1 0 D2 (by omega) (by rw [e0]; exact hB2)
  obtain ⟨g1, g2⟩ := d_step h r1 r2 (T2 := (T.1, rvI T.2.1 x T.1, T.2.2)) s1 ⟨rvI_trn h.2.1.1 hx _ (Nat.le_refl _), h.2.1.2⟩ (fun q a b c _ _ => s2.1 q a b c) (s2.mono h10).stq
  refine ⟨D3, eX10_reversePlayer ho ⟨_, c_has (X10.pr ho) h.1 _, fun _ => ⟨D2, r0, s3 _ ⟨rfl, rfl⟩⟩, fun h3 => ?_⟩, g1, g2⟩
  rw [Classical.not_not, isP_n h10 (by omega), decide_eq_true hx] at h3; cases bI_0.mp h3
theorem ok_xbe (h : okT T) {x y : Nat} (hx : x < T.1) (hy : y < T.1) : okT (T.1, xbe T.2.1 x y, xwi T.2.2 x y T.1) := by
  have h10 : T.1 ≤ 10 := h.1.2.1
  refine ⟨xbe_trn h.1 hx hy, fun p q => ?_, fun p q => ?_, fun p q hpq => ?_⟩
  · show gxi T.2.2 x y T.1 p q = gxi T.2.2 x y T.1 q p
    unfold gxi
    rw [h.2.1 (tau x y p), h.2.1 p q]
    by_cases c : (q < T.1 ∧ q ≠ x ∧ q ≠ y) ∨ (p < T.1 ∧ p ≠ x ∧ p ≠ y)
    · rw [if_pos c, if_pos (by omega)]
    · rw [if_neg c, if_neg (by omega)]
  · show 1 ≤ gxi T.2.2 x y T.1 p q ∧ gxi T.2.2 x y T.1 p q ≤ 100
    unfold gxi
    split
    · exact h.2.2.1 _ _
    · exact h.2.2.1 _ _
  · show gxi T.2.2 x y T.1 p q = 1
    unfold gxi
    split
    · refine h.2.2.2 _ _ ?_
      rcases hpq with hp | hq
      · left; rw [tau_o (by omega) (by omega)]; exact hp
      · right; rw [tau_o (by omega) (by omega)]; exact hq
    · exact h.2.2.2 _ _ hpq
theorem d_exchange_no (ho : isX10 lay o) (h : RD D o B (T, T', H, s, t)) {v w : Int32} (hv : isP T.1 v = false ∨ isP T.1 w = false) : am_MetI lay (d + 5) mX10_exchange [.ref o, .int v, .int w] D (-1) D := by
  refine eX10_exchange ho ⟨_, c_has (X10.pr ho) h.1 v, fun _ => ⟨rfl, rfl⟩, fun h3 => ⟨_, c_has (X10.pr ho) h.1 w, fun h4 => ?_, fun _ => ⟨rfl, rfl⟩⟩⟩
  rcases hv with e | e
  · rw [e] at h3; exact absurd rfl h3
  · rw [e] at h4; exact absurd rfl h4
theorem d_exchange (ho : isX10 lay o) (h : RD D o B (T, T', H, s, t)) {x y : Nat} (hx : x < T.1) (hy : y < T.1) : ∃ D1, am_MetI lay (d + 5) mX10_exchange [.ref o, .int (nI x), .int (nI y)] D (nI (sc (xbe T.2.1 x y) x)) D1 ∧ RD D1 o (B + 41) ((T.1, xbe T.2.1 x y, xwi T.2.2 x y T.1), T', pushH H T, s, t) ∧ onlyD D D1 o := by
  have h10 := h.n10
  obtain ⟨D2, r0, r1, r2⟩ := d_record (d := d + 1) ho h
  have hB2 : brdT D2 (o + 1) T := h.1.keep fun q hq => r2 q (by unfold inH; omega)
  obtain ⟨D3, s1, s2, s3⟩ := c_swap (d := d) (X10.pr ho) hB2 h.2.1.1 h.2.1.2.1 hx hy
  obtain ⟨g1, g2⟩ := d_step h r1 r2 (T2 := (T.1, xbe T.2.1 x y, xwi T.2.2 x y T.1)) s2 (ok_xbe h.2.1 hx hy) (fun q a b c _ _ => s3.1 q a b c) s3.stq
  have e1 : isP T.1 (nI x) = true := by rw [isP_n h10 (by omega), decide_eq_true hx]
  have e2 : isP T.1 (nI y) = true := by rw [isP_n h10 (by omega), decide_eq_true hy]
  refine ⟨D3, eX10_exchange ho ⟨_, c_has (X10.pr ho) h.1 _, fun h3 => ?_, fun _ => ⟨_, c_has (X10.pr ho) h.1 _, fun _ => ⟨D2, r0, D3, s1, _, c_winsOf (X10.pr ho) s2 (xbe_trn h.2.1.1 hx hy) (by omega), rfl, rfl⟩, fun h3 => ?_⟩⟩, g1, g2⟩
  · rw [e1] at h3; cases bI_0.mp h3
  · rw [e2] at h3; exact absurd (by decide) h3
theorem d_enter_no (ho : isX10 lay o) (h : RD D o B (T, T', H, s, t)) (hf : ¬ fault_ T.1 t = -4) : am_MetI lay (d + 5) mX10_enter [.ref o] D (-2) D :=
  eX10_enter ho ⟨_, c_faultFor (X10.tx ho) h.2.2.2.2.2.2.1.1 h.2.2.2.2.2.2.1.2 (X10.pr ho) h.1, fun h3 => absurd h3 hf, fun _ => ⟨rfl, rfl⟩⟩
theorem d_enter (ho : isX10 lay o) (h : RD D o B (T, T', H, s, t)) (hf : fault_ T.1 t = -4) : ∃ D1, am_MetI lay (d + 5) mX10_enter [.ref o] D (nI ((t.length + 3) / 4)) D1 ∧ RD D1 o (B + 31) ((T.1, entB t 31 0 T.2.1, T.2.2), T', pushH H T, s, t) ∧ onlyD D D1 o := by
  have hx := h.2.2.2.2.2.2.1
  obtain ⟨D2, r0, r1, r2⟩ := d_record (d := d + 1) ho h
  have hB2 : brdT D2 (o + 1) T := h.1.keep fun q hq => r2 q (by unfold inH; omega)
  have hx2 : rL D2 (o + 35) 120 t := hx.1.keep (r2 _ (by unfold inH; omega)) (r2 _ (by unfold inH; omega))
  obtain ⟨D3, s1, s2, s3⟩ := c_enterInto (d := d) (X10.tx ho) hx2 hx.2 (X10.pr ho) h.2.1.1 hB2 hf (by omega)
  obtain ⟨g1, g2⟩ := d_step h r1 r2 (T2 := (T.1, entB t 31 0 T.2.1, T.2.2)) s2 ⟨entB_trn hx.2 hx.1.1 31 0 _ h.2.1.1 hf, h.2.1.2⟩ (fun q a b c _ _ => s3.1 q a b c) s3.stq
  exact ⟨D3, eX10_enter ho ⟨_, c_faultFor (X10.tx ho) hx.1 hx.2 (X10.pr ho) h.1, fun _ => ⟨D2, r0, _, D3, s1, rfl, rfl⟩, fun h3 => absurd hf h3⟩, g1, g2⟩
theorem X10.cn (ho : isX10 lay o) : isX1 lay (o + 37) := ho.2.2.2.2.2.2.1
theorem X10.pa (ho : isX10 lay o) : isX6 lay (o + 39) := ho.2.2.2.2.2.2.2.1
theorem X10.cy (ho : isX10 lay o) : isX2 lay (o + 42) := ho.2.2.2.2.2.2.2.2.1
theorem X10.od (ho : isX10 lay o) : isX5 lay (o + 45) := ho.2.2.2.2.2.2.2.2.2.1
theorem X10.lk (ho : isX10 lay o) : isX4 lay (o + 49) := ho.2.2.2.2.2.2.2.2.2.2
theorem d_construct_no (ho : isX10 lay o) (h : RD D o B (T, T', H, s, t)) (hc : ¬ chkSeq s = nI 0) : am_MetI lay (d + 7) mX10_construct [.ref o] D (-2) D :=
  eX10_construct ho ⟨_, c_failingCount (X10.sq ho) h.2.2.2.2.2.1.1 h.2.2.2.2.2.1.2, fun h3 => absurd h3 hc, fun _ => ⟨rfl, rfl⟩⟩
theorem d_construct (ho : isX10 lay o) (h : RD D o B (T, T', H, s, t)) (hc : chkSeq s = nI 0) (hok : ∀ k, k < 10 → (csR s k).1 ≠ 0 → csOK (csR s k)) : ∃ D1, am_MetI lay (d + 7) mX10_construct [.ref o] D (nI s.length) D1 ∧ RD D1 o (B + 101) ((s.length, csF s, fun _ _ => 1), T', pushH H T, s, t) ∧ onlyD D D1 o := by
  have hs := h.2.2.2.2.2.1
  have h2 : 2 ≤ s.length := by
    rcases Nat.lt_or_ge s.length 2 with q | q
    · unfold chkSeq at hc; rw [if_pos q] at hc; exact absurd hc (by decide)
    · exact q
  obtain ⟨D2, r0, r1, r2⟩ := d_record (d := d + 3) ho h
  have hs2 : rL D2 (o + 33) 10 s := hs.1.keep (r2 _ (by unfold inH; omega)) (r2 _ (by unfold inH; omega))
  obtain ⟨D3, s1, s2, s3, s4, s5, s6⟩ := c_build (d := d) (X10.cn ho) (X10.sq ho) (X10.pr ho) (Or.inr (by omega)) (by omega) hs2 hs.2 h2 hok
  generalize csF s = F at s2 s3 ⊢
  obtain ⟨g1, g2⟩ := d_step h r1 r2 (T2 := (s.length, F, fun _ _ => 1)) s3 ⟨s2, fun _ _ => rfl, fun _ _ => ⟨Nat.le_refl 1, (by decide : 1 ≤ 100)⟩, fun _ _ _ => rfl⟩ (fun q a b c e _ => s4 q a b c (by omega)) s6
  exact ⟨D3, eX10_construct ho ⟨_, c_failingCount (X10.sq ho) hs.1 hs.2, fun _ => ⟨D2, r0, D3, s1, _, c_size (X10.pr ho) s3, rfl, rfl⟩, fun h3 => absurd hc h3⟩, g1, g2⟩
theorem d_store (ho : isX10 lay o) (h : RD D o B (T, T', H, s, t)) : ∃ D1, am_MetI lay (d + 2) mX10_store [.ref o] D (nI T.1) D1 ∧ RD D1 o B (T, T, H, s, t) ∧ onlyD D D1 o := by
  obtain ⟨D3, s1, s2, s3⟩ := c_copyFrom (d := d) (b := o + 4) (a := o + 1) (X10.kp ho) (X10.pr ho) h.1 (by omega)
  have fr : ∀ q, q ≠ o + 4 → q ≠ o + 5 → q ≠ o + 6 → D3 q = D q := fun q a b c => s3.1 q a b c
  obtain ⟨a1, a2, a3, a4, a5, ⟨a6, a7⟩, ⟨a8, a9⟩, a10, u, v, a11, a12, a13, a14, a15⟩ := h
  obtain ⟨b1, b2, old, b3, b4, b5, b6⟩ := a5
  have fj : ∀ j, j < 4 ∨ 7 ≤ j → D3 (o + j) = D (o + j) := fun j hj => fr _ (by omega) (by omega) (by omega)
  refine ⟨D3, eX10_store ho ⟨D3, s1, _, c_size (X10.kp ho) s2, rfl, rfl⟩, ⟨a1.keep fun q hq => fr q (by omega) (by omega) (by omega), a2, s2, a2, ⟨b1, b2, old, b3, by rw [fj 7 (by omega)]; exact b4, by rw [fj 7 (by omega)]; exact b5, fun i U hi => (b6 i U hi).keep fun q hq => fr q (by omega) (by omega) (by omega)⟩, ⟨a6.keep (fj 33 (by omega)) (fj 34 (by omega)), a7⟩, ⟨a8.keep (fj 35 (by omega)) (fj 36 (by omega)), a9⟩, a10.keep (fj 46 (by omega)) (fj 47 (by omega)) (fj 48 (by omega)), u, v, by rw [fj 1 (by omega)]; exact a11, by rw [fj 45 (by omega)]; exact a12, a13, a14, fun e => (a15 e).keep (fj 46 (by omega)) (fj 47 (by omega)) (fj 48 (by omega))⟩, fun q hq => fr q (by omega) (by omega) (by omega)⟩
theorem d_difference (ho : isX10 lay o) (h : RD D o B (T, T', H, s, t)) : am_MetP lay (d + 2) mX10_difference [.ref o] D (if T.1 = T'.1 then nI (cdf T.1 T.2.1 T'.2.1 / 2) else -2) := by
  have h10 := h.n10
  have m10 : T'.1 ≤ 10 := h.2.2.2.1.1.2.1
  have hB : brd D (o + 1) T.1 T.2.1 T.2.2 := h.1
  have hC0 : brd D (o + 4) T'.1 T'.2.1 T'.2.2 := h.2.2.1
  refine eX10_difference ho ⟨_, c_size (X10.pr ho) hB, _, c_size (X10.kp ho) hC0, fun h3 => ?_, fun h3 => ?_⟩
  · rw [nI_eq (by omega) (by omega)] at h3
    rw [if_neg h3]; exact ⟨rfl, rfl⟩
  · rw [Classical.not_not, nI_eq (by omega) (by omega)] at h3
    have hC := h.2.2.1
    have hU := h.2.2.2.1.1
    rw [if_pos h3]
    have hC' : brd D (o + 4) T.1 T'.2.1 T'.2.2 := by rw [h3]; exact hC
    have hU' : trn T.1 T'.2.1 := by rw [h3]; exact hU
    exact ⟨_, c_countDiffering (X10.pr ho) (X10.kp ho) h.1 hC' h.2.1.1 hU', rfl, rfl⟩
theorem d_towardsStored (ho : isX10 lay o) (h : RD D o B (T, T', H, s, t)) : am_MetP lay (d + 5) mX10_towardsStored [.ref o] D (if T.1 = T'.1 then hti T.1 T.2.1 T'.2.1 else -2) := by
  have h10 := h.n10
  have m10 : T'.1 ≤ 10 := h.2.2.2.1.1.2.1
  have hB : brd D (o + 1) T.1 T.2.1 T.2.2 := h.1
  have hC0 : brd D (o + 4) T'.1 T'.2.1 T'.2.2 := h.2.2.1
  refine eX10_towardsStored ho ⟨_, c_size (X10.pr ho) hB, _, c_size (X10.kp ho) hC0, fun h3 => ?_, fun h3 => ?_⟩
  · rw [nI_eq (by omega) (by omega)] at h3
    rw [if_neg h3]; exact ⟨rfl, rfl⟩
  · rw [Classical.not_not, nI_eq (by omega) (by omega)] at h3
    rw [if_pos h3]
    have hC' : brd D (o + 4) T.1 T'.2.1 T'.2.2 := by rw [h3]; exact h.2.2.1
    have hU' : trn T.1 T'.2.1 := by rw [h3]; exact h.2.2.2.1.1
    exact ⟨_, c_helpfulTriangle (X10.pr ho) (X10.kp ho) h.1 hC' h.2.1.1 hU', rfl, rfl⟩
theorem d_isLikeStored (ho : isX10 lay o) (h : RD D o B (T, T', H, s, t)) : ∃ D1, am_MetI lay (d + 15) mX10_isLikeStored [.ref o] D (bI (decide (T.1 = T'.1) && al T.1 T.2.1 T'.2.1 T.1 (ful T.1) (fun _ => 0))) D1 ∧ RD D1 o B (T, T', H, s, t) ∧ onlyD D D1 o := by
  obtain ⟨D1, a1, a2⟩ := c_areAlike (d := d) (X10.lk ho) (X10.pr ho) (X10.kp ho) h.1 h.2.2.1 h.2.1.1 h.2.2.2.1.1 (by omega)
  exact ⟨D1, eX10_isLikeStored ho ⟨_, D1, a1, fun h3 => ⟨by rw [bI_0.mp h3]; rfl, rfl⟩, fun h3 => ⟨by rw [bI_n0.mp h3]; rfl, rfl⟩⟩, h.scratch fun q hq => a2 q (by omega), fun q hq => a2 q (by omega)⟩
theorem d_spanningPaths (ho : isX10 lay o) (h : RD D o B (T, T', H, s, t)) : ∃ D1, am_MetI lay (d + 5) mX10_spanningPaths [.ref o] D (nI (sumB (ce T.2.1 (ful T.1)) (ful T.1))) D1 ∧ RD D1 o B (T, T', H, s, t) ∧ onlyD D D1 o := by
  obtain ⟨D1, a1, a2⟩ := c_countSpanning (d := d) (X10.pa ho) (X10.pr ho) h.2.1.1 h.1 (by omega)
  exact ⟨D1, eX10_spanningPaths ho ⟨_, D1, a1, rfl, rfl⟩, h.scratch fun q hq => a2 q (by omega), fun q hq => a2 q (by omega)⟩
end DS3
