/-! the desk's reversePath -/
/-- the results behind the first i turns of a path -/
def pfl (be : Nat → Nat → Bool) (f : Nat → Nat) : Nat → Nat → Nat → Bool
  | 0 => be
  | i + 1 => flp (pfl be f i) (f i) (f (i + 1))
section DS6
variable {lay : List am_L} {d : Nat} {D : am_D} {o B : Nat} {T T' : am_T} {H : List am_T} {s t : List Nat} {n : Nat} {be : Nat → Nat → Bool} {we : Nat → Nat → Nat}
theorem pfl_trn (hT : trn n be) {f : Nat → Nat} {len : Nat} (hf : ∀ i, i ≤ len → f i < n) (hne : ∀ i, i < len → f i ≠ f (i + 1)) : ∀ i, i ≤ len → trn n (pfl be f i) := by
  intro i
  induction i with
  | zero => intro _; exact hT
  | succ i ih => intro hi; exact flp_trn (ih (by omega)) (hf i (by omega)) (hf (i + 1) hi) (hne i (by omega))
theorem isPth.ne {q len : Nat} {f : Nat → Nat} (hT : trn n be) (h : isPth n be q len f) : ∀ i, i < len → f i ≠ f (i + 1) := by
  intro i hi e
  have h1 := (h.2 i hi).1
  rw [← e, hT.irr] at h1
  cases h1
theorem l_reversePath (ho : isX10 lay o) (hT : trn n be) {f : Nat → Nat} {len : Nat} (hlen : len < n) (hf : ∀ i, i ≤ len → f i < n) (hne : ∀ i, i < len → f i ≠ f (i + 1)) {v1 v2 : Int32} : ∀ j i D, i + j = len → brd D (o + 1) n (pfl be f i) we → (∀ k, k ≤ len → D (o + 40) k = nI (f k)) → ∃ D1, brd D1 (o + 1) n (pfl be f len) we ∧ chg D D1 (o + 1) j ∧ ∀ Q : Option Value → am_D → Prop, Q (some (.int (nI len))) D1 → am_AW lay (d + 3) mX10_reversePath 60 [.ref o, .int v1, .int v2, .int (nI len), .int (nI i)] [] D Q := by
  have h10 := hT.2.1
  intro j
  induction j with
  | zero =>
    intro i D hi hB hk
    obtain rfl : i = len := by omega
    exact ⟨D, hB, chg.rf, fun Q hQ => rX10_reversePath_60 ho ⟨fun _ => hQ, fun h => absurd (nI_le (Nat.le_refl _) (by omega)) h⟩⟩
  | succ j ih =>
    intro i D hi hB hk
    have hTi := pfl_trn hT hf hne i (by omega)
    obtain ⟨D3, s1, s2, s3⟩ := c_turn (d := d) (X10.pr ho) hB hTi (hf i (by omega)) (hf (i + 1) (by omega)) (hne i (by omega))
    obtain ⟨D1, a1, a2, a3⟩ := ih (i + 1) D3 (by omega) s2 (fun k hk2 => by rw [s3.1 (o + 40) (by omega) (by omega) (by omega)]; exact hk k hk2)
    have p1 := c_pp (d := d + 2) (D := D) (X10.pa ho) (i := i) (by omega)
    have p2 := c_pp (d := d + 2) (D := D) (X10.pa ho) (i := i + 1) (by omega)
    rw [show o + 39 + 1 = o + 40 from rfl, hk i (by omega)] at p1
    rw [show o + 39 + 1 = o + 40 from rfl, hk (i + 1) (by omega)] at p2
    refine ⟨D1, a1, (s3.tr a2).mono (by omega), fun Q hQ => rX10_reversePath_60 ho ⟨fun h => ?_, fun _ => ⟨fun h => ?_, fun _ => ?_⟩⟩⟩
    · rw [nI_leI (by omega) (by omega)] at h; omega
    · rw [nI_leI (by decide) (by omega)] at h; omega
    · rw [nI_add]
      exact ⟨_, p1, _, p2, D3, s1, a3 Q hQ⟩
theorem d_reversePath_no (ho : isX10 lay o) (h : RD D o B (T, T', H, s, t)) {v w : Int32} (hv : isPr T.1 v w = false) : am_MetI lay (d + 5) mX10_reversePath [.ref o, .int v, .int w] D (-1) D := by
  refine eX10_reversePath ho ⟨_, c_hasPair (X10.pr ho) h.1 v w, fun h3 => ?_, fun _ => ⟨rfl, rfl⟩⟩
  rw [hv] at h3; exact absurd rfl h3
theorem d_reversePath_none (ho : isX10 lay o) (h : RD D o B (T, T', H, s, t)) {x y : Nat} (hx : x < T.1) (hy : y < T.1) (hd : dst T.1 T.2.1 x y = -4) : am_MetI lay (d + 5) mX10_reversePath [.ref o, .int (nI x), .int (nI y)] D (if x = y then -1 else -2) D := by
  have h10 := h.n10
  have hBB : brd D (o + 1) T.1 T.2.1 T.2.2 := h.1
  refine eX10_reversePath ho ⟨_, c_hasPair (X10.pr ho) hBB _ _, fun h3 => ⟨_, c_stepsBetween (X10.pr ho) hBB h.2.1.1 hx hy, fun h4 => absurd hd h4, fun _ => ?_⟩, fun h3 => ?_⟩
  · rw [isPr_n h10 (by omega) (by omega)] at h3
    have := of_decide_eq_true (bI_n0.mp h3)
    rw [if_neg this.2.2]; exact ⟨rfl, rfl⟩
  · rw [Classical.not_not, isPr_n h10 (by omega) (by omega)] at h3
    have := of_decide_eq_false (bI_0.mp h3)
    rw [if_pos (by omega)]; exact ⟨rfl, rfl⟩
theorem d_reversePath (ho : isX10 lay o) (h : RD D o B (T, T', H, s, t)) {q len : Nat} {f : Nat → Nat} (hq : q < T.1) (h0 : f 0 < T.1) (hne : f 0 ≠ q) (hf : isPth T.1 T.2.1 q len f) : ∃ D1, am_MetI lay (d + 5) mX10_reversePath [.ref o, .int (nI (f 0)), .int (nI q)] D (nI len) D1 ∧ RD D1 o (B + 10) ((T.1, pfl T.2.1 f len, T.2.2), T', pushH H T, s, t) ∧ onlyD D D1 o := by
  have h10 := h.n10
  have hBB : brd D (o + 1) T.1 T.2.1 T.2.2 := h.1
  have hT : trn T.1 T.2.1 := h.2.1.1
  have hlen := hf.1.1
  have hlt := hf.lt hT h0
  have hnn := hf.ne hT
  obtain ⟨D2, r0, r1, r2⟩ := d_record (d := d + 1) ho h
  have hB2 : brd D2 (o + 1) T.1 T.2.1 T.2.2 := hBB.keep fun q hq => r2 q (by unfold inH; omega)
  obtain ⟨D4, f1, f2, f3⟩ := c_findShortest (d := d) (X10.pa ho) (X10.pr ho) hT hB2 hq hf h0 (by omega)
  have hB4 : brd D4 (o + 1) T.1 (pfl T.2.1 f 0) T.2.2 := hB2.keep fun q hq => f3 q (by omega)
  obtain ⟨D3, s1, s2, s3⟩ := l_reversePath (d := d + 2) ho hT hlen hlt hnn (we := T.2.2) (v1 := nI (f 0)) (v2 := nI q) len 0 D4 (by omega) hB4 f2
  obtain ⟨j, j1, j2, j3⟩ := s2.stq
  obtain ⟨g1, g2⟩ := d_step h r1 r2 (T2 := (T.1, pfl T.2.1 f len, T.2.2)) (D3 := D3) (k := 10) s1 ⟨pfl_trn hT hlt hnn len (Nat.le_refl _), h.2.1.2⟩ (fun q a b c _ e => by rw [s2.1 q a b c, f3 q (by omega)]) ⟨j, by omega, by rw [j2, f3 (o + 1) (by omega)], fun e q hq => by rw [j3 e q hq, f3 q (by omega)]⟩
  refine ⟨D3, eX10_reversePath ho ⟨_, c_hasPair (X10.pr ho) hBB _ _, fun _ => ⟨_, c_stepsBetween (X10.pr ho) hBB hT h0 hq, fun _ => ?_, fun h4 => ?_⟩, fun h3 => ?_⟩, g1, g2⟩
  · rw [dst_of hf.1]
    exact ⟨D2, r0, D4, f1, s3 _ ⟨rfl, rfl⟩⟩
  · rw [Classical.not_not, dst_of hf.1] at h4
    exact absurd h4 (nI_m4 (by omega))
  · rw [Classical.not_not, isPr_n h10 (by omega) (by omega), decide_eq_true ⟨h0, hq, hne⟩] at h3; cases bI_0.mp h3
end DS6
