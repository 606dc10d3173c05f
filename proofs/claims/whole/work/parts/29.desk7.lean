/-! triangles counted, and reversed -/
theorem i_sub3 (a b c : Int32) : a - b - c = a - (b + c) := by grind
theorem tr_half : ∀ c, c < 11 → nI c * (nI c - nI 1) / nI 2 = nI (c * (c - 1) / 2) := by decide +kernel
theorem tr_all : ∀ n, n < 11 → nI n * (nI n - nI 1) * (nI n - nI 2) / nI 6 = nI (n * (n - 1) * (n - 2) / 6) := by decide +kernel
def hlfs (be : Nat → Nat → Bool) (p : Nat) : Nat := sc be p * (sc be p - 1) / 2
/-- what countTriangles answers -/
def triV (n : Nat) (be : Nat → Nat → Bool) : Int32 := nI (n * (n - 1) * (n - 2) / 6) - nI (sumR (hlfs be) n)
section DS7
variable {lay : List am_L} {d : Nat} {D : am_D} {o b B : Nat} {T T' : am_T} {H : List am_T} {s t : List Nat} {n : Nat} {be : Nat → Nat → Bool} {we : Nat → Nat → Nat}
theorem c_countTriangles (hb : isX0 lay b) (hB : brd D b n be we) (hT : trn n be) : am_MetP lay (d + 2) mX0_countTriangles [.ref b] D (triV n be) := by
  have h10 := hT.2.1
  have loop : ∀ k i, i + k = n → ∀ Q : Option Value → am_D → Prop, Q (some (.int (triV n be))) D → am_AW lay (d + 2) mX0_countTriangles 24 [.ref b, .int (nI (n * (n - 1) * (n - 2) / 6) - nI (sumR (hlfs be) i)), .int (nI i)] [] D Q := by
    intro k
    induction k with
    | zero =>
      intro i hi Q hQ
      obtain rfl : i = n := by omega
      refine rX0_countTriangles_24 hb ⟨fun _ => hQ, fun h => ?_⟩
      rw [hB.1] at h; exact absurd (nI_le (Nat.le_refl _) (by omega)) h
    | succ k ih =>
      intro i hi Q hQ
      have hnx := ih (i + 1) (by omega) Q hQ
      have hs : sc be i ≤ 10 := cnt_le _
      refine rX0_countTriangles_24 hb ⟨fun h => ?_, fun _ => ⟨_, c_winsOf hb hB hT (by omega), _, c_winsOf hb hB hT (by omega), ?_⟩⟩
      · rw [hB.1, nI_leI (by omega) (by omega)] at h; omega
      · rw [tr_half _ (by omega), i_sub3, nI_add, nI_add]
        exact hnx
  have h0 := loop n 0 (by omega) (fun r D1 => r = some (.int (triV n be)) ∧ D1 = D) ⟨rfl, rfl⟩
  rw [show sumR (hlfs be) 0 = 0 from rfl, show nI 0 = 0 from rfl, Int32.sub_zero] at h0
  refine eX0_countTriangles hb ?_
  rw [hB.1, tr_all n (by omega)]
  exact h0
theorem d_triangles (ho : isX10 lay o) (h : RD D o B (T, T', H, s, t)) : am_MetP lay (d + 3) mX10_triangles [.ref o] D (triV T.1 T.2.1) := eX10_triangles ho ⟨_, c_countTriangles (X10.pr ho) h.1 h.2.1.1, rfl, rfl⟩
theorem d_reverseTriangle_no (ho : isX10 lay o) (h : RD D o B (T, T', H, s, t)) {u v w : Int32} (hv : isPr T.1 u v = false ∨ isPr T.1 v w = false ∨ isPr T.1 u w = false) : am_MetI lay (d + 5) mX10_reverseTriangle [.ref o, .int u, .int v, .int w] D (-1) D := by
  have hBB : brd D (o + 1) T.1 T.2.1 T.2.2 := h.1
  refine eX10_reverseTriangle ho ⟨_, c_hasPair (X10.pr ho) hBB u v, fun _ => ⟨rfl, rfl⟩, fun h1 => ⟨_, c_hasPair (X10.pr ho) hBB v w, fun _ => ⟨rfl, rfl⟩, fun h2 => ⟨_, c_hasPair (X10.pr ho) hBB u w, fun h3 => ?_, fun _ => ⟨rfl, rfl⟩⟩⟩⟩
  rcases hv with e | e | e
  · rw [e] at h1; exact absurd rfl h1
  · rw [e] at h2; exact absurd rfl h2
  · rw [e] at h3; exact absurd rfl h3
theorem d_reverseTriangle_none (ho : isX10 lay o) (h : RD D o B (T, T', H, s, t)) {x y z : Nat} (hx : x < T.1) (hy : y < T.1) (hz : z < T.1) (n1 : x ≠ y) (n2 : y ≠ z) (n3 : x ≠ z) (hn : tri T.2.1 x y z = false) : am_MetI lay (d + 5) mX10_reverseTriangle [.ref o, .int (nI x), .int (nI y), .int (nI z)] D (-2) D := by
  have h10 := h.n10
  have hBB : brd D (o + 1) T.1 T.2.1 T.2.2 := h.1
  have hT : trn T.1 T.2.1 := h.2.1.1
  refine eX10_reverseTriangle ho ⟨_, c_hasPair (X10.pr ho) hBB _ _, fun h3 => ?_, fun _ => ⟨_, c_hasPair (X10.pr ho) hBB _ _, fun h3 => ?_, fun _ => ⟨_, c_hasPair (X10.pr ho) hBB _ _, fun _ => ⟨_, c_isTriangle (X10.pr ho) hBB hT (by omega) (by omega) (by omega), fun h3 => ?_, fun _ => ⟨rfl, rfl⟩⟩, fun h3 => ?_⟩⟩⟩
  · rw [isPr_n h10 (by omega) (by omega), decide_eq_true ⟨hx, hy, n1⟩] at h3; cases bI_0.mp h3
  · rw [isPr_n h10 (by omega) (by omega), decide_eq_true ⟨hy, hz, n2⟩] at h3; cases bI_0.mp h3
  · rw [hn] at h3; exact absurd rfl h3
  · rw [Classical.not_not, isPr_n h10 (by omega) (by omega), decide_eq_true ⟨hx, hz, n3⟩] at h3; cases bI_0.mp h3
theorem d_reverseTriangle (ho : isX10 lay o) (h : RD D o B (T, T', H, s, t)) {x y z : Nat} (hx : x < T.1) (hy : y < T.1) (hz : z < T.1) (n1 : x ≠ y) (n2 : y ≠ z) (n3 : x ≠ z) (hn : tri T.2.1 x y z = true) : ∃ D1, am_MetI lay (d + 5) mX10_reverseTriangle [.ref o, .int (nI x), .int (nI y), .int (nI z)] D (triV T.1 (flp (flp (flp T.2.1 x y) y z) x z)) D1 ∧ RD D1 o (B + 3) ((T.1, flp (flp (flp T.2.1 x y) y z) x z, T.2.2), T', pushH H T, s, t) ∧ onlyD D D1 o := by
  have h10 := h.n10
  have hBB : brd D (o + 1) T.1 T.2.1 T.2.2 := h.1
  have hT : trn T.1 T.2.1 := h.2.1.1
  obtain ⟨D2, r0, r1, r2⟩ := d_record (d := d + 1) ho h
  have hB2 : brd D2 (o + 1) T.1 T.2.1 T.2.2 := hBB.keep fun q hq => r2 q (by unfold inH; omega)
  have hT1 := flp_trn hT hx hy n1
  have hT2 := flp_trn hT1 hy hz n2
  have hT3 := flp_trn hT2 hx hz n3
  obtain ⟨D6, a1, a2, a3⟩ := c_turn (d := d + 2) (X10.pr ho) hB2 hT hx hy n1
  obtain ⟨D7, b1, b2, b3⟩ := c_turn (d := d + 2) (X10.pr ho) a2 hT1 hy hz n2
  obtain ⟨D8, c1, c2, c3⟩ := c_turn (d := d + 2) (X10.pr ho) b2 hT2 hx hz n3
  have hch := (a3.tr b3).tr c3
  obtain ⟨g1, g2⟩ := d_step h r1 r2 (T2 := (T.1, flp (flp (flp T.2.1 x y) y z) x z, T.2.2)) (k := 3) c2 ⟨hT3, h.2.1.2⟩ (fun q a b c _ _ => hch.1 q a b c) hch.stq
  refine ⟨D8, eX10_reverseTriangle ho ⟨_, c_hasPair (X10.pr ho) hBB _ _, fun h3 => ?_, fun _ => ⟨_, c_hasPair (X10.pr ho) hBB _ _, fun h3 => ?_, fun _ => ⟨_, c_hasPair (X10.pr ho) hBB _ _, fun _ => ⟨_, c_isTriangle (X10.pr ho) hBB hT (by omega) (by omega) (by omega), fun _ => ⟨D2, r0, D6, a1, D7, b1, D8, c1, _, c_countTriangles (X10.pr ho) c2 hT3, rfl, rfl⟩, fun h3 => ?_⟩, fun h3 => ?_⟩⟩⟩, g1, g2⟩
  · rw [isPr_n h10 (by omega) (by omega), decide_eq_true ⟨hx, hy, n1⟩] at h3; cases bI_0.mp h3
  · rw [isPr_n h10 (by omega) (by omega), decide_eq_true ⟨hy, hz, n2⟩] at h3; cases bI_0.mp h3
  · rw [hn] at h3; exact absurd (by decide) h3
  · rw [Classical.not_not, isPr_n h10 (by omega) (by omega), decide_eq_true ⟨hx, hz, n3⟩] at h3; cases bI_0.mp h3
end DS7
