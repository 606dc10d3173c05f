/-! the desk's methods: orders, winners, paths, cycles -/
section DS4
variable {lay : List am_L} {d : Nat} {D : am_D} {o B : Nat} {T T' : am_T} {H : List am_T} {s t : List Nat}
theorem RD.stamp (h : RD D o B (T, T', H, s, t)) (hB : B < 2 ^ 31) : D (o + 45) 3 = D (o + 1) 1 → ordOK D (o + 45) T.1 T.2.1 T.2.2 := by
  obtain ⟨-, -, -, -, -, -, -, -, u, v, a11, a12, a13, a14, a15⟩ := h
  intro e
  rw [a11, a12, nI_eq (by omega) (by omega)] at e
  exact a15 e
theorem d_learn (ho : isX10 lay o) (h : RD D o B (T, T', H, s, t)) (hB : B < 2 ^ 31) : ∃ D1, am_MetV lay (d + 5) mX5_learn [.ref (o + 45), .ref (o + 1)] D D1 ∧ RD D1 o B (T, T', H, s, t) ∧ ordOK D1 (o + 45) T.1 T.2.1 T.2.2 ∧ onlyD D D1 o := by
  obtain ⟨D1, b1, b2, b3, b4, b5⟩ := c_learn (d := d) (X10.od ho) (X10.pr ho) h.1 h.2.1.1 (fun p q => (h.2.1.2.2.1 p q).2) (by intro z hz; omega) h.2.2.2.2.2.2.2.1 (h.stamp hB)
  have fr : ∀ q, (q < o + 45 ∨ o + 49 ≤ q) → D1 q = D q := fun q hq => b5 q (by omega) (by omega) (by omega) (by omega)
  obtain ⟨a1, a2, a3, a4, a5, ⟨a6, a7⟩, ⟨a8, a9⟩, a10, u, v, a11, a12, a13, a14, a15⟩ := h
  obtain ⟨c1, c2, old, c3, c4, c5, c6⟩ := a5
  refine ⟨D1, b1, ⟨a1.keep fun q hq => fr q (by omega), a2, a3.keep fun q hq => fr q (by omega), a4, ⟨c1, c2, old, c3, by rw [fr _ (by omega)]; exact c4, by rw [fr _ (by omega)]; exact c5, fun i U hi => (c6 i U hi).keep fun q hq => fr q (by omega)⟩, ⟨a6.keep (fr _ (by omega)) (fr _ (by omega)), a7⟩, ⟨a8.keep (fr _ (by omega)) (fr _ (by omega)), a9⟩, b3, u, u, by rw [fr _ (by omega)]; exact a11, by rw [b4]; exact a11, Nat.le_refl _, a14, fun _ => b2⟩, b2, fun q hq => fr q (by omega)⟩
theorem d_leastCost (ho : isX10 lay o) (h : RD D o B (T, T', H, s, t)) (hB : B < 2 ^ 31) : ∃ D1, am_MetI lay (d + 7) mX10_leastCost [.ref o] D (nI (lst T.1 T.2.1 T.2.2 (ful T.1))) D1 ∧ RD D1 o B (T, T', H, s, t) ∧ onlyD D D1 o := by
  obtain ⟨D1, b1, b2, b3, b4⟩ := d_learn (d := d) ho h hB
  have hT : trn T.1 T.2.1 := b2.2.1.1
  have hBB : brd D1 (o + 1) T.1 T.2.1 T.2.2 := b2.1
  refine ⟨D1, eX10_leastCost ho ⟨_, D1, eX5_leastCostOf (X10.od ho) (X10.pr ho) ⟨D1, b1, _, c_everyone (X10.pr ho) hBB hT, _, c_leastFor (X10.od ho) (ful_lt hT.2.1), ?_, rfl⟩, rfl, rfl⟩, b2, b4⟩
  rw [b3.2 (ful T.1) (by omega)]
theorem d_orderAt (ho : isX10 lay o) (h : RD D o B (T, T', H, s, t)) (hB : B < 2 ^ 31) (v : Int32) : (isP T.1 v = false → am_MetI lay (d + 7) mX10_orderAt [.ref o, .int v] D (-1) D) ∧ ∀ p, p < T.1 → v = nI p → ∃ D1, am_MetI lay (d + 7) mX10_orderAt [.ref o, .int v] D (nI (orx T.1 T.2.1 T.2.2 p)) D1 ∧ RD D1 o B (T, T', H, s, t) ∧ onlyD D D1 o := by
  have h10 := h.n10
  refine ⟨fun hv => eX10_orderAt ho ⟨_, c_has (X10.pr ho) h.1 v, fun _ => ⟨rfl, rfl⟩, fun h3 => ?_⟩, fun p hp hv => ?_⟩
  · rw [hv] at h3; exact absurd rfl h3
  · subst hv
    obtain ⟨D1, b1, b2, b3, b4⟩ := d_learn (d := d) ho h hB
    have hT : trn T.1 T.2.1 := b2.2.1.1
    have hBB : brd D1 (o + 1) T.1 T.2.1 T.2.2 := b2.1
    refine ⟨D1, eX10_orderAt ho ⟨_, c_has (X10.pr ho) h.1 _, fun h3 => ?_, fun _ => ⟨_, D1, eX5_playerAt (X10.od ho) (X10.pr ho) ⟨D1, b1, _, c_everyone (X10.pr ho) hBB hT, c_oAt (d := d + 2) (X10.od ho) (X10.pr ho) hBB hT (fun p q => (b2.2.1.2.2.1 p q).2) b3 (by omega) p 0 (by omega) _ ⟨rfl, rfl⟩⟩, rfl, rfl⟩⟩, b2, b4⟩
    rw [isP_n h10 (by omega), decide_eq_true hp] at h3; cases bI_0.mp h3
/-- the winners by a rule -/
def wnB (T : am_T) : Nat → Nat
  | 0 => topA T.1 T.2.1 (ful T.1)
  | 1 => col (kingB T.1 T.2.1) T.1
  | 2 => ldr T.1 T.2.1 (ful T.1)
  | 3 => chT T.1 T.2.1
  | _ => col (bst T.1 T.2.1 T.2.2 (ful T.1)) T.1
theorem d_winnersBy (ho : isX10 lay o) (h : RD D o B (T, T', H, s, t)) (hB : B < 2 ^ 31) {r : Nat} (hr : r < 5) : ∃ D1, am_MetI lay (d + 13) mX10_winnersBy [.ref o, .int (nI r)] D (nI (wnB T r)) D1 ∧ RD D1 o B (T, T', H, s, t) ∧ onlyD D D1 o := by
  have hT : trn T.1 T.2.1 := h.2.1.1
  have hBB : brd D (o + 1) T.1 T.2.1 T.2.2 := h.1
  have ne : ∀ a b : Nat, a < 5 → b < 5 → a ≠ b → ¬ nI a = nI b := fun a b ha hb hab e => hab ((nI_eq (by omega) (by omega)).mp e)
  obtain ⟨D1, b1, b2, b3, b4⟩ := d_learn (d := d + 6) ho h hB
  have hT1 : trn T.1 T.2.1 := b2.2.1.1
  have hB1 : brd D1 (o + 1) T.1 T.2.1 T.2.2 := b2.1
  have cases5 : r = 0 ∨ r = 1 ∨ r = 2 ∨ r = 3 ∨ r = 4 := by omega
  rcases cases5 with rfl | rfl | rfl | rfl | rfl
  · exact ⟨D, eX10_winnersBy ho ⟨fun _ => ⟨_, c_everyone (X10.pr ho) hBB hT, _, c_topOf (d := d + 10) (X10.pr ho) hBB hT (ful_lt hT.2.1), rfl, rfl⟩, fun e => absurd e (by decide), fun e => absurd e (by decide), fun e => absurd e (by decide), fun e => absurd rfl e.1⟩, h, fun _ _ => rfl⟩
  · exact ⟨D, eX10_winnersBy ho ⟨fun e => absurd e (by decide), fun _ => ⟨_, c_kingsOf (d := d + 9) (X10.pr ho) hBB hT, rfl, rfl⟩, fun e => absurd e (by decide), fun e => absurd e (by decide), fun e => absurd rfl e.2.1⟩, h, fun _ _ => rfl⟩
  · exact ⟨D, eX10_winnersBy ho ⟨fun e => absurd e (by decide), fun e => absurd e (by decide), fun _ => ⟨_, c_everyone (X10.pr ho) hBB hT, _, c_leadersOf (d := d + 11) (X10.pr ho) hBB hT (ful_lt hT.2.1), rfl, rfl⟩, fun e => absurd e (by decide), fun e => absurd rfl e.2.2.1⟩, h, fun _ _ => rfl⟩
  · exact ⟨D, eX10_winnersBy ho ⟨fun e => absurd e (by decide), fun e => absurd e (by decide), fun e => absurd e (by decide), fun _ => ⟨_, c_chainTopsOf (d := d) (X10.pr ho) hBB hT, rfl, rfl⟩, fun e => absurd rfl e.2.2.2⟩, h, fun _ _ => rfl⟩
  · exact ⟨D1, eX10_winnersBy ho ⟨fun e => absurd e (by decide), fun e => absurd e (by decide), fun e => absurd e (by decide), fun e => absurd e (by decide), fun _ => ⟨_, D1, eX5_firstOnes (X10.od ho) (X10.pr ho) ⟨D1, b1, _, c_size (X10.pr ho) hB1, _, c_everyone (X10.pr ho) hB1 hT1, _, c_firstOnesWithin (d := d + 8) (X10.od ho) hT1.2.1 (fun p q => (b2.2.1.2.2.1 p q).2) (Nat.le_refl _) b3, rfl, rfl⟩, rfl, rfl⟩⟩, b2, b4⟩
theorem d_pathAt (ho : isX10 lay o) (h : RD D o B (T, T', H, s, t)) (v : Int32) : (isP T.1 v = false → am_MetI lay (d + 4) mX10_pathAt [.ref o, .int v] D (-1) D) ∧ ∀ p, p < T.1 → v = nI p → ∃ D1, am_MetI lay (d + 4) mX10_pathAt [.ref o, .int v] D (nI (fsx T.1 T.2.1 p)) D1 ∧ RD D1 o B (T, T', H, s, t) ∧ onlyD D D1 o := by
  have h10 := h.n10
  refine ⟨fun hv => eX10_pathAt ho ⟨_, c_has (X10.pr ho) h.1 v, fun h3 => ?_, fun _ => ⟨rfl, rfl⟩⟩, fun p hp hv => ?_⟩
  · rw [hv] at h3; exact absurd rfl h3
  · subst hv
    obtain ⟨D1, a1, a2, a3⟩ := c_findSpanning (d := d) (X10.pa ho) (X10.pr ho) h.2.1.1 h.1 (by omega)
    refine ⟨D1, eX10_pathAt ho ⟨_, c_has (X10.pr ho) h.1 _, fun _ => ⟨D1, a1, _, c_pp (X10.pa ho) (by omega), ?_, rfl⟩, fun h3 => ?_⟩, h.scratch fun q hq => a3 q (by omega), fun q hq => a3 q (by omega)⟩
    · rw [a2 p hp]
    · rw [Classical.not_not, isP_n h10 (by omega), decide_eq_true hp] at h3; cases bI_0.mp h3
end DS4
