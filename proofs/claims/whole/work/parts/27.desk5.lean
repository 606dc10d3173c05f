/-! the desk's methods: winners, undisputed, cycleAt, scoreAt -/
def unS (T : am_T) : Nat → Nat
  | 0 => ful T.1
  | i + 1 => unS T i &&& wnB T i
/-- how many of the first i players beat exactly w -/
def eqW (be : Nat → Nat → Bool) (w i : Nat) : Nat := (List.range i).countP fun p => sc be p == w
theorem eqW_s (be : Nat → Nat → Bool) (w i : Nat) : eqW be w (i + 1) = eqW be w i + if sc be i = w then 1 else 0 := by
  unfold eqW
  rw [List.range_succ, List.countP_append, List.countP_singleton]
  simp
/-- how many players beat fewer than k -/
def cum (n : Nat) (be : Nat → Nat → Bool) (k : Nat) : Nat := sumR (fun w => eqW be w n) k
def atF (n : Nat) (be : Nat → Nat → Bool) (place : Nat) : Nat → Nat → Nat
  | 0, _ => 0
  | j + 1, w => if place < cum n be (w + 1) then w else atF n be place j (w + 1)
section DS5
variable {lay : List am_L} {d : Nat} {D : am_D} {o b B : Nat} {T T' : am_T} {H : List am_T} {s t : List Nat} {n : Nat} {be : Nat → Nat → Bool} {we : Nat → Nat → Nat}
theorem d_winners_no (ho : isX10 lay o) {v : Int32} (hv : v < nI 0 ∨ ¬ v ≤ nI 4) : am_MetI lay (d + 14) mX10_winners [.ref o, .int v] D (-1) D := by
  refine eX10_winners ho ⟨fun _ => ⟨rfl, rfl⟩, fun h1 => ⟨fun h2 => ?_, fun _ => ⟨rfl, rfl⟩⟩⟩
  rcases hv with h | h
  · exact absurd h h1
  · exact absurd h2 h
theorem d_winners (ho : isX10 lay o) (h : RD D o B (T, T', H, s, t)) (hB : B < 2 ^ 31) {r : Nat} (hr : r < 5) : ∃ D1, am_MetI lay (d + 14) mX10_winners [.ref o, .int (nI r)] D (nI (wnB T r)) D1 ∧ RD D1 o B (T, T', H, s, t) ∧ onlyD D D1 o := by
  obtain ⟨D1, b1, b2, b3⟩ := d_winnersBy (d := d) ho h hB hr
  exact ⟨D1, eX10_winners ho ⟨fun h3 => absurd h3 (nn_neg (by omega)), fun _ => ⟨fun _ => ⟨_, D1, b1, rfl, rfl⟩, fun h3 => absurd ((nI_leI (by omega) (by decide)).mpr (by omega)) h3⟩⟩, b2, b3⟩
theorem unS_lt (h : T.1 ≤ 10) : ∀ i, unS T i < 1024 := by
  intro i
  induction i with
  | zero => exact ful_lt h
  | succ i ih => exact and_lt ih
theorem d_undisputed (ho : isX10 lay o) (h : RD D o B (T, T', H, s, t)) (hB : B < 2 ^ 31) : ∃ D1, am_MetI lay (d + 14) mX10_undisputed [.ref o] D (nI (cnt (unS T 5))) D1 ∧ RD D1 o B (T, T', H, s, t) ∧ onlyD D D1 o := by
  have h10 := h.n10
  have loop : ∀ j i D, i + j = 5 → RD D o B (T, T', H, s, t) → ∃ D1, RD D1 o B (T, T', H, s, t) ∧ onlyD D D1 o ∧ ∀ Q : Option Value → am_D → Prop, Q (some (.int (nI (cnt (unS T 5))))) D1 → am_AW lay (d + 14) mX10_undisputed 10 [.ref o, .int (nI (unS T i)), .int (nI i)] [] D Q := by
    intro j
    induction j with
    | zero =>
      intro i D hi h
      obtain rfl : i = 5 := by omega
      exact ⟨D, h, fun _ _ => rfl, fun Q hQ => rX10_undisputed_10 ho ⟨fun _ => ⟨_, c_cnt (unS_lt h10 5), hQ⟩, fun h3 => absurd (by decide) h3⟩⟩
    | succ j ih =>
      intro i D hi h
      obtain ⟨D3, b1, b2, b3⟩ := d_winnersBy (d := d) ho h hB (by omega : i < 5)
      obtain ⟨D1, c1, c2, c3⟩ := ih (i + 1) D3 (by omega) b2
      refine ⟨D1, c1, fun q hq => by rw [c2 q hq, b3 q hq], fun Q hQ => rX10_undisputed_10 ho ⟨fun h3 => ?_, fun _ => ⟨_, D3, b1, ?_⟩⟩⟩
      · rw [nI_ltI (by decide) (by omega)] at h3; omega
      · rw [nn_and, nI_add]; exact c3 Q hQ
  obtain ⟨D1, c1, c2, c3⟩ := loop 5 0 D rfl h
  exact ⟨D1, eX10_undisputed ho ⟨_, c_everyone (d := d + 13) (X10.pr ho) h.1 h.2.1.1, c3 _ ⟨rfl, rfl⟩⟩, c1, c2⟩
theorem d_cycleAt_no (ho : isX10 lay o) (h : RD D o B (T, T', H, s, t)) {v w z : Int32} (hv : isP T.1 v = false ∨ w < nI 3 ∨ ¬ w ≤ nI T.1 ∨ z < nI 0 ∨ ¬ z < w) : am_MetI lay (d + 15) mX10_cycleAt [.ref o, .int v, .int w, .int z] D (-1) D := by
  have hBB : brd D (o + 1) T.1 T.2.1 T.2.2 := h.1
  refine eX10_cycleAt ho ⟨_, c_has (X10.pr ho) hBB v, fun _ => ⟨rfl, rfl⟩, fun h1 => ⟨fun _ => ⟨rfl, rfl⟩, fun h2 => ⟨_, c_size (X10.pr ho) hBB, fun h3 => ⟨fun _ => ⟨rfl, rfl⟩, fun h4 => ⟨fun h5 => ?_, fun _ => ⟨rfl, rfl⟩⟩⟩, fun _ => ⟨rfl, rfl⟩⟩⟩⟩
  rcases hv with e | e | e | e | e
  · rw [e] at h1; exact absurd rfl h1
  · exact absurd e h2
  · exact absurd h3 e
  · exact absurd e h4
  · exact absurd h5 e
theorem d_cycleAt (ho : isX10 lay o) (h : RD D o B (T, T', H, s, t)) {p len z : Nat} (hp : p < T.1) (h3 : 3 ≤ len) (hlen : len ≤ T.1) (hz : z < len) (hpp : (prt T.1 T.2.1 p).testBit p = true) : ∃ D1, am_MetI lay (d + 15) mX10_cycleAt [.ref o, .int (nI p), .int (nI len), .int (nI z)] D (if fnd T.1 T.2.1 p len then nI (cyc T.1 T.2.1 p len z) else -4) D1 ∧ RD D1 o B (T, T', H, s, t) ∧ onlyD D D1 o := by
  have h10 := h.n10
  have hBB : brd D (o + 1) T.1 T.2.1 T.2.2 := h.1
  have hT : trn T.1 T.2.1 := h.2.1.1
  obtain ⟨D1, a1, a2, a3⟩ := c_find (d := d) (X10.cy ho) (X10.pr ho) hT hBB (by omega) hp (by omega : 1 ≤ len) (by omega) hpp
  refine ⟨D1, eX10_cycleAt ho ⟨_, c_has (X10.pr ho) hBB _, fun h4 => ?_, fun _ => ⟨fun h4 => ?_, fun _ => ⟨_, c_size (X10.pr ho) hBB, fun _ => ⟨fun h4 => absurd h4 (nn_neg (by omega)), fun _ => ⟨fun _ => ⟨_, D1, a1, fun h4 => ?_, fun h4 => ⟨_, c_cp (X10.cy ho) (by omega), ?_⟩⟩, fun h4 => ?_⟩⟩, fun h4 => ?_⟩⟩⟩, h.scratch fun q hq => a3 q (by omega) (by omega), fun q hq => a3 q (by omega) (by omega)⟩
  · rw [isP_n h10 (by omega), decide_eq_true hp] at h4; cases bI_0.mp h4
  · rw [nI_ltI (by omega) (by decide)] at h4; omega
  · rw [bI_0.mp h4]; exact ⟨rfl, rfl⟩
  · have h5 := bI_n0.mp h4
    rw [h5, if_pos rfl, a2 h5 z hz]; exact ⟨rfl, rfl⟩
  · exact absurd ((nI_ltI (by omega) (by omega)).mpr hz) h4
  · exact absurd ((nI_leI (by omega) (by omega)).mpr hlen) h4
theorem l_wap_15 (hb : isX0 lay b) (hB : brd D b n be we) (hT : trn n be) {place w : Nat} (hw : w < 20) {Q : Option Value → am_D → Prop} {acc : Nat} (hacc : acc < 1000) (hQ1 : acc + eqW be w n ≤ place → am_AW lay (d + 2) mX0_winsAtPlace 4 [.ref b, .int (nI place), .int (nI (acc + eqW be w n)), .int (nI (w + 1)), .null] [] D Q) (hQ2 : place < acc + eqW be w n → Q (some (.int (nI w))) D) (hpl : place < 1000) : ∀ j i, i + j = n → am_AW lay (d + 2) mX0_winsAtPlace 15 [.ref b, .int (nI place), .int (nI (acc + eqW be w i)), .int (nI w), .int (nI i)] [] D Q := by
  have h10 := hT.2.1
  have hle : ∀ i, eqW be w i ≤ i := fun i => by
    unfold eqW; exact Nat.le_trans List.countP_le_length (by simp)
  intro j
  induction j with
  | zero =>
    intro i hi
    obtain rfl : i = n := by omega
    have := hle i
    refine rX0_winsAtPlace_15 hb ⟨fun _ => ⟨fun h2 => ?_, fun h2 => ?_⟩, fun h2 => ?_⟩
    · rw [nI_leI (by omega) (by omega)] at h2
      rw [nI_add]; exact hQ1 h2
    · rw [nI_leI (by omega) (by omega)] at h2
      exact hQ2 (by omega)
    · rw [hB.1] at h2; exact absurd (nI_le (Nat.le_refl _) (by omega)) h2
  | succ j ih =>
    intro i hi
    have hnx := ih (i + 1) (by omega)
    have hs : sc be i ≤ 10 := cnt_le _
    rw [eqW_s] at hnx
    refine rX0_winsAtPlace_15 hb ⟨fun h2 => ?_, fun _ => ⟨_, c_winsOf hb hB hT (by omega), fun h2 => ?_, fun h2 => ?_⟩⟩
    · rw [hB.1, nI_leI (by omega) (by omega)] at h2; omega
    · rw [nI_eq (by omega) (by omega)] at h2
      rw [if_neg h2] at hnx
      rw [nI_add, nI_add]; exact hnx
    · rw [Classical.not_not, nI_eq (by omega) (by omega)] at h2
      rw [if_pos h2, ← Nat.add_assoc] at hnx
      rw [nI_add, nI_add]; exact hnx
theorem cum_le (k : Nat) : cum n be k ≤ n * k := by
  unfold cum
  refine sumR_le k fun w => ?_
  unfold eqW; exact Nat.le_trans List.countP_le_length (by simp)
theorem l_wap_4 (hb : isX0 lay b) (hB : brd D b n be we) (hT : trn n be) {place : Nat} (hpl : place < 1000) : ∀ j w, w + j = n → ∀ Q : Option Value → am_D → Prop, Q (some (.int (nI (atF n be place j w)))) D → am_AW lay (d + 2) mX0_winsAtPlace 4 [.ref b, .int (nI place), .int (nI (cum n be w)), .int (nI w), .null] [] D Q := by
  have h10 := hT.2.1
  intro j
  induction j with
  | zero =>
    intro w hw Q hQ
    obtain rfl : w = n := by omega
    refine rX0_winsAtPlace_4 hb ⟨fun _ => hQ, fun h2 => ?_⟩
    rw [hB.1] at h2; exact absurd (nI_le (Nat.le_refl _) (by omega)) h2
  | succ j ih =>
    intro w hw Q hQ
    unfold atF at hQ
    have hc := cum_le (n := n) (be := be) w
    have hc2 : n * w ≤ 10 * 10 := Nat.mul_le_mul (by omega) (by omega)
    refine rX0_winsAtPlace_4 hb ⟨fun h2 => ?_, fun _ => ?_⟩
    · rw [hB.1, nI_leI (by omega) (by omega)] at h2; omega
    · have e0 : eqW be w 0 = 0 := rfl
      have e1 : cum n be (w + 1) = cum n be w + eqW be w n := rfl
      have := l_wap_15 (d := d) hb hB hT (place := place) (w := w) (by omega) (Q := Q) (acc := cum n be w) (by omega) (fun h2 => by
        rw [if_neg (by omega)] at hQ
        have := ih (w + 1) (by omega) Q hQ
        rw [e1] at this; exact this) (fun h2 => by rw [if_pos (by omega)] at hQ; exact hQ) hpl n 0 (by omega)
      rw [e0, Nat.add_zero] at this
      exact this
theorem c_winsAtPlace (hb : isX0 lay b) (hB : brd D b n be we) (hT : trn n be) {place : Nat} (hpl : place < 1000) : am_MetP lay (d + 2) mX0_winsAtPlace [.ref b, .int (nI place)] D (nI (atF n be place n 0)) := eX0_winsAtPlace hb (l_wap_4 hb hB hT hpl n 0 (by omega) _ ⟨rfl, rfl⟩)
theorem d_scoreAt (ho : isX10 lay o) (h : RD D o B (T, T', H, s, t)) (v : Int32) : (isP T.1 v = false → am_MetP lay (d + 3) mX10_scoreAt [.ref o, .int v] D (-1)) ∧ ∀ p, p < T.1 → v = nI p → am_MetP lay (d + 3) mX10_scoreAt [.ref o, .int v] D (nI (atF T.1 T.2.1 p T.1 0)) := by
  have h10 := h.n10
  have hBB : brd D (o + 1) T.1 T.2.1 T.2.2 := h.1
  refine ⟨fun hv => eX10_scoreAt ho ⟨_, c_has (X10.pr ho) hBB v, fun _ => ⟨rfl, rfl⟩, fun h3 => ?_⟩, fun p hp hv => ?_⟩
  · rw [hv] at h3; exact absurd rfl h3
  · subst hv
    refine eX10_scoreAt ho ⟨_, c_has (X10.pr ho) hBB _, fun h3 => ?_, fun _ => ⟨_, c_winsAtPlace (X10.pr ho) hBB h.2.1.1 (by omega), rfl, rfl⟩⟩
    rw [isP_n h10 (by omega), decide_eq_true hp] at h3; cases bI_0.mp h3
end DS5
