/-! the model: its row now, its smallest methods -/
def mrow (f : Nat → Int32) (T : am_T) : Prop := f 0 = nI T.1 ∧ (∀ p, p < 10 → f (1 + p) = nI (msk (T.2.1 p))) ∧ ∀ p q, p < 10 → q < 10 → f (11 + 10 * p + q) = nI (T.2.2 p q)
theorem mrow.cong {f g : Nat → Int32} {T : am_T} (h : mrow f T) (e : ∀ k, k < 111 → g k = f k) : mrow g T :=
  ⟨by rw [e 0 (by omega)]; exact h.1, fun p hp => by rw [e _ (by omega)]; exact h.2.1 p hp, fun p q hp hq => by rw [e _ (by omega)]; exact h.2.2 p q hp hq⟩
theorem e0_ : (nI 0).toNatClampNeg = 0 := by decide
theorem am_upI {D : am_D} {q k j : Nat} {x : Int32} : am_up D q k x q j = if j = k then x else D q j := by
  unfold am_up
  by_cases h : j = k
  · rw [if_pos ⟨rfl, h⟩, if_pos h]
  · rw [if_neg (fun c => h c.2), if_neg h]
theorem cnt_s : ∀ s, s < 1024 → s ≠ 0 → cnt s = cnt (s &&& (s - 1)) + 1 ∧ s &&& (s - 1) < s := by decide +kernel
theorem cntz_ : cnt 0 = 0 := by decide +kernel
theorem bg0_row2 : ∀ n, n ≤ 10 → ∀ p, p < 10 → mdf (2 ^ n - 1) (2 ^ (p + 1) - 1) = msk (bg0 n p) := by decide +kernel
theorem isP_in {n : Nat} (hn : 1 ≤ n) (h : n ≤ 10) (v : Int32) : decide (¬ v < nI 0 ∧ ¬ nI (n - 1) < v) = isP n v := by
  unfold isP
  apply decide_eq_decide.mpr
  constructor
  · rintro ⟨h1, h2⟩
    refine ⟨h1, fun h3 => ?_⟩
    obtain ⟨j, hj, rfl⟩ := nI_of h1
    rw [nI_ltI (by omega) hj] at h2
    rw [nI_leI (by omega) hj] at h3
    omega
  · rintro ⟨h1, h2⟩
    refine ⟨h1, fun h3 => ?_⟩
    obtain ⟨j, hj, rfl⟩ := nI_of h1
    rw [nI_leI (by omega) hj] at h2
    rw [nI_ltI (by omega) hj] at h3
    omega
section MO1
variable {lay : List am_L} {d : Nat} {D : am_D} {o n : Nat} {be : Nat → Nat → Bool} {we : Nat → Nat → Nat}
theorem k_in (v0 v1 v2 : Int32) : am_MetP lay d mX11_in [.int v0, .int v1, .int v2] D (bI (decide (¬ v0 < v1 ∧ ¬ v2 < v0))) := by
  refine eX11_in ⟨fun h => ?_, fun h => ⟨fun h2 => ?_, fun h2 => ?_⟩⟩
  · rw [decide_eq_false (fun q => q.1 h)]; exact ⟨rfl, rfl⟩
  · rw [decide_eq_false (fun q => q.2 h2)]; exact ⟨rfl, rfl⟩
  · rw [decide_eq_true ⟨h, h2⟩]; exact ⟨rfl, rfl⟩
theorem bI_n1 {b : Bool} : ¬ bI b = nI 1 ↔ b = false := by cases b <;> decide
theorem k_has {s p : Nat} (hp : p < 31) : am_MetP lay d mX11_has [.int (nI s), .int (nI p)] D (bI (s.testBit p)) := by
  refine eX11_has ?_
  rw [nn_bit hp]
  refine ⟨fun h => ?_, fun h => ?_⟩
  · rw [bI_n1.mp h]; exact ⟨rfl, rfl⟩
  · have : s.testBit p = true := by
      cases e : s.testBit p with
      | true => rfl
      | false => rw [e] at h; exact absurd (by decide) h
    rw [this]; exact ⟨rfl, rfl⟩
theorem l_count {v0 : Int32} {Q : Option Value → am_D → Prop} : ∀ k s a, s ≤ k → s < 1024 → Q (some (.int (nI (a + cnt s)))) D → am_AW lay d mX11_count 4 [.int v0, .int (nI a), .int (nI s)] [] D Q := by
  intro k
  induction k with
  | zero =>
    intro s a hs h hQ
    obtain rfl : s = 0 := by omega
    rw [cntz_] at hQ
    exact rX11_count_4 ⟨fun _ => hQ, fun h2 => absurd rfl h2⟩
  | succ k ih =>
    intro s a hs h hQ
    refine rX11_count_4 ⟨fun h2 => ?_, fun h2 => ?_⟩
    · rw [nI_eq (by omega) (by omega)] at h2
      subst h2
      rw [cntz_] at hQ; exact hQ
    · rw [nI_eq (by omega) (by omega)] at h2
      obtain ⟨c1, c2⟩ := cnt_s s h h2
      rw [nn_sub (by omega), nn_and, nI_add]
      refine ih _ _ (by omega) (by omega) ?_
      rw [c1] at hQ
      rw [Nat.add_assoc, Nat.add_comm 1]; exact hQ
theorem k_count {s : Nat} (h : s < 1024) : am_MetP lay d mX11_count [.int (nI s)] D (nI (cnt s)) := eX11_count (l_count s s 0 (Nat.le_refl _) h ⟨by rw [Nat.zero_add], rfl⟩)
theorem k_n (ho : isX11 lay o) (hB : mrow (D (o + 1)) (n, be, we)) : am_MetP lay d mX11_n [.ref o] D (nI n) := eX11_n ho ⟨vp_in_nI (by decide) (by decide), by rw [e0_, hB.1], rfl⟩
theorem k_all (ho : isX11 lay o) (hB : mrow (D (o + 1)) (n, be, we)) (hn : n ≤ 10) : am_MetP lay d mX11_all [.ref o] D (nI (ful n)) := by
  refine eX11_all ho ⟨vp_in_nI (by decide) (by decide), ?_⟩
  have h0 : D (o + 1) 0 = nI n := hB.1
  rw [e0_, h0, nn_shl1 n (by omega), nn_sub (Nat.two_pow_pos n)]
  exact ⟨rfl, rfl⟩
theorem k_beaten (ho : isX11 lay o) (hB : mrow (D (o + 1)) (n, be, we)) {p : Nat} (hp : p < 10) : am_MetP lay d mX11_beaten [.ref o, .int (nI p)] D (nI (msk (be p))) := by
  refine eX11_beaten ho ?_
  rw [nI_add, nI_clamp (by omega), hB.2.1 p hp]
  exact ⟨vp_in_nI (by omega) (by decide), rfl, rfl⟩
theorem k_beats1 (ho : isX11 lay o) (hB : mrow (D (o + 1)) (n, be, we)) (hT : trn n be) {p q : Nat} (hp : p < 10) (hq : q < 31) : am_MetP lay (d + 1) mX11_beats1 [.ref o, .int (nI p), .int (nI q)] D (bI (be p q)) := by
  have h1 := k_has (lay := lay) (d := d) (D := D) (s := msk (be p)) hq
  rw [hT.mskt] at h1
  exact eX11_beats1 ho ⟨_, k_beaten ho hB hp, _, h1, bI_nar _, rfl, rfl⟩
theorem k_isPlayer (ho : isX11 lay o) (hB : mrow (D (o + 1)) (n, be, we)) (hT : trn n be) (v : Int32) : am_MetP lay (d + 1) mX11_isPlayer [.ref o, .int v] D (bI (isP n v)) := by
  have h0 : D (o + 1) 0 = nI n := hB.1
  have h2 := hT.1
  have h10 := hT.2.1
  refine eX11_isPlayer ho ⟨vp_in_nI (by decide) (by decide), ?_⟩
  rw [e0_, h0, nn_sub (by omega : 1 ≤ n)]
  have h1 := k_in (lay := lay) (d := d) (D := D) v (nI 0) (nI (n - 1))
  rw [isP_in (by omega) h10] at h1
  exact ⟨_, h1, bI_nar _, rfl, rfl⟩
theorem k_isPair (ho : isX11 lay o) (hB : mrow (D (o + 1)) (n, be, we)) (hT : trn n be) (v w : Int32) : am_MetP lay (d + 2) mX11_isPair [.ref o, .int v, .int w] D (bI (isPr n v w)) := by
  refine eX11_isPair ho ⟨_, k_isPlayer ho hB hT v, fun h => ?_, fun h => ⟨_, k_isPlayer ho hB hT w, fun h2 => ?_, fun h2 => ⟨fun h3 => ?_, fun h3 => ?_⟩⟩⟩
  · unfold isPr; rw [bI_0.mp h]; exact ⟨rfl, rfl⟩
  · unfold isPr; rw [bI_n0.mp h, bI_0.mp h2]; exact ⟨rfl, rfl⟩
  · unfold isPr; rw [bI_n0.mp h, bI_n0.mp h2, decide_eq_false (by simpa using h3)]; exact ⟨rfl, rfl⟩
  · unfold isPr; rw [bI_n0.mp h, bI_n0.mp h2, decide_eq_true h3]; exact ⟨rfl, rfl⟩
theorem k_at (p q : Nat) : am_MetP lay d mX11_at [.int (nI p), .int (nI q)] D (nI (11 + 10 * p + q)) := by
  refine eX11_at ?_
  rw [nn_mul, nI_add, nI_add]; exact ⟨rfl, rfl⟩
/-! the first tournament -/
def bgI (D : am_D) (o n i j : Nat) : Prop := D (o + 1) 0 = nI n ∧ (∀ p, p < i → D (o + 1) (1 + p) = nI (msk (bg0 n p)) ∧ ∀ q, q < 10 → D (o + 1) (11 + 10 * p + q) = nI 1) ∧ (0 < j → D (o + 1) (1 + i) = nI (msk (bg0 n i))) ∧ ∀ q, q + 1 < j → D (o + 1) (11 + 10 * i + q) = nI 1
theorem l_begins (ho : isX11 lay o) (hn : n ≤ 10) : ∀ k i j D, 12 * i + j + k = 120 → j ≤ 11 → i ≤ 10 → (i = 10 → j = 0) → bgI D o n i j → ∃ D1, bgI D1 o n 10 0 ∧ (∀ q, q ≠ o + 1 → D1 q = D q) ∧ ∀ Q : Option Value → am_D → Prop, Q none D1 → if j = 0 then am_AW lay (d + 1) mX11_begins 9 [.ref o, .int (nI n), .int (nI i), .null] [] D Q else am_AW lay (d + 1) mX11_begins 38 [.ref o, .int (nI n), .int (nI i), .int (nI (j - 1))] [] D Q := by
  intro k
  induction k with
  | zero =>
    intro i j D hk hj hi h10 hD
    obtain rfl : i = 10 := by omega
    obtain rfl : j = 0 := by omega
    refine ⟨D, hD, fun _ _ => rfl, fun Q hQ => ?_⟩
    rw [if_pos rfl]
    exact rX11_begins_9 ho ⟨fun _ => hQ, fun h => absurd (nI_le (Nat.le_refl _) (by decide)) h⟩
  | succ k ih =>
    intro i j D hk hj hi h10 hD
    obtain ⟨b1, b2, b3, b4⟩ := hD
    have hi9 : i < 10 := by omega
    by_cases hj0 : j = 0
    · subst hj0
      obtain ⟨D1, g1, g2, g3⟩ := ih i 1 (am_up D (o + 1) (1 + i) (nI (msk (bg0 n i)))) (by omega) (by omega) hi (by omega) ⟨by rw [am_upI, if_neg (by omega)]; exact b1, fun p hp => ⟨by rw [am_upI, if_neg (by omega)]; exact (b2 p hp).1, fun q hq => by rw [am_upI, if_neg (by omega)]; exact (b2 p hp).2 q hq⟩, fun _ => by rw [am_upI, if_pos rfl], fun q hq => by omega⟩
      refine ⟨D1, g1, fun q hq => by rw [g2 q hq, am_up_ne q hq], fun Q hQ => ?_⟩
      have g4 := g3 Q hQ
      rw [if_neg (by decide)] at g4
      rw [if_pos rfl]
      refine rX11_begins_9 ho ⟨fun h => ?_, fun _ => ?_⟩
      · rw [nI_leI (by decide) (by omega)] at h; omega
      · rw [nI_add, nI_clamp (by omega), nn_shl1 n (by omega), nn_shl2 i (by omega), nn_sub (Nat.two_pow_pos n), nn_sub (Nat.two_pow_pos _), nn_dif, bg0_row2 n hn i hi9]
        refine ⟨vp_in_nI (by omega) (by decide), ?_⟩
        rintro D2 rfl
        exact g4
    · by_cases hj11 : j = 11
      · subst hj11
        obtain ⟨D1, g1, g2, g3⟩ := ih (i + 1) 0 D (by omega) (by omega) (by omega) (fun _ => rfl) ⟨b1, fun p hp => by
          by_cases e : p < i
          · exact b2 p e
          · obtain rfl : p = i := by omega
            exact ⟨b3 (by omega), fun q hq => b4 q (by omega)⟩, fun h => by omega, fun q hq => by omega⟩
        refine ⟨D1, g1, g2, fun Q hQ => ?_⟩
        have g4 := g3 Q hQ
        rw [if_pos rfl] at g4
        rw [if_neg (by decide)]
        refine rX11_begins_38 ho ⟨fun _ => ?_, fun h => absurd (by decide) h⟩
        rw [nI_add]; exact g4
      · obtain ⟨D1, g1, g2, g3⟩ := ih i (j + 1) (am_up D (o + 1) (11 + 10 * i + (j - 1)) (nI 1)) (by omega) (by omega) hi (by omega) ⟨by rw [am_upI, if_neg (by omega)]; exact b1, fun p hp => ⟨by rw [am_upI, if_neg (by omega)]; exact (b2 p hp).1, fun q hq => by rw [am_upI, if_neg (by omega)]; exact (b2 p hp).2 q hq⟩, fun _ => by rw [am_upI, if_neg (by omega)]; exact b3 (by omega), fun q hq => by
          rw [am_upI]
          by_cases e : q = j - 1
          · rw [if_pos (by omega)]
          · rw [if_neg (by omega)]; exact b4 q (by omega)⟩
        refine ⟨D1, g1, fun q hq => by rw [g2 q hq, am_up_ne q hq], fun Q hQ => ?_⟩
        have g4 := g3 Q hQ
        rw [if_neg (by omega)] at g4
        rw [if_neg hj0]
        refine rX11_begins_38 ho ⟨fun h => ?_, fun _ => ⟨_, k_at _ _, vp_in_nI (by omega) (by decide), ?_⟩⟩
        · rw [nI_leI (by decide) (by omega)] at h; omega
        · rintro D2 rfl
          rw [nI_add, nI_clamp (by omega), show j - 1 + 1 = j + 1 - 1 by omega]
          exact g4
theorem k_begins (ho : isX11 lay o) (hn : n ≤ 10) : ∃ D1, am_MetV lay (d + 1) mX11_begins [.ref o, .int (nI n)] D D1 ∧ mrow (D1 (o + 1)) (n, bg0 n, fun _ _ => 1) ∧ ∀ q, q ≠ o + 1 → D1 q = D q := by
  obtain ⟨D1, g1, g2, g3⟩ := l_begins (d := d) ho hn 120 0 0 (am_up D (o + 1) 0 (nI n)) (by omega) (by omega) (by omega) (by omega) ⟨by rw [am_upI, if_pos rfl], fun p hp => by omega, fun h => by omega, fun q hq => by omega⟩
  refine ⟨D1, ?_, ⟨g1.1, fun p hp => (g1.2.1 p hp).1, fun p q hp hq => (g1.2.1 p hp).2 q hq⟩, fun q hq => by rw [g2 q hq, am_up_ne q hq]⟩
  have g4 := g3 (fun r D2 => r = none ∧ D2 = D1) ⟨rfl, rfl⟩
  rw [if_pos rfl] at g4
  refine eX11_begins ho ⟨vp_in_nI (by decide) (by decide), ?_⟩
  rintro D2 rfl
  rw [e0_]; exact g4
/-! results set and turned -/
theorem or_bit {be : Nat → Nat → Bool} (hT : trn n be) {x y : Nat} (hy : y < n) : msk (be x) ||| 2 ^ y = msk (stw be x y x) := by
  have h10 := hT.2.1
  refine set_ext (or_lt (msk_lt _) ?_) (msk_lt _) fun i hi => ?_
  · have : 2 ^ y < 2 ^ 10 := Nat.pow_lt_pow_right (by decide) (by omega)
    exact this
  · rw [Nat.testBit_or, msk_t, msk_t, Nat.testBit_two_pow, decide_eq_true hi, Bool.true_and, Bool.true_and]
    unfold stw
    by_cases e : i = y
    · subst e; simp
    · have e1 : ¬ y = i := fun h => e h.symm
      rw [if_neg (by omega)]
      by_cases e2 : x = y ∧ i = x
      · omega
      · rw [if_neg e2]; simp [e1]
theorem dif_bit {be : Nat → Nat → Bool} (hT : trn n be) {x y : Nat} (hx : x < n) (hne : x ≠ y) : mdf (msk (be y)) (2 ^ x) = msk (stw be x y y) := by
  refine set_ext (mdf_lt (msk_lt _)) (msk_lt _) fun i hi => ?_
  rw [mdf_t, msk_t, msk_t, Nat.testBit_two_pow, decide_eq_true hi, Bool.true_and, Bool.true_and]
  unfold stw
  by_cases e : i = x
  · subst e; rw [if_neg (by omega), if_pos ⟨rfl, rfl⟩]; simp
  · have e1 : ¬ x = i := fun h => e h.symm
    rw [if_neg (by omega), if_neg (by omega)]; simp [e1]
theorem stw_far {be : Nat → Nat → Bool} {x y p : Nat} (h1 : p ≠ x) (h2 : p ≠ y) : stw be x y p = be p := by
  funext q
  unfold stw
  rw [if_neg (by omega), if_neg (by omega)]
theorem k_wins (ho : isX11 lay o) (hB : mrow (D (o + 1)) (n, be, we)) (hT : trn n be) {x y : Nat} (hx : x < n) (hy : y < n) (hne : x ≠ y) : ∃ D1, am_MetV lay d mX11_wins [.ref o, .int (nI x), .int (nI y)] D D1 ∧ mrow (D1 (o + 1)) (n, stw be x y, we) ∧ ∀ q, q ≠ o + 1 → D1 q = D q := by
  have h10 := hT.2.1
  obtain ⟨b1, b2, b3⟩ := hB
  have v1 : D (o + 1) (1 + x) = nI (msk (be x)) := b2 x (by omega)
  have v2 : D (o + 1) (1 + y) = nI (msk (be y)) := b2 y (by omega)
  apply Exists.intro
  apply And.intro
  · refine eX11_wins ho ?_
    rw [nI_add, nI_add, nI_clamp (by omega), nI_clamp (by omega), nn_shl1 x (by omega), nn_shl1 y (by omega), v1, nn_or, or_bit hT hy]
    refine ⟨vp_in_nI (by omega) (by decide), vp_in_nI (by omega) (by decide), ?_⟩
    rintro D1 rfl
    rw [am_upI, if_neg (by omega), v2, nn_dif, dif_bit hT hx hne]
    refine ⟨vp_in_nI (by omega) (by decide), vp_in_nI (by omega) (by decide), ?_⟩
    rintro D2 rfl
    exact ⟨rfl, rfl⟩
  · refine ⟨⟨?_, fun p hp => ?_, fun p q hp hq => ?_⟩, fun q hq => ?_⟩
    · rw [am_upI, if_neg (by omega), am_upI, if_neg (by omega)]; exact b1
    · show _ = nI (msk (stw be x y p))
      rw [am_upI, am_upI]
      by_cases e1 : p = y
      · subst e1; rw [if_pos rfl]
      · by_cases e2 : p = x
        · subst e2; rw [if_neg (by omega), if_pos rfl]
        · rw [if_neg (by omega), if_neg (by omega), stw_far e2 e1]; exact b2 p hp
    · rw [am_upI, if_neg (by omega), am_upI, if_neg (by omega)]; exact b3 p q hp hq
    · rw [am_up_ne q hq, am_up_ne q hq]
theorem flp_swap {be : Nat → Nat → Bool} {x y : Nat} : flp be x y = flp be y x := by
  funext p q; unfold flp; simp only [or_comm, and_comm]
theorem k_turns (ho : isX11 lay o) (hB : mrow (D (o + 1)) (n, be, we)) (hT : trn n be) {x y : Nat} (hx : x < n) (hy : y < n) (hne : x ≠ y) : ∃ D1, am_MetV lay (d + 2) mX11_turns [.ref o, .int (nI x), .int (nI y)] D D1 ∧ mrow (D1 (o + 1)) (n, flp be x y, we) ∧ ∀ q, q ≠ o + 1 → D1 q = D q := by
  have h10 := hT.2.1
  have hb := k_beats1 (lay := lay) (d := d) ho hB hT (p := x) (q := y) (by omega) (by omega)
  cases h : be x y with
  | false =>
    rw [h] at hb
    obtain ⟨D1, g1, g2, g3⟩ := k_wins (d := d + 1) ho hB hT hx hy hne
    rw [stw_flp hT hne hx hy h] at g2
    exact ⟨D1, eX11_turns ho ⟨_, hb, fun _ => ⟨D1, g1, rfl, rfl⟩, fun c => absurd rfl c⟩, g2, g3⟩
  | true =>
    rw [h] at hb
    obtain ⟨D1, g1, g2, g3⟩ := k_wins (d := d + 1) ho hB hT hy hx (Ne.symm hne)
    rw [stw_flp hT (Ne.symm hne) hy hx (hT.2.2.1 x y h).2.2, flp_swap] at g2
    exact ⟨D1, eX11_turns ho ⟨_, hb, fun c => absurd c (by decide), fun _ => ⟨D1, g1, rfl, rfl⟩⟩, g2, g3⟩
theorem k_isCycle (ho : isX11 lay o) (hB : mrow (D (o + 1)) (n, be, we)) (hT : trn n be) {x y z : Nat} (hx : x < n) (hy : y < n) (hz : z < n) (n1 : x ≠ y) (n2 : y ≠ z) (n3 : x ≠ z) : am_MetP lay (d + 2) mX11_isCycle [.ref o, .int (nI x), .int (nI y), .int (nI z)] D (bI (tri be x y z)) := by
  have h10 := hT.2.1
  have g : ∀ {p q : Nat}, p < n → q < n → am_MetP lay (d + 1) mX11_beats1 [.ref o, .int (nI p), .int (nI q)] D (bI (be p q)) := fun {p q} hp hq => k_beats1 (lay := lay) (d := d) ho hB hT (by omega) (by omega)
  have a1 := hT.anti hx hy n1
  have a2 := hT.anti hy hz n2
  have a3 := hT.anti hx hz n3
  have e : tri be x y z = ((be x y && be y z && be z x) || (be y x && be z y && be x z)) := by
    unfold tri
    rw [a1, a2, a3]
    cases be x y <;> cases be y z <;> cases be x z <;> rfl
  rw [e]
  refine eX11_isCycle ho ⟨_, g hx hy, fun h1 => ⟨_, g hy hx, fun h2 => ?_, fun h2 => ⟨_, g hz hy, fun h3 => ?_, fun h3 => ⟨_, g hx hz, fun h4 => ?_, fun h4 => ?_⟩⟩⟩, fun h1 => ⟨_, g hy hz, fun h2 => ⟨_, g hy hx, fun h3 => ?_, fun h3 => ⟨_, g hz hy, fun h4 => ?_, fun h4 => ⟨_, g hx hz, fun h5 => ?_, fun h5 => ?_⟩⟩⟩, fun h2 => ⟨_, g hz hx, fun h3 => ?_, fun h3 => ⟨_, g hy hx, fun h4 => ?_, fun h4 => ⟨_, g hz hy, fun h5 => ?_, fun h5 => ⟨_, g hx hz, fun h6 => ?_, fun h6 => ?_⟩⟩⟩⟩⟩⟩
  all_goals simp only [Classical.not_not, bI_0, bI_n0] at *
  all_goals simp_all
  all_goals first | rfl | exact ⟨rfl, rfl⟩
end MO1
