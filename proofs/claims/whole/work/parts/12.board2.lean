/-! rows filled in order; Board's changes -/
def fil (D : am_D) (c i : Nat) (f : Nat → Int32) : am_D := fun q k => if q = c ∧ k < i then f k else D q k
theorem fil_0 {D : am_D} {c : Nat} {f : Nat → Int32} : fil D c 0 f = D := by funext q k; simp [fil]
theorem fil_up {D : am_D} {c i : Nat} {f : Nat → Int32} : am_up (fil D c i f) c i (f i) = fil D c (i + 1) f := by
  funext q k
  unfold am_up fil
  by_cases h : q = c
  · subst h
    by_cases e : k = i
    · subst e; simp
    · by_cases g : k < i
      · simp [e, g, Nat.lt_succ_of_lt g]
      · simp [e, g, show ¬ k < i + 1 by omega]
  · simp [h]
theorem fil_ne {D : am_D} {c i : Nat} {f : Nat → Int32} {q : Nat} (h : q ≠ c) : fil D c i f q = D q := by funext k; simp [fil, h]
theorem fil_in {D : am_D} {c i : Nat} {f : Nat → Int32} {k : Nat} (h : k < i) : fil D c i f c k = f k := by simp [fil, h]
theorem fil_out {D : am_D} {c i : Nat} {f : Nat → Int32} {k : Nat} (h : ¬ k < i) : fil D c i f c k = D c k := by simp [fil, h]
/-- the first tournament: the lower number wins -/
def bg0 (n : Nat) : Nat → Nat → Bool := fun p q => decide (p < q) && decide (q < n)
theorem bg0_trn {n : Nat} (h2 : 2 ≤ n) (h : n ≤ 10) : trn n (bg0 n) := by
  refine ⟨h2, h, fun p q e => ?_, fun p q hp hq hne => ?_⟩
  · simp [bg0] at e ⊢; omega
  · simp [bg0]; omega
theorem bg0_row : ∀ n, n ≤ 10 → ∀ p, p < n → 2 ^ n - 2 ^ (p + 1) = msk (bg0 n p) := by decide +kernel
theorem start_size : ∀ n, n ≤ 10 → 2 ≤ n → (if nI 2 < (if nI 10 < nI n then nI 10 else nI n) then (if nI 10 < nI n then nI 10 else nI n) else nI 2) = nI n := by decide +kernel
section BRE
variable {lay : List am_L} {d : Nat} {D : am_D} {b n : Nat} {be : Nat → Nat → Bool} {we : Nat → Nat → Nat}
theorem l_start_71 (hb : isX0 lay b) {v1 : Int32} {Q : Option Value → am_D → Prop} (hQ : Q none (fil D (b + 2) 100 fun _ => nI 1)) : ∀ k i, i + k = 100 → am_AW lay (d + 1) mX0_start 71 [.ref b, .int v1, .int (nI i)] [] (fil D (b + 2) i fun _ => nI 1) Q := by
  intro k
  induction k with
  | zero =>
    intro i h
    obtain rfl : i = 100 := by omega
    exact rX0_start_71 hb ⟨fun _ => hQ, fun h => absurd (nI_le (Nat.le_refl _) (by decide)) h⟩
  | succ k ih =>
    intro i h
    refine rX0_start_71 hb ⟨fun h2 => ?_, fun _ => ⟨vp_in_nI (by omega) (by decide), ?_⟩⟩
    · rw [nI_leI (by decide) (by omega)] at h2; omega
    · rintro D1 rfl
      rw [nI_clamp (by omega), fil_up, nI_add]
      exact ih (i + 1) (by omega)
theorem l_start_26 (hb : isX0 lay b) {v1 : Int32} {Q : Option Value → am_D → Prop} (hn : n ≤ 10) (h0 : D b 0 = nI n) (hQ : am_AW lay (d + 1) mX0_start 71 [.ref b, .int v1, .int (nI 0)] [] (fil D (b + 1) 10 fun p => nI (msk (bg0 n p))) Q) : ∀ k i, i + k = 10 → am_AW lay (d + 1) mX0_start 26 [.ref b, .int v1, .int (nI i)] [] (fil D (b + 1) i fun p => nI (msk (bg0 n p))) Q := by
  intro k
  induction k with
  | zero =>
    intro i h
    obtain rfl : i = 10 := by omega
    exact rX0_start_26 hb ⟨fun _ => hQ, fun h => absurd (nI_le (Nat.le_refl _) (by decide)) h⟩
  | succ k ih =>
    intro i h
    have e0 : fil D (b + 1) i (fun p => nI (msk (bg0 n p))) b 0 = nI n := by rw [fil_ne (by omega), h0]
    refine rX0_start_26 hb ⟨fun h2 => ?_, fun _ => ⟨fun h2 => ?_, fun h2 => ?_⟩⟩
    · rw [nI_leI (by decide) (by omega)] at h2; omega
    · rw [e0, nI_leI (by omega) (by omega)] at h2
      refine ⟨vp_in_nI (by omega) (by decide), ?_⟩
      rintro D1 rfl
      have e1 : nI 0 = (fun p => nI (msk (bg0 n p))) i := by
        show nI 0 = nI (msk (bg0 n i))
        congr 1
        exact (set_ext (msk_lt _) (by decide) fun j _ => by rw [msk_t]; simp [bg0]; omega).symm
      rw [nI_clamp (by omega), e1, fil_up, nI_add]
      exact ih (i + 1) (by omega)
    · rw [e0, nI_leI (by omega) (by omega)] at h2
      refine ⟨vp_in_nI (by omega) (by decide), ?_⟩
      rintro D1 rfl
      have e1 : nI 1 <<< (nI n &&& 31) - nI 2 <<< (nI i &&& 31) = (fun p => nI (msk (bg0 n p))) i := by
        show _ = nI (msk (bg0 n i))
        rw [nn_shl1 n (by omega), nn_shl2 i (by omega), nn_sub (Nat.pow_le_pow_right (by decide) (by omega)), bg0_row n hn i (by omega)]
      rw [e0, nI_clamp (by omega), e1, fil_up, nI_add]
      exact ih (i + 1) (by omega)
theorem c_start (hb : isX0 lay b) (h2 : 2 ≤ n) (h10 : n ≤ 10) : ∃ D1, am_MetV lay (d + 1) mX0_start [.ref b, .int (nI n)] D D1 ∧ brd D1 b n (bg0 n) (fun _ _ => 1) ∧ chg D D1 b 1 := by
  apply Exists.intro
  apply And.intro
  · refine eX0_start hb ?_
    rintro D1 rfl D2 rfl
    have hm := start_size n h10 h2
    rw [hm]
    have h1 := l_start_26 (d := d) (v1 := nI n) (Q := fun r D3 => r = none ∧ D3 = fil (fil (am_up (am_up D b 1 (D b 1 + nI 1)) b 0 (nI n)) (b + 1) 10 fun p => nI (msk (bg0 n p))) (b + 2) 100 fun _ => nI 1) hb h10 (D := am_up (am_up D b 1 (D b 1 + nI 1)) b 0 (nI n)) (by simp [am_up]) (by
      have h2 := l_start_71 (d := d) (v1 := nI n) (D := fil (am_up (am_up D b 1 (D b 1 + nI 1)) b 0 (nI n)) (b + 1) 10 fun p => nI (msk (bg0 n p))) (Q := fun r D3 => r = none ∧ D3 = fil (fil (am_up (am_up D b 1 (D b 1 + nI 1)) b 0 (nI n)) (b + 1) 10 fun p => nI (msk (bg0 n p))) (b + 2) 100 fun _ => nI 1) hb ⟨rfl, rfl⟩ 100 0 rfl
      rw [fil_0] at h2
      exact h2) 10 0 rfl
    rw [fil_0] at h1
    exact h1
  · refine ⟨⟨?_, fun p hp => ?_, fun p q hp hq => ?_⟩, fun q q0 q1 q2 => ?_, fun i hi => ?_, 1, Nat.le_refl _, ?_, fun h => by cases h⟩
    · rw [fil_ne (by omega), fil_ne (by omega)]; simp [am_up]
    · rw [fil_ne (by omega), fil_in hp]
    · rw [fil_in (by omega)]
    · rw [fil_ne q2, fil_ne q1]; funext j; simp [am_up, q0]
    · rw [fil_ne (by omega), fil_ne (by omega)]; simp [am_up, show i ≠ 0 by omega, show i ≠ 1 by omega]
    · rw [fil_ne (by omega), fil_ne (by omega)]; simp [am_up]
theorem c_copyFrom {a : Nat} (hb : isX0 lay b) (ha : isX0 lay a) (hB : brd D a n be we) (hne : a ≠ b ∧ a ≠ b + 1 ∧ a ≠ b + 2 ∧ a + 1 ≠ b ∧ a + 2 ≠ b ∧ a + 1 ≠ b + 2 ∧ a + 2 ≠ b + 1) : ∃ D1, am_MetV lay (d + 1) mX0_copyFrom [.ref b, .ref a] D D1 ∧ brd D1 b n be we ∧ chg D D1 b 1 := by
  obtain ⟨n0, n1, n2, n3, n4, n5, n6⟩ := hne
  apply Exists.intro
  apply And.intro
  · refine eX0_copyFrom hb ha ?_
    rintro D1 rfl D2 rfl D3 rfl D4 rfl
    exact ⟨rfl, rfl⟩
  · have e10 : (nI 10).toNatClampNeg = 10 := by decide
    have e100 : (nI 100).toNatClampNeg = 100 := by decide
    rw [e10, e100]
    refine ⟨⟨?_, fun p hp => ?_, fun p q hp hq => ?_⟩, fun q q0 q1 q2 => ?_, fun i hi => ?_, 1, Nat.le_refl _, ?_, fun h => by cases h⟩
    · simp [am_cp, am_up, n0, hB.1]
    · simp [am_cp, am_up, hp, n3]; exact hB.2.1 p hp
    · have : p * 10 + q < 100 := by omega
      simp [am_cp, am_up, this, n4, n6]; exact hB.2.2 p q hp hq
    · funext j; simp [am_cp, am_up, q0, q1, q2]
    · have h1 : i ≠ 0 := by omega
      have h2 : i ≠ 1 := by omega
      simp [am_cp, am_up, h1, h2]
    · simp [am_cp, am_up]
/-- a result set -/
def stw (be : Nat → Nat → Bool) (x y : Nat) : Nat → Nat → Bool := fun p q => if p = x ∧ q = y then true else if p = y ∧ q = x then false else be p q
theorem stw_flp (hT : trn n be) {x y : Nat} (hne : x ≠ y) (hx : x < n) (hy : y < n) (h : be x y = false) : stw be x y = flp be x y := by
  funext p q
  unfold stw flp
  by_cases c : p = x ∧ q = y
  · obtain ⟨rfl, rfl⟩ := c; simp [h]
  · by_cases c2 : p = y ∧ q = x
    · obtain ⟨rfl, rfl⟩ := c2
      rw [if_neg c, if_pos ⟨rfl, rfl⟩, if_pos (Or.inr ⟨rfl, rfl⟩), hT.anti hx hy hne, h]; rfl
    · rw [if_neg c, if_neg c2, if_neg (by omega)]
theorem stw_id (hT : trn n be) {x y : Nat} (h : be x y = true) : stw be x y = be := by
  funext p q
  unfold stw
  by_cases c : p = x ∧ q = y
  · obtain ⟨rfl, rfl⟩ := c; rw [if_pos ⟨rfl, rfl⟩, h]
  · rw [if_neg c]
    by_cases c2 : p = y ∧ q = x
    · obtain ⟨rfl, rfl⟩ := c2; rw [if_pos ⟨rfl, rfl⟩, (hT.2.2.1 _ _ h).2.2]
    · rw [if_neg c2]
theorem stw_trn (hT : trn n be) {x y : Nat} (hx : x < n) (hy : y < n) (hne : x ≠ y) : trn n (stw be x y) := by
  cases h : be x y with
  | true => rw [stw_id hT h]; exact hT
  | false => rw [stw_flp hT hne hx hy h]; exact flp_trn hT hx hy hne
theorem c_setWinner (hb : isX0 lay b) (hB : brd D b n be we) (hT : trn n be) {x y : Nat} (hx : x < n) (hy : y < n) (hne : x ≠ y) : ∃ D1, am_MetV lay (d + 3) mX0_setWinner [.ref b, .int (nI x), .int (nI y)] D D1 ∧ brd D1 b n (stw be x y) we ∧ chg D D1 b 1 := by
  have h10 := hT.2.1
  cases h : be x y with
  | true =>
    refine ⟨D, eX0_setWinner hb ⟨_, c_wins hb hB hT (by omega) (by omega), fun _ => ⟨rfl, rfl⟩, fun h2 => ?_⟩, ?_, chg.rf⟩
    · rw [h] at h2; exact absurd (by decide) h2
    · rw [stw_id hT h]; exact hB
  | false =>
    obtain ⟨D1, h1, h2, h3⟩ := c_turn (d := d) hb hB hT hx hy hne
    refine ⟨D1, eX0_setWinner hb ⟨_, c_wins hb hB hT (by omega) (by omega), fun h4 => ?_, fun _ => ⟨D1, h1, rfl, rfl⟩⟩, ?_, h3⟩
    · rw [h] at h4; exact absurd rfl h4
    · rw [stw_flp hT hne hx hy h]; exact h2
/-- a weight set -/
def stv (we : Nat → Nat → Nat) (x y w : Nat) : Nat → Nat → Nat := fun p q => if (p = x ∧ q = y) ∨ (p = y ∧ q = x) then w else we p q
theorem c_putWeight (hb : isX0 lay b) (hB : brd D b n be we) (hT : trn n be) {x y w : Nat} (hx : x < n) (hy : y < n) (hne : x ≠ y) : ∃ D1, am_MetV lay (d + 2) mX0_putWeight [.ref b, .int (nI x), .int (nI y), .int (nI w)] D D1 ∧ brd D1 b n be (stv we x y w) ∧ chg D D1 b 1 := by
  have h10 := hT.2.1
  have hmin : ∀ a c : Nat, a < 100 → c < 100 → ¬ (if nI a < nI c then nI a else nI c) < nI 0 := by
    intro a c ha hc
    split <;> exact nn_neg (by omega)
  have hmax : ∀ a c : Nat, a < 100 → c < 100 → (if nI c < nI a then nI a else nI c) < nI 100 := by
    intro a c ha hc
    split <;> exact (nI_ltI (by omega) (by decide)).mpr (by assumption)
  apply Exists.intro
  apply And.intro
  · refine eX0_putWeight hb ⟨_, c_hasPair hb hB _ _, fun h => ?_, fun _ => ?_⟩
    · rw [isPr_n h10 (by omega) (by omega), decide_eq_true ⟨hx, hy, hne⟩] at h
      cases bI_0.mp h
    · rw [nn_mul, nn_mul, nI_add, nI_add]
      refine ⟨fun h => absurd h (hmin _ _ (by omega) (by omega)), fun _ => ⟨fun _ => ?_, fun h => absurd (hmax _ _ (by omega) (by omega)) h⟩⟩
      rintro D2 rfl
      refine ⟨vp_in_nI (by omega) (by decide), ?_⟩
      rintro D3 rfl
      refine ⟨vp_in_nI (by omega) (by decide), ?_⟩
      rintro D4 rfl
      exact ⟨rfl, rfl⟩
  · rw [nI_clamp (by omega), nI_clamp (by omega)]
    refine ⟨⟨?_, fun p hp => ?_, fun p q hp hq => ?_⟩, fun q q0 q1 q2 => ?_, fun i hi => ?_, 1, Nat.le_refl _, ?_, fun h => by cases h⟩
    · simp [am_up, hB.1]
    · simp [am_up]; exact hB.2.1 p hp
    · have e1 : (p * 10 + q = y * 10 + x) ↔ (p = y ∧ q = x) := by omega
      have e2 : (p * 10 + q = x * 10 + y) ↔ (p = x ∧ q = y) := by omega
      simp only [am_up, e1, e2, stv]
      by_cases c1 : p = y ∧ q = x
      · simp [c1]
      · by_cases c2 : p = x ∧ q = y
        · simp [c2]
        · simp [c1, c2]; exact hB.2.2 p q hp hq
    · funext j; simp [am_up, q0, q2]
    · simp [am_up]; omega
    · simp [am_up]
/-! two players exchanged, against one other player; against all -/
theorem stw_other {x y o p q : Nat} (h : ¬ ((p = x ∧ q = y) ∨ (p = y ∧ q = x))) : stw be x y p q = be p q := by
  unfold stw; rw [if_neg (by omega), if_neg (by omega)]
/-- the results of x and y against o exchanged -/
def xb1 (be : Nat → Nat → Bool) (x y o : Nat) : Nat → Nat → Bool := fun p q =>
  if p = x ∧ q = o then be y o else if p = y ∧ q = o then be x o else if p = o ∧ q = x then be o y else if p = o ∧ q = y then be o x else be p q
def xw1 (we : Nat → Nat → Nat) (x y o : Nat) : Nat → Nat → Nat := fun p q =>
  if p = x ∧ q = o then we y o else if p = y ∧ q = o then we x o else if p = o ∧ q = x then we y o else if p = o ∧ q = y then we x o else we p q
theorem c_swapAgainst (hb : isX0 lay b) (hB : brd D b n be we) (hT : trn n be) {x y o : Nat} (hx : x < n) (hy : y < n) (ho : o < n) (hxo : x ≠ o) (hyo : y ≠ o) : ∃ D1, am_MetV lay (d + 3) mX0_swapAgainst [.ref b, .int (nI x), .int (nI y), .int (nI o)] D D1 ∧ brd D1 b n (xb1 be x y o) (xw1 we x y o) ∧ chg D D1 b 4 := by
  have h10 := hT.2.1
  by_cases hxy : x = y
  · subst hxy
    obtain ⟨D3, h1, h2, h3⟩ := c_putWeight (d := d) (w := we x o) hb hB hT hx ho hxo
    obtain ⟨D4, g1, g2, g3⟩ := c_putWeight (d := d) (w := we x o) hb h2 hT hx ho hxo
    refine ⟨D4, eX0_swapAgainst hb ⟨_, c_weightOf hb hB hT hx ho, _, c_weightOf hb hB hT hx ho, D3, h1, D4, g1, _, c_wins hb g2 hT (by omega) (by omega), _, c_wins hb g2 hT (by omega) (by omega), fun _ => ⟨rfl, rfl⟩, fun h => absurd rfl h⟩, ?_, (h3.tr g3).mono (by omega)⟩
    have e1 : xb1 be x x o = be := by
      funext p q; unfold xb1
      by_cases c1 : p = x ∧ q = o
      · obtain ⟨rfl, rfl⟩ := c1; simp
      · by_cases c2 : p = o ∧ q = x
        · obtain ⟨rfl, rfl⟩ := c2; rw [if_neg c1, if_neg c1, if_pos ⟨rfl, rfl⟩]
        · rw [if_neg c1, if_neg c1, if_neg c2, if_neg c2]
    have e2 : xw1 we x x o = stv (stv we x o (we x o)) x o (we x o) := by
      funext p q; unfold xw1 stv
      by_cases c1 : p = x ∧ q = o
      · simp [c1]
      · by_cases c2 : p = o ∧ q = x
        · simp [c2]
        · rw [if_neg c1, if_neg c1, if_neg c2, if_neg c2, if_neg (by omega), if_neg (by omega)]
    rw [e1, e2]; exact g2
  · obtain ⟨D3, h1, h2, h3⟩ := c_putWeight (d := d) (w := we y o) hb hB hT hx ho hxo
    obtain ⟨D4, g1, g2, g3⟩ := c_putWeight (d := d) (w := we x o) hb h2 hT hy ho hyo
    have e2 : stv (stv we x o (we y o)) y o (we x o) = xw1 we x y o := by
      funext p q; unfold xw1 stv
      by_cases c1 : p = x ∧ q = o
      · obtain ⟨rfl, rfl⟩ := c1; rw [if_neg (by omega)]; simp
      · by_cases c2 : p = y ∧ q = o
        · obtain ⟨rfl, rfl⟩ := c2; simp [c1]; intro h; exact absurd h.symm hxy
        · by_cases c3 : p = o ∧ q = x
          · obtain ⟨rfl, rfl⟩ := c3; rw [if_neg (by omega)]; simp [c1, c2]
          · by_cases c4 : p = o ∧ q = y
            · obtain ⟨rfl, rfl⟩ := c4; simp [c1, c2, c3]; intro h; exact absurd h.symm hxy
            · rw [if_neg (by omega), if_neg (by omega), if_neg c1, if_neg c2, if_neg c3, if_neg c4]
    rw [e2] at g2
    cases hc : (be x o == be y o) with
    | true =>
      have hc := beq_iff_eq.mp hc
      refine ⟨D4, eX0_swapAgainst hb ⟨_, c_weightOf hb hB hT hx ho, _, c_weightOf hb hB hT hy ho, D3, h1, D4, g1, _, c_wins hb g2 hT (by omega) (by omega), _, c_wins hb g2 hT (by omega) (by omega), fun _ => ⟨rfl, rfl⟩, fun h => absurd (by rw [hc]) h⟩, ?_, (h3.tr g3).mono (by omega)⟩
      have e1 : xb1 be x y o = be := by
        funext p q; unfold xb1
        have a1 := hT.anti hx ho hxo
        have a2 := hT.anti hy ho hyo
        by_cases c1 : p = x ∧ q = o
        · obtain ⟨rfl, rfl⟩ := c1; simp [hc]
        · by_cases c2 : p = y ∧ q = o
          · obtain ⟨rfl, rfl⟩ := c2; simp [c1, hc]
          · by_cases c3 : p = o ∧ q = x
            · obtain ⟨rfl, rfl⟩ := c3; rw [if_neg c1, if_neg c2, if_pos ⟨rfl, rfl⟩, a1, a2, hc]
            · by_cases c4 : p = o ∧ q = y
              · obtain ⟨rfl, rfl⟩ := c4; rw [if_neg c1, if_neg c2, if_neg c3, if_pos ⟨rfl, rfl⟩, a1, a2, hc]
              · rw [if_neg c1, if_neg c2, if_neg c3, if_neg c4]
      rw [e1]; exact g2
    | false =>
      have hc : be x o ≠ be y o := fun h => by rw [h] at hc; simp at hc
      obtain ⟨D7, k1, k2, k3⟩ := c_turn (d := d) hb g2 hT hx ho hxo
      have hT2 := flp_trn hT hx ho hxo
      obtain ⟨D8, m1, m2, m3⟩ := c_turn (d := d) hb k2 hT2 hy ho hyo
      refine ⟨D8, eX0_swapAgainst hb ⟨_, c_weightOf hb hB hT hx ho, _, c_weightOf hb hB hT hy ho, D3, h1, D4, g1, _, c_wins hb g2 hT (by omega) (by omega), _, c_wins hb g2 hT (by omega) (by omega), fun h => absurd (bI_inj.mp h) hc, fun _ => ⟨D7, k1, D8, m1, rfl, rfl⟩⟩, ?_, ((h3.tr g3).tr (k3.tr m3)).mono (by omega)⟩
      have e1 : flp (flp be x o) y o = xb1 be x y o := by
        funext p q; unfold xb1 flp
        have a1 := hT.anti hx ho hxo
        have a2 := hT.anti hy ho hyo
        by_cases c1 : p = x ∧ q = o
        · obtain ⟨rfl, rfl⟩ := c1; rw [if_neg (by omega)]; simp
          cases h : be p q <;> cases h2 : be y q <;> simp_all
        · by_cases c2 : p = y ∧ q = o
          · obtain ⟨rfl, rfl⟩ := c2; simp [c1, show ¬ (p = q ∧ q = x) by omega]
            cases h : be x q <;> cases h2 : be p q <;> simp_all
          · by_cases c3 : p = o ∧ q = x
            · obtain ⟨rfl, rfl⟩ := c3; rw [if_neg (by omega)]; simp [c1, c2]
              rw [a1, a2]; cases h : be q p <;> cases h2 : be y p <;> simp_all
            · by_cases c4 : p = o ∧ q = y
              · obtain ⟨rfl, rfl⟩ := c4; simp [c1, c2, c3]
                rw [a1, a2]; cases h : be x p <;> cases h2 : be q p <;> simp_all
              · rw [if_neg (by omega), if_neg (by omega), if_neg c1, if_neg c2, if_neg c3, if_neg c4]
      rw [← e1]; exact m2
/-- x and y change places -/
def tau (x y p : Nat) : Nat := if p = x then y else if p = y then x else p
def gxi {α : Type} (f : Nat → Nat → α) (x y i p q : Nat) : α := if (q < i ∧ q ≠ x ∧ q ≠ y) ∨ (p < i ∧ p ≠ x ∧ p ≠ y) then f (tau x y p) (tau x y q) else f p q
def gx1 {α : Type} (g : Nat → Nat → α) (x y i p q : Nat) : α := if p = x ∧ q = i then g y i else if p = y ∧ q = i then g x i else if p = i ∧ q = x then g i y else if p = i ∧ q = y then g i x else g p q
abbrev xbi (be : Nat → Nat → Bool) (x y i : Nat) : Nat → Nat → Bool := gxi be x y i
abbrev xwi (we : Nat → Nat → Nat) (x y i : Nat) : Nat → Nat → Nat := gxi we x y i
theorem tau_x {x y : Nat} : tau x y x = y := by simp [tau]
theorem tau_y {x y : Nat} : tau x y y = x := by unfold tau; by_cases h : y = x <;> simp [h]
theorem tau_o {x y p : Nat} (h : p ≠ x) (g : p ≠ y) : tau x y p = p := by simp [tau, h, g]
theorem gxi_step {α : Type} (f : Nat → Nat → α) {x y i : Nat} (hx : i ≠ x) (hy : i ≠ y) (p q : Nat) : gx1 (gxi f x y i) x y i p q = gxi f x y (i + 1) p q := by
  unfold gx1
  by_cases c1 : p = x ∧ q = i
  · obtain ⟨rfl, rfl⟩ := c1
    rw [if_pos ⟨rfl, rfl⟩]; unfold gxi; rw [if_neg (by omega), if_pos (by omega), tau_x, tau_o hx hy]
  · by_cases c2 : p = y ∧ q = i
    · obtain ⟨rfl, rfl⟩ := c2
      rw [if_neg c1, if_pos ⟨rfl, rfl⟩]; unfold gxi; rw [if_neg (by omega), if_pos (by omega), tau_y, tau_o hx hy]
    · by_cases c3 : p = i ∧ q = x
      · obtain ⟨rfl, rfl⟩ := c3
        rw [if_neg c1, if_neg c2, if_pos ⟨rfl, rfl⟩]; unfold gxi; rw [if_neg (by omega), if_pos (by omega), tau_x, tau_o hx hy]
      · by_cases c4 : p = i ∧ q = y
        · obtain ⟨rfl, rfl⟩ := c4
          rw [if_neg c1, if_neg c2, if_neg c3, if_pos ⟨rfl, rfl⟩]; unfold gxi; rw [if_neg (by omega), if_pos (by omega), tau_y, tau_o hx hy]
        · rw [if_neg c1, if_neg c2, if_neg c3, if_neg c4]
          unfold gxi
          by_cases h : (q < i ∧ q ≠ x ∧ q ≠ y) ∨ (p < i ∧ p ≠ x ∧ p ≠ y)
          · rw [if_pos h, if_pos (by omega)]
          · rw [if_neg h]
            by_cases h2 : (q < i + 1 ∧ q ≠ x ∧ q ≠ y) ∨ (p < i + 1 ∧ p ≠ x ∧ p ≠ y)
            · rw [if_pos h2]
              have hpq : (q = i ∧ p ≠ x ∧ p ≠ y) ∨ (p = i ∧ q ≠ x ∧ q ≠ y) := by omega
              rcases hpq with ⟨rfl, a, b⟩ | ⟨rfl, a, b⟩
              · rw [tau_o a b, tau_o hx hy]
              · rw [tau_o hx hy, tau_o a b]
            · rw [if_neg h2]
theorem gxi_same {α : Type} (f : Nat → Nat → α) {x y i : Nat} (h : i = x ∨ i = y) : gxi f x y i = gxi f x y (i + 1) := by
  funext p q
  unfold gxi
  by_cases h1 : (q < i ∧ q ≠ x ∧ q ≠ y) ∨ (p < i ∧ p ≠ x ∧ p ≠ y)
  · rw [if_pos h1, if_pos (by omega)]
  · rw [if_neg h1, if_neg (by omega)]
theorem xbi_step {x y i : Nat} (hx : i ≠ x) (hy : i ≠ y) : xb1 (xbi be x y i) x y i = xbi be x y (i + 1) := by funext p q; exact gxi_step be hx hy p q
theorem xwi_step {x y i : Nat} (hs : ∀ p q, we p q = we q p) (hx : i ≠ x) (hy : i ≠ y) : xw1 (xwi we x y i) x y i = xwi we x y (i + 1) := by
  have hs2 : ∀ p q, gxi we x y i p q = gxi we x y i q p := by
    intro p q; unfold gxi
    rw [hs (tau x y p), hs p q]
    by_cases h : (q < i ∧ q ≠ x ∧ q ≠ y) ∨ (p < i ∧ p ≠ x ∧ p ≠ y)
    · rw [if_pos h, if_pos (by omega)]
    · rw [if_neg h, if_neg (by omega)]
  funext p q
  rw [show xwi we x y (i + 1) p q = _ from (gxi_step we hx hy p q).symm]
  unfold xw1 gx1
  rw [hs2 i y, hs2 i x]
theorem tau_lt {x y p : Nat} (hx : x < n) (hy : y < n) (hp : p < n) : tau x y p < n := by unfold tau; split; omega; split <;> omega
theorem tau_inj {x y p q : Nat} (h : tau x y p = tau x y q) : p = q := by
  unfold tau at h
  by_cases a : p = x <;> by_cases b : p = y <;> by_cases c : q = x <;> by_cases e : q = y <;> simp_all
theorem xbi_trn (hT : trn n be) {x y i : Nat} (hx : x < n) (hy : y < n) (hi : i ≤ n) : trn n (xbi be x y i) := by
  refine ⟨hT.1, hT.2.1, fun p q h => ?_, fun p q hp hq hne => ?_⟩
  · unfold xbi gxi at h ⊢
    by_cases c : (q < i ∧ q ≠ x ∧ q ≠ y) ∨ (p < i ∧ p ≠ x ∧ p ≠ y)
    · rw [if_pos c] at h
      rw [if_pos (by omega)]
      obtain ⟨h1, h2, h3⟩ := hT.2.2.1 _ _ h
      have back : ∀ z, tau x y z < n → z < n := by
        intro z hz
        by_cases a : z = x
        · omega
        · by_cases b : z = y
          · omega
          · rw [tau_o a b] at hz; exact hz
      exact ⟨back p h1, back q h2, h3⟩
    · rw [if_neg c] at h
      rw [if_neg (by omega)]
      exact hT.2.2.1 p q h
  · unfold xbi gxi
    by_cases c : (q < i ∧ q ≠ x ∧ q ≠ y) ∨ (p < i ∧ p ≠ x ∧ p ≠ y)
    · rw [if_pos c, if_pos (by omega)]
      exact hT.2.2.2 _ _ (tau_lt hx hy hp) (tau_lt hx hy hq) (fun h => hne (tau_inj h))
    · rw [if_neg c, if_neg (by omega)]
      exact hT.2.2.2 p q hp hq hne
/-- the results behind an exchange -/
def xbe (be : Nat → Nat → Bool) (x y : Nat) : Nat → Nat → Bool := fun p q => be (tau x y p) (tau x y q)
theorem xbe_trn (hT : trn n be) {x y : Nat} (hx : x < n) (hy : y < n) : trn n (xbe be x y) := by
  have back : ∀ z, tau x y z < n → z < n := by
    intro z hz
    by_cases a : z = x
    · omega
    · by_cases b : z = y
      · omega
      · rw [tau_o a b] at hz; exact hz
  refine ⟨hT.1, hT.2.1, fun p q h => ?_, fun p q hp hq hne => hT.2.2.2 _ _ (tau_lt hx hy hp) (tau_lt hx hy hq) fun h => hne (tau_inj h)⟩
  obtain ⟨h1, h2, h3⟩ := hT.2.2.1 _ _ h
  exact ⟨back p h1, back q h2, h3⟩
theorem xbe_eq (hT : trn n be) {x y : Nat} (hx : x < n) (hy : y < n) (hne : x ≠ y) : flp (xbi be x y n) x y = xbe be x y := by
  funext p q
  unfold flp xbi gxi xbe
  by_cases c1 : (p = x ∧ q = y) ∨ (p = y ∧ q = x)
  · rw [if_pos c1, if_neg (by omega)]
    rcases c1 with ⟨rfl, rfl⟩ | ⟨rfl, rfl⟩
    · rw [tau_x, tau_y, hT.anti hx hy hne]
    · rw [tau_x, tau_y, hT.anti hy hx (Ne.symm hne)]
  · rw [if_neg c1]
    by_cases c : (q < n ∧ q ≠ x ∧ q ≠ y) ∨ (p < n ∧ p ≠ x ∧ p ≠ y)
    · rw [if_pos c]
    · rw [if_neg c]
      by_cases e : p = x ∨ p = y
      · by_cases e2 : q = x ∨ q = y
        · have hpq : p = q := by omega
          subst hpq
          rw [hT.irr, hT.irr]
        · have : ¬ q < n := by omega
          rw [tau_o (p := q) (by omega) (by omega), hT.out2 this, hT.out2 this]
      · have : ¬ p < n := by omega
        rw [tau_o (p := p) (by omega) (by omega), hT.out1 this, hT.out1 this]
theorem xbe_id (hT : trn n be) {x : Nat} : xbi be x x n = xbe be x x := by
  funext p q
  unfold xbi gxi xbe
  have : ∀ z, tau x x z = z := by intro z; unfold tau; by_cases h : z = x <;> simp [h]
  rw [this, this]; simp
theorem l_swap (hb : isX0 lay b) (hT : trn n be) (hs : ∀ p q, we p q = we q p) {x y : Nat} (hx : x < n) (hy : y < n) : ∀ k i D, i + k = n → brd D b n (xbi be x y i) (xwi we x y i) → ∃ D1, brd D1 b n (xbe be x y) (xwi we x y n) ∧ chg D D1 b (4 * k + 1) ∧ ∀ Q : Option Value → am_D → Prop, Q none D1 → am_AW lay (d + 4) mX0_swap 2 [.ref b, .int (nI x), .int (nI y), .int (nI i)] [] D Q := by
  have h10 := hT.2.1
  intro k
  induction k with
  | zero =>
    intro i D h hB
    obtain rfl : i = n := by omega
    by_cases hxy : x = y
    · subst hxy
      rw [xbe_id hT] at hB
      refine ⟨D, hB, chg.rf, fun Q hQ => rX0_swap_2 hb ⟨fun _ => ⟨D, c_turn_no hb hB (xbe_trn hT hx hy) hx, hQ⟩, fun h2 => ?_⟩⟩
      rw [hB.1] at h2
      exact absurd (nI_le (Nat.le_refl _) (by omega)) h2
    · obtain ⟨D1, h1, h2, h3⟩ := c_turn (d := d + 1) hb hB (xbi_trn hT hx hy (Nat.le_refl _)) hx hy hxy
      rw [xbe_eq hT hx hy hxy] at h2
      refine ⟨D1, h2, h3, fun Q hQ => rX0_swap_2 hb ⟨fun _ => ⟨D1, h1, hQ⟩, fun h2 => ?_⟩⟩
      rw [hB.1] at h2
      exact absurd (nI_le (Nat.le_refl _) (by omega)) h2
  | succ k ih =>
    intro i D h hB
    have hTi := xbi_trn hT hx hy (i := i) (by omega)
    have ex : isPr n (nI x) (nI i) = decide (x ≠ i) := by rw [isPr_n h10 (by omega) (by omega)]; exact decide_eq_decide.mpr (by omega)
    have ey : isPr n (nI y) (nI i) = decide (y ≠ i) := by rw [isPr_n h10 (by omega) (by omega)]; exact decide_eq_decide.mpr (by omega)
    have hout : ¬ nI n ≤ nI i := by rw [nI_leI (by omega) (by omega)]; omega
    by_cases hc : i = x ∨ i = y
    · have e1 : xbi be x y i = xbi be x y (i + 1) := gxi_same be hc
      have e2 : xwi we x y i = xwi we x y (i + 1) := gxi_same we hc
      rw [e1, e2] at hB
      obtain ⟨D1, h1, h2, h3⟩ := ih (i + 1) D (by omega) hB
      refine ⟨D1, h1, h2.mono (by omega), fun Q hQ => rX0_swap_2 hb ⟨fun h4 => ?_, fun _ => ⟨_, c_hasPair hb hB _ _, fun _ => ?_, fun h4 => ⟨_, c_hasPair hb hB _ _, fun _ => ?_, fun h5 => ?_⟩⟩⟩⟩
      · rw [hB.1] at h4; exact absurd h4 hout
      · rw [nI_add]; exact h3 Q hQ
      · rw [nI_add]; exact h3 Q hQ
      · rw [ex] at h4; rw [ey] at h5
        have := bI_n0.mp h4; have := bI_n0.mp h5
        simp at *; omega
    · obtain ⟨D4, g1, g2, g3⟩ := c_swapAgainst (d := d) hb hB hTi hx hy (by omega : i < n) (by omega) (by omega)
      rw [xbi_step (by omega) (by omega), xwi_step hs (by omega) (by omega)] at g2
      obtain ⟨D1, h1, h2, h3⟩ := ih (i + 1) D4 (by omega) g2
      refine ⟨D1, h1, (g3.tr h2).mono (by omega), fun Q hQ => rX0_swap_2 hb ⟨fun h4 => ?_, fun _ => ⟨_, c_hasPair hb hB _ _, fun h4 => ?_, fun _ => ⟨_, c_hasPair hb hB _ _, fun h5 => ?_, fun _ => ⟨D4, g1, ?_⟩⟩⟩⟩⟩
      · rw [hB.1] at h4; exact absurd h4 hout
      · rw [ex] at h4; have := bI_0.mp h4; simp at this; omega
      · rw [ey] at h5; have := bI_0.mp h5; simp at this; omega
      · rw [nI_add]; exact h3 Q hQ
theorem c_swap (hb : isX0 lay b) (hB : brd D b n be we) (hT : trn n be) (hs : ∀ p q, we p q = we q p) {x y : Nat} (hx : x < n) (hy : y < n) : ∃ D1, am_MetV lay (d + 4) mX0_swap [.ref b, .int (nI x), .int (nI y)] D D1 ∧ brd D1 b n (xbe be x y) (xwi we x y n) ∧ chg D D1 b 41 := by
  have e1 : xbi be x y 0 = be := by funext p q; simp [gxi]
  have e2 : xwi we x y 0 = we := by funext p q; simp [gxi]
  obtain ⟨D1, h1, h2, h3⟩ := l_swap (d := d) hb hT hs hx hy n 0 D (by omega) (by rw [e1, e2]; exact hB)
  have := hT.2.1
  exact ⟨D1, eX0_swap hb (h3 _ ⟨rfl, rfl⟩), h1, h2.mono (by omega)⟩
end BRE
