/-! the model: a player's results reversed, two players exchanged, triangles, comparison with the stored one -/
def trB (n : Nat) (be : Nat → Nat → Bool) (a b i : Nat) : Nat := sumR (fun c => if decide (a < b ∧ b < c) && tri be a b c then 1 else 0) i
def trA (n : Nat) (be : Nat → Nat → Bool) (a i : Nat) : Nat := sumR (fun b => trB n be a b n) i
def trS (n : Nat) (be : Nat → Nat → Bool) (i : Nat) : Nat := sumR (fun a => trA n be a n) i
theorem trB_0 {n : Nat} {be : Nat → Nat → Bool} {a b i : Nat} (h : i ≤ b + 1) : trB n be a b i = 0 := sumR_0 i fun q hq => by rw [decide_eq_false (by omega), Bool.false_and]; rfl
theorem trA_0 {n : Nat} {be : Nat → Nat → Bool} {a i : Nat} (h : i ≤ a + 1) : trA n be a i = 0 := sumR_0 i fun b hb => sumR_0 n fun q hq => by rw [decide_eq_false (by omega), Bool.false_and]; rfl
def dfB (n : Nat) (be bf : Nat → Nat → Bool) (a i : Nat) : Nat := sumR (fun b => if decide (a < b) && (bf a b != be a b) then 1 else 0) i
def dfS (n : Nat) (be bf : Nat → Nat → Bool) (i : Nat) : Nat := sumR (fun a => dfB n be bf a n) i
theorem dfB_0 {n : Nat} {be bf : Nat → Nat → Bool} {a i : Nat} (h : i ≤ a + 1) : dfB n be bf a i = 0 := sumR_0 i fun q hq => by rw [decide_eq_false (by omega), Bool.false_and]; rfl
theorem mrow.row {D : am_D} {c n p0 m : Nat} {be be' : Nat → Nat → Bool} {we : Nat → Nat → Nat} (h : mrow (D c) (n, be, we)) (hp : p0 < 10) (h1 : m = msk (be' p0)) (h2 : ∀ p, p < 10 → p ≠ p0 → msk (be' p) = msk (be p)) : mrow (am_up D c (1 + p0) (nI m) c) (n, be', we) := by
  obtain ⟨b1, b2, b3⟩ := h
  refine ⟨by rw [am_upI, if_neg (by omega)]; exact b1, fun p hp => ?_, fun p q hp hq => by rw [am_upI, if_neg (by omega)]; exact b3 p q hp hq⟩
  show _ = nI (msk (be' p))
  rw [am_upI]
  by_cases e : p = p0
  · subst e; rw [if_pos rfl, h1]
  · rw [if_neg (by omega), h2 p hp e]; exact b2 p hp
theorem swp_msk {r : Nat → Bool} {a b : Nat} (ha : a < 10) (hb : b < 10) : ((mdf (mdf (msk r) (2 ^ a)) (2 ^ b)) ||| (if r a then 2 ^ b else 0)) ||| (if r b then 2 ^ a else 0) = msk (fun q => r (tau a b q)) := by
  apply Nat.eq_of_testBit_eq
  intro i
  rw [Nat.testBit_or, Nat.testBit_or, mdf_t, mdf_t, msk_t, msk_t, Nat.testBit_two_pow, Nat.testBit_two_pow]
  have e1 : (if r a = true then 2 ^ b else 0).testBit i = (r a && decide (b = i)) := by cases r a <;> simp [Nat.testBit_two_pow]
  have e2 : (if r b = true then 2 ^ a else 0).testBit i = (r b && decide (a = i)) := by cases r b <;> simp [Nat.testBit_two_pow]
  rw [e1, e2]
  unfold tau
  by_cases c1 : i = a
  · subst c1
    by_cases c2 : b = i
    · subst c2; simp [ha]
    · simp [ha, c2]
  · by_cases c2 : i = b
    · subst c2
      have c3 : ¬ a = i := fun h => c1 h.symm
      simp [c1, c3, hb]
    · have c3 : ¬ a = i := fun h => c1 h.symm
      have c4 : ¬ b = i := fun h => c2 h.symm
      simp [c1, c2, c3, c4]
section MO3
variable {lay : List am_L} {d : Nat} {D : am_D} {o n : Nat} {be bf : Nat → Nat → Bool} {we : Nat → Nat → Nat} {T T' : am_T} {H : List am_T} {s t : List Nat}
theorem l_mrp (ho : isX11 lay o) (hT : trn n be) {x : Nat} (hx : x < n) : ∀ i, i ≤ n → ∀ D, mrow (D (o + 1)) (n, rvI be x i, we) → ∃ D1, mrow (D1 (o + 1)) (n, rvI be x n, we) ∧ (∀ q, q ≠ o + 1 → D1 q = D q) ∧ ∀ Q : Option Value → am_D → Prop, Q (some (.int (nI (sc (rvI be x n) x)))) D1 → am_AW lay (d + 3) mX11_reversePlayer 16 [.ref o, .int (nI x), .int (nI i)] [] D Q := by
  have h10 := hT.2.1
  refine up_loop ?_ fun i hi ih => ?_
  · intro D hB
    exact ⟨D, hB, fun _ _ => rfl, fun Q hQ => rX11_reversePlayer_16 ho ⟨_, k_n ho hB, fun _ => ⟨_, k_beaten ho hB (by omega), _, k_count (msk_lt _), hQ⟩, fun h => absurd (nI_le (Nat.le_refl _) (by omega)) h⟩⟩
  · intro D hB
    by_cases e : i = x
    · subst e
      rw [rvI_same] at hB
      obtain ⟨D1, g1, g2, g3⟩ := ih D hB
      rw [← rvI_same] at hB
      refine ⟨D1, g1, g2, fun Q hQ => rX11_reversePlayer_16 ho ⟨_, k_n ho hB, fun h => absurd h (ge_no hi (by omega)), fun _ => ⟨fun _ => ?_, fun h => absurd rfl h⟩⟩⟩
      rw [nI_add]; exact g3 Q hQ
    · obtain ⟨D2, r0, r1, r2⟩ := k_turns (d := d) ho hB (rvI_trn hT hx i (by omega)) hx hi (Ne.symm e)
      rw [rvI_step e] at r1
      obtain ⟨D1, g1, g2, g3⟩ := ih D2 r1
      refine ⟨D1, g1, fun q hq => by rw [g2 q hq, r2 q hq], fun Q hQ => rX11_reversePlayer_16 ho ⟨_, k_n ho hB, fun h => absurd h (ge_no hi (by omega)), fun _ => ⟨fun h => ?_, fun _ => ⟨D2, r0, ?_⟩⟩⟩⟩
      · rw [nI_eq (by omega) (by omega)] at h; exact absurd h e
      · rw [nI_add]; exact g3 Q hQ
theorem m_reversePlayer_no (ho : isX11 lay o) (h : RM D o (T, T', H, s, t)) (hT : okT T) {v : Int32} (hv : isP T.1 v = false) : am_MetI lay (d + 3) mX11_reversePlayer [.ref o, .int v] D (-1) D := by
  refine eX11_reversePlayer ho ⟨_, k_isPlayer ho h.1 hT.1 v, fun h1 => ?_, fun _ => ⟨rfl, rfl⟩⟩
  rw [hv] at h1; exact absurd rfl h1
theorem m_reversePlayer (ho : isX11 lay o) (h : RM D o (T, T', H, s, t)) (hT : okT T) {x : Nat} (hx : x < T.1) : ∃ D1, am_MetI lay (d + 3) mX11_reversePlayer [.ref o, .int (nI x)] D (nI (sc (rvI T.2.1 x T.1) x)) D1 ∧ RM D1 o ((T.1, rvI T.2.1 x T.1, T.2.2), T', pushH H T, s, t) ∧ onlyM D D1 o := by
  have h10 : T.1 ≤ 10 := hT.1.2.1
  obtain ⟨D2, r0, r1, r2⟩ := m_keeps (d := d + 2) ho h
  have hB : mrow (D2 (o + 1)) (T.1, rvI T.2.1 x 0, T.2.2) := by
    have e : rvI T.2.1 x 0 = T.2.1 := by funext p q; unfold rvI; rw [if_neg (by omega)]
    rw [e]; exact r1.1
  obtain ⟨D1, g1, g2, g3⟩ := l_mrp (d := d) ho hT.1 hx 0 (Nat.zero_le _) D2 hB
  refine ⟨D1, eX11_reversePlayer ho ⟨_, k_isPlayer ho h.1 hT.1 _, fun _ => ⟨D2, r0, g3 _ ⟨rfl, rfl⟩⟩, fun h2 => ?_⟩, r1.now g1 fun q _ _ h => g2 q h, fun q hq => by rw [g2 q (by omega), r2 q (by omega) (by omega)]⟩
  rw [Classical.not_not, isP_n h10 (by omega), decide_eq_true hx] at h2; cases bI_0.mp h2
/-! exchange -/
theorem k_swapped {r : Nat → Bool} {a b : Nat} (ha : a < 10) (hb : b < 10) : am_MetP lay (d + 1) mX11_swapped [.int (nI (msk r)), .int (nI a), .int (nI b)] D (nI (msk (fun q => r (tau a b q)))) := by
  have h1 := k_has (lay := lay) (d := d) (D := D) (s := msk r) (p := a) (by omega)
  have h2 := k_has (lay := lay) (d := d) (D := D) (s := msk r) (p := b) (by omega)
  rw [msk_t, decide_eq_true ha, Bool.true_and] at h1
  rw [msk_t, decide_eq_true hb, Bool.true_and] at h2
  rw [← swp_msk ha hb]
  refine eX11_swapped ⟨_, h1, fun c1 => ⟨_, h2, fun c2 => ?_, fun c2 => ?_⟩, fun c1 => ⟨_, h2, fun c2 => ?_, fun c2 => ?_⟩⟩
  all_goals rw [nn_shl1 a (by omega), nn_shl1 b (by omega), nn_dif, nn_dif]
  · rw [bI_0.mp c1, bI_0.mp c2, nn_or, nn_or]; exact ⟨rfl, rfl⟩
  · rw [bI_0.mp c1, bI_n0.mp c2, nn_or, nn_or]; exact ⟨rfl, rfl⟩
  · rw [bI_n0.mp c1, bI_0.mp c2, nn_or, nn_or]; exact ⟨rfl, rfl⟩
  · rw [bI_n0.mp c1, bI_n0.mp c2, nn_or, nn_or]; exact ⟨rfl, rfl⟩
def exI (be : Nat → Nat → Bool) (x y i : Nat) : Nat → Nat → Bool := fun p q => if p < i then be (tau x y p) (tau x y q) else be (tau x y p) q
theorem l_mex1 (ho : isX11 lay o) (h10 : n ≤ 10) {x y : Nat} (hx : x < n) (hy : y < n) {v3 : Int32} : ∀ i, i ≤ n → ∀ D, mrow (D (o + 1)) (n, exI be x y i, we) → ∃ D1, mrow (D1 (o + 1)) (n, exI be x y n, we) ∧ (∀ q, q ≠ o + 1 → D1 q = D q) ∧ ∀ Q : Option Value → am_D → Prop, am_AW lay (d + 3) mX11_exchange 100 [.ref o, .int (nI x), .int (nI y), .int v3, .int (nI 0), .null] [] D1 Q → am_AW lay (d + 3) mX11_exchange 59 [.ref o, .int (nI x), .int (nI y), .int v3, .int (nI i), .null] [] D Q := by
  refine up_loop ?_ fun i hi ih => ?_
  · intro D hB
    exact ⟨D, hB, fun _ _ => rfl, fun Q hQ => rX11_exchange_59 ho ⟨_, k_n ho hB, fun _ => hQ, fun h => absurd (nI_le (Nat.le_refl _) (by omega)) h⟩⟩
  · intro D hB
    have hv : D (o + 1) (1 + i) = nI (msk (be (tau x y i))) := by
      have := hB.2.1 i (by omega)
      rw [this]
      congr 2
      funext q
      show exI be x y i i q = _
      unfold exI
      rw [if_neg (by omega)]
    have r1 : mrow (am_up D (o + 1) (1 + i) (nI (msk (fun q => be (tau x y i) (tau x y q)))) (o + 1)) (n, exI be x y (i + 1), we) := by
      refine hB.row (by omega) ?_ fun p hp hne => ?_
      · congr 1; funext q; unfold exI; rw [if_pos (by omega)]
      · congr 1; funext q; unfold exI
        by_cases c : p < i
        · rw [if_pos (by omega), if_pos c]
        · rw [if_neg (by omega), if_neg c]
    obtain ⟨D1, g1, g2, g3⟩ := ih _ r1
    refine ⟨D1, g1, fun q hq => by rw [g2 q hq, am_up_ne q hq], fun Q hQ => rX11_exchange_59 ho ⟨_, k_n ho hB, fun h => absurd h (ge_no hi (by omega)), fun _ => ?_⟩⟩
    rw [nI_add, nI_add, nI_clamp (by omega), hv]
    refine ⟨vp_in_nI (by omega) (by decide), _, k_swapped (by omega) (by omega), vp_in_nI (by omega) (by decide), ?_⟩
    rintro D3 rfl
    exact g3 Q hQ
theorem l_mex2 (ho : isX11 lay o) (hT : trn n be) (hs : ∀ p q, we p q = we q p) {x y : Nat} (hx : x < n) (hy : y < n) {v3 : Int32} : ∀ i, i ≤ n → ∀ D, mrow (D (o + 1)) (n, be, xwi we x y i) → ∃ D1, mrow (D1 (o + 1)) (n, be, xwi we x y n) ∧ (∀ q, q ≠ o + 1 → D1 q = D q) ∧ ∀ Q : Option Value → am_D → Prop, Q (some (.int (nI (sc be x)))) D1 → am_AW lay (d + 3) mX11_exchange 100 [.ref o, .int (nI x), .int (nI y), .int v3, .int (nI i), .null] [] D Q := by
  have h10 := hT.2.1
  refine up_loop ?_ fun i hi ih => ?_
  · intro D hB
    exact ⟨D, hB, fun _ _ => rfl, fun Q hQ => rX11_exchange_100 ho ⟨_, k_n ho hB, fun _ => ⟨_, k_beaten ho hB (by omega), _, k_count (msk_lt _), hQ⟩, fun h => absurd (nI_le (Nat.le_refl _) (by omega)) h⟩⟩
  · intro D hB
    by_cases e : i = x ∨ i = y
    · have e2 : xwi we x y i = xwi we x y (i + 1) := gxi_same we e
      obtain ⟨D1, g1, g2, g3⟩ := ih D (by rw [← e2]; exact hB)
      refine ⟨D1, g1, g2, fun Q hQ => rX11_exchange_100 ho ⟨_, k_n ho hB, fun h => absurd h (ge_no hi (by omega)), fun _ => ⟨fun _ => ?_, fun h => ⟨fun _ => ?_, fun h2 => ?_⟩⟩⟩⟩
      · rw [nI_add]; exact g3 Q hQ
      · rw [nI_add]; exact g3 Q hQ
      · rw [nI_eq (by omega) (by omega)] at h h2; omega
    · obtain ⟨b1, b2, b3⟩ := hB
      have b3 : ∀ p q, p < 10 → q < 10 → D (o + 1) (11 + 10 * p + q) = nI (xwi we x y i p q) := b3
      have ex : i ≠ x := fun h => e (Or.inl h)
      have ey : i ≠ y := fun h => e (Or.inr h)
      have r1 : mrow (am_up (am_up (am_up (am_up D (o + 1) (11 + 10 * x + i) (nI (xwi we x y i y i))) (o + 1) (11 + 10 * i + x) (nI (xwi we x y i y i))) (o + 1) (11 + 10 * y + i) (nI (xwi we x y i x i))) (o + 1) (11 + 10 * i + y) (nI (xwi we x y i x i)) (o + 1)) (n, be, xwi we x y (i + 1)) := by
        refine ⟨?_, fun p hp => ?_, fun p q hp hq => ?_⟩
        · rw [am_upI, if_neg (by omega), am_upI, if_neg (by omega), am_upI, if_neg (by omega), am_upI, if_neg (by omega)]; exact b1
        · rw [am_upI, if_neg (by omega), am_upI, if_neg (by omega), am_upI, if_neg (by omega), am_upI, if_neg (by omega)]; exact b2 p hp
        · show _ = nI (xwi we x y (i + 1) p q)
          rw [← xwi_step hs ex ey]
          unfold xw1
          rw [am_upI, am_upI, am_upI, am_upI]
          by_cases c4 : p = i ∧ q = y
          · rw [if_pos (by omega)]
            by_cases exy : x = y
            · subst exy
              rw [if_neg (by omega), if_neg (by omega), if_pos c4]
            · rw [if_neg (by omega), if_neg (by omega), if_neg (by omega), if_pos c4]
          · rw [if_neg (by omega)]
            by_cases c3 : p = y ∧ q = i
            · rw [if_pos (by omega)]
              by_cases exy : x = y
              · subst exy
                rw [if_pos c3]
              · rw [if_neg (by omega), if_pos c3]
            · rw [if_neg (by omega)]
              by_cases c2 : p = i ∧ q = x
              · rw [if_pos (by omega), if_neg (by omega), if_neg c3, if_pos c2]
              · rw [if_neg (by omega)]
                by_cases c1 : p = x ∧ q = i
                · rw [if_pos (by omega), if_pos c1]
                · rw [if_neg (by omega), if_neg c1, if_neg c3, if_neg c2, if_neg c4]; exact b3 p q hp hq
      obtain ⟨D1, g1, g2, g3⟩ := ih _ r1
      refine ⟨D1, g1, fun q hq => by rw [g2 q hq, am_up_ne q hq, am_up_ne q hq, am_up_ne q hq, am_up_ne q hq], fun Q hQ => rX11_exchange_100 ho ⟨_, k_n ho ⟨b1, b2, b3⟩, fun h => absurd h (ge_no hi (by omega)), fun _ => ⟨fun h => ?_, fun _ => ⟨fun h => ?_, fun _ => ⟨_, k_at _ _, vp_in_nI (by omega) (by decide), _, k_at _ _, _, k_at _ _, vp_in_nI (by omega) (by decide), vp_in_nI (by omega) (by decide), ?_⟩⟩⟩⟩⟩
      · rw [nI_eq (by omega) (by omega)] at h; exact absurd h ex
      · rw [nI_eq (by omega) (by omega)] at h; exact absurd h ey
      · rintro D7 rfl
        refine ⟨_, k_at _ _, _, k_at _ _, vp_in_nI (by omega) (by decide), vp_in_nI (by omega) (by decide), ?_⟩
        rintro D10 rfl
        refine ⟨_, k_at _ _, vp_in_nI (by omega) (by decide), ?_⟩
        rintro D12 rfl
        refine ⟨_, k_at _ _, vp_in_nI (by omega) (by decide), ?_⟩
        rintro D14 rfl
        rw [nI_add, nI_clamp (by omega), nI_clamp (by omega), nI_clamp (by omega), nI_clamp (by omega), b3 y i (by omega) (by omega), b3 x i (by omega) (by omega)]
        have e7 : am_up D (o + 1) (11 + 10 * x + i) (nI (xwi we x y i y i)) (o + 1) (11 + 10 * y + i) = nI (xwi we x y i y i) := by
          rw [am_upI]
          by_cases c : y = x
          · rw [if_pos (by omega)]
          · rw [if_neg (by omega)]; exact b3 y i (by omega) (by omega)
        rw [e7]
        exact g3 Q hQ
theorem m_exchange_no (ho : isX11 lay o) (h : RM D o (T, T', H, s, t)) (hT : okT T) {v w : Int32} (hv : isP T.1 v = false ∨ isP T.1 w = false) : am_MetI lay (d + 3) mX11_exchange [.ref o, .int v, .int w] D (-1) D := by
  refine eX11_exchange ho ⟨_, k_isPlayer ho h.1 hT.1 v, fun _ => ⟨rfl, rfl⟩, fun h1 => ⟨_, k_isPlayer ho h.1 hT.1 w, fun h2 => ?_, fun _ => ⟨rfl, rfl⟩⟩⟩
  rcases hv with hv | hv
  · rw [hv] at h1; exact absurd rfl h1
  · rw [hv] at h2; exact absurd rfl h2
theorem m_exchange (ho : isX11 lay o) (h : RM D o (T, T', H, s, t)) (hT : okT T) {x y : Nat} (hx : x < T.1) (hy : y < T.1) : ∃ D1, am_MetI lay (d + 3) mX11_exchange [.ref o, .int (nI x), .int (nI y)] D (nI (sc (xbe T.2.1 x y) x)) D1 ∧ RM D1 o ((T.1, xbe T.2.1 x y, xwi T.2.2 x y T.1), T', pushH H T, s, t) ∧ onlyM D D1 o := by
  have h10 : T.1 ≤ 10 := hT.1.2.1
  obtain ⟨D2, r0, r1, r2⟩ := m_keeps (d := d + 2) ho h
  have b2 : ∀ p, p < 10 → D2 (o + 1) (1 + p) = nI (msk (T.2.1 p)) := r1.1.2.1
  have hB0 : mrow (D2 (o + 1)) (T.1, T.2.1, T.2.2) := r1.1
  have hB : mrow (am_up (am_up D2 (o + 1) (1 + x) (nI (msk (T.2.1 y)))) (o + 1) (1 + y) (nI (msk (T.2.1 x))) (o + 1)) (T.1, exI T.2.1 x y 0, T.2.2) := by
    have hm : mrow (am_up D2 (o + 1) (1 + x) (nI (msk (T.2.1 y))) (o + 1)) (T.1, fun p => if p = x then T.2.1 y else T.2.1 p, T.2.2) := by
      refine hB0.row (by omega) (by rw [if_pos rfl]) fun p hp hne => by rw [if_neg hne]
    refine hm.row (by omega) ?_ fun p hp hne => ?_
    · congr 1; funext q; unfold exI; rw [if_neg (by omega), tau_y]
    · congr 1; funext q; unfold exI; rw [if_neg (by omega)]
      by_cases c : p = x
      · rw [if_pos c, c, tau_x]
      · rw [if_neg c, tau_o c hne]
  obtain ⟨D3, g1, g2, g3⟩ := l_mex1 (d := d) (v3 := nI (msk (T.2.1 x))) ho h10 hx hy 0 (Nat.zero_le _) _ hB
  have hx2 : trn T.1 (xbe T.2.1 x y) := xbe_trn hT.1 hx hy
  have hB3 : mrow (D3 (o + 1)) (T.1, xbe T.2.1 x y, xwi T.2.2 x y 0) := by
    obtain ⟨c1, c2, c3⟩ := g1
    have c3 : ∀ p q, p < 10 → q < 10 → D3 (o + 1) (11 + 10 * p + q) = nI (T.2.2 p q) := c3
    have c2 : ∀ p, p < 10 → D3 (o + 1) (1 + p) = nI (msk (exI T.2.1 x y T.1 p)) := c2
    refine ⟨c1, fun p hp => ?_, fun p q hp hq => ?_⟩
    · rw [c2 p hp]
      congr 2; funext q
      show exI T.2.1 x y T.1 p q = T.2.1 (tau x y p) (tau x y q)
      unfold exI
      by_cases c : p < T.1
      · rw [if_pos c]
      · rw [if_neg c, tau_o (by omega) (by omega), hT.1.out1 c, hT.1.out1 c]
    · show _ = nI (xwi T.2.2 x y 0 p q)
      rw [c3 p q hp hq]; unfold xwi gxi; rw [if_neg (by omega)]
  obtain ⟨D4, i1, i2, i3⟩ := l_mex2 (d := d) (v3 := nI (msk (T.2.1 x))) ho hx2 hT.2.1 hx hy 0 (Nat.zero_le _) D3 hB3
  refine ⟨D4, eX11_exchange ho ⟨_, k_isPlayer ho h.1 hT.1 _, fun h2 => ?_, fun _ => ⟨_, k_isPlayer ho h.1 hT.1 _, fun _ => ⟨D2, r0, ?_⟩, fun h2 => ?_⟩⟩, r1.now i1 fun q _ _ h => ?_, fun q hq => ?_⟩
  · rw [isP_n h10 (by omega), decide_eq_true hx] at h2; cases bI_0.mp h2
  · rw [nI_add, nI_add, nI_clamp (by omega), nI_clamp (by omega), b2 x (by omega), b2 y (by omega)]
    refine ⟨vp_in_nI (by omega) (by decide), vp_in_nI (by omega) (by decide), vp_in_nI (by omega) (by decide), ?_⟩
    rintro D5 rfl
    refine ⟨vp_in_nI (by omega) (by decide), ?_⟩
    rintro D6 rfl
    exact g3 _ (i3 _ ⟨rfl, rfl⟩)
  · rw [Classical.not_not, isP_n h10 (by omega), decide_eq_true hy] at h2; cases bI_0.mp h2
  · rw [i2 q h, g2 q h, am_up_ne q h, am_up_ne q h]
  · rw [i2 q (by omega), g2 q (by omega), am_up_ne q (by omega), am_up_ne q (by omega), r2 q (by omega) (by omega)]
/-! triangles -/
theorem l_mt29 (ho : isX11 lay o) (hB : mrow (D (o + 1)) (n, be, we)) (hT : trn n be) {a b acc : Nat} (hab : a < b) (hb : b < n) {Q : Option Value → am_D → Prop} (hQ : am_AW lay (d + 3) mX11_triangles 16 [.ref o, .int (nI (acc + trB n be a b n)), .int (nI a), .int (nI (b + 1)), .null] [] D Q) : ∀ i, i ≤ n → b < i → am_AW lay (d + 3) mX11_triangles 29 [.ref o, .int (nI (acc + trB n be a b i)), .int (nI a), .int (nI b), .int (nI i)] [] D Q := by
  have h10 := hT.2.1
  refine up_loop ?_ fun i hi ih => ?_
  · intro _
    refine rX11_triangles_29 ho ⟨_, k_n ho hB, fun _ => ?_, fun h => absurd (nI_le (Nat.le_refl _) (by omega)) h⟩
    rw [nI_add]; exact hQ
  · intro hbi
    have ih := ih (by omega)
    have e : trB n be a b (i + 1) = trB n be a b i + if tri be a b i then 1 else 0 := by
      show trB n be a b i + (if decide (a < b ∧ b < i) && tri be a b i then 1 else 0) = _
      rw [decide_eq_true (show a < b ∧ b < i from ⟨hab, hbi⟩), Bool.true_and]
    rw [e] at ih
    refine rX11_triangles_29 ho ⟨_, k_n ho hB, fun h => absurd h (ge_no hi (by omega)), fun _ => ⟨_, k_isCycle ho hB hT (by omega) hb hi (by omega) (by omega) (by omega), fun h => ?_, fun h => ?_⟩⟩
    · rw [bI_0.mp h] at ih
      rw [nI_add, nI_add]; exact ih
    · rw [bI_n0.mp h] at ih
      rw [nI_add, nI_add]; exact ih
theorem l_mt16 (ho : isX11 lay o) (hB : mrow (D (o + 1)) (n, be, we)) (hT : trn n be) {a acc : Nat} (ha : a < n) {Q : Option Value → am_D → Prop} (hQ : am_AW lay (d + 3) mX11_triangles 4 [.ref o, .int (nI (acc + trA n be a n)), .int (nI (a + 1)), .null, .null] [] D Q) : ∀ i, i ≤ n → a < i → am_AW lay (d + 3) mX11_triangles 16 [.ref o, .int (nI (acc + trA n be a i)), .int (nI a), .int (nI i), .null] [] D Q := by
  have h10 := hT.2.1
  refine up_loop ?_ fun i hi ih => ?_
  · intro _
    refine rX11_triangles_16 ho ⟨_, k_n ho hB, fun _ => ?_, fun h => absurd (nI_le (Nat.le_refl _) (by omega)) h⟩
    rw [nI_add]; exact hQ
  · intro hai
    have ih := ih (by omega)
    have e : trA n be a (i + 1) = trA n be a i + trB n be a i n := rfl
    rw [e, ← Nat.add_assoc] at ih
    refine rX11_triangles_16 ho ⟨_, k_n ho hB, fun h => absurd h (ge_no hi (by omega)), fun _ => ?_⟩
    rw [nI_add]
    have := l_mt29 (d := d) ho hB hT hai hi ih (i + 1) (by omega) (by omega)
    rw [trB_0 (Nat.le_refl _)] at this
    exact this
theorem m_trs (ho : isX11 lay o) (hB : mrow (D (o + 1)) (n, be, we)) (hT : trn n be) : am_MetP lay (d + 3) mX11_triangles [.ref o] D (nI (trS n be n)) := by
  have h10 := hT.2.1
  have h : ∀ i, i ≤ n → am_AW lay (d + 3) mX11_triangles 4 [.ref o, .int (nI (trS n be i)), .int (nI i), .null, .null] [] D (fun r D1 => r = some (.int (nI (trS n be n))) ∧ D1 = D) := by
    refine up_loop ?_ fun i hi ih => ?_
    · exact rX11_triangles_4 ho ⟨_, k_n ho hB, fun _ => ⟨rfl, rfl⟩, fun h => absurd (nI_le (Nat.le_refl _) (by omega)) h⟩
    · refine rX11_triangles_4 ho ⟨_, k_n ho hB, fun h => absurd h (ge_no hi (by omega)), fun _ => ?_⟩
      rw [nI_add]
      have := l_mt16 (d := d) ho hB hT hi ih (i + 1) (by omega) (by omega)
      rw [trA_0 (Nat.le_refl _)] at this
      exact this
  exact eX11_triangles ho (h 0 (Nat.zero_le _))
theorem m_triangles (ho : isX11 lay o) (h : RM D o (T, T', H, s, t)) (hT : okT T) : am_MetP lay (d + 3) mX11_triangles [.ref o] D (nI (trS T.1 T.2.1 T.1)) := m_trs ho h.1 hT.1
theorem m_reverseTriangle_no (ho : isX11 lay o) (h : RM D o (T, T', H, s, t)) (hT : okT T) {u v w : Int32} (hv : isPr T.1 u v = false ∨ isPr T.1 v w = false ∨ isPr T.1 u w = false) : am_MetI lay (d + 4) mX11_reverseTriangle [.ref o, .int u, .int v, .int w] D (-1) D := by
  refine eX11_reverseTriangle ho ⟨_, k_isPair ho h.1 hT.1 _ _, fun _ => ⟨rfl, rfl⟩, fun h1 => ⟨_, k_isPair ho h.1 hT.1 _ _, fun _ => ⟨rfl, rfl⟩, fun h2 => ⟨_, k_isPair ho h.1 hT.1 _ _, fun h3 => ?_, fun _ => ⟨rfl, rfl⟩⟩⟩⟩
  rcases hv with hv | hv | hv
  · rw [hv] at h1; exact absurd rfl h1
  · rw [hv] at h2; exact absurd rfl h2
  · rw [hv] at h3; exact absurd rfl h3
theorem m_reverseTriangle_none (ho : isX11 lay o) (h : RM D o (T, T', H, s, t)) (hT : okT T) {x y z : Nat} (hx : x < T.1) (hy : y < T.1) (hz : z < T.1) (n1 : x ≠ y) (n2 : y ≠ z) (n3 : x ≠ z) (hn : tri T.2.1 x y z = false) : am_MetI lay (d + 4) mX11_reverseTriangle [.ref o, .int (nI x), .int (nI y), .int (nI z)] D (-2) D := by
  have h10 : T.1 ≤ 10 := hT.1.2.1
  refine eX11_reverseTriangle ho ⟨_, k_isPair ho h.1 hT.1 _ _, fun h1 => ?_, fun _ => ⟨_, k_isPair ho h.1 hT.1 _ _, fun h1 => ?_, fun _ => ⟨_, k_isPair ho h.1 hT.1 _ _, fun _ => ⟨_, k_isCycle ho h.1 hT.1 hx hy hz n1 n2 n3, fun h3 => ?_, fun _ => ⟨rfl, rfl⟩⟩, fun h1 => ?_⟩⟩⟩
  · rw [isPr_n h10 (by omega) (by omega), decide_eq_true ⟨hx, hy, n1⟩] at h1; cases bI_0.mp h1
  · rw [isPr_n h10 (by omega) (by omega), decide_eq_true ⟨hy, hz, n2⟩] at h1; cases bI_0.mp h1
  · rw [hn] at h3; exact absurd rfl h3
  · rw [Classical.not_not, isPr_n h10 (by omega) (by omega), decide_eq_true ⟨hx, hz, n3⟩] at h1; cases bI_0.mp h1
theorem m_reverseTriangle (ho : isX11 lay o) (h : RM D o (T, T', H, s, t)) (hT : okT T) {x y z : Nat} (hx : x < T.1) (hy : y < T.1) (hz : z < T.1) (n1 : x ≠ y) (n2 : y ≠ z) (n3 : x ≠ z) (hn : tri T.2.1 x y z = true) : ∃ D1, am_MetI lay (d + 4) mX11_reverseTriangle [.ref o, .int (nI x), .int (nI y), .int (nI z)] D (nI (trS T.1 (flp (flp (flp T.2.1 x y) y z) x z) T.1)) D1 ∧ RM D1 o ((T.1, flp (flp (flp T.2.1 x y) y z) x z, T.2.2), T', pushH H T, s, t) ∧ onlyM D D1 o := by
  have h10 : T.1 ≤ 10 := hT.1.2.1
  obtain ⟨D2, r0, r1, r2⟩ := m_keeps (d := d + 3) ho h
  have hB0 : mrow (D2 (o + 1)) (T.1, T.2.1, T.2.2) := r1.1
  have t1 := flp_trn hT.1 hx hy n1
  have t2 := flp_trn t1 hy hz n2
  have t3 := flp_trn t2 hx hz n3
  obtain ⟨D3, a1, a2, a3⟩ := k_turns (d := d + 1) ho hB0 hT.1 hx hy n1
  obtain ⟨D4, b1, b2, b3⟩ := k_turns (d := d + 1) ho a2 t1 hy hz n2
  obtain ⟨D5, c1, c2, c3⟩ := k_turns (d := d + 1) ho b2 t2 hx hz n3
  refine ⟨D5, eX11_reverseTriangle ho ⟨_, k_isPair ho h.1 hT.1 _ _, fun h1 => ?_, fun _ => ⟨_, k_isPair ho h.1 hT.1 _ _, fun h1 => ?_, fun _ => ⟨_, k_isPair ho h.1 hT.1 _ _, fun _ => ⟨_, k_isCycle ho h.1 hT.1 hx hy hz n1 n2 n3, fun _ => ⟨D2, r0, D3, a1, D4, b1, D5, c1, _, m_trs ho c2 t3, rfl, rfl⟩, fun h3 => ?_⟩, fun h1 => ?_⟩⟩⟩, r1.now c2 fun q _ _ h => ?_, fun q hq => ?_⟩
  · rw [isPr_n h10 (by omega) (by omega), decide_eq_true ⟨hx, hy, n1⟩] at h1; cases bI_0.mp h1
  · rw [isPr_n h10 (by omega) (by omega), decide_eq_true ⟨hy, hz, n2⟩] at h1; cases bI_0.mp h1
  · rw [hn] at h3; exact absurd (by decide) h3
  · rw [Classical.not_not, isPr_n h10 (by omega) (by omega), decide_eq_true ⟨hx, hz, n3⟩] at h1; cases bI_0.mp h1
  · rw [c3 q h, b3 q h, a3 q h]
  · rw [c3 q (by omega), b3 q (by omega), a3 q (by omega), r2 q (by omega) (by omega)]
/-! comparison with the stored one -/
theorem k_differs (ho : isX11 lay o) (hB : mrow (D (o + 1)) (n, be, we)) {m : Nat} {wf : Nat → Nat → Nat} (hC : mrow (D (o + 2)) (m, bf, wf)) (hT : trn n be) (hU : trn m bf) {p q : Nat} (hp : p < 10) (hq : q < 10) : am_MetP lay (d + 2) mX11_differs [.ref o, .int (nI p), .int (nI q)] D (bI (bf p q != be p q)) := by
  have h1 := k_has (lay := lay) (d := d + 1) (D := D) (s := msk (bf p)) (p := q) (by omega)
  rw [hU.mskt] at h1
  have h2 : D (o + 2) (1 + p) = nI (msk (bf p)) := hC.2.1 p hp
  refine eX11_differs ho ?_
  rw [nI_add, nI_clamp (by omega), h2]
  refine ⟨vp_in_nI (by omega) (by decide), _, h1, _, k_beats1 ho hB hT hp (by omega), fun h => ?_, fun h => ?_⟩
  · rw [bI_inj] at h
    rw [h, bne_self_eq_false]; exact ⟨rfl, rfl⟩
  · rw [bI_inj] at h
    rw [bne_iff_ne.mpr h]; exact ⟨rfl, rfl⟩
theorem l_md32 (ho : isX11 lay o) (hB : mrow (D (o + 1)) (n, be, we)) {wf : Nat → Nat → Nat} (hC : mrow (D (o + 2)) (n, bf, wf)) (hT : trn n be) (hU : trn n bf) {a acc : Nat} (ha : a < n) {Q : Option Value → am_D → Prop} (hQ : am_AW lay (d + 3) mX11_difference 20 [.ref o, .int (nI (acc + dfB n be bf a n)), .int (nI (a + 1)), .null] [] D Q) : ∀ i, i ≤ n → a < i → am_AW lay (d + 3) mX11_difference 32 [.ref o, .int (nI (acc + dfB n be bf a i)), .int (nI a), .int (nI i)] [] D Q := by
  have h10 := hT.2.1
  refine up_loop ?_ fun i hi ih => ?_
  · intro _
    refine rX11_difference_32 ho ⟨_, k_n ho hB, fun _ => ?_, fun h => absurd (nI_le (Nat.le_refl _) (by omega)) h⟩
    rw [nI_add]; exact hQ
  · intro hai
    have ih := ih (by omega)
    have e : dfB n be bf a (i + 1) = dfB n be bf a i + if bf a i != be a i then 1 else 0 := by
      show dfB n be bf a i + (if decide (a < i) && (bf a i != be a i) then 1 else 0) = _
      rw [decide_eq_true hai, Bool.true_and]
    rw [e] at ih
    refine rX11_difference_32 ho ⟨_, k_n ho hB, fun h => absurd h (ge_no hi (by omega)), fun _ => ⟨_, k_differs ho hB hC hT hU (by omega) (by omega), fun h => ?_, fun h => ?_⟩⟩
    · rw [bI_0.mp h] at ih
      rw [nI_add, nI_add]; exact ih
    · rw [bI_n0.mp h] at ih
      rw [nI_add, nI_add]; exact ih
theorem m_difference (ho : isX11 lay o) (h : RM D o (T, T', H, s, t)) (hT : okT T) (hU : okT T') : am_MetP lay (d + 3) mX11_difference [.ref o] D (if T.1 = T'.1 then nI (dfS T.1 T.2.1 T'.2.1 T.1) else -2) := by
  have h10 : T.1 ≤ 10 := hT.1.2.1
  have g10 : T'.1 ≤ 10 := hU.1.2.1
  have hB : mrow (D (o + 1)) (T.1, T.2.1, T.2.2) := h.1
  have hC : mrow (D (o + 2)) (T'.1, T'.2.1, T'.2.2) := h.2.1
  have e0 : D (o + 2) 0 = nI T'.1 := hC.1
  refine eX11_difference ho ?_
  rw [e0_, e0]
  refine ⟨vp_in_nI (by decide) (by decide), _, k_n ho hB, fun h2 => ?_, fun h2 => ?_⟩
  · rw [nI_eq (by omega) (by omega)] at h2
    rw [if_pos h2.symm]
    have hU2 : trn T.1 T'.2.1 := by rw [← h2]; exact hU.1
    have hC2 : mrow (D (o + 2)) (T.1, T'.2.1, T'.2.2) := by rw [← h2]; exact hC
    have hl : ∀ i, i ≤ T.1 → am_AW lay (d + 3) mX11_difference 20 [.ref o, .int (nI (dfS T.1 T.2.1 T'.2.1 i)), .int (nI i), .null] [] D (fun r D1 => r = some (.int (nI (dfS T.1 T.2.1 T'.2.1 T.1))) ∧ D1 = D) := by
      refine up_loop ?_ fun i hi ih => ?_
      · exact rX11_difference_20 ho ⟨_, k_n ho hB, fun _ => ⟨rfl, rfl⟩, fun h => absurd (nI_le (Nat.le_refl _) (by omega)) h⟩
      · refine rX11_difference_20 ho ⟨_, k_n ho hB, fun h => absurd h (ge_no hi (by omega)), fun _ => ?_⟩
        rw [nI_add]
        have := l_md32 (d := d) ho hB hC2 hT.1 hU2 hi ih (i + 1) (by omega) (by omega)
        rw [dfB_0 (Nat.le_refl _)] at this
        exact this
    exact hl 0 (Nat.zero_le _)
  · rw [nI_eq (by omega) (by omega)] at h2
    rw [if_neg (Ne.symm h2)]; exact ⟨rfl, rfl⟩
end MO3
