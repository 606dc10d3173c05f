/-! who reaches whom; the model's reaches -/
def rb (n : Nat) (be : Nat → Nat → Bool) (p : Nat) : Nat := rSt n be p (n - 1)
theorem rb_lt {n : Nat} {be : Nat → Nat → Bool} {p : Nat} : rb n be p < 1024 := rSt_lt _
theorem wlk_in {n : Nat} {be : Nat → Nat → Bool} (hT : trn n be) : ∀ k p q, p < n → wlk be k p q → q < n := by
  intro k
  induction k with
  | zero => intro p q hp h; cases h; exact hp
  | succ k ih =>
    intro p q hp h
    obtain ⟨z, a, b⟩ := h
    exact ih z q (hT.2.2.1 _ _ a).2.1 b
theorem wlk_add {be : Nat → Nat → Bool} : ∀ k l p q r, wlk be k p q → wlk be l q r → wlk be (k + l) p r := by
  intro k
  induction k with
  | zero => intro l p q r h1 h2; cases h1; rw [Nat.zero_add]; exact h2
  | succ k ih =>
    intro l p q r h1 h2
    obtain ⟨z, a, b⟩ := h1
    rw [Nat.succ_add]
    exact ⟨z, a, ih l z q r b h2⟩
theorem cnt_new {s t z : Nat} (h : ∀ q, q < 10 → s.testBit q = true → t.testBit q = true) (hz : z < 10) (h1 : s.testBit z = false) (h2 : t.testBit z = true) : cnt s + 1 ≤ cnt t := by
  have e : cnt (s ||| onl z) = cnt s + 1 := by
    rw [cnt_or, onl_cnt hz]
    intro q hq hb
    rw [onl_t]
    cases e : decide (z = q) with
    | false => rw [Bool.and_false]
    | true => rw [← of_decide_eq_true e, h1] at hb; cases hb
  rw [← e]
  refine cnt_mono fun q hq hb => ?_
  rw [Nat.testBit_or, Bool.or_eq_true, onl_t, decide_eq_true hz, Bool.true_and] at hb
  rcases hb with hb | hb
  · exact h q hq hb
  · rw [← of_decide_eq_true hb]; exact h2
theorem cnt_all {s n : Nat} (hn : n ≤ 10) (hs : ∀ q, s.testBit q = true → q < n) (hc : n ≤ cnt s) : ∀ z, z < n → s.testBit z = true := by
  intro z hz
  cases e : s.testBit z with
  | true => rfl
  | false =>
    have := cnt_new (s := s) (t := ful n) (fun q _ h => by rw [ful_t]; exact decide_eq_true (hs q h)) (show z < 10 by omega) e (by rw [ful_t]; exact decide_eq_true hz)
    rw [cnt_ful hn] at this; omega
theorem rSt_grow {n : Nat} {be : Nat → Nat → Bool} (hT : trn n be) {p : Nat} (hp : p < n) : ∀ k, k + 1 ≤ cnt (rSt n be p k) ∨ ∀ q z, (rSt n be p k).testBit q = true → be q z = true → (rSt n be p k).testBit z = true := by
  have h10 := hT.2.1
  intro k
  induction k with
  | zero =>
    left
    show 0 + 1 ≤ cnt (onl p)
    rw [onl_cnt (by omega)]; exact Nat.le_refl _
  | succ k ih =>
    have up : ∀ q, (rSt n be p k).testBit q = true → (rSt n be p (k + 1)).testBit q = true := fun q hq => by
      rw [rSt_iff hT hp] at hq ⊢
      obtain ⟨j, a, b⟩ := hq
      exact ⟨j, by omega, b⟩
    by_cases hc : ∀ q z, (rSt n be p k).testBit q = true → be q z = true → (rSt n be p k).testBit z = true
    · right
      have stay : ∀ j q, wlk be j p q → (rSt n be p k).testBit q = true := by
        intro j
        induction j with
        | zero => intro q hw; cases hw; rw [rSt_iff hT hp]; exact ⟨0, Nat.zero_le _, rfl⟩
        | succ j ihj =>
          intro q hw
          obtain ⟨z, a, b⟩ := wlk_last j p q hw
          exact hc z q (ihj z a) b
      intro q z hq hb
      rw [rSt_iff hT hp] at hq
      obtain ⟨j, -, b⟩ := hq
      exact up z (hc q z (stay j q b) hb)
    · left
      rcases ih with ih | ih
      · obtain ⟨q, hq⟩ := Classical.not_forall.mp hc
        obtain ⟨z, hz⟩ := Classical.not_forall.mp hq
        obtain ⟨h1, hz⟩ := Classical.not_imp.mp hz
        obtain ⟨h2, h3⟩ := Classical.not_imp.mp hz
        have h3 : (rSt n be p k).testBit z = false := by simpa using h3
        have h4 : (rSt n be p (k + 1)).testBit z = true := by
          rw [rSt_iff hT hp] at h1 ⊢
          obtain ⟨j, a, b⟩ := h1
          exact ⟨j + 1, by omega, wlk_snoc j p q z b h2⟩
        have := cnt_new (fun q _ h => up q h) (by have := (hT.2.2.1 _ _ h2).2.1; omega) h3 h4
        omega
      · exact absurd ih hc
theorem rb_closed {n : Nat} {be : Nat → Nat → Bool} (hT : trn n be) {p : Nat} (hp : p < n) : ∀ q z, (rb n be p).testBit q = true → be q z = true → (rb n be p).testBit z = true := by
  have h10 := hT.2.1
  have h2 := hT.1
  rcases rSt_grow hT hp (n - 1) with h | h
  · intro q z _ hb
    refine cnt_all h10 (fun q hq => ?_) (by unfold rb; omega) z (hT.2.2.1 _ _ hb).2.1
    unfold rb at hq
    rw [rSt_iff hT hp] at hq
    obtain ⟨j, -, b⟩ := hq
    exact wlk_in hT j p q hp b
  · exact h
theorem rb_iff {n : Nat} {be : Nat → Nat → Bool} (hT : trn n be) {p : Nat} (hp : p < n) (q : Nat) : (rb n be p).testBit q = true ↔ ∃ k, wlk be k p q := by
  constructor
  · intro h
    unfold rb at h
    rw [rSt_iff hT hp] at h
    obtain ⟨j, -, b⟩ := h
    exact ⟨j, b⟩
  · rintro ⟨k, hk⟩
    induction k generalizing q with
    | zero => cases hk; unfold rb; rw [rSt_iff hT hp]; exact ⟨0, Nat.zero_le _, rfl⟩
    | succ k ih =>
      obtain ⟨z, a, b⟩ := wlk_last k p q hk
      exact rb_closed hT hp z q (ih z a) b
theorem rb_self {n : Nat} {be : Nat → Nat → Bool} (hT : trn n be) {p : Nat} (hp : p < n) : (rb n be p).testBit p = true := (rb_iff hT hp p).mpr ⟨0, rfl⟩
theorem rb_trans {n : Nat} {be : Nat → Nat → Bool} (hT : trn n be) {p q r : Nat} (hp : p < n) (hq : q < n) (h1 : (rb n be p).testBit q = true) (h2 : (rb n be q).testBit r = true) : (rb n be p).testBit r = true := by
  rw [rb_iff hT hp] at h1 ⊢
  rw [rb_iff hT hq] at h2
  obtain ⟨k, a⟩ := h1
  obtain ⟨l, b⟩ := h2
  exact ⟨k + l, wlk_add k l p q r a b⟩
/-- a set that stands for what p reaches: sound, and whole up to lo steps -/
def rI1 (D : am_D) (o n : Nat) (be : Nat → Nat → Bool) (p lo : Nat) : Prop := ∃ g, g < 1024 ∧ D (o + 8) p = nI g ∧ (∀ q, g.testBit q = true → (rb n be p).testBit q = true) ∧ ∀ q, (rSt n be p lo).testBit q = true → g.testBit q = true
section MO9
variable {lay : List am_L} {d : Nat} {D : am_D} {o n : Nat} {be : Nat → Nat → Bool} {we : Nat → Nat → Nat}
theorem l_re47 (ho : isX11 lay o) (hT : trn n be) {r p : Nat} (hp : p < n) : ∀ i, i ≤ n → ∀ D, mrow (D (o + 1)) (n, be, we) → (∃ g, g < 1024 ∧ D (o + 8) p = nI g ∧ (∀ q, g.testBit q = true → (rb n be p).testBit q = true) ∧ (∀ q, (rSt n be p r).testBit q = true → g.testBit q = true) ∧ ∀ q, q < i → (rSt n be p r).testBit q = true → ∀ z, be q z = true → g.testBit z = true) →
    ∃ D1, rI1 D1 o n be p (r + 1) ∧ (∀ q, q ≠ o + 8 → D1 q = D q) ∧ (∀ q, q ≠ p → D1 (o + 8) q = D (o + 8) q) ∧ ∀ Q : Option Value → am_D → Prop, am_AW lay (d + 1) mX11_reaches 37 [.ref o, .int (nI (r + 1)), .int (nI (p + 1)), .null] [] D1 Q → am_AW lay (d + 1) mX11_reaches 47 [.ref o, .int (nI (r + 1)), .int (nI p), .int (nI i)] [] D Q := by
  have h10 := hT.2.1
  refine up_loop ?_ fun i hi ih => ?_
  · intro D hB hG
    obtain ⟨g, g1, g2, g3, g4, g5⟩ := hG
    refine ⟨D, ⟨g, g1, g2, g3, fun q hq => ?_⟩, fun _ _ => rfl, fun _ _ => rfl, fun Q hQ => rX11_reaches_47 ho ⟨_, k_n ho hB, fun _ => ?_, fun h => absurd (nI_le (Nat.le_refl _) (by omega)) h⟩⟩
    · rw [rSt_iff hT hp] at hq
      obtain ⟨j, a, b⟩ := hq
      by_cases c : j ≤ r
      · exact g4 q ((rSt_iff hT hp r q).mpr ⟨j, c, b⟩)
      · obtain rfl : j = r + 1 := by omega
        obtain ⟨z, e1, e2⟩ := wlk_last r p q b
        exact g5 z (hT.2.2.1 _ _ e2).1 ((rSt_iff hT hp r z).mpr ⟨r, Nat.le_refl _, e1⟩) q e2
    · rw [nI_add]; exact hQ
  · intro D hB hG
    obtain ⟨g, g1, g2, g3, g4, g5⟩ := hG
    have hh := k_has (lay := lay) (d := d) (D := D) (s := g) (p := i) (by omega)
    cases e : g.testBit i with
    | false =>
      have same : am_up D (o + 8) p (nI g) = D := by
        funext q k
        unfold am_up
        by_cases c : q = o + 8 ∧ k = p
        · rw [if_pos c, c.1, c.2, g2]
        · rw [if_neg c]
      obtain ⟨D1, i1, i2, i3, i4⟩ := ih D hB ⟨g, g1, g2, g3, g4, fun q hq hr z hz => by
        by_cases c : q = i
        · rw [c] at hr; rw [g4 i hr] at e; cases e
        · exact g5 q (by omega) hr z hz⟩
      rw [e] at hh
      refine ⟨D1, i1, i2, i3, fun Q hQ => rX11_reaches_47 ho ⟨_, k_n ho hB, fun h => absurd h (ge_no hi (by omega)), fun _ => ?_⟩⟩
      rw [nI_clamp (by omega), g2]
      refine ⟨vp_in_nI (by omega) (by decide), vp_in_nI (by omega) (by decide), _, hh, fun _ => ⟨vp_in_nI (by omega) (by decide), ?_⟩, fun c => absurd rfl c⟩
      rintro D3 rfl
      rw [nn_or, Nat.or_zero, same, nI_add]; exact i4 Q hQ
    | true =>
      have hB2 : mrow (am_up D (o + 8) p (nI (g ||| msk (be i))) (o + 1)) (n, be, we) := by rw [am_up_ne (o + 1) (by omega)]; exact hB
      obtain ⟨D1, i1, i2, i3, i4⟩ := ih (am_up D (o + 8) p (nI (g ||| msk (be i)))) hB2 ⟨g ||| msk (be i), or_lt g1 (msk_lt _), by rw [am_upI, if_pos rfl], fun q hq => by
        rw [Nat.testBit_or, Bool.or_eq_true, hT.mskt] at hq
        rcases hq with hq | hq
        · exact g3 q hq
        · exact rb_closed hT hp i q (g3 i e) hq, fun q hq => by rw [Nat.testBit_or, g4 q hq, Bool.true_or], fun q hq hr z hz => by
        rw [Nat.testBit_or, hT.mskt]
        by_cases c : q = i
        · rw [← c, hz, Bool.or_true]
        · rw [g5 q (by omega) hr z hz, Bool.true_or]⟩
      rw [e] at hh
      refine ⟨D1, i1, fun q hq => by rw [i2 q hq, am_up_ne q hq], fun q hq => by rw [i3 q hq, am_upI, if_neg hq], fun Q hQ => rX11_reaches_47 ho ⟨_, k_n ho hB, fun h => absurd h (ge_no hi (by omega)), fun _ => ?_⟩⟩
      rw [nI_clamp (by omega), g2]
      refine ⟨vp_in_nI (by omega) (by decide), vp_in_nI (by omega) (by decide), _, hh, fun c => absurd c (by decide), fun _ => ⟨_, k_beaten ho hB (by omega), vp_in_nI (by omega) (by decide), ?_⟩⟩
      rintro D3 rfl
      rw [nn_or, nI_add]; exact i4 Q hQ
theorem rI1.cong {D D1 : am_D} {o n : Nat} {be : Nat → Nat → Bool} {p lo : Nat} (h : rI1 D o n be p lo) (e : D1 (o + 8) p = D (o + 8) p) : rI1 D1 o n be p lo := by
  obtain ⟨g, g1, g2, g3⟩ := h
  exact ⟨g, g1, by rw [e]; exact g2, g3⟩
theorem l_re37 (ho : isX11 lay o) (hT : trn n be) {r : Nat} (hr : r < 100) : ∀ i, i ≤ n → ∀ D, mrow (D (o + 1)) (n, be, we) → (∀ p, p < n → rI1 D o n be p (if p < i then r + 1 else r)) →
    ∃ D1, (∀ p, p < n → rI1 D1 o n be p (r + 1)) ∧ (∀ q, q ≠ o + 8 → D1 q = D q) ∧ ∀ Q : Option Value → am_D → Prop, am_AW lay (d + 1) mX11_reaches 27 [.ref o, .int (nI (r + 2)), .null, .null] [] D1 Q → am_AW lay (d + 1) mX11_reaches 37 [.ref o, .int (nI (r + 1)), .int (nI i), .null] [] D Q := by
  have h10 := hT.2.1
  refine up_loop ?_ fun i hi ih => ?_
  · intro D hB hP
    refine ⟨D, fun p hp => by have := hP p hp; rw [if_pos hp] at this; exact this, fun _ _ => rfl, fun Q hQ => rX11_reaches_37 ho ⟨_, k_n ho hB, fun _ => ?_, fun h => absurd (nI_le (Nat.le_refl _) (by omega)) h⟩⟩
    rw [nI_add]; exact hQ
  · intro D hB hP
    have h0 := hP i hi
    rw [if_neg (Nat.lt_irrefl i)] at h0
    obtain ⟨g, g1, g2, g3, g4⟩ := h0
    obtain ⟨D2, i1, i2, i3, i4⟩ := l_re47 (d := d) (r := r) ho hT hi 0 (Nat.zero_le _) D hB ⟨g, g1, g2, g3, g4, fun q hq => absurd hq (Nat.not_lt_zero q)⟩
    have hB2 : mrow (D2 (o + 1)) (n, be, we) := by rw [i2 (o + 1) (by omega)]; exact hB
    obtain ⟨D1, j1, j2, j3⟩ := ih D2 hB2 (fun p hp => by
      by_cases e : p = i
      · rw [e, if_pos (by omega)]; exact i1
      · have := (hP p hp).cong (D1 := D2) (i3 p e)
        by_cases c : p < i
        · rw [if_pos c] at this; rw [if_pos (by omega)]; exact this
        · rw [if_neg c] at this; rw [if_neg (by omega)]; exact this)
    exact ⟨D1, j1, fun q hq => by rw [j2 q hq, i2 q hq], fun Q hQ => rX11_reaches_37 ho ⟨_, k_n ho hB, fun h => absurd h (ge_no hi (by omega)), fun _ => i4 Q (j3 Q hQ)⟩⟩
theorem l_re27 (ho : isX11 lay o) (hT : trn n be) : ∀ r, r ≤ n → 1 ≤ r → ∀ D, mrow (D (o + 1)) (n, be, we) → (∀ p, p < n → rI1 D o n be p (r - 1)) →
    ∃ D1, (∀ p, p < n → rI1 D1 o n be p (n - 1)) ∧ (∀ q, q ≠ o + 8 → D1 q = D q) ∧ ∀ Q : Option Value → am_D → Prop, Q none D1 → am_AW lay (d + 1) mX11_reaches 27 [.ref o, .int (nI r), .null, .null] [] D Q := by
  have h10 := hT.2.1
  refine up_loop ?_ fun r hr ih => ?_
  · intro _ D hB hP
    exact ⟨D, hP, fun _ _ => rfl, fun Q hQ => rX11_reaches_27 ho ⟨_, k_n ho hB, fun _ => hQ, fun h => absurd (nI_le (Nat.le_refl _) (by omega)) h⟩⟩
  · intro h1 D hB hP
    obtain ⟨r', rfl⟩ : ∃ r', r = r' + 1 := ⟨r - 1, by omega⟩
    obtain ⟨D2, g1, g2, g3⟩ := l_re37 (d := d) (r := r') ho hT (by omega) 0 (Nat.zero_le _) D hB (fun p hp => by rw [if_neg (Nat.not_lt_zero p)]; exact hP p hp)
    have hB2 : mrow (D2 (o + 1)) (n, be, we) := by rw [g2 (o + 1) (by omega)]; exact hB
    obtain ⟨D1, j1, j2, j3⟩ := ih (by omega) D2 hB2 g1
    exact ⟨D1, j1, fun q hq => by rw [j2 q hq, g2 q hq], fun Q hQ => rX11_reaches_27 ho ⟨_, k_n ho hB, fun h => absurd h (ge_no hr (by omega)), fun _ => g3 Q (j3 Q hQ)⟩⟩
theorem k_reaches (ho : isX11 lay o) (hB : mrow (D (o + 1)) (n, be, we)) (hT : trn n be) : ∃ D1, am_MetV lay (d + 1) mX11_reaches [.ref o] D D1 ∧ (∀ p, p < n → D1 (o + 8) p = nI (rb n be p)) ∧ ∀ q, q ≠ o + 8 → D1 q = D q := by
  have h10 := hT.2.1
  have h2 := hT.1
  have first : ∀ i, i ≤ n → ∀ D, mrow (D (o + 1)) (n, be, we) → (∀ p, p < i → rI1 D o n be p 0) → ∃ D1, (∀ p, p < n → rI1 D1 o n be p (n - 1)) ∧ (∀ q, q ≠ o + 8 → D1 q = D q) ∧ ∀ Q : Option Value → am_D → Prop, Q none D1 → am_AW lay (d + 1) mX11_reaches 2 [.ref o, .int (nI i), .null, .null] [] D Q := by
    refine up_loop ?_ fun i hi ih => ?_
    · intro D hB hP
      obtain ⟨D1, g1, g2, g3⟩ := l_re27 (d := d) ho hT 1 (by omega) (Nat.le_refl _) D hB hP
      exact ⟨D1, g1, g2, fun Q hQ => rX11_reaches_2 ho ⟨_, k_n ho hB, fun _ => g3 Q hQ, fun h => absurd (nI_le (Nat.le_refl _) (by omega)) h⟩⟩
    · intro D hB hP
      have hB2 : mrow (am_up D (o + 8) i (nI (2 ^ i)) (o + 1)) (n, be, we) := by rw [am_up_ne (o + 1) (by omega)]; exact hB
      obtain ⟨D1, g1, g2, g3⟩ := ih (am_up D (o + 8) i (nI (2 ^ i))) hB2 (fun p hp => by
        by_cases c : p = i
        · subst c
          refine ⟨onl p, onl_lt _, by rw [am_upI, if_pos rfl, onl_p (by omega)], fun q hq => ?_, fun q hq => hq⟩
          rw [onl_t, decide_eq_true (by omega : p < 10), Bool.true_and] at hq
          rw [← of_decide_eq_true hq]; exact rb_self hT hi
        · exact (hP p (by omega)).cong (by rw [am_upI, if_neg c]))
      refine ⟨D1, g1, fun q hq => by rw [g2 q hq, am_up_ne q hq], fun Q hQ => rX11_reaches_2 ho ⟨_, k_n ho hB, fun h => absurd h (ge_no hi (by omega)), fun _ => ⟨vp_in_nI (by omega) (by decide), ?_⟩⟩⟩
      rintro D2 rfl
      rw [nI_clamp (by omega), nn_shl1 i (by omega), nI_add]; exact g3 Q hQ
  obtain ⟨D1, g1, g2, g3⟩ := first 0 (Nat.zero_le _) D hB (fun p hp => absurd hp (Nat.not_lt_zero p))
  refine ⟨D1, eX11_reaches ho (g3 _ ⟨rfl, rfl⟩), fun p hp => ?_, g2⟩
  obtain ⟨g, a1, a2, a3, a4⟩ := g1 p hp
  rw [a2]
  congr 1
  refine set_ext a1 rb_lt fun q _ => ?_
  apply Bool.eq_iff_iff.mpr
  exact ⟨a3 q, a4 q⟩
end MO9
