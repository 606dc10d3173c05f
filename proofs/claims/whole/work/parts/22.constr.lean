/-! construction out of a sequence -/
/-- the greatest rest in a set, the last of them; the smallest, the first of them -/
def grF (r : Nat → Nat) (S : Nat) : Nat → Nat
  | 0 => lowb S
  | i + 1 => if S.testBit i = true ∧ r (grF r S i) ≤ r i then i else grF r S i
def smF (r : Nat → Nat) (S : Nat) : Nat → Nat
  | 0 => lowb S
  | i + 1 => if S.testBit i = true ∧ r i < r (smF r S i) then i else smF r S i
def slF (r : Nat → Nat) (S : Nat) : Nat → Nat
  | 0 => 0
  | k + 1 => slF r S k ||| onl (smF r (mdf S (slF r S k)) 10)
theorem low_in : ∀ S, S < 1024 → S ≠ 0 → lowb S < 10 ∧ S.testBit (lowb S) = true := fun S h h0 => ⟨(bits_low S h h0).2.2.1, (bits_low S h h0).2.2.2⟩
theorem low_no : lowb 0 = 32 := by decide
theorem grF_in {r : Nat → Nat} {S : Nat} (h : S < 1024) (h0 : S ≠ 0) : ∀ i, i ≤ 10 → grF r S i < 10 ∧ S.testBit (grF r S i) = true := by
  intro i
  induction i with
  | zero => intro _; exact low_in S h h0
  | succ i ih =>
    intro hi
    unfold grF
    split
    · rename_i hc; exact ⟨by omega, hc.1⟩
    · exact ih (by omega)
theorem smF_in {r : Nat → Nat} {S : Nat} (h : S < 1024) (h0 : S ≠ 0) : ∀ i, i ≤ 10 → smF r S i < 10 ∧ S.testBit (smF r S i) = true := by
  intro i
  induction i with
  | zero => intro _; exact low_in S h h0
  | succ i ih =>
    intro hi
    unfold smF
    split
    · rename_i hc; exact ⟨by omega, hc.1⟩
    · exact ih (by omega)
theorem smF_0 {r : Nat → Nat} : ∀ i, smF r 0 i = 32 := by
  intro i
  induction i with
  | zero => exact low_no
  | succ i ih =>
    show (if Nat.testBit 0 i = true ∧ _ then i else smF r 0 i) = 32
    rw [if_neg (by simp), ih]
theorem smF_le {r : Nat → Nat} {S : Nat} (h : S < 1024) : smF r S 10 ≤ 32 := by
  by_cases h0 : S = 0
  · subst h0; rw [smF_0]; exact Nat.le_refl _
  · have := (smF_in (r := r) h h0 10 (Nat.le_refl _)).1; omega
theorem slF_lt {r : Nat → Nat} {S : Nat} : ∀ k, slF r S k < 1024 := by
  intro k
  induction k with
  | zero => exact (by decide : 0 < 1024)
  | succ k ih => exact or_lt ih (onl_lt _)
theorem slF_sub {r : Nat → Nat} {S : Nat} (h : S < 1024) : ∀ k i, (slF r S k).testBit i = true → S.testBit i = true := by
  intro k
  induction k with
  | zero => intro i hi; simp [slF] at hi
  | succ k ih =>
    intro i hi
    unfold slF at hi
    rw [Nat.testBit_or, Bool.or_eq_true] at hi
    rcases hi with hi | hi
    · exact ih i hi
    · rw [onl_t] at hi
      simp at hi
      obtain ⟨h1, rfl⟩ := hi
      have h0 : mdf S (slF r S k) ≠ 0 := by
        intro e
        rw [e, smF_0] at h1; omega
      have := (smF_in (r := r) (mdf_lt h) h0 10 (Nat.le_refl _)).2
      rw [mdf_t, Bool.and_eq_true] at this
      exact this.1
/-- the results of tk against those of S set, below i: those of L lose -/
def stI (be : Nat → Nat → Bool) (tk S L i : Nat) : Nat → Nat → Bool := fun p q => if p = tk ∧ q < i ∧ S.testBit q = true then L.testBit q else if q = tk ∧ p < i ∧ S.testBit p = true then !L.testBit p else be p q
def rR (D : am_D) (o : Nat) (r : Nat → Nat) : Prop := ∀ q, q < 10 → D (o + 1) q = nI (r q)
/-- rests behind a turn, below i -/
def rsI (r : Nat → Nat) (S L i : Nat) : Nat → Nat := fun q => if q < i ∧ S.testBit q = true ∧ L.testBit q = false then r q - 1 else r q
section CON
variable {lay : List am_L} {d : Nat} {D : am_D} {b o n : Nat} {be : Nat → Nat → Bool} {we : Nat → Nat → Nat} {r : Nat → Nat}
theorem c_restOf (ho : isX1 lay o) (hr : rR D o r) {q : Nat} (hq : q < 10) : am_MetP lay d mX1_restOf [.ref o, .int (nI q)] D (nI (r q)) := by
  refine eX1_restOf ho ⟨fun h => absurd h (nn_neg (by omega)), fun _ => ⟨fun h => ?_, fun _ => ⟨vp_in_nI hq (by decide), ?_⟩⟩⟩
  · rw [nI_leI (by decide) (by omega)] at h; omega
  · rw [nI_clamp (by omega), hr q hq]; exact ⟨rfl, rfl⟩
theorem c_greatestOf (ho : isX1 lay o) (hr : rR D o r) (hr9 : ∀ q, r q ≤ 9) {S : Nat} (hS : S < 1024) (h0 : S ≠ 0) : am_MetP lay (d + 2) mX1_greatestOf [.ref o, .int (nI S)] D (nI (grF r S 10)) := by
  have loop : ∀ k i, i + k = 10 → ∀ Q : Option Value → am_D → Prop, Q (some (.int (nI (grF r S 10)))) D → am_AW lay (d + 2) mX1_greatestOf 7 [.ref o, .int (nI S), .int (nI (grF r S i)), .int (nI i)] [] D Q := by
    intro k
    induction k with
    | zero =>
      intro i hi Q hQ
      obtain rfl : i = 10 := by omega
      exact rX1_greatestOf_7 ho ⟨fun _ => hQ, fun h2 => absurd (by decide) h2⟩
    | succ k ih =>
      intro i hi Q hQ
      have hnx := ih (i + 1) (by omega) Q hQ
      have hg := (grF_in (r := r) hS h0 i (by omega)).1
      have ha := hr9 i
      have hb := hr9 (grF r S i)
      refine rX1_greatestOf_7 ho ⟨fun h2 => ?_, fun _ => ⟨_, c_holds (by omega), fun h => ?_, fun h => ⟨_, c_restOf ho hr (by omega), _, c_restOf ho hr hg, fun h2 => ?_, fun h2 => ?_⟩⟩⟩
      · rw [nI_leI (by decide) (by omega)] at h2; omega
      all_goals rw [decide_eq_true (by omega : i < 10), Bool.true_and] at h
      · have e : grF r S (i + 1) = grF r S i := if_neg (by rw [bI_0.mp h]; simp)
        rw [e] at hnx; rw [nI_add]; exact hnx
      · rw [nI_ltI (by omega) (by omega)] at h2
        have e : grF r S (i + 1) = grF r S i := if_neg (by omega)
        rw [e] at hnx; rw [nI_add]; exact hnx
      · rw [nI_ltI (by omega) (by omega)] at h2
        have e : grF r S (i + 1) = i := if_pos ⟨bI_n0.mp h, by omega⟩
        rw [e] at hnx; rw [nI_add]; exact hnx
  exact eX1_greatestOf ho ⟨_, c_lowestOf hS, loop 10 0 rfl _ ⟨rfl, rfl⟩⟩
theorem c_smallestIn (ho : isX1 lay o) (hr : rR D o r) (hr9 : ∀ q, r q ≤ 9) {S : Nat} (hS : S < 1024) : am_MetP lay (d + 2) mX1_smallestIn [.ref o, .int (nI S)] D (nI (smF r S 10)) := by
  have loop : ∀ k i, i + k = 10 → ∀ Q : Option Value → am_D → Prop, Q (some (.int (nI (smF r S 10)))) D → am_AW lay (d + 2) mX1_smallestIn 7 [.ref o, .int (nI S), .int (nI (smF r S i)), .int (nI i)] [] D Q := by
    intro k
    induction k with
    | zero =>
      intro i hi Q hQ
      obtain rfl : i = 10 := by omega
      exact rX1_smallestIn_7 ho ⟨fun _ => hQ, fun h2 => absurd (by decide) h2⟩
    | succ k ih =>
      intro i hi Q hQ
      have hnx := ih (i + 1) (by omega) Q hQ
      have ha := hr9 i
      have hb := hr9 (smF r S i)
      cases hsi : S.testBit i with
      | false =>
        have e : smF r S (i + 1) = smF r S i := if_neg (by rw [hsi]; simp)
        rw [e] at hnx
        refine rX1_smallestIn_7 ho ⟨fun h2 => ?_, fun _ => ⟨_, c_holds (by omega), fun h => ?_, fun h => ?_⟩⟩
        · rw [nI_leI (by decide) (by omega)] at h2; omega
        · rw [nI_add]; exact hnx
        · rw [hsi, Bool.and_false] at h; exact absurd rfl h
      | true =>
        have h0 : S ≠ 0 := fun e => by rw [e] at hsi; simp at hsi
        have hg := (smF_in (r := r) hS h0 i (by omega)).1
        refine rX1_smallestIn_7 ho ⟨fun h2 => ?_, fun _ => ⟨_, c_holds (by omega), fun h => ?_, fun h => ⟨_, c_restOf ho hr (by omega), _, c_restOf ho hr hg, fun h2 => ?_, fun h2 => ?_⟩⟩⟩
        · rw [nI_leI (by decide) (by omega)] at h2; omega
        · rw [hsi, Bool.and_true, decide_eq_true (by omega : i < 10)] at h; cases bI_0.mp h
        · rw [nI_leI (by omega) (by omega)] at h2
          have e : smF r S (i + 1) = smF r S i := if_neg (by omega)
          rw [e] at hnx; rw [nI_add]; exact hnx
        · rw [nI_leI (by omega) (by omega)] at h2
          have e : smF r S (i + 1) = i := if_pos ⟨hsi, by omega⟩
          rw [e] at hnx; rw [nI_add]; exact hnx
  exact eX1_smallestIn ho ⟨_, c_lowestOf hS, loop 10 0 rfl _ ⟨rfl, rfl⟩⟩
theorem c_smallestOf (ho : isX1 lay o) (hr : rR D o r) (hr9 : ∀ q, r q ≤ 9) {S k : Nat} (hS : S < 1024) (hk : k ≤ 9) : am_MetP lay (d + 3) mX1_smallestOf [.ref o, .int (nI S), .int (nI k)] D (nI (slF r S k)) := by
  have loop : ∀ j i, i + j = k → ∀ Q : Option Value → am_D → Prop, Q (some (.int (nI (slF r S k)))) D → am_AW lay (d + 3) mX1_smallestOf 5 [.ref o, .int (nI S), .int (nI k), .int (nI (slF r S i)), .int (nI i)] [] D Q := by
    intro j
    induction j with
    | zero =>
      intro i hi Q hQ
      obtain rfl : i = k := by omega
      exact rX1_smallestOf_5 ho ⟨fun _ => hQ, fun h2 => absurd (nI_le (Nat.le_refl _) (by omega)) h2⟩
    | succ j ih =>
      intro i hi Q hQ
      have hl := smF_le (r := r) (mdf_lt (m := slF r S i) hS)
      refine rX1_smallestOf_5 ho ⟨fun h2 => ?_, fun _ => ⟨fun h2 => ?_, fun _ => ?_⟩⟩
      · rw [nI_leI (by omega) (by omega)] at h2; omega
      · rw [nI_leI (by decide) (by omega)] at h2; omega
      · rw [nn_dif]
        refine ⟨_, c_smallestIn ho hr hr9 (mdf_lt hS), _, c_only (by omega), ?_⟩
        rw [nn_or, nI_add]
        exact ih (i + 1) (by omega) Q hQ
  exact eX1_smallestOf ho (loop k 0 (by omega) _ ⟨rfl, rfl⟩)
theorem stI_y {tk S L i : Nat} (hi : S.testBit i = true) (hL : L.testBit i = true) (hne : i ≠ tk) (htk : S.testBit tk = false) : stw (stI be tk S L i) tk i = stI be tk S L (i + 1) := by
  funext p q
  unfold stw stI
  by_cases c1 : p = tk ∧ q = i
  · obtain ⟨rfl, rfl⟩ := c1; rw [if_pos ⟨rfl, rfl⟩, if_pos ⟨rfl, by omega, hi⟩, hL]
  · by_cases c2 : p = i ∧ q = tk
    · obtain ⟨rfl, rfl⟩ := c2
      rw [if_neg (by omega), if_pos ⟨rfl, rfl⟩, if_neg (by omega), if_pos ⟨rfl, by omega, hi⟩, hL]; rfl
    · rw [if_neg c1, if_neg c2]
      have e1 : (p = tk ∧ q < i ∧ S.testBit q = true) ↔ (p = tk ∧ q < i + 1 ∧ S.testBit q = true) := ⟨fun h => ⟨h.1, by have := h.2.1; omega, h.2.2⟩, fun h => ⟨h.1, by have h8 := h.2.1; have h9 := h.1; omega, h.2.2⟩⟩
      have e2 : (q = tk ∧ p < i ∧ S.testBit p = true) ↔ (q = tk ∧ p < i + 1 ∧ S.testBit p = true) := ⟨fun h => ⟨h.1, by have := h.2.1; omega, h.2.2⟩, fun h => ⟨h.1, by have h8 := h.2.1; have h9 := h.1; omega, h.2.2⟩⟩
      simp only [e1, e2]
theorem stI_n {tk S L i : Nat} (hi : S.testBit i = true) (hL : L.testBit i = false) (hne : i ≠ tk) (htk : S.testBit tk = false) : stw (stI be tk S L i) i tk = stI be tk S L (i + 1) := by
  funext p q
  unfold stw stI
  by_cases c1 : p = tk ∧ q = i
  · obtain ⟨rfl, rfl⟩ := c1; rw [if_neg (by omega), if_pos ⟨rfl, rfl⟩, if_pos ⟨rfl, by omega, hi⟩, hL]
  · by_cases c2 : p = i ∧ q = tk
    · obtain ⟨rfl, rfl⟩ := c2
      rw [if_pos ⟨rfl, rfl⟩, if_neg (by omega), if_pos ⟨rfl, by omega, hi⟩, hL]; rfl
    · rw [if_neg c2, if_neg c1]
      have e1 : (p = tk ∧ q < i ∧ S.testBit q = true) ↔ (p = tk ∧ q < i + 1 ∧ S.testBit q = true) := ⟨fun h => ⟨h.1, by have := h.2.1; omega, h.2.2⟩, fun h => ⟨h.1, by have h8 := h.2.1; have h9 := h.1; omega, h.2.2⟩⟩
      have e2 : (q = tk ∧ p < i ∧ S.testBit p = true) ↔ (q = tk ∧ p < i + 1 ∧ S.testBit p = true) := ⟨fun h => ⟨h.1, by have := h.2.1; omega, h.2.2⟩, fun h => ⟨h.1, by have h8 := h.2.1; have h9 := h.1; omega, h.2.2⟩⟩
      simp only [e1, e2]
theorem stI_s {tk S L i : Nat} (hi : S.testBit i = false) : stI be tk S L i = stI be tk S L (i + 1) := by
  funext p q
  unfold stI
  have e : ∀ z, (z < i ∧ S.testBit z = true) ↔ (z < i + 1 ∧ S.testBit z = true) := by
    intro z
    constructor
    · rintro ⟨a, b⟩; exact ⟨by omega, b⟩
    · rintro ⟨a, b⟩
      refine ⟨?_, b⟩
      by_cases c : z = i
      · subst c; rw [hi] at b; cases b
      · omega
  simp only [e]
theorem c_settle (ho : isX1 lay o) (hb : isX0 lay b) (hne : o + 1 < b ∨ b + 2 < o + 1) {tk S L : Nat} (hS : S < 1024) (hSn : S ≤ ful n) (hLS : ∀ i, L.testBit i = true → S.testBit i = true) (htn : tk < n) (htk : S.testBit tk = false) (h1 : ∀ q, S.testBit q = true → L.testBit q = false → 1 ≤ r q) :
    ∀ k i D, i + k = 10 → trn n (stI be tk S L i) → brd D b n (stI be tk S L i) we → rR D o (rsI r S L i) → ∃ D1, trn n (stI be tk S L 10) ∧ brd D1 b n (stI be tk S L 10) we ∧ rR D1 o (rsI r S L 10) ∧ (∀ q, q ≠ b → q ≠ b + 1 → q ≠ b + 2 → q ≠ o + 1 → D1 q = D q) ∧ (∀ i, 2 ≤ i → D1 b i = D b i) ∧ stq D D1 b k ∧ ∀ Q : Option Value → am_D → Prop, Q none D1 → am_AW lay (d + 4) mX1_settle 3 [.ref o, .ref b, .int (nI tk), .int (nI S), .int (nI L), .int (nI i)] [] D Q := by
  have inN : ∀ z, S.testBit z = true → z < n := by
    intro z hz
    rcases Nat.lt_or_ge z n with q | q
    · exact q
    · exfalso
      have h5 : 2 ^ n ≤ 2 ^ z := Nat.pow_le_pow_right (by decide) q
      have h6 := Nat.two_pow_pos n
      have h7 : S < 2 ^ z := by unfold ful at hSn; omega
      rw [Nat.testBit_lt_two_pow h7] at hz; cases hz
  intro k
  induction k with
  | zero =>
    intro i D hi hT hB hr
    obtain rfl : i = 10 := by omega
    exact ⟨D, hT, hB, hr, fun _ _ _ _ _ => rfl, fun _ _ => rfl, ⟨0, Nat.le_refl _, by rw [show nI 0 = 0 from rfl, Int32.add_zero], fun _ _ _ => rfl⟩, fun Q hQ => rX1_settle_3 ho hb ⟨fun _ => hQ, fun h2 => absurd (by decide) h2⟩⟩
  | succ k ih =>
    intro i D hi hT hB hr
    have hout : ¬ nI 10 ≤ nI i := by rw [nI_leI (by decide) (by omega)]; omega
    have hi10 : i < 10 := by omega
    cases hsi : S.testBit i with
    | false =>
      have hLi : L.testBit i = false := by
        cases e : L.testBit i with
        | false => rfl
        | true => have := hLS i e; rw [hsi] at this; cases this
      rw [stI_s hsi] at hT hB
      have er : rsI r S L i = rsI r S L (i + 1) := by
        funext q; unfold rsI
        by_cases c : q = i
        · subst c; rw [hsi]; simp
        · have : (q < i ↔ q < i + 1) := by omega
          simp only [this]
      rw [er] at hr
      obtain ⟨D1, a1, a2, a3, a4, a5, a6, a7⟩ := ih (i + 1) D (by omega) hT hB hr
      obtain ⟨j, j1, j2, j3⟩ := a6
      refine ⟨D1, a1, a2, a3, a4, a5, ⟨j, by omega, j2, j3⟩, fun Q hQ => rX1_settle_3 ho hb ⟨fun h => absurd h hout, fun _ => ⟨_, c_holds (by omega), fun _ => ⟨_, c_holds (by omega), fun _ => ?_, fun h => ?_⟩, fun h => ?_⟩⟩⟩
      · rw [nI_add]; exact a7 Q hQ
      · rw [hsi, Bool.and_false] at h; exact absurd rfl h
      · rw [hLi, Bool.and_false] at h; exact absurd rfl h
    | true =>
      have hitk : i ≠ tk := fun e => by subst e; rw [hsi] at htk; cases htk
      have hin := inN i hsi
      have h10 := hT.2.1
      cases hLi : L.testBit i with
      | true =>
        obtain ⟨D5, g1, g2, g3⟩ := c_setWinner (d := d) hb hB hT htn hin (Ne.symm hitk)
        have hT5 := stw_trn hT htn hin (Ne.symm hitk)
        rw [stI_y hsi hLi hitk htk] at g2 hT5
        have er : rsI r S L i = rsI r S L (i + 1) := by
          funext q; unfold rsI
          by_cases c : q = i
          · subst c; rw [hLi]; simp
          · have : (q < i ↔ q < i + 1) := by omega
            simp only [this]
        have hr5 : rR D5 o (rsI r S L (i + 1)) := fun q hq => by rw [g3.1 (o + 1) (by omega) (by omega) (by omega), ← er]; exact hr q hq
        obtain ⟨D1, a1, a2, a3, a4, a5, a6, a7⟩ := ih (i + 1) D5 (by omega) hT5 g2 hr5
        obtain ⟨j, j1, j2, j3⟩ := a6
        obtain ⟨j', k1, k2, k3⟩ := g3.stq
        refine ⟨D1, a1, a2, a3, fun q q0 q1 q2 q3 => by rw [a4 q q0 q1 q2 q3, g3.1 q q0 q1 q2], fun z hz => by rw [a5 z hz, g3.2.1 z hz], ⟨j' + j, by omega, by rw [j2, k2, Int32.add_assoc, nI_add], fun e q hq => by rw [j3 (by omega) q hq, k3 (by omega) q hq]⟩, fun Q hQ => rX1_settle_3 ho hb ⟨fun h => absurd h hout, fun _ => ⟨_, c_holds (by omega), fun h => ?_, fun _ => ⟨D5, g1, ?_⟩⟩⟩⟩
        · rw [hLi, Bool.and_true, decide_eq_true hi10] at h; cases bI_0.mp h
        · rw [nI_add]; exact a7 Q hQ
      | false =>
        obtain ⟨D5, g1, g2, g3⟩ := c_setWinner (d := d) hb hB hT hin htn hitk
        have hT5 := stw_trn hT hin htn hitk
        rw [stI_n hsi hLi hitk htk] at g2 hT5
        have hri : D5 (o + 1) i = nI (r i) := by
          rw [g3.1 (o + 1) (by omega) (by omega) (by omega), hr i hi10]
          unfold rsI; rw [if_neg (by omega)]
        have hsub : D5 (o + 1) i - nI 1 = nI (r i - 1) := by rw [hri, nn_sub (h1 i hsi hLi)]
        have hup : ∀ q, q ≠ o + 1 → am_up D5 (o + 1) i (nI (r i - 1)) q = D5 q := fun q hq => am_up_ne q hq
        have g2' : brd (am_up D5 (o + 1) i (nI (r i - 1))) b n (stI be tk S L (i + 1)) we := g2.keep fun q hq => hup q (by omega)
        have hr5 : rR (am_up D5 (o + 1) i (nI (r i - 1))) o (rsI r S L (i + 1)) := fun q hq => by
          by_cases c : q = i
          · subst c
            have : rsI r S L (q + 1) q = r q - 1 := if_pos ⟨by omega, hsi, hLi⟩
            simp [am_up, this]
          · have e : rsI r S L (i + 1) q = rsI r S L i q := by
              unfold rsI
              have : (q < i + 1 ↔ q < i) := by omega
              simp only [this]
            rw [e]
            simp [am_up, c]
            rw [g3.1 (o + 1) (by omega) (by omega) (by omega)]
            exact hr q hq
        obtain ⟨D1, a1, a2, a3, a4, a5, a6, a7⟩ := ih (i + 1) _ (by omega) hT5 g2' hr5
        obtain ⟨j, j1, j2, j3⟩ := a6
        obtain ⟨j', k1, k2, k3⟩ := g3.stq
        refine ⟨D1, a1, a2, a3, fun q q0 q1 q2 q3 => by rw [a4 q q0 q1 q2 q3, hup q q3, g3.1 q q0 q1 q2], fun z hz => by rw [a5 z hz, hup b (by omega), g3.2.1 z hz], ⟨j' + j, by omega, by rw [j2, hup b (by omega), k2, Int32.add_assoc, nI_add], fun e q hq => by rw [j3 (by omega) q hq, hup q (by omega), k3 (by omega) q hq]⟩, fun Q hQ => rX1_settle_3 ho hb ⟨fun h => absurd h hout, fun _ => ⟨_, c_holds (by omega), fun _ => ⟨_, c_holds (by omega), fun h => ?_, fun _ => ⟨D5, g1, vp_in_nI hi10 (by decide), vp_in_nI hi10 (by decide), ?_⟩⟩, fun h => ?_⟩⟩⟩
        · rw [hsi, Bool.and_true, decide_eq_true hi10] at h; cases bI_0.mp h
        · rw [nI_clamp (by omega), hsub]
          rintro D4 rfl
          rw [nI_add]; exact a7 Q hQ
        · rw [hLi, Bool.and_false] at h; exact absurd rfl h
/-- the run of a construction: who is left, the rests, the results -/
abbrev cS : Type := Nat × (Nat → Nat) × (Nat → Nat → Bool)
def csN (s : cS) : cS := if s.1 = 0 then s else
  (mdf s.1 (onl (grF s.2.1 s.1 10)),
   rsI s.2.1 (mdf s.1 (onl (grF s.2.1 s.1 10))) (slF s.2.1 (mdf s.1 (onl (grF s.2.1 s.1 10))) (s.2.1 (grF s.2.1 s.1 10))) 10,
   stI s.2.2 (grF s.2.1 s.1 10) (mdf s.1 (onl (grF s.2.1 s.1 10))) (slF s.2.1 (mdf s.1 (onl (grF s.2.1 s.1 10))) (s.2.1 (grF s.2.1 s.1 10))) 10)
def csR (l : List Nat) : Nat → cS
  | 0 => (ful l.length, fun q => l.getD q 0, bg0 l.length)
  | k + 1 => csN (csR l k)
/-- a turn that goes well: who isn't beaten has a rest left -/
def csOK (s : cS) : Prop := ∀ q, (mdf s.1 (onl (grF s.2.1 s.1 10))).testBit q = true → (slF s.2.1 (mdf s.1 (onl (grF s.2.1 s.1 10))) (s.2.1 (grF s.2.1 s.1 10))).testBit q = false → 1 ≤ s.2.1 q
theorem csN_r9 {s : cS} (h : ∀ q, s.2.1 q ≤ 9) : ∀ q, (csN s).2.1 q ≤ 9 := by
  intro q
  unfold csN
  split
  · exact h q
  · show rsI _ _ _ _ q ≤ 9
    unfold rsI
    have := h q
    split <;> omega
theorem csN_le {s : cS} : (csN s).1 ≤ s.1 := by
  unfold csN
  split
  · exact Nat.le_refl _
  · exact mdf_le _ _
theorem l_build_44 (ho : isX1 lay o) {q8 : Nat} (h8 : isX8 lay q8) (hb : isX0 lay b) (hne : o + 1 < b ∨ b + 2 < o + 1) {l : List Nat} (hok : ∀ k, k < 10 → (csR l k).1 ≠ 0 → csOK (csR l k)) : ∀ j k D, k + j = 10 → trn n (csR l k).2.2 → brd D b n (csR l k).2.2 we → rR D o (csR l k).2.1 → (∀ q, (csR l k).2.1 q ≤ 9) → (csR l k).1 ≤ ful n → ∃ D1, trn n (csR l 10).2.2 ∧ brd D1 b n (csR l 10).2.2 we ∧ (∀ q, q ≠ b → q ≠ b + 1 → q ≠ b + 2 → q ≠ o + 1 → D1 q = D q) ∧ (∀ i, 2 ≤ i → D1 b i = D b i) ∧ stq D D1 b (10 * j) ∧ ∀ Q : Option Value → am_D → Prop, Q none D1 → am_AW lay (d + 6) mX1_build 44 [.ref o, .ref q8, .ref b, .int (nI (csR l k).1), .int (nI k), .null] [] D Q := by
  intro j
  induction j with
  | zero =>
    intro k D hk hT hB hr h9 hS
    obtain rfl : k = 10 := by omega
    exact ⟨D, hT, hB, fun _ _ _ _ _ => rfl, fun _ _ => rfl, ⟨0, Nat.le_refl _, by rw [show nI 0 = 0 from rfl, Int32.add_zero], fun _ _ _ => rfl⟩, fun Q hQ => rX1_build_44 ho h8 hb ⟨fun _ => hQ, fun h2 => absurd (by decide) h2⟩⟩
  | succ j ih =>
    intro k D hk hT hB hr h9 hS
    have h10 := hT.2.1
    have hf := ful_lt h10
    have hout : ¬ nI 10 ≤ nI k := by rw [nI_leI (by decide) (by omega)]; omega
    have hs : (csR l k).1 < 1024 := by omega
    by_cases h0 : (csR l k).1 = 0
    · have e : csR l (k + 1) = csR l k := if_pos h0
      obtain ⟨D1, a1, a2, a3, a4, ⟨z, z1, z2, z3⟩, a6⟩ := ih (k + 1) D (by omega) (by rw [e]; exact hT) (by rw [e]; exact hB) (by rw [e]; exact hr) (by rw [e]; exact h9) (by rw [e]; exact hS)
      have est : ∀ m, csR l (k + m) = csR l k := by
        intro m
        induction m with
        | zero => rfl
        | succ m ihm =>
          show csN (csR l (k + m)) = _
          rw [ihm]; exact if_pos h0
      have e10 : csR l 10 = csR l k := by have := est (10 - k); rw [show k + (10 - k) = 10 by omega] at this; exact this
      refine ⟨D, by rw [e10]; exact hT, by rw [e10]; exact hB, fun _ _ _ _ _ => rfl, fun _ _ => rfl, ⟨0, Nat.zero_le _, by rw [show nI 0 = 0 from rfl, Int32.add_zero], fun _ _ _ => rfl⟩, fun Q hQ => rX1_build_44 ho h8 hb ⟨fun h => absurd h hout, fun _ => ⟨fun _ => hQ, fun h => ?_⟩⟩⟩
      rw [h0] at h; exact absurd rfl h
    · have hc := hok k (by omega) h0
      generalize hse : csR l k = s at *
      have e : csR l (k + 1) = csN s := by show csN (csR l k) = _; rw [hse]
      obtain ⟨g1, g2⟩ := grF_in (r := s.2.1) hs h0 10 (Nat.le_refl _)
      have inN : ∀ z, s.1.testBit z = true → z < n := by
        intro z hz
        rcases Nat.lt_or_ge z n with q | q
        · exact q
        · exfalso
          have h5 : 2 ^ n ≤ 2 ^ z := Nat.pow_le_pow_right (by decide) q
          have h6 := Nat.two_pow_pos n
          have h7 : s.1 < 2 ^ z := by unfold ful at hS; omega
          rw [Nat.testBit_lt_two_pow h7] at hz; cases hz
      have hts : (mdf s.1 (onl (grF s.2.1 s.1 10))).testBit (grF s.2.1 s.1 10) = false := by
        rw [mdf_t, onl_t, decide_eq_true g1]; simp
      have eN : csN s = (mdf s.1 (onl (grF s.2.1 s.1 10)), rsI s.2.1 (mdf s.1 (onl (grF s.2.1 s.1 10))) (slF s.2.1 (mdf s.1 (onl (grF s.2.1 s.1 10))) (s.2.1 (grF s.2.1 s.1 10))) 10, stI s.2.2 (grF s.2.1 s.1 10) (mdf s.1 (onl (grF s.2.1 s.1 10))) (slF s.2.1 (mdf s.1 (onl (grF s.2.1 s.1 10))) (s.2.1 (grF s.2.1 s.1 10))) 10) := if_neg h0
      have e0 : stI s.2.2 (grF s.2.1 s.1 10) (mdf s.1 (onl (grF s.2.1 s.1 10))) (slF s.2.1 (mdf s.1 (onl (grF s.2.1 s.1 10))) (s.2.1 (grF s.2.1 s.1 10))) 0 = s.2.2 := by funext p q; simp [stI]
      have e1 : rsI s.2.1 (mdf s.1 (onl (grF s.2.1 s.1 10))) (slF s.2.1 (mdf s.1 (onl (grF s.2.1 s.1 10))) (s.2.1 (grF s.2.1 s.1 10))) 0 = s.2.1 := by funext q; simp [rsI]
      obtain ⟨D5, a1, a2, a3, a4, a5, ⟨y, y1, y2, y3⟩, a7⟩ := c_settle (d := d + 1) ho hb hne (mdf_lt hs) (Nat.le_trans (mdf_le _ _) hS) (slF_sub (r := s.2.1) (mdf_lt (m := onl (grF s.2.1 s.1 10)) hs) (s.2.1 (grF s.2.1 s.1 10))) (inN _ g2) hts hc 10 0 D rfl (by rw [e0]; exact hT) (by rw [e0]; exact hB) (by rw [e1]; exact hr)
      obtain ⟨D1, b1, b2, b3, b4, ⟨z, z1, z2, z3⟩, b6⟩ := ih (k + 1) D5 (by omega) (by rw [e, eN]; exact a1) (by rw [e, eN]; exact a2) (by rw [e, eN]; exact a3) (by rw [e]; exact csN_r9 h9) (by rw [e]; exact Nat.le_trans csN_le hS)
      refine ⟨D1, b1, b2, fun q q0 q1 q2 q3 => by rw [b3 q q0 q1 q2 q3, a4 q q0 q1 q2 q3], fun i hi => by rw [b4 i hi, a5 i hi], ⟨y + z, by omega, by rw [z2, y2, Int32.add_assoc, nI_add], fun e q hq => by rw [z3 (by omega) q hq, y3 (by omega) q hq]⟩, fun Q hQ => rX1_build_44 ho h8 hb ⟨fun h => absurd h hout, fun _ => ⟨fun h => ?_, fun _ => ⟨_, c_greatestOf ho hr h9 hs h0, _, c_without (by omega), _, c_restOf ho hr g1, _, c_smallestOf ho hr h9 (mdf_lt hs) (h9 _), D5, eX1_settle ho hb (a7 _ ⟨rfl, rfl⟩), ?_⟩⟩⟩⟩
      · rw [nI_eq (by omega) (by decide)] at h; exact absurd h h0
      · have := b6 Q hQ
        rw [e, eN] at this
        rw [nI_add]; exact this
/-- the results that a construction comes to -/
def csF (l : List Nat) : Nat → Nat → Bool := (csR l 10).2.2
theorem c_build (ho : isX1 lay o) {q8 : Nat} (h8 : isX8 lay q8) (hb : isX0 lay b) (hne : o + 1 < b ∨ b + 2 < o + 1) (hq8 : q8 ≠ o + 1 ∧ q8 + 1 ≠ o + 1 ∧ q8 ≠ b ∧ q8 ≠ b + 1 ∧ q8 ≠ b + 2 ∧ q8 + 1 ≠ b ∧ q8 + 1 ≠ b + 2) {l : List Nat} (hl : rL D q8 10 l) (h9 : ∀ x ∈ l, x ≤ 9) (h2 : 2 ≤ l.length) (hok : ∀ k, k < 10 → (csR l k).1 ≠ 0 → csOK (csR l k)) : ∃ D1, am_MetV lay (d + 6) mX1_build [.ref o, .ref q8, .ref b] D D1 ∧ trn l.length (csF l) ∧ brd D1 b l.length (csF l) (fun _ _ => 1) ∧ (∀ q, q ≠ b → q ≠ b + 1 → q ≠ b + 2 → q ≠ o + 1 → D1 q = D q) ∧ (∀ i, 2 ≤ i → D1 b i = D b i) ∧ stq D D1 b 101 := by
  have hl10 := hl.1
  obtain ⟨D2, s1, s2, s3⟩ := c_start (d := d + 4) (D := D) hb h2 hl10
  have hl2 : rL D2 q8 10 l := hl.keep (s3.1 q8 (by omega) (by omega) (by omega)) (s3.1 (q8 + 1) (by omega) (by omega) (by omega))
  have hT0 : trn l.length (csR l 0).2.2 := bg0_trn h2 hl10
  let f : Nat → Int32 := fun q => nI (l.getD q 0)
  have r9 : ∀ q, (csR l 0).2.1 q ≤ 9 := fun q => by
    show l.getD q 0 ≤ 9
    rw [List.getD_eq_getElem?_getD]
    cases e : l[q]? with
    | none => exact Nat.zero_le _
    | some x => exact h9 x (List.mem_of_getElem? e)
  have hfr : ∀ q, q ≠ o + 1 → fil D2 (o + 1) 10 f q = D2 q := fun q hq => fil_ne hq
  have hB3 : brd (fil D2 (o + 1) 10 f) b l.length (csR l 0).2.2 (fun _ _ => 1) := s2.keep fun q hq => hfr q (by omega)
  obtain ⟨D1, a1, a2, a3, a4, ⟨z, z1, z2, z3⟩, a6⟩ := l_build_44 (d := d) (we := fun _ _ => 1) ho h8 hb hne hok 10 0 (fil D2 (o + 1) 10 f) rfl hT0 hB3 (fun q hq => fil_in hq) r9 (Nat.le_refl _)
  have loop : ∀ j i, i + j = 10 → ∀ Q : Option Value → am_D → Prop, Q none D1 → am_AW lay (d + 6) mX1_build 10 [.ref o, .ref q8, .ref b, .int (nI i), .null, .null] [] (fil D2 (o + 1) i f) Q := by
    intro j
    induction j with
    | zero =>
      intro i hi Q hQ
      obtain rfl : i = 10 := by omega
      exact rX1_build_10 ho h8 hb ⟨fun _ => ⟨_, c_everyone hb hB3 hT0, a6 Q hQ⟩, fun h => absurd (by decide) h⟩
    | succ j ih =>
      intro i hi Q hQ
      refine rX1_build_10 ho h8 hb ⟨fun h => ?_, fun _ => ⟨_, c_numberAt h8 (hl2.keep (fil_ne hq8.1) (fil_ne hq8.2.1)) (by omega), vp_in_nI (by omega) (by decide), ?_⟩⟩
      · rw [nI_leI (by decide) (by omega)] at h; omega
      · rw [nI_clamp (by omega)]
        rintro D3 rfl
        rw [show nI (l.getD i 0) = f i from rfl, fil_up, nI_add]
        exact ih (i + 1) (by omega) Q hQ
  have h0 := loop 10 0 rfl
  rw [fil_0] at h0
  obtain ⟨y, y1, y2, y3⟩ := s3.stq
  refine ⟨D1, eX1_build ho h8 hb ⟨_, c_s_size h8 hl, D2, s1, h0 _ ⟨rfl, rfl⟩⟩, a1, a2, fun q q0 q1 q2 q3 => by rw [a3 q q0 q1 q2 q3, hfr q q3, s3.1 q q0 q1 q2], fun i hi => by rw [a4 i hi, hfr b (by omega), s3.2.1 i hi], ⟨y + z, by omega, by rw [z2, hfr b (by omega), y2, Int32.add_assoc, nI_add], fun e q hq => by rw [z3 (by omega) q hq, hfr q (by omega), y3 (by omega) q hq]⟩⟩
end CON
