/-! history, sequence, text: as lists -/
abbrev am_T : Type := Nat × (Nat → Nat → Bool) × (Nat → Nat → Nat)
def okT (T : am_T) : Prop := trn T.1 T.2.1 ∧ (∀ p q, T.2.2 p q = T.2.2 q p) ∧ (∀ p q, 1 ≤ T.2.2 p q ∧ T.2.2 p q ≤ 100) ∧ ∀ p q, 10 ≤ p ∨ 10 ≤ q → T.2.2 p q = 1
abbrev brdT (D : am_D) (b : Nat) (T : am_T) : Prop := brd D b T.1 T.2.1 T.2.2
def rH (D : am_D) (o : Nat) (H : List am_T) : Prop := H.length ≤ 8 ∧ (∀ T ∈ H, okT T) ∧ ∃ old, old < 8 ∧ D o 1 = nI old ∧ D o 2 = nI H.length ∧ ∀ i T, H[i]? = some T → brdT D (o + 2 + 3 * ((old + i) % 8)) T
def pushH (H : List am_T) (T : am_T) : List am_T := (if H.length = 8 then H.tail else H) ++ [T]
theorem hist_at {o j : Nat} (h : j < 8) : (am_hist o)[j]? = some (o + 2 + 3 * j) := by
  have : j = 0 ∨ j = 1 ∨ j = 2 ∨ j = 3 ∨ j = 4 ∨ j = 5 ∨ j = 6 ∨ j = 7 := by omega
  rcases this with rfl | rfl | rfl | rfl | rfl | rfl | rfl | rfl <;> rfl
section HIS
variable {lay : List am_L} {d : Nat} {D : am_D} {o b : Nat}
theorem hist_is (ho : isX3 lay o) {j : Nat} (h : j < 8) : isX0 lay (o + 2 + 3 * j) := ho.2.2 _ (List.mem_of_getElem? (hist_at h))
theorem c_stateAt (ho : isX3 lay o) {old i : Nat} (h1 : D o 1 = nI old) (hold : old < 8) (hi : i < 100) : am_MetR lay (d + 1) mX3_stateAt [.ref o, .int (nI i)] D (o + 2 + 3 * ((old + i) % 8)) := by
  have hm : (old + i) % 8 < 8 := Nat.mod_lt _ (by decide)
  refine eX3_stateAt ho ?_
  rw [h1, nI_add]
  refine ⟨_, c_mod8 (by omega), fun h => absurd h (nn_neg (by omega)), fun _ => ⟨fun h => ?_, fun _ => ⟨vp_in_nI hm (by decide), _, ?_, rfl, rfl⟩⟩⟩
  · rw [nI_leI (by decide) (by omega)] at h; omega
  · rw [nI_clamp (by omega)]; exact hist_at hm
/-- the cells of a history -/
def inH (o q : Nat) : Prop := o ≤ q ∧ q < o + 26
theorem brd.keep {D1 : am_D} {n : Nat} {be : Nat → Nat → Bool} {we : Nat → Nat → Nat} (h : brd D b n be we) (k : ∀ q, (q = b ∨ q = b + 1 ∨ q = b + 2) → D1 q = D q) : brd D1 b n be we :=
  h.frame (by rw [k b (by omega)]) (k _ (by omega)) (k _ (by omega))
theorem ring_ne {old i j : Nat} (hi : i < 8) (hj : j < 8) (h : i ≠ j) : (old + i) % 8 ≠ (old + j) % 8 := by omega
theorem c_record (ho : isX3 lay o) (hb : isX0 lay b) {H : List am_T} {T : am_T} (hH : rH D o H) (hB : brdT D b T) (hT : okT T) (hbo : b + 2 < o ∨ o + 26 ≤ b) : ∃ D1, am_MetV lay (d + 3) mX3_record [.ref o, .ref b] D D1 ∧ rH D1 o (pushH H T) ∧ ∀ q, ¬ inH o q → D1 q = D q := by
  obtain ⟨hl, hok, old, hold, e1, e2, hr⟩ := hH
  have hmod : ∀ k, (old + k) % 8 < 8 := fun k => Nat.mod_lt _ (by decide)
  by_cases h8 : H.length = 8
  · -- full: the oldest goes
    have hold2 : (old + 1) % 8 < 8 := hmod 1
    obtain ⟨D6, hD6⟩ : ∃ z, z = am_up (am_up D o 1 (nI ((old + 1) % 8))) o 2 (nI 7) := ⟨_, rfl⟩
    have f6 : ∀ q, q ≠ o → D6 q = D q := by intro q hq; rw [hD6]; funext j; simp [am_up, hq]
    have e61 : D6 o 1 = nI ((old + 1) % 8) := by rw [hD6]; simp [am_up]
    have e62 : D6 o 2 = nI 7 := by rw [hD6]; simp [am_up]
    have ht : ((old + 1) % 8 + 7) % 8 = old := by omega
    have hB6 : brdT D6 b T := hB.keep fun q hq => f6 q (by omega)
    have hst := c_stateAt (d := d + 1) ho e61 hold2 (by decide : 7 < 100)
    rw [ht] at hst
    obtain ⟨D8, g1, g2, g3⟩ := c_copyFrom (d := d + 1) (b := o + 2 + 3 * old) (a := b) (hist_is ho hold) hb hB6 (by omega)
    have f8 : ∀ q, ¬ inH o q → D8 q = D6 q := fun q hq => g3.1 q (by unfold inH at hq; omega) (by unfold inH at hq; omega) (by unfold inH at hq; omega)
    have f8o : D8 o = D6 o := g3.1 o (by omega) (by omega) (by omega)
    have e82 : D8 o 2 = nI 7 := by rw [f8o, e62]
    have e81 : D8 o 1 = nI ((old + 1) % 8) := by rw [f8o, e61]
    apply Exists.intro
    apply And.intro
    · refine eX3_record ho hb ⟨fun h => ?_, fun _ => ?_⟩
      · rw [e2, h8] at h; exact absurd rfl h
      · rw [e1, nI_add]
        refine ⟨_, c_mod8 (by omega), ?_⟩
        rintro D5 rfl D6' h6
        have e50 : am_up D o 1 (nI ((old + 1) % 8)) o 2 - nI 1 = nI 7 := by
          have : am_up D o 1 (nI ((old + 1) % 8)) o 2 = nI 8 := by simp [am_up, e2, h8]
          rw [this]; decide
        rw [e50, ← hD6] at h6
        subst h6
        rw [e62]
        refine ⟨_, hst, hist_is ho hold, D8, g1, ?_⟩
        rintro D9 rfl
        exact ⟨rfl, rfl⟩
    · rw [e82, show nI 7 + nI 1 = nI 8 from by decide]
      refine ⟨⟨?_, ?_, (old + 1) % 8, hold2, ?_, ?_, fun i T1 hi => ?_⟩, fun q hq => ?_⟩
      · simp [pushH, h8]
      · intro T1 h
        simp only [pushH, h8, if_true, List.mem_append, List.mem_singleton] at h
        rcases h with h | rfl
        · exact hok _ (List.mem_of_mem_tail h)
        · exact hT
      · simp [am_up, e81]
      · simp [am_up, pushH, h8]
      · simp only [pushH, h8, if_true] at hi
        have hup : ∀ q, q ≠ o → am_up D8 o 2 (nI 8) q = D8 q := by intro q hq; funext j; simp [am_up, hq]
        by_cases h7 : i < 7
        · rw [List.getElem?_append_left (by simp; omega), List.getElem?_tail] at hi
          have := hr (i + 1) T1 hi
          have e : ((old + 1) % 8 + i) % 8 = (old + (i + 1)) % 8 := by omega
          rw [e]
          have hne : (old + (i + 1)) % 8 ≠ old := by omega
          refine (this.keep fun q hq => ?_)
          rw [hup q (by omega), g3.1 q (by omega) (by omega) (by omega), f6 q (by omega)]
        · have hi7 : i = 7 := by
            have := (List.getElem?_eq_some_iff.mp hi).1
            simp at this; omega
          subst hi7
          rw [List.getElem?_append_right (by simp; omega)] at hi
          simp [h8] at hi
          subst hi
          rw [ht]
          exact g2.keep fun q hq => hup q (by omega)
      · have : q ≠ o := by unfold inH at hq; omega
        have e : am_up D8 o 2 (nI 8) q = D8 q := by funext j; simp [am_up, this]
        rw [e, f8 q hq, f6 q this]
  · have hm := hmod H.length
    have hst := c_stateAt (d := d + 1) ho e1 hold (by omega : H.length < 100)
    obtain ⟨D8, g1, g2, g3⟩ := c_copyFrom (d := d + 1) (b := o + 2 + 3 * ((old + H.length) % 8)) (a := b) (hist_is ho hm) hb hB (by omega)
    have f8o : D8 o = D o := g3.1 o (by omega) (by omega) (by omega)
    apply Exists.intro
    apply And.intro
    · refine eX3_record ho hb ⟨fun _ => ?_, fun h => ?_⟩
      · rw [e2]
        refine ⟨_, hst, hist_is ho hm, D8, g1, ?_⟩
        rintro D3 rfl
        exact ⟨rfl, rfl⟩
      · rw [e2] at h
        rw [nI_eq (by omega) (by decide)] at h
        exact absurd h8 h
    · rw [f8o, e2, nI_add]
      refine ⟨⟨?_, ?_, old, hold, ?_, ?_, fun i T1 hi => ?_⟩, fun q hq => ?_⟩
      · simp [pushH, h8]; omega
      · intro T1 h
        simp only [pushH, h8, if_false, List.mem_append, List.mem_singleton] at h
        rcases h with h | rfl
        · exact hok _ h
        · exact hT
      · simp [am_up, f8o, e1]
      · simp [am_up, pushH, h8]
      · simp only [pushH, h8, if_false] at hi
        have hup : ∀ q, q ≠ o → am_up D8 o 2 (nI (H.length + 1)) q = D8 q := by intro q hq; funext j; simp [am_up, hq]
        by_cases h7 : i < H.length
        · rw [List.getElem?_append_left h7] at hi
          have := hr i T1 hi
          have hne : (old + i) % 8 ≠ (old + H.length) % 8 := by omega
          refine (this.keep fun q hq => ?_)
          rw [hup q (by omega), g3.1 q (by omega) (by omega) (by omega)]
        · have hi7 : i = H.length := by
            have := (List.getElem?_eq_some_iff.mp hi).1
            simp at this; omega
          subst hi7
          rw [List.getElem?_append_right (Nat.le_refl _)] at hi
          simp at hi
          subst hi
          exact g2.keep fun q hq => hup q (by omega)
      · have hqo : q ≠ o := by unfold inH at hq; omega
        have e : am_up D8 o 2 (nI (H.length + 1)) q = D8 q := by funext j; simp [am_up, hqo]
        rw [e]
        exact g3.1 q (by unfold inH at hq; omega) (by unfold inH at hq; omega) (by unfold inH at hq; omega)
/-- the stamp of a board tells a change of it -/
def stq (D D1 : am_D) (b k : Nat) : Prop := ∃ j, j ≤ k ∧ D1 b 1 = D b 1 + nI j ∧ (j = 0 → ∀ q, (q = b ∨ q = b + 1 ∨ q = b + 2) → D1 q = D q)
theorem chg.stq {D1 : am_D} {k : Nat} (h : chg D D1 b k) : stq D D1 b k := by
  obtain ⟨-, -, j, h1, h2, h3⟩ := h
  exact ⟨j, h1, h2, fun e q _ => by rw [h3 e]⟩
theorem c_takeLatest (ho : isX3 lay o) (hb : isX0 lay b) {H : List am_T} {T : am_T} (hH : rH D o (H ++ [T])) (hbo : b + 2 < o ∨ o + 26 ≤ b) : ∃ D1, am_MetV lay (d + 3) mX3_takeLatest [.ref o, .ref b] D D1 ∧ rH D1 o H ∧ brdT D1 b T ∧ okT T ∧ (∀ q, q ≠ o → q ≠ b → q ≠ b + 1 → q ≠ b + 2 → D1 q = D q) ∧ (∀ i, 2 ≤ i → D1 b i = D b i) ∧ stq D D1 b 1 := by
  obtain ⟨hl, hok, old, hold, e1, e2, hr⟩ := hH
  have hlen : (H ++ [T]).length = H.length + 1 := by simp
  rw [hlen] at hl e2
  have hmod : ∀ k, (old + k) % 8 < 8 := fun k => Nat.mod_lt _ (by decide)
  have hm := hmod H.length
  have hst := c_stateAt (d := d + 1) ho e1 hold (by omega : H.length < 100)
  have hBT : brdT D (o + 2 + 3 * ((old + H.length) % 8)) T := hr H.length T (by simp)
  obtain ⟨D2, g1, g2, g3⟩ := c_copyFrom (d := d + 1) hb (hist_is ho hm) hBT (by omega)
  have f2o : D2 o = D o := g3.1 o (by omega) (by omega) (by omega)
  have hc : D o 2 - nI 1 = nI H.length := by rw [e2, nn_sub (by omega)]; rfl
  have hc2 : D2 o 2 - nI 1 = nI H.length := by rw [f2o, hc]
  apply Exists.intro
  apply And.intro
  · refine eX3_takeLatest ho hb ?_
    rw [hc]
    refine ⟨_, hst, hist_is ho hm, fun h => ?_, fun _ => ⟨D2, g1, ?_⟩⟩
    · rw [e2, nI_leI (by omega) (by decide)] at h; omega
    · rintro D3 rfl
      exact ⟨rfl, rfl⟩
  · rw [hc2]
    have hup : ∀ q, q ≠ o → am_up D2 o 2 (nI H.length) q = D2 q := by intro q hq; funext j; simp [am_up, hq]
    refine ⟨⟨by omega, fun T1 h => hok T1 (List.mem_append_left _ h), old, hold, ?_, ?_, fun i T1 hi => ?_⟩, g2.keep fun q hq => hup q (by omega), hok T (by simp), fun q q0 q1 q2 q3 => ?_, fun i hi => ?_, ?_⟩
    · simp [am_up, f2o, e1]
    · simp [am_up]
    · have hlt := (List.getElem?_eq_some_iff.mp hi).1
      refine (hr i T1 (by rw [List.getElem?_append_left hlt]; exact hi)).keep fun q hq => ?_
      rw [hup q (by omega), g3.1 q (by omega) (by omega) (by omega)]
    · rw [hup q q0, g3.1 q q1 q2 q3]
    · rw [hup b (by omega), g3.2.1 i hi]
    · obtain ⟨j, j1, j2, j3⟩ := g3.stq
      exact ⟨j, j1, by rw [hup b (by omega)]; exact j2, fun e q hq => by rw [hup q (by omega)]; exact j3 e q hq⟩
end HIS
/-! sequence and text: a row and its length -/
def rL (D : am_D) (o N : Nat) (l : List Nat) : Prop := l.length ≤ N ∧ D o 1 = nI l.length ∧ ∀ i x, l[i]? = some x → D (o + 1) i = nI x
theorem rL.keep {D D1 : am_D} {o N : Nat} {l : List Nat} (h : rL D o N l) (h0 : D1 o = D o) (h1 : D1 (o + 1) = D (o + 1)) : rL D1 o N l := ⟨h.1, by rw [h0]; exact h.2.1, fun i x hx => by rw [h1]; exact h.2.2 i x hx⟩
theorem rL.nil {D D1 : am_D} {o N : Nat} (h : D1 o 1 = nI 0) : rL D1 o N [] := ⟨Nat.zero_le _, h, fun i x hx => by simp at hx⟩
theorem rL.push {D : am_D} {o N : Nat} {l : List Nat} (h : rL D o N l) (hl : l.length < N) (x : Nat) : rL (am_up (am_up D (o + 1) l.length (nI x)) o 1 (nI (l.length + 1))) o N (l ++ [x]) := by
  refine ⟨by simp; omega, by simp [am_up], fun i y hi => ?_⟩
  by_cases e : i < l.length
  · rw [List.getElem?_append_left e] at hi
    have := h.2.2 i y hi
    simp [am_up, show i ≠ l.length by omega, this]
  · have hi2 : i = l.length := by
      have := (List.getElem?_eq_some_iff.mp hi).1
      simp at this; omega
    subst hi2
    rw [List.getElem?_append_right (Nat.le_refl _)] at hi
    simp at hi
    simp [am_up, hi]
section SEQ
variable {lay : List am_L} {d : Nat} {D : am_D} {o : Nat} {l : List Nat}
theorem c_s_size (ho : isX8 lay o) (h : rL D o 10 l) : am_MetP lay d mX8_size [.ref o] D (nI l.length) := eX8_size ho ⟨by rw [h.2.1], rfl⟩
theorem c_s_empty (ho : isX8 lay o) : am_MetV lay d mX8_empty [.ref o] D (am_up D o 1 (nI 0)) := by
  refine eX8_empty ho ?_
  rintro D1 rfl
  exact ⟨rfl, rfl⟩
theorem c_s_add_full (ho : isX8 lay o) (h : rL D o 10 l) (hl : l.length = 10) (v : Int32) : am_MetI lay d mX8_add [.ref o, .int v] D (nI 0) D := by
  refine eX8_add ho ?_
  rw [h.2.1]
  refine ⟨fun _ => ⟨rfl, rfl⟩, fun _ => ⟨fun h2 => ?_, fun _ => ⟨rfl, rfl⟩⟩⟩
  rw [nI_ltI (by omega) (by decide)] at h2; omega
theorem c_s_add (ho : isX8 lay o) (h : rL D o 10 l) (hl : l.length < 10) (v : Int32) : am_MetI lay d mX8_add [.ref o, .int v] D (nI 1) (am_up (am_up D (o + 1) l.length v) o 1 (nI (l.length + 1))) := by
  refine eX8_add ho ?_
  rw [h.2.1]
  refine ⟨fun h2 => absurd h2 (nn_neg (by omega)), fun _ => ⟨fun _ => ⟨vp_in_nI hl (by decide), ?_⟩, fun h2 => ?_⟩⟩
  · rintro D1 rfl D2 rfl
    rw [nI_clamp (by omega)]
    have : am_up D (o + 1) l.length v o 1 + nI 1 = nI (l.length + 1) := by
      have e : am_up D (o + 1) l.length v o 1 = nI l.length := by simp [am_up, h.2.1]
      rw [e, nI_add]
    rw [this]; exact ⟨rfl, rfl⟩
  · exact absurd ((nI_ltI (by omega) (by decide)).mpr hl) h2
theorem c_numberAt (ho : isX8 lay o) (h : rL D o 10 l) {i : Nat} (hi : i < 2 ^ 31) : am_MetP lay d mX8_numberAt [.ref o, .int (nI i)] D (nI (l.getD i 0)) := by
  refine eX8_numberAt ho ?_
  rw [h.2.1]
  have h10 := h.1
  refine ⟨fun h2 => absurd h2 (nn_neg hi), fun _ => ⟨fun h2 => ?_, fun h2 => ?_⟩⟩
  · rw [nI_leI (by omega) hi] at h2
    rw [List.getD_eq_getElem?_getD, List.getElem?_eq_none h2]; exact ⟨rfl, rfl⟩
  · rw [nI_leI (by omega) hi] at h2
    refine ⟨fun h3 => ?_, fun _ => ⟨vp_in_nI (by omega) (by decide), ?_⟩⟩
    · rw [nI_leI (by decide) hi] at h3; omega
    · rw [nI_clamp hi, h.2.2 i (l.getD i 0) (by rw [List.getD_eq_getElem?_getD, List.getElem?_eq_getElem (by omega)]; rfl)]; exact ⟨rfl, rfl⟩
/-- how many of the first i numbers are x -/
def tms (l : List Nat) (x i : Nat) : Nat := (List.range i).countP fun j => l.getD j 0 == x
theorem tms_s (l : List Nat) (x i : Nat) : tms l x (i + 1) = tms l x i + if l.getD i 0 = x then 1 else 0 := by
  unfold tms
  rw [List.range_succ, List.countP_append, List.countP_singleton]
  simp
theorem l_timesOf (ho : isX8 lay o) (h : rL D o 10 l) (hx : ∀ x ∈ l, x ≤ 9) {x : Nat} (hx9 : x ≤ 9) {Q : Option Value → am_D → Prop} (hQ : Q (some (.int (nI (tms l x l.length)))) D) : ∀ k i, i + k = l.length → am_AW lay (d + 1) mX8_timesOf 4 [.ref o, .int (nI x), .int (nI (tms l x i)), .int (nI i)] [] D Q := by
  have h10 := h.1
  intro k
  induction k with
  | zero =>
    intro i hi
    obtain rfl : i = l.length := by omega
    refine rX8_timesOf_4 ho ?_
    rw [h.2.1]
    exact ⟨fun _ => hQ, fun h2 => absurd (nI_le (Nat.le_refl _) (by omega)) h2⟩
  | succ k ih =>
    intro i hi
    refine rX8_timesOf_4 ho ?_
    rw [h.2.1]
    refine ⟨fun h2 => ?_, fun _ => ⟨_, c_numberAt ho h (by omega), fun h2 => ?_, fun h2 => ?_⟩⟩
    · rw [nI_leI (by omega) (by omega)] at h2; omega
    all_goals
      have hg : l.getD i 0 ≤ 9 := by
        rw [List.getD_eq_getElem?_getD, List.getElem?_eq_getElem (by omega)]
        exact hx _ (List.getElem_mem _)
      have := ih (i + 1) (by omega)
      rw [tms_s] at this
      rw [nI_add, nI_add]
    · rw [nI_eq (by omega) (by omega)] at h2
      rw [if_neg h2] at this; exact this
    · rw [Classical.not_not, nI_eq (by omega) (by omega)] at h2
      rw [if_pos h2] at this; exact this
theorem c_timesOf (ho : isX8 lay o) (h : rL D o 10 l) (hx : ∀ x ∈ l, x ≤ 9) {x : Nat} (hx9 : x ≤ 9) : am_MetP lay (d + 1) mX8_timesOf [.ref o, .int (nI x)] D (nI (tms l x l.length)) := eX8_timesOf ho (l_timesOf ho h hx hx9 ⟨rfl, rfl⟩ l.length 0 (by omega))
/-- the sum of the k smallest, by counts: after the numbers below m -/
def smk (l : List Nat) (k : Nat) : Nat → Nat × Nat
  | 0 => (0, k)
  | m + 1 => let t := min (tms l m l.length) (smk l k m).2; ((smk l k m).1 + t * m, (smk l k m).2 - t)
def smallSum (l : List Nat) (k : Nat) : Nat := (smk l k 10).1
theorem smk_le (l : List Nat) (k m : Nat) : (smk l k m).2 ≤ k ∧ (smk l k m).1 ≤ 9 * (k - (smk l k m).2) ∨ 10 < m := by
  induction m with
  | zero => left; exact ⟨Nat.le_refl _, by simp [smk]⟩
  | succ m ih =>
    by_cases hm : 10 < m + 1
    · right; exact hm
    · left
      rcases ih with ⟨h1, h2⟩ | h
      · have e : smk l k (m + 1) = ((smk l k m).1 + min (tms l m l.length) (smk l k m).2 * m, (smk l k m).2 - min (tms l m l.length) (smk l k m).2) := rfl
        rw [e]
        show (smk l k m).2 - _ ≤ k ∧ (smk l k m).1 + _ * m ≤ 9 * (k - ((smk l k m).2 - _))
        have ht : min (tms l m l.length) (smk l k m).2 ≤ (smk l k m).2 := Nat.min_le_right _ _
        generalize min (tms l m l.length) (smk l k m).2 = t at ht ⊢
        have : t * m ≤ t * 9 := Nat.mul_le_mul_left _ (by omega)
        omega
      · omega
theorem l_sumOfSmallest (ho : isX8 lay o) (h : rL D o 10 l) (hx : ∀ x ∈ l, x ≤ 9) {k : Nat} (hk : k ≤ 10) {Q : Option Value → am_D → Prop} (hQ : Q (some (.int (nI (smallSum l k)))) D) : ∀ j m, m + j = 10 → am_AW lay (d + 2) mX8_sumOfSmallest 7 [.ref o, .int (nI k), .int (nI (smk l k m).1), .int (nI (smk l k m).2), .int (nI m), .null] [] D Q := by
  intro j
  induction j with
  | zero =>
    intro m hm
    obtain rfl : m = 10 := by omega
    exact rX8_sumOfSmallest_7 ho ⟨fun _ => hQ, fun h2 => absurd (by decide) h2⟩
  | succ j ih =>
    intro m hm
    refine rX8_sumOfSmallest_7 ho ⟨fun h2 => ?_, fun _ => ⟨_, c_timesOf ho h hx (by omega), ?_⟩⟩
    · rw [nI_ltI (by decide) (by omega)] at h2; omega
    · have hle : tms l m l.length ≤ 10 := by
        unfold tms
        exact Nat.le_trans List.countP_le_length (by rw [List.length_range]; exact h.1)
      have hs := smk_le l k m
      have hmin : (if nI (tms l m l.length) < nI (smk l k m).2 then nI (tms l m l.length) else nI (smk l k m).2) = nI (min (tms l m l.length) (smk l k m).2) := by
        by_cases c : tms l m l.length < (smk l k m).2
        · rw [if_pos ((nI_ltI (by omega) (by omega)).mpr c), Nat.min_eq_left (by omega)]
        · rw [if_neg (by rw [nI_ltI (by omega) (by omega)]; exact c), Nat.min_eq_right (by omega)]
      rw [hmin, nn_mul, nI_add, nI_add, nn_sub (Nat.min_le_right _ _)]
      exact ih (m + 1) (by omega)
theorem c_sumOfSmallest (ho : isX8 lay o) (h : rL D o 10 l) (hx : ∀ x ∈ l, x ≤ 9) {k : Nat} (hk : k ≤ 10) : am_MetP lay (d + 2) mX8_sumOfSmallest [.ref o, .int (nI k)] D (nI (smallSum l k)) := eX8_sumOfSmallest ho (l_sumOfSmallest ho h hx hk ⟨rfl, rfl⟩ 10 0 rfl)
/-- the least k at which the numbers fail, from k on; 0: none -/
def failAt (f : Nat → Nat) (n : Nat) : Nat → Nat → Nat
  | 0, _ => 0
  | j + 1, k => if f k < k * (k - 1) / 2 ∨ (k = n ∧ k * (k - 1) / 2 < f k) then k else failAt f n j (k + 1)
theorem l_failingCount (ho : isX8 lay o) (h : rL D o 10 l) (hx : ∀ x ∈ l, x ≤ 9) : ∀ j k, 1 ≤ k → k + j = l.length + 1 → ∀ Q : Option Value → am_D → Prop, Q (some (.int (nI (failAt (smallSum l) l.length j k)))) D → am_AW lay (d + 3) mX8_failingCount 13 [.ref o, .int (nI k), .null, .null] [] D Q := by
  have h10 := h.1
  intro j
  induction j with
  | zero =>
    intro k hk1 hk Q hQ
    refine rX8_failingCount_13 ho ?_
    rw [h.2.1]
    exact ⟨fun _ => hQ, fun h2 => absurd ((nI_ltI (by omega) (by omega)).mpr (by omega)) h2⟩
  | succ j ih =>
    intro k hk1 hk Q hQ
    have hs : smallSum l k ≤ 90 := by
      have := smk_le l k 10
      unfold smallSum; omega
    have hkk : k * (k - 1) ≤ 10 * 9 := Nat.mul_le_mul (by omega) (by omega)
    have e1 : nI k * (nI k - nI 1) / nI 2 = nI (k * (k - 1) / 2) := by rw [nn_sub hk1, nn_mul, nn_div (by omega) (by decide)]
    refine rX8_failingCount_13 ho ?_
    rw [h.2.1, e1]
    unfold failAt at hQ
    refine ⟨fun h2 => ?_, fun _ => ⟨_, c_sumOfSmallest ho h hx (by omega), fun h2 => ?_, fun h2 => ⟨fun h3 => ?_, fun h3 => ⟨fun h4 => ?_, fun h4 => ?_⟩⟩⟩⟩
    · rw [nI_ltI (by omega) (by omega)] at h2; omega
    · rw [nI_ltI (by omega) (by omega)] at h2
      rw [if_pos (Or.inl h2)] at hQ; exact hQ
    · rw [nI_ltI (by omega) (by omega)] at h2
      rw [nI_eq (by omega) (by omega)] at h3
      rw [if_neg (by omega)] at hQ
      rw [nI_add]; exact ih (k + 1) (by omega) (by omega) Q hQ
    · rw [nI_ltI (by omega) (by omega)] at h2
      rw [Classical.not_not, nI_eq (by omega) (by omega)] at h3
      rw [nI_leI (by omega) (by omega)] at h4
      rw [if_neg (by omega)] at hQ
      rw [nI_add]; exact ih (k + 1) (by omega) (by omega) Q hQ
    · rw [Classical.not_not, nI_eq (by omega) (by omega)] at h3
      rw [nI_leI (by omega) (by omega)] at h4
      rw [if_pos (Or.inr ⟨h3, by omega⟩)] at hQ; exact hQ
/-- what checkSequence answers -/
def chkSeq (l : List Nat) : Int32 := if l.length < 2 then -2 else nI (failAt (smallSum l) l.length l.length 1)
theorem c_failingCount (ho : isX8 lay o) (h : rL D o 10 l) (hx : ∀ x ∈ l, x ≤ 9) : am_MetP lay (d + 3) mX8_failingCount [.ref o] D (chkSeq l) := by
  have h10 := h.1
  refine eX8_failingCount ho ?_
  rw [h.2.1]
  unfold chkSeq
  refine ⟨fun h2 => ?_, fun h2 => ?_⟩
  · rw [nI_leI (by decide) (by omega)] at h2
    rw [if_neg (by omega)]
    exact l_failingCount ho h hx l.length 1 (Nat.le_refl _) (by omega) _ ⟨rfl, rfl⟩
  · rw [nI_leI (by decide) (by omega)] at h2
    rw [if_pos (by omega)]; exact ⟨rfl, rfl⟩
end SEQ
