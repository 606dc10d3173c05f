/-! orders with the least cost -/
def sum5 (f : Nat → Nat) (h : Nat) : Nat := sumR (fun q => if h.testBit q then f q else 0) 5
theorem half_low : ∀ h, h < 32 → h ≠ 0 → h &&& (h - 1) = mdf h (onl (lowb h)) ∧ lowb h < 5 ∧ h.testBit (lowb h) = true ∧ h &&& (h - 1) < h := by decide +kernel
theorem sum5_split {f : Nat → Nat} {h : Nat} (hh : h < 32) (h0 : h ≠ 0) : sum5 f h = f (lowb h) + sum5 f (h &&& (h - 1)) := by
  obtain ⟨e1, e2, e3, -⟩ := half_low h hh h0
  rw [e1]
  unfold sum5
  rw [sumR_split 5 e2, e3, if_pos rfl]
  congr 1
  refine sumR_congr 5 fun q hq => ?_
  rw [mdf_t, onl_t, decide_eq_true (by omega : lowb h < 10)]
  by_cases e : q = lowb h
  · subst e; simp
  · simp [e, Ne.symm e]
theorem sumB_halves (f : Nat → Nat) (s : Nat) : sumB f s = sum5 f (s % 32) + sum5 (fun q => f (q + 5)) (s / 32) := by
  have e1 : ∀ q, q < 5 → (s % 32).testBit q = s.testBit q := fun q hq => by
    rw [show 32 = 2 ^ 5 from rfl, Nat.testBit_mod_two_pow]; simp [hq]
  have e2 : ∀ q, (s / 32).testBit q = s.testBit (q + 5) := fun q => by
    rw [show 32 = 2 ^ 5 from rfl, Nat.testBit_div_two_pow]
  unfold sumB sum5
  simp only [sumR, e2]
  rw [e1 0 (by decide), e1 1 (by decide), e1 2 (by decide), e1 3 (by decide), e1 4 (by decide)]
  simp only [Nat.zero_add, Nat.reduceAdd]
  omega
def mnR (f : Nat → Nat) : Nat → Nat
  | 0 => 2147483647
  | k + 1 => if f k < mnR f k then f k else mnR f k
theorem mnR_le (f : Nat → Nat) : ∀ k, mnR f k ≤ 2147483647 := by
  intro k
  induction k with
  | zero => exact Nat.le_refl _
  | succ k ih => unfold mnR; split <;> omega
theorem mnR_at (f : Nat → Nat) : ∀ k q, q < k → mnR f k ≤ f q := by
  intro k
  induction k with
  | zero => intro q h; omega
  | succ k ih =>
    intro q h
    unfold mnR
    by_cases e : q = k
    · subst e; split <;> omega
    · have := ih q (by omega)
      split <;> omega
theorem mnR_ex (f : Nat → Nat) : ∀ k, mnR f k = 2147483647 ∨ ∃ q, q < k ∧ mnR f k = f q := by
  intro k
  induction k with
  | zero => exact Or.inl rfl
  | succ k ih =>
    unfold mnR
    split
    · exact Or.inr ⟨k, by omega, rfl⟩
    · rcases ih with h | ⟨q, h1, h2⟩
      · exact Or.inl h
      · exact Or.inr ⟨q, by omega, h2⟩
theorem mnR_congr {f g : Nat → Nat} : ∀ k, (∀ q, q < k → f q = g q) → mnR f k = mnR g k := by
  intro k
  induction k with
  | zero => intro _; rfl
  | succ k ih => intro h; unfold mnR; rw [ih (fun q hq => h q (by omega)), h k (by omega)]
/-- what it costs that p comes ahead of all of s -/
def cos (be : Nat → Nat → Bool) (we : Nat → Nat → Nat) (p s : Nat) : Nat := sumB (cst be we p) s
/-- the least cost of an order of s -/
def lst (n : Nat) (be : Nat → Nat → Bool) (we : Nat → Nat → Nat) (s : Nat) : Nat :=
  if s = 0 then 0 else mnR (fun q => if h : q < 10 ∧ s.testBit q = true then lst n be we (mdf s (onl q)) + cos be we q s else 2147483647) n
termination_by s
decreasing_by exact mdf_dec h
/-- q may come first in a best order of s -/
def bst (n : Nat) (be : Nat → Nat → Bool) (we : Nat → Nat → Nat) (s q : Nat) : Bool := s.testBit q && decide (lst n be we (mdf s (onl q)) + cos be we q s = lst n be we s)
theorem cst_le {be : Nat → Nat → Bool} {we : Nat → Nat → Nat} (hw : ∀ p q, we p q ≤ 100) (p q : Nat) : cst be we p q ≤ 100 := by
  unfold cst; split
  · exact hw p q
  · omega
theorem sumR_le {f : Nat → Nat} {c : Nat} : ∀ k, (∀ q, f q ≤ c) → sumR f k ≤ c * k := by
  intro k h
  induction k with
  | zero => exact Nat.zero_le _
  | succ k ih => have := h k; show sumR f k + f k ≤ c * (k + 1); rw [Nat.mul_succ]; omega
theorem cos_le {be : Nat → Nat → Bool} {we : Nat → Nat → Nat} (hw : ∀ p q, we p q ≤ 100) (p s : Nat) : cos be we p s ≤ 1000 := by
  refine Nat.le_trans (sumR_le (c := 100) 10 fun q => ?_) (by decide)
  split
  · exact cst_le hw p q
  · omega
theorem lst_le {n : Nat} {be : Nat → Nat → Bool} {we : Nat → Nat → Nat} (hw : ∀ p q, we p q ≤ 100) (hn : n ≤ 10) : ∀ c s, cnt s = c → s ≤ ful n → lst n be we s ≤ 1000 * c := by
  intro c
  induction c with
  | zero =>
    intro s hc hs
    have := ful_lt hn
    rw [cnt_0 s (by omega) hc, lst.eq_def, if_pos rfl]; exact Nat.zero_le _
  | succ c ih =>
    intro s hc hs
    have hf := ful_lt hn
    have h0 : s ≠ 0 := fun e => by
      have h1 : cnt 0 = 0 := by decide
      rw [e, h1] at hc; omega
    obtain ⟨-, -, h3, h4⟩ := bits_low s (by omega) h0
    have hln : lowb s < n := by
      rcases Nat.lt_or_ge (lowb s) n with q | q
      · exact q
      · exfalso
        have h5 : 2 ^ n ≤ 2 ^ lowb s := Nat.pow_le_pow_right (by decide) q
        have h6 := Nat.two_pow_pos n
        have h7 : s < 2 ^ lowb s := by unfold ful at hs; omega
        rw [Nat.testBit_lt_two_pow h7] at h4; cases h4
    have hcw := cnt_without s (by omega) _ h3 h4
    have h8 := ih (mdf s (onl (lowb s))) (by omega) (Nat.le_trans (mdf_le _ _) hs)
    have h9 := cos_le (be := be) hw (lowb s) s
    rw [lst.eq_def, if_neg h0]
    refine Nat.le_trans (mnR_at _ n (lowb s) hln) ?_
    rw [dif_pos ⟨h3, h4⟩]
    omega
def ordZ (D : am_D) (o : Nat) : Prop := D (o + 1) 0 = nI 0 ∧ ∀ p, p < 10 → D (o + 2) (p * 32) = nI 0 ∧ D (o + 3) (p * 32) = nI 0
/-- costs stand for the players below P, and for P itself the halves below H -/
def ordC (D : am_D) (o : Nat) (be : Nat → Nat → Bool) (we : Nat → Nat → Nat) (P H : Nat) : Prop := ∀ p h, p < 10 → h < 32 → (p < P ∨ (p = P ∧ h < H)) → D (o + 2) (p * 32 + h) = nI (sum5 (cst be we p) h) ∧ D (o + 3) (p * 32 + h) = nI (sum5 (fun q => cst be we p (q + 5)) h)
def ordL (D : am_D) (o n : Nat) (be : Nat → Nat → Bool) (we : Nat → Nat → Nat) (S : Nat) : Prop := ∀ s, s < S → D (o + 1) s = nI (lst n be we s)
def ordOK (D : am_D) (o n : Nat) (be : Nat → Nat → Bool) (we : Nat → Nat → Nat) : Prop := ordC D o be we n 0 ∧ ordL D o n be we (ful n + 1)
theorem shl5 : ∀ p, p < 32 → nI p <<< (nI 5 &&& 31) = nI (p * 32) := by decide +kernel
theorem shr5 : ∀ s, s < 1024 → nI s >>> (nI 5 &&& 31) = nI (s / 32) := by decide +kernel
theorem and31 (s : Nat) : nI s &&& nI 31 = nI (s % 32) := by rw [nn_and, show (31 : Nat) = 2 ^ 5 - 1 from rfl, Nat.and_two_pow_sub_one_eq_mod]
section ORD
variable {lay : List am_L} {d : Nat} {D : am_D} {b o n : Nat} {be : Nat → Nat → Bool} {we : Nat → Nat → Nat}
theorem c_leastFor (ho : isX5 lay o) {s : Nat} (hs : s < 1024) : am_MetP lay d mX5_leastFor [.ref o, .int (nI s)] D (D (o + 1) s) := by
  refine eX5_leastFor ho ⟨fun h => absurd h (nn_neg (by omega)), fun _ => ⟨fun h => ?_, fun _ => ⟨vp_in_nI hs (by decide), ?_⟩⟩⟩
  · rw [nI_leI (by decide) (by omega)] at h; omega
  · rw [nI_clamp (by omega)]; exact ⟨rfl, rfl⟩
theorem c_costWithFirst (ho : isX5 lay o) {s q : Nat} (hs : s < 1024) (hq : q < 10) (hsq : s.testBit q = true) (hC : ∀ h, h < 32 → D (o + 2) (q * 32 + h) = nI (sum5 (cst be we q) h) ∧ D (o + 3) (q * 32 + h) = nI (sum5 (fun z => cst be we q (z + 5)) h)) (hL : D (o + 1) (mdf s (onl q)) = nI (lst n be we (mdf s (onl q)))) : am_MetP lay (d + 2) mX5_costWithFirst [.ref o, .int (nI s), .int (nI q)] D (nI (lst n be we (mdf s (onl q)) + cos be we q s)) := by
  have h1 : s % 32 < 32 := Nat.mod_lt _ (by decide)
  have h2 : s / 32 < 32 := by omega
  refine eX5_costWithFirst ho ?_
  rw [shl5 q (by omega), and31, shr5 s hs, nI_add, nI_add]
  refine ⟨fun h => absurd h (nn_neg (by omega)), fun _ => ⟨fun h => ?_, fun _ => ⟨fun h => absurd h (nn_neg (by omega)), fun _ => ⟨fun _ => ⟨_, c_without (by omega), _, c_leastFor ho (mdf_lt hs), vp_in_nI (by omega) (by decide), vp_in_nI (by omega) (by decide), ?_⟩, fun h => ?_⟩⟩⟩⟩
  · rw [nI_leI (by decide) (by omega)] at h; omega
  · rw [nI_clamp (by omega), nI_clamp (by omega), hL, (hC _ h1).1, (hC _ h2).2, nI_add, nI_add, Nat.add_assoc, ← sumB_halves]
    exact ⟨rfl, rfl⟩
  · exact absurd ((nI_ltI (by omega) (by decide)).mpr (by omega)) h
theorem c_leastWithin (ho : isX5 lay o) (hn : n ≤ 10) (hw : ∀ p q, we p q ≤ 100) {s : Nat} (hs : s ≤ ful n) (h0 : s ≠ 0) (hC : ordC D o be we n 0) (hL : ordL D o n be we s) : am_MetP lay (d + 3) mX5_leastWithin [.ref o, .int (nI n), .int (nI s)] D (nI (lst n be we s)) := by
  have hf := ful_lt hn
  obtain ⟨-, -, hl10, hls⟩ := bits_low s (by omega) h0
  have hln : lowb s < n := by
    rcases Nat.lt_or_ge (lowb s) n with c | c
    · exact c
    · have : s < 2 ^ lowb s := Nat.lt_of_lt_of_le (show s < 2 ^ n by have := Nat.two_pow_pos n; unfold ful at hs; omega) (Nat.pow_le_pow_right (by decide) c)
      rw [Nat.testBit_lt_two_pow this] at hls; cases hls
  let f : Nat → Nat := fun q => if h : q < 10 ∧ s.testBit q = true then lst n be we (mdf s (onl q)) + cos be we q s else 2147483647
  have ef : lst n be we s = mnR f n := by rw [lst.eq_def, if_neg h0]
  have hone : ∀ i, i < n → s.testBit i = true → f i = lst n be we (mdf s (onl i)) + cos be we i s ∧ f i < 2147483647 ∧ am_MetP lay (d + 2) mX5_costWithFirst [.ref o, .int (nI s), .int (nI i)] D (nI (f i)) := by
    intro i hi hsi
    have hdec := mdf_dec (l := i) ⟨(by omega : i < 10), hsi⟩
    have hfi : f i = lst n be we (mdf s (onl i)) + cos be we i s := dif_pos ⟨by omega, hsi⟩
    have hb1 := lst_le (n := n) (be := be) hw hn (cnt (mdf s (onl i))) (mdf s (onl i)) rfl (Nat.le_trans (mdf_le _ _) hs)
    have hb2 := cos_le (be := be) hw i s
    have hb3 := cnt_le (mdf s (onl i))
    refine ⟨hfi, by omega, ?_⟩
    rw [hfi]
    exact c_costWithFirst (n := n) ho (by omega) (by omega) hsi (fun h hh => hC i h (by omega) hh (Or.inl (by omega))) (hL _ hdec)
  obtain ⟨-, hl2, hl3⟩ := hone _ hln hls
  have hend : min (f (lowb s)) (mnR f n) = mnR f n := by have := mnR_at f n _ hln; omega
  have loop : ∀ k i, i + k = n → ∀ Q : Option Value → am_D → Prop, Q (some (.int (nI (mnR f n)))) D → am_AW lay (d + 3) mX5_leastWithin 13 [.ref o, .int (nI n), .int (nI s), .int (nI (min (f (lowb s)) (mnR f i))), .int (nI i)] [] D Q := by
    intro k
    induction k with
    | zero =>
      intro i hi Q hQ
      obtain rfl : i = n := by omega
      rw [hend]
      exact rX5_leastWithin_13 ho ⟨fun _ => hQ, fun h2 => absurd (nI_le (Nat.le_refl _) (by omega)) h2⟩
    | succ k ih =>
      intro i hi Q hQ
      have hnx := ih (i + 1) (by omega) Q hQ
      have hmx := mnR_le f i
      have e1 : mnR f (i + 1) = if f i < mnR f i then f i else mnR f i := rfl
      refine rX5_leastWithin_13 ho ⟨fun h2 => ?_, fun _ => ⟨_, c_holds (by omega), fun h => ?_, fun h => ?_⟩⟩
      · rw [nI_leI (by omega) (by omega)] at h2; omega
      all_goals rw [decide_eq_true (by omega : i < 10), Bool.true_and] at h
      · have e : mnR f (i + 1) = mnR f i := by
          have : f i = 2147483647 := dif_neg (fun q => by rw [bI_0.mp h] at q; cases q.2)
          rw [e1, this, if_neg (by omega)]
        rw [e] at hnx
        rw [nI_add]; exact hnx
      · have hsi := bI_n0.mp h
        obtain ⟨-, hi2, hi3⟩ := hone i (by omega) hsi
        refine ⟨_, hi3, ?_⟩
        have e : (if nI (f i) < nI (min (f (lowb s)) (mnR f i)) then nI (f i) else nI (min (f (lowb s)) (mnR f i))) = nI (min (f (lowb s)) (mnR f (i + 1))) := by
          rw [e1]
          by_cases c : f i < min (f (lowb s)) (mnR f i)
          · rw [if_pos ((nI_ltI (by omega) (by omega)).mpr c), if_pos (by omega)]
            congr 1; omega
          · rw [if_neg (by rw [nI_ltI (by omega) (by omega)]; exact c)]
            congr 1; split <;> omega
        rw [e, nI_add]; exact hnx
  rw [ef]
  refine eX5_leastWithin ho ⟨_, c_lowestOf (by omega), _, hl3, ?_⟩
  have hst := loop n 0 (by omega) (fun r D1 => r = some (.int (nI (mnR f n))) ∧ D1 = D) ⟨rfl, rfl⟩
  have e0 : min (f (lowb s)) (mnR f 0) = f (lowb s) := by have : mnR f 0 = 2147483647 := rfl; omega
  rw [e0] at hst
  exact hst
theorem c_sumCosts (ho : isX5 lay o) (hb : isX0 lay b) (hB : brd D b n be we) (hT : trn n be) (hne : ∀ z, z ≤ 2 → b + z ≠ o ∧ b + z ≠ o + 1 ∧ b + z ≠ o + 2 ∧ b + z ≠ o + 3) {p h : Nat} (hp : p < n) (h1 : 1 ≤ h) (h32 : h < 32) (hC : ordC D o be we p h) : ∃ D1, am_MetV lay (d + 3) mX5_sumCosts [.ref o, .ref b, .int (nI p), .int (nI h)] D D1 ∧ ordC D1 o be we p (h + 1) ∧ (∀ q, q ≠ o + 2 → q ≠ o + 3 → D1 q = D q) ∧ (∀ z, z < 10 → D1 (o + 2) (z * 32) = D (o + 2) (z * 32) ∧ D1 (o + 3) (z * 32) = D (o + 3) (z * 32)) := by
  have h10 := hT.2.1
  obtain ⟨e1, e2, e3, e4⟩ := half_low h h32 (by omega)
  have hs1 := sum5_split (f := cst be we p) h32 (by omega)
  have hs2 := sum5_split (f := fun q => cst be we p (q + 5)) h32 (by omega)
  obtain ⟨a1, a2⟩ := hC p (h &&& (h - 1)) (by omega) (by omega) (Or.inr ⟨rfl, e4⟩)
  have n0 := hne 0 (by omega); have n1 := hne 1 (by omega); have n2 := hne 2 (by omega)
  apply Exists.intro
  apply And.intro
  · refine eX5_sumCosts ho hb ⟨_, c_lowestOf (by omega), ?_⟩
    rw [shl5 p (by omega), nn_sub h1, nn_and, nI_add, nI_add, nI_add]
    refine ⟨fun h => absurd h (nn_neg (by omega)), fun _ => ⟨fun h => ?_, fun _ => ⟨fun h => ?_, fun _ => ⟨fun h => ?_, fun _ => ⟨vp_in_nI (by omega) (by decide), _, c_costOfBefore hb hB hT (by omega) (by omega), vp_in_nI (by omega) (by decide), ?_⟩⟩⟩⟩⟩
    · rw [nI_leI (by omega) (by omega)] at h; omega
    · rw [nI_leI (by decide) (by omega)] at h; omega
    · rw [nI_leI (by decide) (by omega)] at h; omega
    · rw [nI_clamp (by omega), nI_clamp (by omega), a1, nI_add]
      rintro D3 rfl
      have hB3 : brd (am_up D (o + 2) (p * 32 + h) (nI (sum5 (cst be we p) (h &&& (h - 1)) + cst be we p (lowb h)))) b n be we := hB.keep fun q hq => am_up_ne q (by omega)
      refine ⟨vp_in_nI (by omega) (by decide), _, c_costOfBefore hb hB3 hT (by omega) (by omega), vp_in_nI (by omega) (by decide), ?_⟩
      rw [am_up_ne (o + 3) (by omega), a2, nI_add]
      rintro D5 rfl
      exact ⟨rfl, rfl⟩
  · refine ⟨fun p1 hh hp1 hh32 hc => ?_, fun q q2 q3 => by rw [am_up_ne q q3, am_up_ne q q2], fun z hz => ?_⟩
    · by_cases e : p1 = p ∧ hh = h
      · obtain ⟨rfl, rfl⟩ := e
        refine ⟨?_, ?_⟩
        · simp [am_up]; rw [hs1, Nat.add_comm]
        · simp [am_up]; rw [hs2, Nat.add_comm]
      · have hneq : p1 * 32 + hh ≠ p * 32 + h := by omega
        have := hC p1 hh hp1 hh32 (by omega)
        refine ⟨?_, ?_⟩
        · simp [am_up, hneq]; exact this.1
        · simp [am_up, hneq]; exact this.2
    · have hneq : z * 32 ≠ p * 32 + h := by omega
      exact ⟨by simp [am_up, hneq], by simp [am_up, hneq]⟩
theorem l_learn_32 (ho : isX5 lay o) (hb : isX0 lay b) (hT : trn n be) (hne : ∀ z, z ≤ 2 → b + z ≠ o ∧ b + z ≠ o + 1 ∧ b + z ≠ o + 2 ∧ b + z ≠ o + 3) {p : Nat} (hp : p < n) : ∀ j h D, h + j = 32 → 1 ≤ h → brd D b n be we → ordC D o be we p h → ∃ D1, ordC D1 o be we p 32 ∧ (∀ q, q ≠ o + 2 → q ≠ o + 3 → D1 q = D q) ∧ (∀ z, z < 10 → D1 (o + 2) (z * 32) = D (o + 2) (z * 32) ∧ D1 (o + 3) (z * 32) = D (o + 3) (z * 32)) ∧ ∀ Q : Option Value → am_D → Prop, am_AW lay (d + 4) mX5_learn 22 [.ref o, .ref b, .int (nI (p + 1)), .null] [] D1 Q → am_AW lay (d + 4) mX5_learn 32 [.ref o, .ref b, .int (nI p), .int (nI h)] [] D Q := by
  have h10 := hT.2.1
  intro j
  induction j with
  | zero =>
    intro h D hh h1 hB hC
    obtain rfl : h = 32 := by omega
    refine ⟨D, hC, fun _ _ _ => rfl, fun _ _ => ⟨rfl, rfl⟩, fun Q hQ => rX5_learn_32 ho hb ⟨fun _ => ?_, fun h2 => absurd (nI_le (Nat.le_refl _) (by decide)) h2⟩⟩
    rw [nI_add]; exact hQ
  | succ j ih =>
    intro h D hh h1 hB hC
    obtain ⟨D1, a1, a2, a3, a4⟩ := c_sumCosts (d := d) ho hb hB hT hne hp h1 (by omega) hC
    have n0 := hne 0 (by omega); have n1 := hne 1 (by omega); have n2 := hne 2 (by omega)
    have hB1 : brd D1 b n be we := hB.keep fun q hq => a3 q (by omega) (by omega)
    obtain ⟨D2, b1, b2, b3, b4⟩ := ih (h + 1) D1 (by omega) (by omega) hB1 a2
    refine ⟨D2, b1, fun q q2 q3 => by rw [b2 q q2 q3, a3 q q2 q3], fun z hz => ⟨by rw [(b3 z hz).1, (a4 z hz).1], by rw [(b3 z hz).2, (a4 z hz).2]⟩, fun Q hQ => rX5_learn_32 ho hb ⟨fun h2 => ?_, fun _ => ⟨D1, a1, ?_⟩⟩⟩
    · rw [nI_leI (by decide) (by omega)] at h2; omega
    · rw [nI_add]; exact b4 Q hQ
theorem l_learn_64 (ho : isX5 lay o) (hb : isX0 lay b) (hT : trn n be) (hw : ∀ p q, we p q ≤ 100) (hne : ∀ z, z ≤ 2 → b + z ≠ o ∧ b + z ≠ o + 1 ∧ b + z ≠ o + 2 ∧ b + z ≠ o + 3) : ∀ j s D, s + j = ful n + 1 → 1 ≤ s → brd D b n be we → ordC D o be we n 0 → ordL D o n be we s → ∃ D1, ordOK D1 o n be we ∧ D1 (o + 1) 0 = D (o + 1) 0 ∧ (∀ q, q ≠ o + 1 → D1 q = D q) ∧ ∀ Q : Option Value → am_D → Prop, Q none D1 → am_AW lay (d + 4) mX5_learn 64 [.ref o, .ref b, .int (nI (ful n)), .int (nI s)] [] D Q := by
  have h10 := hT.2.1
  have hf := ful_lt h10
  intro j
  induction j with
  | zero =>
    intro s D hs h1 hB hC hL
    obtain rfl : s = ful n + 1 := by omega
    exact ⟨D, ⟨hC, hL⟩, rfl, fun _ _ => rfl, fun Q hQ => rX5_learn_64 ho hb ⟨fun _ => hQ, fun h2 => absurd ((nI_ltI (by omega) (by omega)).mpr (by omega)) h2⟩⟩
  | succ j ih =>
    intro s D hs h1 hB hC hL
    have n0 := hne 0 (by omega); have n1 := hne 1 (by omega); have n2 := hne 2 (by omega)
    have hB1 : brd (am_up D (o + 1) s (nI (lst n be we s))) b n be we := hB.keep fun q hq => am_up_ne q (by omega)
    obtain ⟨D1, a1, a2, a3, a4⟩ := ih (s + 1) (am_up D (o + 1) s (nI (lst n be we s))) (by omega) (by omega) hB1 (fun p h hp hh hc => by
      rw [am_up_ne (o + 2) (by omega), am_up_ne (o + 3) (by omega)]; exact hC p h hp hh hc) (fun s1 hs1 => by
      by_cases e : s1 = s
      · subst e; simp [am_up]
      · simp [am_up, e]; exact hL s1 (by omega))
    refine ⟨D1, a1, by rw [a2]; simp [am_up]; omega, fun q hq => by rw [a3 q hq, am_up_ne q hq], fun Q hQ => rX5_learn_64 ho hb ⟨fun h2 => ?_, fun _ => ⟨fun h2 => ?_, fun _ => ⟨_, c_size hb hB, _, c_leastWithin ho h10 hw (by omega) (by omega) hC hL, vp_in_nI (by omega) (by decide), ?_⟩⟩⟩⟩
    · rw [nI_ltI (by omega) (by omega)] at h2; omega
    · rw [nI_leI (by decide) (by omega)] at h2; omega
    · rw [nI_clamp (by omega)]
      rintro D3 rfl
      rw [nI_add]; exact a4 Q hQ
theorem l_learn_22 (ho : isX5 lay o) (hb : isX0 lay b) (hT : trn n be) (hw : ∀ p q, we p q ≤ 100) (hne : ∀ z, z ≤ 2 → b + z ≠ o ∧ b + z ≠ o + 1 ∧ b + z ≠ o + 2 ∧ b + z ≠ o + 3) : ∀ j p D, p + j = n → brd D b n be we → ordC D o be we p 0 → ordZ D o → ∃ D1, ordOK D1 o n be we ∧ ordZ D1 o ∧ (∀ q, q ≠ o + 1 → q ≠ o + 2 → q ≠ o + 3 → D1 q = D q) ∧ ∀ Q : Option Value → am_D → Prop, Q none D1 → am_AW lay (d + 4) mX5_learn 22 [.ref o, .ref b, .int (nI p), .null] [] D Q := by
  have h10 := hT.2.1
  have hf := ful_lt h10
  intro j
  induction j with
  | zero =>
    intro p D hp hB hC hZ
    obtain rfl : p = n := by omega
    obtain ⟨D1, a1, a2, a3, a4⟩ := l_learn_64 (d := d) ho hb hT hw hne (ful p) 1 D (by omega) (Nat.le_refl _) hB hC (fun s hs => by
      obtain rfl : s = 0 := by omega
      rw [lst.eq_def, if_pos rfl]; exact hZ.1)
    exact ⟨D1, a1, ⟨by rw [a2]; exact hZ.1, fun z hz => by rw [a3 _ (by omega), a3 _ (by omega)]; exact hZ.2 z hz⟩, fun q q1 _ _ => a3 q q1, fun Q hQ => rX5_learn_22 ho hb ⟨_, c_size hb hB, fun _ => ⟨_, c_everyone hb hB hT, a4 Q hQ⟩, fun h2 => absurd (nI_le (Nat.le_refl _) (by omega)) h2⟩⟩
  | succ j ih =>
    intro p D hp hB hC hZ
    have n0 := hne 0 (by omega); have n1 := hne 1 (by omega); have n2 := hne 2 (by omega)
    have s50 : ∀ f : Nat → Nat, sum5 f 0 = 0 := fun f => sumR_0 5 fun q _ => by simp
    obtain ⟨D1, a1, a2, a3, a4⟩ := l_learn_32 (d := d) ho hb hT hne (by omega : p < n) 31 1 D rfl (Nat.le_refl _) hB (fun p1 h hp1 hh hc => by
      by_cases e : p1 = p ∧ h = 0
      · obtain ⟨rfl, rfl⟩ := e
        rw [s50, s50]; exact hZ.2 p1 hp1
      · exact hC p1 h hp1 hh (by omega))
    have hB1 : brd D1 b n be we := hB.keep fun q hq => a2 q (by omega) (by omega)
    have hZ1 : ordZ D1 o := ⟨by rw [a2 _ (by omega) (by omega)]; exact hZ.1, fun z hz => by rw [(a3 z hz).1, (a3 z hz).2]; exact hZ.2 z hz⟩
    obtain ⟨D2, b1, b2, b3, b4⟩ := ih (p + 1) D1 (by omega) hB1 (fun p1 h hp1 hh hc => a1 p1 h hp1 hh (by omega)) hZ1
    refine ⟨D2, b1, b2, fun q q1 q2 q3 => by rw [b3 q q1 q2 q3, a2 q q2 q3], fun Q hQ => rX5_learn_22 ho hb ⟨_, c_size hb hB, fun h2 => ?_, fun _ => a4 Q (b4 Q hQ)⟩⟩
    rw [nI_leI (by omega) (by omega)] at h2; omega
theorem c_learn (ho : isX5 lay o) (hb : isX0 lay b) (hB : brd D b n be we) (hT : trn n be) (hw : ∀ p q, we p q ≤ 100) (hne : ∀ z, z ≤ 2 → b + z ≠ o ∧ b + z ≠ o + 1 ∧ b + z ≠ o + 2 ∧ b + z ≠ o + 3) (hZ : ordZ D o) (hK : D o 3 = D b 1 → ordOK D o n be we) : ∃ D1, am_MetV lay (d + 5) mX5_learn [.ref o, .ref b] D D1 ∧ ordOK D1 o n be we ∧ ordZ D1 o ∧ D1 o 3 = D b 1 ∧ ∀ q, q ≠ o → q ≠ o + 1 → q ≠ o + 2 → q ≠ o + 3 → D1 q = D q := by
  have n0 := hne 0 (by omega); have n1 := hne 1 (by omega); have n2 := hne 2 (by omega)
  by_cases hk : D o 3 = D b 1
  · exact ⟨D, eX5_learn ho hb ⟨_, c_stamp hb, fun h => absurd hk h, fun _ => ⟨rfl, rfl⟩⟩, hK hk, hZ, hk, fun _ _ _ _ _ => rfl⟩
  · have hup : ∀ q, q ≠ o → am_up D o 3 (D b 1) q = D q := fun q hq => am_up_ne q hq
    have hB1 : brd (am_up D o 3 (D b 1)) b n be we := hB.keep fun q hq => hup q (by omega)
    have hZ1 : ordZ (am_up D o 3 (D b 1)) o := ⟨by rw [hup _ (by omega)]; exact hZ.1, fun z hz => by rw [hup _ (by omega), hup _ (by omega)]; exact hZ.2 z hz⟩
    obtain ⟨D1, a1, a2, a3, a4⟩ := l_learn_22 (d := d + 1) ho hb hT hw hne n 0 (am_up D o 3 (D b 1)) (by omega) hB1 (fun p h _ _ hc => by omega) hZ1
    refine ⟨D1, eX5_learn ho hb ⟨_, c_stamp hb, fun _ => ⟨_, c_stamp hb, ?_⟩, fun h => absurd hk h⟩, a1, a2, ?_, fun q q0 q1 q2 q3 => by rw [a3 q q1 q2 q3, hup q q0]⟩
    · rintro D3 rfl
      exact a4 _ ⟨rfl, rfl⟩
    · rw [a3 o (by omega) (by omega) (by omega)]; simp [am_up]
theorem c_firstOnesWithin (ho : isX5 lay o) (hn : n ≤ 10) (hw : ∀ p q, we p q ≤ 100) {s : Nat} (hs : s ≤ ful n) (hO : ordOK D o n be we) : am_MetP lay (d + 3) mX5_firstOnesWithin [.ref o, .int (nI n), .int (nI s)] D (nI (col (bst n be we s) n)) := by
  have hf := ful_lt hn
  have loop : ∀ k i, i + k = n → ∀ Q : Option Value → am_D → Prop, Q (some (.int (nI (col (bst n be we s) n)))) D → am_AW lay (d + 3) mX5_firstOnesWithin 5 [.ref o, .int (nI n), .int (nI s), .int (nI (col (bst n be we s) i)), .int (nI i)] [] D Q := by
    intro k
    induction k with
    | zero =>
      intro i hi Q hQ
      obtain rfl : i = n := by omega
      exact rX5_firstOnesWithin_5 ho ⟨fun _ => hQ, fun h2 => absurd (nI_le (Nat.le_refl _) (by omega)) h2⟩
    | succ k ih =>
      intro i hi Q hQ
      have hnx := ih (i + 1) (by omega) Q hQ
      refine rX5_firstOnesWithin_5 ho ⟨fun h2 => ?_, fun _ => ⟨_, c_holds (by omega), fun h => ?_, fun h => ?_⟩⟩
      · rw [nI_leI (by omega) (by omega)] at h2; omega
      all_goals rw [decide_eq_true (by omega : i < 10), Bool.true_and] at h
      · rw [← col_n (by unfold bst; rw [bI_0.mp h]; rfl)] at hnx
        rw [nI_add]; exact hnx
      · have hsi := bI_n0.mp h
        have hdec := mdf_dec (l := i) ⟨(by omega : i < 10), hsi⟩
        have hb1 := lst_le (n := n) (be := be) hw hn (cnt (mdf s (onl i))) (mdf s (onl i)) rfl (Nat.le_trans (mdf_le _ _) hs)
        have hb2 := cos_le (be := be) hw i s
        have hb3 := cnt_le (mdf s (onl i))
        have hb4 := lst_le (n := n) (be := be) hw hn (cnt s) s rfl hs
        have hb5 := cnt_le s
        refine ⟨_, c_costWithFirst (n := n) ho (by omega) (by omega) hsi (fun h hh => hO.1 i h (by omega) hh (Or.inl (by omega))) (hO.2 _ (by omega)), _, c_leastFor ho (by omega), ?_⟩
        rw [hO.2 s (by omega)]
        refine ⟨fun h2 => ?_, fun h2 => ⟨_, c_only (by omega), ?_⟩⟩
        · rw [nI_eq (by omega) (by omega)] at h2
          rw [← col_n (by unfold bst; rw [hsi, decide_eq_false h2]; rfl)] at hnx
          rw [nI_add]; exact hnx
        · rw [Classical.not_not, nI_eq (by omega) (by omega)] at h2
          rw [nn_or, col_y (by omega) (by unfold bst; rw [hsi, decide_eq_true h2]; rfl), nI_add]; exact hnx
  have := loop n 0 (by omega) (fun r D1 => r = some (.int (nI (col (bst n be we s) n))) ∧ D1 = D) ⟨rfl, rfl⟩
  rw [col_0] at this
  exact eX5_firstOnesWithin ho this
/-- what is left of all behind k places of the first best order -/
def orl (n : Nat) (be : Nat → Nat → Bool) (we : Nat → Nat → Nat) : Nat → Nat
  | 0 => ful n
  | k + 1 => mdf (orl n be we k) (onl (lowb (col (bst n be we (orl n be we k)) n)))
def orx (n : Nat) (be : Nat → Nat → Bool) (we : Nat → Nat → Nat) (k : Nat) : Nat := lowb (col (bst n be we (orl n be we k)) n)
theorem orl_le : ∀ k, orl n be we k ≤ ful n := by
  intro k
  induction k with
  | zero => exact Nat.le_refl _
  | succ k ih => exact Nat.le_trans (mdf_le _ _) ih
theorem c_oAt (ho : isX5 lay o) (hb : isX0 lay b) (hB : brd D b n be we) (hT : trn n be) (hw : ∀ p q, we p q ≤ 100) (hO : ordOK D o n be we) {place : Nat} (hp : place < 10) : ∀ j k, k + j = place → ∀ Q : Option Value → am_D → Prop, Q (some (.int (nI (orx n be we place)))) D → am_AW lay (d + 4) mX5_playerAt 13 [.ref o, .ref b, .int (nI place), .int (nI (orl n be we k)), .int (nI k)] [] D Q := by
  have h10 := hT.2.1
  have hf := ful_lt h10
  intro j
  induction j with
  | zero =>
    intro k hk Q hQ
    obtain rfl : k = place := by omega
    exact rX5_playerAt_13 ho hb ⟨fun _ => ⟨_, c_size hb hB, _, c_firstOnesWithin ho h10 hw (orl_le _) hO, _, c_lowestOf (col_lt _ _), hQ⟩, fun h => absurd (nI_le (Nat.le_refl _) (by omega)) h⟩
  | succ j ih =>
    intro k hk Q hQ
    have hx : orx n be we k ≤ 32 := lowb_le _ (col_lt _ _)
    refine rX5_playerAt_13 ho hb ⟨fun h => ?_, fun _ => ⟨fun h => ?_, fun _ => ⟨_, c_size hb hB, _, c_firstOnesWithin ho h10 hw (orl_le _) hO, _, c_lowestOf (col_lt _ _), _, c_without (p := orx n be we k) (by omega), ?_⟩⟩⟩
    · rw [nI_leI (by omega) (by omega)] at h; omega
    · rw [nI_leI (by decide) (by omega)] at h; omega
    · rw [nI_add]; exact ih (k + 1) (by omega) Q hQ
end ORD
