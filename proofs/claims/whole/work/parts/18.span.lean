/-! spanning paths: found, counted -/
def sumR (f : Nat → Nat) : Nat → Nat
  | 0 => 0
  | k + 1 => sumR f k + f k
theorem sumR_congr {f g : Nat → Nat} : ∀ k, (∀ q, q < k → f q = g q) → sumR f k = sumR g k := by
  intro k
  induction k with
  | zero => intro _; rfl
  | succ k ih => intro h; show _ + _ = _ + _; rw [ih (fun q hq => h q (by omega)), h k (by omega)]
theorem sumR_0 {f : Nat → Nat} : ∀ k, (∀ q, q < k → f q = 0) → sumR f k = 0 := by
  intro k
  induction k with
  | zero => intro _; rfl
  | succ k ih => intro h; show _ + _ = 0; rw [ih (fun q hq => h q (by omega)), h k (by omega)]
theorem sumR_split {f : Nat → Nat} {p : Nat} : ∀ k, p < k → sumR f k = f p + sumR (fun q => if q = p then 0 else f q) k := by
  intro k
  induction k with
  | zero => intro h; omega
  | succ k ih =>
    intro h
    show sumR f k + f k = f p + (sumR (fun q => if q = p then 0 else f q) k + (if k = p then 0 else f k))
    by_cases e : k = p
    · subst e
      have e1 : sumR (fun q => if q = k then 0 else f q) k = sumR f k := sumR_congr k fun q hq => if_neg (by omega)
      rw [if_pos rfl, e1]; omega
    · rw [if_neg e, ih (by omega)]; omega
def sumB (f : Nat → Nat) (s : Nat) : Nat := sumR (fun q => if s.testBit q then f q else 0) 10
theorem sumB_0 {f : Nat → Nat} : sumB f 0 = 0 := sumR_0 10 fun q _ => by simp
theorem sumB_split {f : Nat → Nat} {s p : Nat} (hp : p < 10) (h : s.testBit p = true) : sumB f s = f p + sumB f (mdf s (onl p)) := by
  unfold sumB
  rw [sumR_split 10 hp, h, if_pos rfl]
  congr 1
  refine sumR_congr 10 fun q hq => ?_
  rw [mdf_t, onl_t, decide_eq_true hp]
  by_cases e : q = p
  · subst e; simp
  · simp [e, Ne.symm e]
theorem bits_low : ∀ s, s < 1024 → s ≠ 0 → s &&& (s - 1) = mdf s (onl (lowb s)) ∧ cnt (s &&& (s - 1)) + 1 = cnt s ∧ lowb s < 10 ∧ s.testBit (lowb s) = true := by decide +kernel
theorem cnt_0 : ∀ s, s < 1024 → cnt s = 0 → s = 0 := by decide +kernel
theorem lowb_le : ∀ s, s < 1024 → lowb s ≤ 32 := by decide +kernel
theorem mdf_le (s m : Nat) : mdf s m ≤ s := by
  have h : s &&& mdf s m = mdf s m := by
    apply Nat.eq_of_testBit_eq
    intro i
    rw [Nat.testBit_and, mdf_t]
    cases s.testBit i <;> simp
  rw [← h]
  exact Nat.and_le_left
theorem mdf_dec {s l : Nat} (h : l < 10 ∧ s.testBit l = true) : mdf s (onl l) < s := by
  refine Nat.lt_of_le_of_ne (mdf_le _ _) fun e => ?_
  have h1 := mdf_t s (onl l) l
  rw [e, h.2, onl_t, decide_eq_true h.1] at h1
  simp at h1
/-- how many paths through all of s end with l -/
def ce (be : Nat → Nat → Bool) (s l : Nat) : Nat :=
  if h : l < 10 ∧ s.testBit l = true then (if mdf s (onl l) = 0 then 1 else sumR (fun q => if (mdf s (onl l)).testBit q && !be l q then ce be (mdf s (onl l)) q else 0) 10) else 0
termination_by s
decreasing_by exact mdf_dec h
/-- the spanning path that findSpanning lays: what is left, and who may come -/
def fsp (n : Nat) (be : Nat → Nat → Bool) : Nat → Nat × Nat
  | 0 => (ful n, ful n)
  | i + 1 => (mdf (fsp n be i).1 (onl (lowb (topA n be (fsp n be i).1 &&& (fsp n be i).2))), msk (be (lowb (topA n be (fsp n be i).1 &&& (fsp n be i).2))))
def fsx (n : Nat) (be : Nat → Nat → Bool) (i : Nat) : Nat := lowb (topA n be (fsp n be i).1 &&& (fsp n be i).2)
theorem fsp_lt {n : Nat} {be : Nat → Nat → Bool} (h : n ≤ 10) : ∀ i, (fsp n be i).1 < 1024 ∧ (fsp n be i).2 < 1024 := by
  intro i
  induction i with
  | zero => exact ⟨ful_lt h, ful_lt h⟩
  | succ i ih => exact ⟨mdf_lt ih.1, msk_lt _⟩
section SPN
variable {lay : List am_L} {d : Nat} {D : am_D} {b o n : Nat} {be : Nat → Nat → Bool} {we : Nat → Nat → Nat}
theorem l_findSpanning (ho : isX6 lay o) (hb : isX0 lay b) (hT : trn n be) (hne : b ≠ o + 1 ∧ b + 1 ≠ o + 1 ∧ b + 2 ≠ o + 1) : ∀ j i D, i + j = n → brd D b n be we → (∀ k, k < i → D (o + 1) k = nI (fsx n be k)) → ∃ D1, (∀ k, k < n → D1 (o + 1) k = nI (fsx n be k)) ∧ (∀ q, q ≠ o + 1 → D1 q = D q) ∧ ∀ Q : Option Value → am_D → Prop, Q none D1 → am_AW lay (d + 3) mX6_findSpanning 10 [.ref o, .ref b, .int (nI (fsp n be i).1), .int (nI (fsp n be i).2), .int (nI i), .null] [] D Q := by
  have h10 := hT.2.1
  intro j
  induction j with
  | zero =>
    intro i D hi hB hk
    obtain rfl : i = n := by omega
    exact ⟨D, hk, fun _ _ => rfl, fun Q hQ => rX6_findSpanning_10 ho hb ⟨_, c_size hb hB, fun _ => hQ, fun h2 => absurd (nI_le (Nat.le_refl _) (by omega)) h2⟩⟩
  | succ j ih =>
    intro i D hi hB hk
    have hl := fsp_lt (be := be) h10 i
    have hx : fsx n be i ≤ 32 := lowb_le _ (and_lt (topA_lt _))
    have hB2 : brd (am_up D (o + 1) i (nI (fsx n be i))) b n be we := hB.keep fun q hq => am_up_ne q (by omega)
    obtain ⟨D1, a1, a2, a3⟩ := ih (i + 1) (am_up D (o + 1) i (nI (fsx n be i))) (by omega) hB2 (fun k hk2 => by
      by_cases e : k = i
      · subst e; simp [am_up]
      · simp [am_up, e]; exact hk k (by omega))
    refine ⟨D1, a1, fun q hq => by rw [a2 q hq, am_up_ne q hq], fun Q hQ => rX6_findSpanning_10 ho hb ⟨_, c_size hb hB, fun h2 => ?_, fun _ => ⟨_, c_topOf hb hB hT hl.1, ?_⟩⟩⟩
    · rw [nI_leI (by omega) (by omega)] at h2; omega
    · rw [nn_and, nI_add]
      exact ⟨_, c_lowestOf (and_lt (topA_lt _)), _, c_pput ho (by omega) _, _, c_without (s := (fsp n be i).1) (p := fsx n be i) (by omega), _, c_beatenBy hb hB2 hT (by show fsx n be i < _; omega), a3 Q hQ⟩
theorem c_findSpanning (ho : isX6 lay o) (hb : isX0 lay b) (hT : trn n be) (hB : brd D b n be we) (hne : b ≠ o + 1 ∧ b + 1 ≠ o + 1 ∧ b + 2 ≠ o + 1) : ∃ D1, am_MetV lay (d + 3) mX6_findSpanning [.ref o, .ref b] D D1 ∧ (∀ k, k < n → D1 (o + 1) k = nI (fsx n be k)) ∧ ∀ q, q ≠ o + 1 → D1 q = D q := by
  obtain ⟨D1, a1, a2, a3⟩ := l_findSpanning (d := d) ho hb hT hne n 0 D (by omega) hB (fun k hk => absurd hk (Nat.not_lt_zero k))
  exact ⟨D1, eX6_findSpanning ho hb ⟨_, c_everyone hb hB hT, a3 _ ⟨rfl, rfl⟩⟩, a1, a2⟩
theorem l_sumOfCounts (ho : isX6 lay o) {s v2 : Nat} (hs : s < 1024) {f : Nat → Nat} : ∀ j t left acc, t + j = 10 → left < 1024 → cnt left + t ≤ 10 → (∀ q, q < 10 → left.testBit q = true → D (o + 2) (s * 10 + q) = nI (f q)) → ∀ Q : Option Value → am_D → Prop, Q (some (.int (nI (acc + sumB f left)))) D → am_AW lay (d + 2) mX6_sumOfCounts 8 [.ref o, .int (nI s), .int (nI v2), .int (nI left), .int (nI acc), .int (nI t), .null] [] D Q := by
  intro j
  induction j with
  | zero =>
    intro t left acc ht hl hc hf Q hQ
    obtain rfl : t = 10 := by omega
    have : left = 0 := cnt_0 left hl (by omega)
    subst this
    rw [sumB_0] at hQ
    exact rX6_sumOfCounts_8 ho ⟨fun _ => hQ, fun h => absurd (by decide) h⟩
  | succ j ih =>
    intro t left acc ht hl hc hf Q hQ
    refine rX6_sumOfCounts_8 ho ⟨fun h => ?_, fun _ => ⟨fun h => ?_, fun h => ?_⟩⟩
    · rw [nI_leI (by decide) (by omega)] at h; omega
    · rw [nI_eq (by omega) (by decide)] at h
      subst h
      rw [sumB_0] at hQ; exact hQ
    · rw [nI_eq (by omega) (by decide)] at h
      obtain ⟨e1, e2, e3, e4⟩ := bits_low left hl h
      refine ⟨_, c_lowestOf hl, ?_⟩
      rw [nn_mul, nI_add]
      refine ⟨fun h2 => absurd h2 (nn_neg (by omega)), fun _ => ⟨fun h2 => ?_, fun _ => ⟨vp_in_nI (by omega) (by decide), ?_⟩⟩⟩
      · rw [nI_leI (by decide) (by omega)] at h2; omega
      · rw [nI_clamp (by omega), hf _ e3 e4, nI_add, nI_add, nn_sub (by omega), nn_and]
        rw [sumB_split e3 e4, ← e1, ← Nat.add_assoc] at hQ
        exact ih (t + 1) _ _ (by omega) (and_lt hl) (by omega) (fun q hq hqt => hf q hq (by
          rw [Nat.testBit_and, Bool.and_eq_true] at hqt; exact hqt.1)) Q hQ
theorem c_sumOfCounts (ho : isX6 lay o) {s left : Nat} (hs : s < 1024) (hl : left < 1024) {f : Nat → Nat} (hf : ∀ q, q < 10 → left.testBit q = true → D (o + 2) (s * 10 + q) = nI (f q)) : am_MetP lay (d + 2) mX6_sumOfCounts [.ref o, .int (nI s), .int (nI left)] D (nI (sumB f left)) :=
  eX6_sumOfCounts ho (l_sumOfCounts ho hs 10 0 left 0 rfl hl (by have := cnt_le left; omega) hf _ ⟨by rw [Nat.zero_add], rfl⟩)
/-- counts are laid for the sets below S, and for S itself up to the last player L -/
def ctab (D : am_D) (o : Nat) (be : Nat → Nat → Bool) (S L : Nat) : Prop := ∀ s l, l < 10 → (s < S ∨ (s = S ∧ l < L)) → s.testBit l = true → D (o + 2) (s * 10 + l) = nI (ce be s l)
theorem c_countEnding (ho : isX6 lay o) (hb : isX0 lay b) (hB : brd D b n be we) (hT : trn n be) {s l : Nat} (hs : s < 1024) (hl : l < n) (hsl : s.testBit l = true) (hC : ctab D o be s 0) : am_MetP lay (d + 3) mX6_countEnding [.ref o, .ref b, .int (nI (mdf s (onl l))), .int (nI l)] D (nI (ce be s l)) := by
  have h10 := hT.2.1
  have hlt : l < 10 ∧ s.testBit l = true := ⟨by omega, hsl⟩
  have hr : mdf s (onl l) < s := mdf_dec hlt
  refine eX6_countEnding ho hb ⟨fun h => ⟨_, c_beatenBy hb hB hT (by omega), ?_⟩, fun h => ?_⟩
  · rw [nI_eq (by omega) (by decide)] at h
    rw [nn_dif]
    refine ⟨_, c_sumOfCounts (f := fun q => ce be (mdf s (onl l)) q) ho (by omega) (mdf_lt (by omega)) (fun q hq hqt => ?_), ?_⟩
    · rw [mdf_t, Bool.and_eq_true] at hqt
      exact hC _ q hq (Or.inl hr) hqt.1
    · have : sumB (fun q => ce be (mdf s (onl l)) q) (mdf (mdf s (onl l)) (msk (be l))) = ce be s l := by
        rw [ce.eq_def be s l, dif_pos hlt, if_neg h]
        refine sumR_congr 10 fun q hq => ?_
        rw [mdf_t, hT.mskt]
      rw [this]; exact ⟨rfl, rfl⟩
  · rw [Classical.not_not, nI_eq (by omega) (by decide)] at h
    rw [ce.eq_def be s l, dif_pos hlt, if_pos h]; exact ⟨rfl, rfl⟩
theorem c_putCount (ho : isX6 lay o) {s l : Nat} (hs : s < 1024) (hl : l < 10) (v : Int32) : am_MetV lay d mX6_putCount [.ref o, .int (nI s), .int (nI l), .int v] D (am_up D (o + 2) (s * 10 + l) v) := by
  refine eX6_putCount ho ?_
  rw [nn_mul, nI_add]
  refine ⟨fun h2 => absurd h2 (nn_neg (by omega)), fun _ => ⟨fun h2 => ?_, fun _ => ⟨vp_in_nI (by omega) (by decide), ?_⟩⟩⟩
  · rw [nI_leI (by decide) (by omega)] at h2; omega
  · rintro D1 rfl
    rw [nI_clamp (by omega)]; exact ⟨rfl, rfl⟩
theorem l_cs_15 (ho : isX6 lay o) (hb : isX0 lay b) (hT : trn n be) (hne : b ≠ o + 2 ∧ b + 1 ≠ o + 2 ∧ b + 2 ≠ o + 2) {s : Nat} (hs : s < 1024) (hsn : s ≤ ful n) {v2 : Int32} : ∀ j i D, i + j = n → brd D b n be we → ctab D o be s i → ∃ D1, ctab D1 o be (s + 1) 0 ∧ (∀ q, q ≠ o + 2 → D1 q = D q) ∧ ∀ Q : Option Value → am_D → Prop, am_AW lay (d + 4) mX6_countSpanning 7 [.ref o, .ref b, .int v2, .int (nI (s + 1)), .null] [] D1 Q → am_AW lay (d + 4) mX6_countSpanning 15 [.ref o, .ref b, .int v2, .int (nI s), .int (nI i)] [] D Q := by
  have h10 := hT.2.1
  intro j
  induction j with
  | zero =>
    intro i D hi hB hC
    obtain rfl : i = n := by omega
    refine ⟨D, fun s1 l hl h1 h2 => hC s1 l hl ?_ h2, fun _ _ => rfl, fun Q hQ => rX6_countSpanning_15 ho hb ⟨_, c_size hb hB, fun _ => ?_, fun h2 => absurd (nI_le (Nat.le_refl _) (by omega)) h2⟩⟩
    · rcases h1 with h1 | ⟨-, h1⟩
      · by_cases e : s1 = s
        · right
          subst e
          refine ⟨rfl, ?_⟩
          rcases Nat.lt_or_ge l i with q | q
          · exact q
          · exfalso
            have : s1 < 2 ^ l := by
              have h3 : 2 ^ i ≤ 2 ^ l := Nat.pow_le_pow_right (by decide) q
              have h4 := Nat.two_pow_pos i
              unfold ful at hsn; omega
            rw [Nat.testBit_lt_two_pow this] at h2; cases h2
        · exact Or.inl (by omega)
      · omega
    · rw [nI_add]; exact hQ
  | succ j ih =>
    intro i D hi hB hC
    cases hst : s.testBit i with
    | false =>
      obtain ⟨D1, a1, a2, a3⟩ := ih (i + 1) D (by omega) hB (fun s1 l hl h1 h2 => hC s1 l hl (by
        rcases h1 with h1 | ⟨rfl, h1⟩
        · exact Or.inl h1
        · right
          refine ⟨rfl, ?_⟩
          by_cases e : l = i
          · subst e; rw [hst] at h2; cases h2
          · omega) h2)
      refine ⟨D1, a1, a2, fun Q hQ => rX6_countSpanning_15 ho hb ⟨_, c_size hb hB, fun h2 => ?_, fun _ => ⟨_, c_holds (by omega), fun _ => ?_, fun h => ?_⟩⟩⟩
      · rw [nI_leI (by omega) (by omega)] at h2; omega
      · rw [nI_add]; exact a3 Q hQ
      · rw [hst, Bool.and_false] at h; exact absurd rfl h
    | true =>
      have hB2 : brd (am_up D (o + 2) (s * 10 + i) (nI (ce be s i))) b n be we := hB.keep fun q hq => am_up_ne q (by omega)
      obtain ⟨D1, a1, a2, a3⟩ := ih (i + 1) (am_up D (o + 2) (s * 10 + i) (nI (ce be s i))) (by omega) hB2 (fun s1 l hl h1 h2 => by
        by_cases e : s1 = s ∧ l = i
        · obtain ⟨rfl, rfl⟩ := e; simp [am_up]
        · have hne2 : s1 * 10 + l ≠ s * 10 + i := by omega
          simp [am_up, hne2]
          exact hC s1 l hl (by omega) h2)
      refine ⟨D1, a1, fun q hq => by rw [a2 q hq, am_up_ne q hq], fun Q hQ => rX6_countSpanning_15 ho hb ⟨_, c_size hb hB, fun h2 => ?_, fun _ => ⟨_, c_holds (by omega), fun h => ?_, fun _ => ⟨_, c_without (by omega), _, c_countEnding ho hb hB hT hs (by omega) hst (fun s1 l hl h1 h2 => hC s1 l hl (by omega) h2), _, c_putCount ho hs (by omega) _, ?_⟩⟩⟩⟩
      · rw [nI_leI (by omega) (by omega)] at h2; omega
      · rw [hst, Bool.and_true, decide_eq_true (by omega : i < 10)] at h; cases bI_0.mp h
      · rw [nI_add]; exact a3 Q hQ
theorem l_cs_7 (ho : isX6 lay o) (hb : isX0 lay b) (hT : trn n be) (hne : b ≠ o + 2 ∧ b + 1 ≠ o + 2 ∧ b + 2 ≠ o + 2) : ∀ j s D, s + j = ful n + 1 → brd D b n be we → ctab D o be s 0 → ∃ D1, (∀ q, q ≠ o + 2 → D1 q = D q) ∧ ∀ Q : Option Value → am_D → Prop, Q (some (.int (nI (sumB (ce be (ful n)) (ful n))))) D1 → am_AW lay (d + 4) mX6_countSpanning 7 [.ref o, .ref b, .int (nI (ful n)), .int (nI s), .null] [] D Q := by
  have h10 := hT.2.1
  have hf := ful_lt h10
  intro j
  induction j with
  | zero =>
    intro s D hs hB hC
    refine ⟨D, fun _ _ => rfl, fun Q hQ => rX6_countSpanning_7 ho hb ⟨fun _ => ⟨_, c_sumOfCounts (f := ce be (ful n)) ho hf hf (fun q hq hqt => hC _ q hq (Or.inl (by omega)) hqt), hQ⟩, fun h => ?_⟩⟩
    exact absurd ((nI_ltI (by omega) (by omega)).mpr (by omega)) h
  | succ j ih =>
    intro s D hs hB hC
    obtain ⟨D1, a1, a2, a3⟩ := l_cs_15 (d := d) ho hb hT hne (by omega : s < 1024) (by omega : s ≤ ful n) (v2 := nI (ful n)) n 0 D (by omega) hB hC
    have hB1 : brd D1 b n be we := hB.keep fun q hq => a2 q (by omega)
    obtain ⟨D2, b1, b2⟩ := ih (s + 1) D1 (by omega) hB1 a1
    refine ⟨D2, fun q hq => by rw [b1 q hq, a2 q hq], fun Q hQ => rX6_countSpanning_7 ho hb ⟨fun h => ?_, fun _ => a3 Q (b2 Q hQ)⟩⟩
    rw [nI_ltI (by omega) (by omega)] at h; omega
theorem c_countSpanning (ho : isX6 lay o) (hb : isX0 lay b) (hT : trn n be) (hB : brd D b n be we) (hne : b ≠ o + 2 ∧ b + 1 ≠ o + 2 ∧ b + 2 ≠ o + 2) : ∃ D1, am_MetI lay (d + 4) mX6_countSpanning [.ref o, .ref b] D (nI (sumB (ce be (ful n)) (ful n))) D1 ∧ ∀ q, q ≠ o + 2 → D1 q = D q := by
  have h10 := hT.2.1
  have hf : 0 < 2 ^ n := Nat.two_pow_pos n
  have h2n : 2 ^ n ≠ 0 := by omega
  obtain ⟨D1, a1, a2⟩ := l_cs_7 (d := d) ho hb hT hne (ful n) 1 D (by omega) hB (fun s l hl h1 h2 => by
    have : s = 0 := by omega
    subst this; simp at h2)
  exact ⟨D1, eX6_countSpanning ho hb ⟨_, c_everyone hb hB hT, a2 _ ⟨rfl, rfl⟩⟩, a1⟩
end SPN
