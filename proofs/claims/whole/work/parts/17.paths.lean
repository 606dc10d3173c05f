/-! walks, distances, shortest paths -/
/-- a walk of k steps -/
def wlk (be : Nat → Nat → Bool) : Nat → Nat → Nat → Prop
  | 0, p, q => p = q
  | k + 1, p, q => ∃ z, be p z = true ∧ wlk be k z q
theorem wlk_snoc {be : Nat → Nat → Bool} : ∀ k p q r, wlk be k p q → be q r = true → wlk be (k + 1) p r := by
  intro k
  induction k with
  | zero => intro p q r h1 h2; cases h1; exact ⟨r, h2, rfl⟩
  | succ k ih =>
    intro p q r h1 h2
    obtain ⟨z, a, b⟩ := h1
    exact ⟨z, a, ih z q r b h2⟩
theorem wlk_last {be : Nat → Nat → Bool} : ∀ k p r, wlk be (k + 1) p r → ∃ q, wlk be k p q ∧ be q r = true := by
  intro k
  induction k with
  | zero => intro p r h; obtain ⟨z, a, b⟩ := h; cases b; exact ⟨p, rfl, a⟩
  | succ k ih =>
    intro p r h
    obtain ⟨z, a, b⟩ := h
    obtain ⟨q, c, e⟩ := ih z r b
    exact ⟨q, ⟨z, a, c⟩, e⟩
/-- the distance is k -/
def dsk (n : Nat) (be : Nat → Nat → Bool) (p q k : Nat) : Prop := k < n ∧ wlk be k p q ∧ ∀ j, j < k → ¬ wlk be j p q
theorem dsk_uniq {n : Nat} {be : Nat → Nat → Bool} {p q k l : Nat} (h1 : dsk n be p q k) (h2 : dsk n be p q l) : k = l := by
  rcases Nat.lt_trichotomy k l with h | h | h
  · exact absurd h1.2.1 (h2.2.2 k h)
  · exact h
  · exact absurd h2.2.1 (h1.2.2 l h)
noncomputable def dst (n : Nat) (be : Nat → Nat → Bool) (p q : Nat) : Int32 := @dite Int32 (∃ k, dsk n be p q k) (Classical.propDecidable _) (fun h => nI h.choose) (fun _ => -4)
theorem dst_of {n : Nat} {be : Nat → Nat → Bool} {p q k : Nat} (h : dsk n be p q k) : dst n be p q = nI k := by
  unfold dst
  have hx : ∃ k, dsk n be p q k := ⟨k, h⟩
  rw [dif_pos hx, dsk_uniq hx.choose_spec h]
theorem dst_no {n : Nat} {be : Nat → Nat → Bool} {p q : Nat} (h : ∀ k, k < n → ¬ wlk be k p q) : dst n be p q = -4 := by
  unfold dst
  rw [dif_neg]
  rintro ⟨k, a, b, -⟩
  exact h k a b
theorem dst_ex {n : Nat} {be : Nat → Nat → Bool} {p q : Nat} : (∃ k, dsk n be p q k ∧ dst n be p q = nI k) ∨ ((∀ k, k < n → ¬ wlk be k p q) ∧ dst n be p q = -4) := by
  by_cases h : ∃ k, dsk n be p q k
  · obtain ⟨k, hk⟩ := h
    exact Or.inl ⟨k, hk, dst_of hk⟩
  · refine Or.inr ⟨fun k hk hw => ?_, ?_⟩
    · apply h
      have : ∀ m k, k ≤ m → k < n → wlk be k p q → ∃ k, dsk n be p q k := by
        intro m
        induction m with
        | zero => intro k h1 h2 h3; obtain rfl : k = 0 := by omega
                  exact ⟨0, h2, h3, fun j hj => absurd hj (Nat.not_lt_zero j)⟩
        | succ m ih =>
          intro k h1 h2 h3
          by_cases hx : ∃ j, j < k ∧ wlk be j p q
          · obtain ⟨j, hj, hw⟩ := hx
            exact ih j (by omega) (by omega) hw
          · exact ⟨k, h2, h3, fun j hj hw => hx ⟨j, hj, hw⟩⟩
      exact this k k (Nat.le_refl _) hk hw
    · unfold dst; rw [dif_neg h]
theorem nI_m4 {k : Nat} (h : k < 2 ^ 31) : ¬ nI k = -4 := by
  intro e
  have h1 := nI_toInt h
  rw [e] at h1
  have : (-4 : Int32).toInt = -4 := by decide
  omega
theorem dst_eq_nI {n : Nat} {be : Nat → Nat → Bool} {p q k : Nat} (hn : n < 2 ^ 31) (hk : k < 2 ^ 31) : dst n be p q = nI k ↔ dsk n be p q k := by
  constructor
  · intro h
    rcases dst_ex (n := n) (be := be) (p := p) (q := q) with ⟨l, h1, h2⟩ | ⟨-, h2⟩
    · rw [h2, nI_eq (by have := h1.1; omega) hk] at h; rw [← h]; exact h1
    · rw [h2] at h; exact absurd h.symm (nI_m4 hk)
  · exact dst_of
/-- one step on -/
theorem dsk_step {n : Nat} {be : Nat → Nat → Bool} {p q k : Nat} (h : dsk n be p q (k + 1)) : ∃ z, be p z = true ∧ dsk n be z q k := by
  obtain ⟨h1, ⟨z, a, b⟩, h3⟩ := h
  exact ⟨z, a, by omega, b, fun j hj hw => h3 (j + 1) (by omega) ⟨z, a, hw⟩⟩
theorem dsk_0 {n : Nat} {be : Nat → Nat → Bool} {p q : Nat} (h : dsk n be p q 0) : p = q := h.2.1
/-- whom those of a set beat, the first i of them looked at -/
def bny (be : Nat → Nat → Bool) (S i : Nat) : Nat := msk fun q => (List.range i).any fun p => S.testBit p && be p q
theorem bny_t (be : Nat → Nat → Bool) (S i q : Nat) : (bny be S i).testBit q = (decide (q < 10) && (List.range i).any fun p => S.testBit p && be p q) := msk_t _ _
def rSt (n : Nat) (be : Nat → Nat → Bool) (p : Nat) : Nat → Nat
  | 0 => onl p
  | k + 1 => rSt n be p k ||| bny be (rSt n be p k) n
theorem rSt_lt {n : Nat} {be : Nat → Nat → Bool} {p : Nat} : ∀ k, rSt n be p k < 1024 := by
  intro k
  induction k with
  | zero => exact onl_lt _
  | succ k ih => exact or_lt ih (msk_lt _)
theorem rSt_iff {n : Nat} {be : Nat → Nat → Bool} (hT : trn n be) {p : Nat} (hp : p < n) : ∀ k q, (rSt n be p k).testBit q = true ↔ ∃ j, j ≤ k ∧ wlk be j p q := by
  have h10 := hT.2.1
  intro k
  induction k with
  | zero =>
    intro q
    show (onl p).testBit q = true ↔ _
    rw [onl_t, decide_eq_true (by omega : p < 10), Bool.true_and, decide_eq_true_eq]
    constructor
    · intro h; exact ⟨0, Nat.le_refl _, h⟩
    · rintro ⟨j, hj, hw⟩
      obtain rfl : j = 0 := by omega
      exact hw
  | succ k ih =>
    intro q
    show (rSt n be p k ||| bny be (rSt n be p k) n).testBit q = true ↔ _
    rw [Nat.testBit_or, bny_t, Bool.or_eq_true, Bool.and_eq_true, List.any_eq_true, ih]
    constructor
    · rintro (⟨j, hj, hw⟩ | ⟨-, z, -, hz⟩)
      · exact ⟨j, by omega, hw⟩
      · rw [Bool.and_eq_true, ih] at hz
        obtain ⟨⟨j, hj, hw⟩, hb⟩ := hz
        exact ⟨j + 1, by omega, wlk_snoc j p z q hw hb⟩
    · rintro ⟨j, hj, hw⟩
      by_cases e : j ≤ k
      · exact Or.inl ⟨j, e, hw⟩
      · obtain rfl : j = k + 1 := by omega
        obtain ⟨z, a, b⟩ := wlk_last k p q hw
        have hb := hT.2.2.1 z q b
        refine Or.inr ⟨decide_eq_true (by omega), z, List.mem_range.mpr hb.1, ?_⟩
        rw [Bool.and_eq_true, ih]
        exact ⟨⟨k, Nat.le_refl _, a⟩, b⟩
section PTH
variable {lay : List am_L} {d : Nat} {D : am_D} {b o n : Nat} {be : Nat → Nat → Bool} {we : Nat → Nat → Nat}
theorem l_beatenByAny (hb : isX0 lay b) (hB : brd D b n be we) (hT : trn n be) {S : Nat} : ∀ k i, i + k = n → ∀ Q : Option Value → am_D → Prop, Q (some (.int (nI (bny be S n)))) D → am_AW lay (d + 1) mX6_beatenByAny 4 [.ref b, .int (nI S), .int (nI (bny be S i)), .int (nI i)] [] D Q := by
  have h10 := hT.2.1
  intro k
  induction k with
  | zero =>
    intro i hi Q hQ
    obtain rfl : i = n := by omega
    exact rX6_beatenByAny_4 hb ⟨_, c_size hb hB, fun _ => hQ, fun h2 => absurd (nI_le (Nat.le_refl _) (by omega)) h2⟩
  | succ k ih =>
    intro i hi Q hQ
    have hnx := ih (i + 1) (by omega) Q hQ
    refine rX6_beatenByAny_4 hb ⟨_, c_size hb hB, fun h2 => ?_, fun _ => ⟨_, c_holds (by omega), fun h => ?_, fun h => ⟨_, c_beatenBy hb hB hT (by omega), ?_⟩⟩⟩
    · rw [nI_leI (by omega) (by omega)] at h2; omega
    all_goals rw [decide_eq_true (by omega : i < 10), Bool.true_and] at h
    · have e : bny be S (i + 1) = bny be S i := by
        refine set_ext (msk_lt _) (msk_lt _) fun q hq => ?_
        rw [bny_t, bny_t, List.range_succ, List.any_append]
        simp [bI_0.mp h]
      rw [e] at hnx
      rw [nI_add]; exact hnx
    · have e : bny be S (i + 1) = bny be S i ||| msk (be i) := by
        refine set_ext (msk_lt _) (or_lt (msk_lt _) (msk_lt _)) fun q hq => ?_
        rw [bny_t, Nat.testBit_or, bny_t, List.range_succ, List.any_append, msk_t, decide_eq_true hq]
        simp [bI_n0.mp h]
      rw [e] at hnx
      rw [nn_or, nI_add]; exact hnx
theorem c_beatenByAny (hb : isX0 lay b) (hB : brd D b n be we) (hT : trn n be) {S : Nat} : am_MetP lay (d + 1) mX6_beatenByAny [.ref b, .int (nI S)] D (nI (bny be S n)) := by
  have := l_beatenByAny (d := d) hb hB hT (S := S) n 0 (by omega) (fun r D1 => r = some (.int (nI (bny be S n))) ∧ D1 = D) ⟨rfl, rfl⟩
  have e : bny be S 0 = 0 := set_ext (msk_lt _) (by decide) fun q hq => by rw [bny_t]; simp
  rw [e] at this
  exact eX6_beatenByAny hb this
theorem l_stepsBetween (hb : isX0 lay b) (hB : brd D b n be we) (hT : trn n be) {p q : Nat} (hp : p < n) (hq : q < n) : ∀ k i, i + k = n → (∀ j, j < i → ¬ wlk be j p q) → ∀ Q : Option Value → am_D → Prop, Q (some (.int (dst n be p q))) D → am_AW lay (d + 2) mX6_stepsBetween 8 [.ref b, .int (nI p), .int (nI q), .int (nI (rSt n be p i)), .int (nI i)] [] D Q := by
  have h10 := hT.2.1
  intro k
  induction k with
  | zero =>
    intro i hi hj Q hQ
    obtain rfl : i = n := by omega
    rw [dst_no hj] at hQ
    exact rX6_stepsBetween_8 hb ⟨_, c_size hb hB, fun _ => hQ, fun h2 => absurd (nI_le (Nat.le_refl _) (by omega)) h2⟩
  | succ k ih =>
    intro i hi hj Q hQ
    refine rX6_stepsBetween_8 hb ⟨_, c_size hb hB, fun h2 => ?_, fun _ => ⟨_, c_holds (by omega), fun h => ⟨_, c_beatenByAny hb hB hT, ?_⟩, fun h => ?_⟩⟩
    · rw [nI_leI (by omega) (by omega)] at h2; omega
    all_goals rw [decide_eq_true (by omega : q < 10), Bool.true_and] at h
    · rw [nn_or, nI_add]
      refine ih (i + 1) (by omega) (fun j hj2 hw => ?_) Q hQ
      have h1 := bI_0.mp h
      have h3 : ¬ (rSt n be p i).testBit q = true := by rw [h1]; decide
      rw [rSt_iff hT hp] at h3
      exact h3 ⟨j, by omega, hw⟩
    · have h1 := (rSt_iff hT hp i q).mp (bI_n0.mp h)
      obtain ⟨j, hji, hw⟩ := h1
      have : j = i := by
        rcases Nat.lt_or_ge j i with h2 | h2
        · exact absurd hw (hj j h2)
        · omega
      subst this
      rw [dst_of ⟨by omega, hw, hj⟩] at hQ; exact hQ
theorem c_stepsBetween (hb : isX0 lay b) (hB : brd D b n be we) (hT : trn n be) {p q : Nat} (hp : p < n) (hq : q < n) : am_MetP lay (d + 2) mX6_stepsBetween [.ref b, .int (nI p), .int (nI q)] D (dst n be p q) := by
  have := hT.2.1
  exact eX6_stepsBetween hb ⟨_, c_only (by omega), l_stepsBetween hb hB hT hp hq n 0 (by omega) (fun j hj => absurd hj (Nat.not_lt_zero j)) _ ⟨rfl, rfl⟩⟩
theorem c_pp (ho : isX6 lay o) {i : Nat} (hi : i < 10) : am_MetP lay d mX6_playerAt [.ref o, .int (nI i)] D (D (o + 1) i) := by
  refine eX6_playerAt ho ⟨fun h => absurd h (nn_neg (by omega)), fun _ => ⟨fun h => ?_, fun _ => ⟨vp_in_nI hi (by decide), ?_⟩⟩⟩
  · rw [nI_leI (by decide) (by omega)] at h; omega
  · rw [nI_clamp (by omega)]; exact ⟨rfl, rfl⟩
theorem c_pput (ho : isX6 lay o) {i : Nat} (hi : i < 10) (v : Int32) : am_MetV lay d mX6_put [.ref o, .int (nI i), .int v] D (am_up D (o + 1) i v) := by
  refine eX6_put ho ⟨fun h => absurd h (nn_neg (by omega)), fun _ => ⟨fun h => ?_, fun _ => ⟨vp_in_nI hi (by decide), ?_⟩⟩⟩
  · rw [nI_leI (by decide) (by omega)] at h; omega
  · rintro D1 rfl
    rw [nI_clamp (by omega)]; exact ⟨rfl, rfl⟩
/-- the least player whom p beats at distance k from q -/
def isNx (n : Nat) (be : Nat → Nat → Bool) (q p k z : Nat) : Prop := be p z = true ∧ dsk n be z q k ∧ ∀ y, y < z → be p y = true → ¬ dsk n be y q k
theorem l_nextTowards (hb : isX0 lay b) (hB : brd D b n be we) (hT : trn n be) {p q k z : Nat} (hp : p < n) (hq : q < n) (hk : k < n) (hz : isNx n be q p k z) : ∀ j i, i + j = z → ∀ Q : Option Value → am_D → Prop, Q (some (.int (nI z))) D → am_AW lay (d + 3) mX6_nextTowards 3 [.ref b, .int (nI p), .int (nI q), .int (nI k), .int (nI i)] [] D Q := by
  have h10 := hT.2.1
  have hzn : z < n := (hT.2.2.1 p z hz.1).2.1
  intro j
  induction j with
  | zero =>
    intro i hi Q hQ
    obtain rfl : i = z := by omega
    refine rX6_nextTowards_3 hb ⟨_, c_size hb hB, fun h2 => ?_, fun _ => ⟨_, c_wins hb hB hT (by omega) (by omega), fun h => ?_, fun h => ⟨_, c_stepsBetween hb hB hT hzn hq, fun h2 => ?_, fun _ => hQ⟩⟩⟩
    · rw [nI_leI (by omega) (by omega)] at h2; omega
    · rw [hz.1] at h; cases bI_0.mp h
    · exact absurd (dst_of hz.2.1) h2
  | succ j ih =>
    intro i hi Q hQ
    refine rX6_nextTowards_3 hb ⟨_, c_size hb hB, fun h2 => ?_, fun _ => ⟨_, c_wins hb hB hT (by omega) (by omega), fun h => ?_, fun h => ⟨_, c_stepsBetween hb hB hT (by omega) hq, fun h2 => ?_, fun h2 => ?_⟩⟩⟩
    · rw [nI_leI (by omega) (by omega)] at h2; omega
    · rw [nI_add]; exact ih (i + 1) (by omega) Q hQ
    · rw [nI_add]; exact ih (i + 1) (by omega) Q hQ
    · rw [Classical.not_not, dst_eq_nI (by omega) (by omega)] at h2
      exact absurd h2 (hz.2.2 i (by omega) (bI_n0.mp h))
theorem nx_ex (hT : trn n be) {p q k : Nat} (h : dsk n be p q (k + 1)) : ∃ z, isNx n be q p k z := by
  obtain ⟨z, h1, h2⟩ := dsk_step h
  have : ∀ m z, z ≤ m → be p z = true → dsk n be z q k → ∃ z, isNx n be q p k z := by
    intro m
    induction m with
    | zero => intro z hz a b; obtain rfl : z = 0 := by omega
              exact ⟨0, a, b, fun y hy => absurd hy (Nat.not_lt_zero y)⟩
    | succ m ih =>
      intro z hz a b
      by_cases hx : ∃ y, y < z ∧ be p y = true ∧ dsk n be y q k
      · obtain ⟨y, hy, c, e⟩ := hx
        exact ih y (by omega) c e
      · exact ⟨z, a, b, fun y hy c e => hx ⟨y, hy, c, e⟩⟩
  exact this z z (Nat.le_refl _) h1 h2
/-- the shortest path to q that takes the least player at each step: f i is its place i, len its length -/
def isPth (n : Nat) (be : Nat → Nat → Bool) (q len : Nat) (f : Nat → Nat) : Prop := dsk n be (f 0) q len ∧ ∀ i, i < len → isNx n be q (f i) (len - (i + 1)) (f (i + 1))
theorem pth_ex (hT : trn n be) : ∀ len p q, dsk n be p q len → ∃ f, f 0 = p ∧ isPth n be q len f := by
  intro len
  induction len with
  | zero => intro p q h; exact ⟨fun _ => p, rfl, h, fun i hi => absurd hi (Nat.not_lt_zero i)⟩
  | succ len ih =>
    intro p q h
    obtain ⟨z, hz⟩ := nx_ex hT h
    obtain ⟨f, h0, hf1, hf2⟩ := ih z q hz.2.1
    refine ⟨fun i => if i = 0 then p else f (i - 1), rfl, h, fun i hi => ?_⟩
    cases i with
    | zero => simp only [if_true, Nat.zero_add]; simp [h0]; exact hz
    | succ i =>
      have := hf2 i (by omega)
      simp only [Nat.succ_ne_zero, if_false, Nat.add_sub_cancel]
      rw [show len + 1 - (i + 1 + 1) = len - (i + 1) by omega]
      exact this
theorem isPth.ds {q len : Nat} {f : Nat → Nat} (h : isPth n be q len f) : ∀ i, i ≤ len → dsk n be (f i) q (len - i) := by
  intro i hi
  cases i with
  | zero => exact h.1
  | succ i => exact (h.2 i (by omega)).2.1
theorem isPth.lt (hT : trn n be) {q len : Nat} {f : Nat → Nat} (h : isPth n be q len f) (h0 : f 0 < n) : ∀ i, i ≤ len → f i < n := by
  intro i hi
  cases i with
  | zero => exact h0
  | succ i => exact (hT.2.2.1 _ _ (h.2 i (by omega)).1).2.1
theorem l_findShortest (ho : isX6 lay o) (hb : isX0 lay b) (hT : trn n be) {q len : Nat} {f : Nat → Nat} (hq : q < n) (hf : isPth n be q len f) (h0 : f 0 < n) (hne : b ≠ o + 1 ∧ b + 1 ≠ o + 1 ∧ b + 2 ≠ o + 1) {v2 : Int32} : ∀ j i D, i + j = len + 1 → 1 ≤ i → brd D b n be we → (∀ k, k < i → D (o + 1) k = nI (f k)) → ∃ D1, (∀ k, k ≤ len → D1 (o + 1) k = nI (f k)) ∧ (∀ q, q ≠ o + 1 → D1 q = D q) ∧ ∀ Q : Option Value → am_D → Prop, Q none D1 → am_AW lay (d + 4) mX6_findShortest 17 [.ref o, .ref b, .int v2, .int (nI q), .int (nI len), .int (nI i)] [] D Q := by
  have h10 := hT.2.1
  have hlen := hf.1.1
  intro j
  induction j with
  | zero =>
    intro i D hi h1 hB hk
    exact ⟨D, fun k hk2 => hk k (by omega), fun _ _ => rfl, fun Q hQ => rX6_findShortest_17 ho hb ⟨fun _ => hQ, fun h2 => absurd ((nI_ltI (by omega) (by omega)).mpr (by omega)) h2⟩⟩
  | succ j ih =>
    intro i D hi h1 hB hk
    have hB2 : brd (am_up D (o + 1) i (nI (f i))) b n be we := hB.keep fun q hq => am_up_ne q (by omega)
    obtain ⟨D1, a1, a2, a3⟩ := ih (i + 1) (am_up D (o + 1) i (nI (f i))) (by omega) (by omega) hB2 (fun k hk2 => by
      by_cases e : k = i
      · subst e; simp [am_up]
      · simp [am_up, e]; exact hk k (by omega))
    refine ⟨D1, a1, fun q hq => by rw [a2 q hq, am_up_ne q hq], fun Q hQ => rX6_findShortest_17 ho hb ⟨fun h2 => ?_, fun _ => ⟨fun h2 => ?_, fun _ => ?_⟩⟩⟩
    · rw [nI_ltI (by omega) (by omega)] at h2; omega
    · rw [nI_leI (by decide) (by omega)] at h2; omega
    · rw [nn_sub h1, nn_sub (by omega : i ≤ len), nI_add]
      have hi1 := hf.2 (i - 1) (by omega)
      rw [show i - 1 + 1 = i by omega] at hi1
      refine ⟨_, c_pp ho (by omega), nI (f i), ?_, _, c_pput ho (by omega) _, a3 Q hQ⟩
      rw [hk (i - 1) (by omega)]
      exact eX6_nextTowards hb (l_nextTowards hb hB hT (hf.lt hT h0 _ (by omega)) hq (by omega) hi1 (f i) 0 (by omega) _ ⟨rfl, rfl⟩)
theorem c_findShortest (ho : isX6 lay o) (hb : isX0 lay b) (hT : trn n be) (hB : brd D b n be we) {q len : Nat} {f : Nat → Nat} (hq : q < n) (hf : isPth n be q len f) (h0 : f 0 < n) (hne : b ≠ o + 1 ∧ b + 1 ≠ o + 1 ∧ b + 2 ≠ o + 1) : ∃ D1, am_MetV lay (d + 4) mX6_findShortest [.ref o, .ref b, .int (nI (f 0)), .int (nI q)] D D1 ∧ (∀ k, k ≤ len → D1 (o + 1) k = nI (f k)) ∧ ∀ q, q ≠ o + 1 → D1 q = D q := by
  have h10 := hT.2.1
  have hB2 : brd (am_up D (o + 1) 0 (nI (f 0))) b n be we := hB.keep fun q hq => am_up_ne q (by omega)
  obtain ⟨D1, a1, a2, a3⟩ := l_findShortest (d := d) ho hb hT hq hf h0 hne (v2 := nI (f 0)) len 1 (am_up D (o + 1) 0 (nI (f 0))) (by omega) (Nat.le_refl _) hB2 (fun k hk => by
    obtain rfl : k = 0 := by omega
    simp [am_up])
  refine ⟨D1, eX6_findShortest ho hb ⟨_, c_stepsBetween hb hB hT h0 hq, _, c_pput ho (by decide) _, ?_⟩, a1, fun q hq => by rw [a2 q hq, am_up_ne q hq]⟩
  rw [dst_of hf.1]
  exact a3 _ ⟨rfl, rfl⟩
end PTH
