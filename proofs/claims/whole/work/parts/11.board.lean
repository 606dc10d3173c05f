/-! a tournament of n players, whom each beats (be), weights (we); and a Board that holds it -/
def mskN (f : Nat → Bool) : Nat → Nat
  | 0 => 0
  | k + 1 => mskN f k ||| (if f k then 2 ^ k else 0)
def msk (f : Nat → Bool) : Nat := mskN f 10
theorem mskN_t (f : Nat → Bool) (k i : Nat) : (mskN f k).testBit i = (decide (i < k) && f i) := by
  induction k with
  | zero => simp [mskN]
  | succ k ih =>
    show (mskN f k ||| (if f k then 2 ^ k else 0)).testBit i = _
    rw [Nat.testBit_or, ih]
    by_cases e : i = k
    · subst e
      cases h : f i <;> simp [Nat.testBit_two_pow]
    · have h1 : (if f k then 2 ^ k else 0).testBit i = false := by
        cases f k
        · simp
        · simp [Nat.testBit_two_pow]; omega
      rw [h1, Bool.or_false]
      congr 1
      exact decide_eq_decide.mpr (by omega)
theorem msk_t (f : Nat → Bool) (i : Nat) : (msk f).testBit i = (decide (i < 10) && f i) := mskN_t f 10 i
theorem msk_lt (f : Nat → Bool) : msk f < 1024 := by
  apply Nat.lt_pow_two_of_testBit (n := 10)
  intro i hi
  rw [msk_t, decide_eq_false (by omega), Bool.false_and]
theorem msk_ext {f g : Nat → Bool} (h : ∀ i, i < 10 → f i = g i) : msk f = msk g := by
  apply Nat.eq_of_testBit_eq
  intro i
  rw [msk_t, msk_t]
  by_cases hi : i < 10
  · rw [h i hi]
  · rw [decide_eq_false hi, Bool.false_and, Bool.false_and]
theorem pow10 {i : Nat} (h : 10 ≤ i) : 1024 ≤ 2 ^ i := by
  have h1 : 2 ^ 10 ≤ 2 ^ i := Nat.pow_le_pow_right (by decide : 0 < 2) h
  exact h1
theorem msk_of {s : Nat} (h : s < 1024) : msk s.testBit = s := by
  apply Nat.eq_of_testBit_eq
  intro i
  rw [msk_t]
  by_cases hi : i < 10
  · simp [hi]
  · rw [decide_eq_false hi, Bool.false_and]
    have : s < 2 ^ i := Nat.lt_of_lt_of_le h (pow10 (by omega))
    exact (Nat.testBit_lt_two_pow this).symm
theorem tb_lt {s i : Nat} (h : s < 1024) (hi : s.testBit i = true) : i < 10 := by
  rcases Nat.lt_or_ge i 10 with q | q
  · exact q
  · have : s < 2 ^ i := Nat.lt_of_lt_of_le h (pow10 q)
    rw [Nat.testBit_lt_two_pow this] at hi
    cases hi
theorem set_ext {s t : Nat} (hs : s < 1024) (ht : t < 1024) (h : ∀ i, i < 10 → s.testBit i = t.testBit i) : s = t := by
  rw [← msk_of hs, ← msk_of ht]; exact msk_ext h
def ful (n : Nat) : Nat := 2 ^ n - 1
theorem ful_t (n i : Nat) : (ful n).testBit i = decide (i < n) := Nat.testBit_two_pow_sub_one n i
theorem ful_lt {n : Nat} (h : n ≤ 10) : ful n < 1024 := by
  have : 2 ^ n ≤ 2 ^ 10 := Nat.pow_le_pow_right (by decide) h
  have : 0 < 2 ^ n := Nat.two_pow_pos n
  unfold ful
  omega
theorem mdf_lt {s m : Nat} (h : s < 1024) : mdf s m < 1024 := by
  apply Nat.lt_pow_two_of_testBit (n := 10)
  intro i hi
  rw [mdf_t]
  have : s < 2 ^ i := Nat.lt_of_lt_of_le h (pow10 hi)
  rw [Nat.testBit_lt_two_pow this, Bool.false_and]
theorem and_lt {s m : Nat} (h : s < 1024) : s &&& m < 1024 := Nat.lt_of_le_of_lt Nat.and_le_left h
theorem or_lt {s m : Nat} (h : s < 1024) (g : m < 1024) : s ||| m < 1024 := Nat.or_lt_two_pow (n := 10) h g
theorem xor_lt {s m : Nat} (h : s < 1024) (g : m < 1024) : s ^^^ m < 1024 := Nat.xor_lt_two_pow (n := 10) h g
theorem onl_lt (p : Nat) : onl p < 1024 := by
  apply Nat.lt_pow_two_of_testBit (n := 10)
  intro i hi
  rw [onl_t]
  by_cases h : p < 10
  · rw [decide_eq_false (by omega : ¬ p = i), Bool.and_false]
  · rw [decide_eq_false h, Bool.false_and]
/-- a tournament -/
def trn (n : Nat) (be : Nat → Nat → Bool) : Prop := 2 ≤ n ∧ n ≤ 10 ∧ (∀ p q, be p q = true → p < n ∧ q < n ∧ be q p = false) ∧ ∀ p q, p < n → q < n → p ≠ q → be p q = true ∨ be q p = true
theorem trn.irr {n : Nat} {be : Nat → Nat → Bool} (h : trn n be) (p : Nat) : be p p = false := by
  cases e : be p p with
  | false => rfl
  | true =>
    have := (h.2.2.1 p p e).2.2
    rw [e] at this
    cases this
theorem trn.anti {n : Nat} {be : Nat → Nat → Bool} (h : trn n be) {p q : Nat} (hp : p < n) (hq : q < n) (hne : p ≠ q) : be q p = !be p q := by
  cases e : be p q with
  | true => rw [(h.2.2.1 p q e).2.2]; rfl
  | false =>
    rcases h.2.2.2 p q hp hq hne with h1 | h1
    · rw [e] at h1; cases h1
    · rw [h1]; rfl
theorem trn.out1 {n : Nat} {be : Nat → Nat → Bool} (h : trn n be) {p q : Nat} (hp : ¬ p < n) : be p q = false := by
  cases e : be p q with
  | false => rfl
  | true => exact absurd (h.2.2.1 p q e).1 hp
theorem trn.out2 {n : Nat} {be : Nat → Nat → Bool} (h : trn n be) {p q : Nat} (hq : ¬ q < n) : be p q = false := by
  cases e : be p q with
  | false => rfl
  | true => exact absurd (h.2.2.1 p q e).2.1 hq
theorem trn.mskt {n : Nat} {be : Nat → Nat → Bool} (h : trn n be) (p q : Nat) : (msk (be p)).testBit q = be p q := by
  rw [msk_t]
  by_cases hq : q < 10
  · simp [hq]
  · rw [decide_eq_false hq, Bool.false_and, h.out2 (by have := h.2.1; omega)]
theorem trn.mskz {n : Nat} {be : Nat → Nat → Bool} (h : trn n be) {p : Nat} (hp : ¬ p < n) : msk (be p) = 0 := by
  apply Nat.eq_of_testBit_eq
  intro i
  rw [h.mskt, h.out1 hp, Nat.zero_testBit]
def brd (D : am_D) (b n : Nat) (be : Nat → Nat → Bool) (we : Nat → Nat → Nat) : Prop := D b 0 = nI n ∧ (∀ p, p < 10 → D (b + 1) p = nI (msk (be p))) ∧ ∀ p q, p < 10 → q < 10 → D (b + 2) (p * 10 + q) = nI (we p q)
theorem brd.frame {D D1 : am_D} {b n : Nat} {be : Nat → Nat → Bool} {we : Nat → Nat → Nat} (h : brd D b n be we) (h0 : D1 b 0 = D b 0) (h1 : D1 (b + 1) = D (b + 1)) (h2 : D1 (b + 2) = D (b + 2)) : brd D1 b n be we :=
  ⟨by rw [h0]; exact h.1, fun p hp => by rw [h1]; exact h.2.1 p hp, fun p q hp hq => by rw [h2]; exact h.2.2 p q hp hq⟩
/-- how many a player beats -/
def sc (be : Nat → Nat → Bool) (p : Nat) : Nat := cnt (msk (be p))
theorem cnt_msk (f : Nat → Bool) : cnt (msk f) = (List.range 10).countP f := by
  unfold cnt
  apply List.countP_congr
  intro i hi
  rw [msk_t, decide_eq_true (List.mem_range.mp hi), Bool.true_and]
theorem cnt_le (s : Nat) : cnt s ≤ 10 := by
  unfold cnt
  exact Nat.le_trans List.countP_le_length (by simp)
/-- a player's number among ints -/
def isP (n : Nat) (v : Int32) : Bool := decide (¬ v < nI 0 ∧ ¬ nI n ≤ v)
theorem isP_n {n p : Nat} (hn : n ≤ 10) (hp : p < 2 ^ 31) : isP n (nI p) = decide (p < n) := by
  unfold isP
  apply decide_eq_decide.mpr
  rw [nI_leI (by omega) hp]
  constructor
  · rintro ⟨-, h⟩; omega
  · intro h; exact ⟨nn_neg hp, by omega⟩
theorem isP_of {n : Nat} {v : Int32} (hn : n ≤ 10) (h : isP n v = true) : ∃ p, p < n ∧ v = nI p := by
  obtain ⟨h1, h2⟩ := of_decide_eq_true h
  obtain ⟨j, hj, rfl⟩ := nI_of h1
  rw [nI_leI (by omega) hj] at h2
  exact ⟨j, by omega, rfl⟩
section BRD
variable {lay : List am_L} {d : Nat} {D : am_D} {b n : Nat} {be : Nat → Nat → Bool} {we : Nat → Nat → Nat}
theorem c_size (hb : isX0 lay b) (hB : brd D b n be we) : am_MetP lay d mX0_size [.ref b] D (nI n) := eX0_size hb ⟨by rw [hB.1], rfl⟩
theorem c_stamp (hb : isX0 lay b) : am_MetP lay d mX0_stamp [.ref b] D (D b 1) := eX0_stamp hb ⟨rfl, rfl⟩
theorem c_everyone (hb : isX0 lay b) (hB : brd D b n be we) (hT : trn n be) : am_MetP lay d mX0_everyone [.ref b] D (nI (ful n)) := by
  refine eX0_everyone hb ?_
  rw [hB.1, nn_shl1 n (by have := hT.2.1; omega), nn_sub (Nat.two_pow_pos n)]
  exact ⟨rfl, rfl⟩
theorem c_has (hb : isX0 lay b) (hB : brd D b n be we) (v : Int32) : am_MetP lay d mX0_has [.ref b, .int v] D (bI (isP n v)) := by
  refine eX0_has hb ?_
  rw [hB.1]
  refine ⟨fun h => ?_, fun h => ⟨fun h2 => ?_, fun h2 => ?_⟩⟩
  · rw [show isP n v = false from decide_eq_false fun q => q.1 h]; exact ⟨rfl, rfl⟩
  · rw [show isP n v = false from decide_eq_false fun q => q.2 h2]; exact ⟨rfl, rfl⟩
  · rw [show isP n v = true from decide_eq_true ⟨h, h2⟩]; exact ⟨rfl, rfl⟩
def isPr (n : Nat) (v w : Int32) : Bool := isP n v && (isP n w && decide (¬ v = w))
theorem c_hasPair (hb : isX0 lay b) (hB : brd D b n be we) (v w : Int32) : am_MetP lay (d + 1) mX0_hasPair [.ref b, .int v, .int w] D (bI (isPr n v w)) := by
  refine eX0_hasPair hb ⟨_, c_has hb hB v, fun h => ?_, fun h => ⟨_, c_has hb hB w, fun h2 => ?_, fun h2 => ⟨fun h3 => ?_, fun h3 => ?_⟩⟩⟩
  · unfold isPr; rw [bI_0.mp h]; exact ⟨rfl, rfl⟩
  · unfold isPr; rw [bI_n0.mp h, bI_0.mp h2]; exact ⟨rfl, rfl⟩
  · unfold isPr; rw [bI_n0.mp h, bI_n0.mp h2, decide_eq_false (by simpa using h3)]; exact ⟨rfl, rfl⟩
  · unfold isPr; rw [bI_n0.mp h, bI_n0.mp h2, decide_eq_true h3]; exact ⟨rfl, rfl⟩
theorem isPr_n {p q : Nat} (hn : n ≤ 10) (hp : p < 2 ^ 31) (hq : q < 2 ^ 31) : isPr n (nI p) (nI q) = decide (p < n ∧ q < n ∧ p ≠ q) := by
  unfold isPr
  rw [isP_n hn hp, isP_n hn hq, ← Bool.decide_and, ← Bool.decide_and]
  apply decide_eq_decide.mpr
  rw [nI_eq hp hq]
theorem isPr_of {v w : Int32} (hn : n ≤ 10) (h : isPr n v w = true) : ∃ p q, p < n ∧ q < n ∧ p ≠ q ∧ v = nI p ∧ w = nI q := by
  unfold isPr at h
  simp only [Bool.and_eq_true, decide_eq_true_eq] at h
  obtain ⟨p, hp, rfl⟩ := isP_of hn h.1
  obtain ⟨q, hq, rfl⟩ := isP_of hn h.2.1
  exact ⟨p, q, hp, hq, fun e => h.2.2 (by rw [e]), rfl, rfl⟩
theorem c_beatenBy (hb : isX0 lay b) (hB : brd D b n be we) (hT : trn n be) {p : Nat} (hp : p < 2 ^ 31) : am_MetP lay d mX0_beatenBy [.ref b, .int (nI p)] D (nI (msk (be p))) := by
  refine eX0_beatenBy hb ⟨fun h => absurd h (nn_neg hp), fun _ => ⟨fun h => ?_, fun h => ?_⟩⟩
  · rw [nI_leI (by decide) hp] at h
    rw [hT.mskz (by have := hT.2.1; omega)]; exact ⟨rfl, rfl⟩
  · rw [nI_leI (by decide) hp] at h
    refine ⟨vp_in_nI (by omega) (by decide), ?_⟩
    rw [nI_clamp hp, hB.2.1 p (by omega)]; exact ⟨rfl, rfl⟩
theorem c_beatersOf (hb : isX0 lay b) (hB : brd D b n be we) (hT : trn n be) {p : Nat} (hp : p < n) : am_MetP lay (d + 1) mX0_beatersOf [.ref b, .int (nI p)] D (nI (msk fun q => be q p)) := by
  have h10 := hT.2.1
  refine eX0_beatersOf hb ⟨_, c_everyone hb hB hT, _, c_beatenBy hb hB hT (by omega), _, c_only (by omega), ?_⟩
  rw [nn_dif, nn_dif]
  refine ⟨?_, rfl⟩
  congr 3
  refine set_ext (mdf_lt (mdf_lt (ful_lt h10))) (msk_lt _) fun i hi => ?_
  rw [mdf_t, mdf_t, ful_t, hT.mskt, onl_t, msk_t, decide_eq_true (by omega : p < 10), decide_eq_true hi, Bool.true_and, Bool.true_and]
  by_cases hin : i < n
  · by_cases e : p = i
    · subst e; rw [hT.irr]; simp
    · rw [hT.anti hp hin e]; simp [hin, e]
  · rw [hT.out1 hin]; simp [hin]
theorem c_wins (hb : isX0 lay b) (hB : brd D b n be we) (hT : trn n be) {p q : Nat} (hp : p < 2 ^ 31) (hq : q < 2 ^ 31) : am_MetP lay (d + 1) mX0_wins [.ref b, .int (nI p), .int (nI q)] D (bI (be p q)) := by
  refine eX0_wins hb ⟨_, c_beatenBy hb hB hT hp, _, c_holds hq, ?_⟩
  rw [hT.mskt]
  have : (decide (q < 10) && be p q) = be p q := by
    by_cases h : q < 10
    · simp [h]
    · rw [hT.out2 (by have := hT.2.1; omega), Bool.and_false]
  rw [this]
  exact ⟨bI_nar _, rfl, rfl⟩
theorem c_winsOf (hb : isX0 lay b) (hB : brd D b n be we) (hT : trn n be) {p : Nat} (hp : p < 2 ^ 31) : am_MetP lay (d + 1) mX0_winsOf [.ref b, .int (nI p)] D (nI (sc be p)) :=
  eX0_winsOf hb ⟨_, c_beatenBy hb hB hT hp, _, c_cnt (msk_lt _), rfl, rfl⟩
/-- the three are a cycle, one way or the other -/
def tri (be : Nat → Nat → Bool) (x y z : Nat) : Bool := (be x y == be y z) && (be y z == be z x)
theorem c_isTriangle (hb : isX0 lay b) (hB : brd D b n be we) (hT : trn n be) {x y z : Nat} (hx : x < 2 ^ 31) (hy : y < 2 ^ 31) (hz : z < 2 ^ 31) : am_MetP lay (d + 2) mX0_isTriangle [.ref b, .int (nI x), .int (nI y), .int (nI z)] D (bI (tri be x y z)) := by
  refine eX0_isTriangle hb ⟨_, c_wins hb hB hT hx hy, _, c_wins hb hB hT hy hz, fun h => ?_, fun h => ⟨_, c_wins hb hB hT hy hz, _, c_wins hb hB hT hz hx, fun h2 => ?_, fun h2 => ?_⟩⟩
  · rw [bI_inj] at h
    unfold tri; rw [beq_false_of_ne h]; exact ⟨rfl, rfl⟩
  · rw [bI_inj] at h2
    unfold tri; rw [beq_false_of_ne h2, Bool.and_false]; exact ⟨rfl, rfl⟩
  · rw [Classical.not_not, bI_inj] at h h2
    unfold tri; rw [h, h2]; simp; rfl
theorem c_weightOf (hb : isX0 lay b) (hB : brd D b n be we) (hT : trn n be) {p q : Nat} (hp : p < n) (hq : q < n) : am_MetP lay (d + 1) mX0_weightOf [.ref b, .int (nI p), .int (nI q)] D (nI (we p q)) := by
  have h10 := hT.2.1
  have e1 : isP n (nI p) = true := by rw [isP_n h10 (by omega)]; simp [hp]
  have e2 : isP n (nI q) = true := by rw [isP_n h10 (by omega)]; simp [hq]
  refine eX0_weightOf hb ⟨_, c_has hb hB _, fun h => ?_, fun _ => ⟨_, c_has hb hB _, fun h => ?_, fun _ => ?_⟩⟩
  · rw [e1] at h; cases bI_0.mp h
  · rw [e2] at h; cases bI_0.mp h
  · rw [nn_mul, nI_add]
    refine ⟨fun h => absurd h (nn_neg (by omega)), fun _ => ⟨fun h => ?_, fun _ => ⟨vp_in_nI (by omega) (by decide), ?_⟩⟩⟩
    · rw [nI_leI (by decide) (by omega)] at h; omega
    · rw [nI_clamp (by omega), hB.2.2 p q (by omega) (by omega)]; exact ⟨rfl, rfl⟩
/-- what it costs that p stands before q -/
def cst (be : Nat → Nat → Bool) (we : Nat → Nat → Nat) (p q : Nat) : Nat := if be q p then we p q else 0
theorem c_costOfBefore (hb : isX0 lay b) (hB : brd D b n be we) (hT : trn n be) {p q : Nat} (hp : p < 2 ^ 31) (hq : q < 2 ^ 31) : am_MetP lay (d + 2) mX0_costOfBefore [.ref b, .int (nI p), .int (nI q)] D (nI (cst be we p q)) := by
  refine eX0_costOfBefore hb ⟨_, c_wins hb hB hT hq hp, fun h => ?_, fun h => ?_⟩
  · unfold cst; rw [bI_0.mp h]; exact ⟨rfl, rfl⟩
  · have h1 := bI_n0.mp h
    refine ⟨_, c_weightOf hb hB hT (hT.2.2.1 q p h1).2.1 (hT.2.2.1 q p h1).1, ?_⟩
    unfold cst; rw [h1]; exact ⟨rfl, rfl⟩
/-- one result turned -/
def flp (be : Nat → Nat → Bool) (x y : Nat) : Nat → Nat → Bool := fun p q => if (p = x ∧ q = y) ∨ (p = y ∧ q = x) then !be p q else be p q
theorem flp_trn (hT : trn n be) {x y : Nat} (hx : x < n) (hy : y < n) (hne : x ≠ y) : trn n (flp be x y) := by
  refine ⟨hT.1, hT.2.1, fun p q h => ?_, fun p q hp hq hpq => ?_⟩
  · unfold flp at h ⊢
    by_cases c : (p = x ∧ q = y) ∨ (p = y ∧ q = x)
    · rw [if_pos c] at h
      have c2 : (q = x ∧ p = y) ∨ (q = y ∧ p = x) := by omega
      rw [if_pos c2]
      have hp : p < n := by omega
      have hq : q < n := by omega
      refine ⟨hp, hq, ?_⟩
      rw [hT.anti hp hq (by omega), Bool.not_not]
      simpa using h
    · rw [if_neg c] at h
      have c2 : ¬ ((q = x ∧ p = y) ∨ (q = y ∧ p = x)) := by omega
      rw [if_neg c2]
      exact hT.2.2.1 p q h
  · unfold flp
    have := hT.anti hp hq hpq
    by_cases c : (p = x ∧ q = y) ∨ (p = y ∧ q = x)
    · have c2 : (q = x ∧ p = y) ∨ (q = y ∧ p = x) := by omega
      rw [if_pos c, if_pos c2, this]
      cases be p q <;> simp
    · have c2 : ¬ ((q = x ∧ p = y) ∨ (q = y ∧ p = x)) := by omega
      rw [if_neg c, if_neg c2, this]
      cases be p q <;> simp
theorem flp_msk (hT : trn n be) {x y : Nat} (hx : x < n) (hy : y < n) (hne : x ≠ y) : msk (flp be x y x) = msk (be x) ^^^ onl y := by
  have h10 := hT.2.1
  refine set_ext (msk_lt _) (xor_lt (msk_lt _) (onl_lt _)) fun i hi => ?_
  rw [msk_t, Nat.testBit_xor, msk_t, onl_t, decide_eq_true hi, decide_eq_true (by omega : y < 10), Bool.true_and, Bool.true_and, Bool.true_and]
  unfold flp
  by_cases e : y = i
  · subst e; simp
  · rw [if_neg (by omega)]; simp [e]
theorem flp_msk2 (hT : trn n be) {x y : Nat} (hx : x < n) (hy : y < n) (hne : x ≠ y) : msk (flp be x y y) = msk (be y) ^^^ onl x := by
  have : flp be x y y = flp be y x y := by funext q; unfold flp; simp only [or_comm, and_comm]
  rw [this]
  exact flp_msk hT hy hx (Ne.symm hne)
theorem flp_msk3 {x y p : Nat} (h1 : p ≠ x) (h2 : p ≠ y) : flp be x y p = be p := by
  funext q; unfold flp; rw [if_neg (by omega)]
/-- what a change of a board leaves: the other cells; its stamp tells that there was one -/
def chg (D D1 : am_D) (b k : Nat) : Prop := (∀ q, q ≠ b → q ≠ b + 1 → q ≠ b + 2 → D1 q = D q) ∧ (∀ i, 2 ≤ i → D1 b i = D b i) ∧ ∃ j, j ≤ k ∧ D1 b 1 = D b 1 + nI j ∧ (j = 0 → D1 = D)
theorem chg.rf {k : Nat} : chg D D b k := ⟨fun _ _ _ _ => rfl, fun _ _ => rfl, 0, Nat.zero_le _, by rw [show nI 0 = 0 from rfl, Int32.add_zero], fun _ => rfl⟩
theorem chg.tr {D1 D2 : am_D} {k1 k2 : Nat} (h1 : chg D D1 b k1) (h2 : chg D1 D2 b k2) : chg D D2 b (k1 + k2) := by
  obtain ⟨f1, g1, j1, a1, b1, e1⟩ := h1
  obtain ⟨f2, g2, j2, a2, b2, e2⟩ := h2
  refine ⟨fun q x y z => by rw [f2 q x y z, f1 q x y z], fun i hi => by rw [g2 i hi, g1 i hi], j1 + j2, by omega, ?_, fun h => ?_⟩
  · rw [b2, b1, Int32.add_assoc, nI_add]
  · rw [e2 (by omega), e1 (by omega)]
theorem chg.mono {D1 : am_D} {k1 k2 : Nat} (h1 : chg D D1 b k1) (h : k1 ≤ k2) : chg D D1 b k2 := by
  obtain ⟨f1, g1, j1, a1, b1, e1⟩ := h1
  exact ⟨f1, g1, j1, by omega, b1, e1⟩
theorem c_turn (hb : isX0 lay b) (hB : brd D b n be we) (hT : trn n be) {x y : Nat} (hx : x < n) (hy : y < n) (hne : x ≠ y) : ∃ D1, am_MetV lay (d + 2) mX0_turn [.ref b, .int (nI x), .int (nI y)] D D1 ∧ brd D1 b n (flp be x y) we ∧ chg D D1 b 1 := by
  have h10 := hT.2.1
  apply Exists.intro
  apply And.intro
  · refine eX0_turn hb ⟨_, c_hasPair hb hB _ _, fun h => ?_, fun _ => ⟨fun h => ?_, fun _ => ⟨fun _ => ?_, fun h => ?_⟩⟩⟩
    · rw [isPr_n h10 (by omega) (by omega), decide_eq_true ⟨hx, hy, hne⟩] at h
      cases bI_0.mp h
    · rw [nI_leI (by decide) (by omega)] at h; omega
    · rintro D2 rfl
      refine ⟨vp_in_nI (by omega) (by decide), _, c_only (by omega), vp_in_nI (by omega) (by decide), ?_⟩
      rintro D4 rfl
      refine ⟨vp_in_nI (by omega) (by decide), _, c_only (by omega), vp_in_nI (by omega) (by decide), ?_⟩
      rintro D6 rfl
      exact ⟨rfl, rfl⟩
    · exact absurd ((nI_ltI (by omega) (by decide)).mpr (by omega : y < 10)) h
  · rw [nI_clamp (by omega), nI_clamp (by omega)]
    refine ⟨⟨?_, fun p hp => ?_, fun p q hp hq => ?_⟩, fun q q0 q1 _ => ?_, fun i hi => ?_, 1, Nat.le_refl _, ?_, fun h => by cases h⟩
    · simp [am_up, hB.1]
    · have hxy : ¬ y = x := Ne.symm hne
      by_cases e1 : p = y
      · subst e1
        simp [am_up, hxy, hB.2.1 p hp]
        rw [nn_xor, flp_msk2 hT hx hy hne]
      · by_cases e2 : p = x
        · subst e2
          simp [am_up, hne, hB.2.1 p hp]
          rw [nn_xor, flp_msk hT hx hy hne]
        · simp [am_up, e1, e2, hB.2.1 p hp]
          rw [flp_msk3 e2 e1]
    · simp [am_up]; exact hB.2.2 p q hp hq
    · funext i; simp [am_up, q0, q1]
    · simp [am_up]; omega
    · simp [am_up]
theorem c_turn_no (hb : isX0 lay b) (hB : brd D b n be we) (hT : trn n be) {x : Nat} (hx : x < n) : am_MetV lay (d + 2) mX0_turn [.ref b, .int (nI x), .int (nI x)] D D := by
  have h10 := hT.2.1
  refine eX0_turn hb ⟨_, c_hasPair hb hB _ _, fun h => ⟨rfl, rfl⟩, fun h => ?_⟩
  rw [isPr_n h10 (by omega) (by omega), decide_eq_false (by omega)] at h
  exact absurd rfl h
end BRD
