/-! two tournaments compared -/
def df (be bf : Nat → Nat → Bool) (p q : Nat) : Nat := if be p q = bf p q then 0 else 1
def cdf (n : Nat) (be bf : Nat → Nat → Bool) : Nat := sumR (fun p => cnt (msk (be p) ^^^ msk (bf p))) n
/-- the triple that k spells is a cycle of the first with at least two results that differ -/
def gk (n : Nat) (be bf : Nat → Nat → Bool) (k : Nat) : Bool := decide (k / 100 < k / 10 % 10 ∧ k / 10 % 10 < k % 10 ∧ k % 10 < n) && (tri be (k / 100) (k / 10 % 10) (k % 10) && decide (2 ≤ df be bf (k / 100) (k / 10 % 10) + df be bf (k / 10 % 10) (k % 10) + df be bf (k / 100) (k % 10)))
def hti (n : Nat) (be bf : Nat → Nat → Bool) : Int32 := match (List.range 1000).find? (gk n be bf) with
  | some k => nI k
  | none => -4
theorem hti_of {n : Nat} {be bf : Nat → Nat → Bool} {k : Nat} (hk : k < 1000) (h : gk n be bf k = true) (hm : ∀ j, j < k → gk n be bf j = false) : hti n be bf = nI k := by
  unfold hti
  have : (List.range 1000).find? (gk n be bf) = some k := by
    rw [List.find?_range_eq_some]
    exact ⟨h, List.mem_range.mpr hk, fun j hj => by rw [hm j hj]; rfl⟩
  rw [this]
theorem hti_no {n : Nat} {be bf : Nat → Nat → Bool} (hm : ∀ j, j < 1000 → gk n be bf j = false) : hti n be bf = -4 := by
  unfold hti
  have : (List.range 1000).find? (gk n be bf) = none := by
    rw [List.find?_eq_none]
    intro j hj
    rw [hm j (List.mem_range.mp hj)]; decide
  rw [this]
/-- p of the first may go to z of the second behind those that went to f -/
def cor (be bf : Nat → Nat → Bool) (p z : Nat) (f : Nat → Nat) : Bool := decide (sc be p = sc bf z) && (List.range p).all fun q => be p q == bf z (f q)
def fst_ (f : Nat → Nat) (p z : Nat) : Nat → Nat := fun q => if q = p then z else f q
def al (n : Nat) (be bf : Nat → Nat → Bool) : Nat → Nat → (Nat → Nat) → Bool
  | 0, _, _ => true
  | k + 1, s, f => (List.range n).any fun z => s.testBit z && (cor be bf (n - (k + 1)) z f && al n be bf k (mdf s (onl z)) (fst_ f (n - (k + 1)) z))
section LIK
variable {lay : List am_L} {d : Nat} {D : am_D} {b c o n : Nat} {be bf : Nat → Nat → Bool} {we wf : Nat → Nat → Nat}
theorem c_countDiffering (hb : isX0 lay b) (hc : isX0 lay c) (hB : brd D b n be we) (hC : brd D c n bf wf) (hT : trn n be) (hU : trn n bf) : am_MetP lay (d + 1) mX4_countDiffering [.ref b, .ref c] D (nI (cdf n be bf / 2)) := by
  have h10 := hT.2.1
  have bound : ∀ i, i ≤ n → sumR (fun p => cnt (msk (be p) ^^^ msk (bf p))) i ≤ 10 * i := by
    intro i
    induction i with
    | zero => intro _; exact Nat.le_refl _
    | succ i ih =>
      intro hi
      have := ih (by omega)
      have := cnt_le (msk (be i) ^^^ msk (bf i))
      show sumR (fun p => cnt (msk (be p) ^^^ msk (bf p))) i + cnt (msk (be i) ^^^ msk (bf i)) ≤ 10 * (i + 1)
      omega
  have loop : ∀ k i, i + k = n → ∀ Q : Option Value → am_D → Prop, Q (some (.int (nI (cdf n be bf / 2)))) D → am_AW lay (d + 1) mX4_countDiffering 4 [.ref b, .ref c, .int (nI (sumR (fun p => cnt (msk (be p) ^^^ msk (bf p))) i)), .int (nI i)] [] D Q := by
    intro k
    induction k with
    | zero =>
      intro i hi Q hQ
      obtain rfl : i = n := by omega
      refine rX4_countDiffering_4 hb hc ⟨_, c_size hb hB, fun _ => ?_, fun h2 => absurd (nI_le (Nat.le_refl _) (by omega)) h2⟩
      have := bound i (Nat.le_refl _)
      rw [nn_div (by omega) (by decide)]; exact hQ
    | succ k ih =>
      intro i hi Q hQ
      refine rX4_countDiffering_4 hb hc ⟨_, c_size hb hB, fun h2 => ?_, fun _ => ⟨_, c_beatenBy hb hB hT (by omega), _, c_beatenBy hc hC hU (by omega), ?_⟩⟩
      · rw [nI_leI (by omega) (by omega)] at h2; omega
      · rw [nn_xor]
        refine ⟨_, c_cnt (xor_lt (msk_lt _) (msk_lt _)), ?_⟩
        rw [nI_add, nI_add]
        exact ih (i + 1) (by omega) Q hQ
  exact eX4_countDiffering hb hc (loop n 0 (by omega) _ ⟨rfl, rfl⟩)
theorem c_differs (hb : isX0 lay b) (hc : isX0 lay c) (hB : brd D b n be we) (hC : brd D c n bf wf) (hT : trn n be) (hU : trn n bf) {p q : Nat} (hp : p < 2 ^ 31) (hq : q < 2 ^ 31) : am_MetP lay (d + 2) mX4_differs [.ref b, .ref c, .int (nI p), .int (nI q)] D (nI (df be bf p q)) := by
  refine eX4_differs hb hc ⟨_, c_wins hb hB hT hp hq, _, c_wins hc hC hU hp hq, fun h => ?_, fun h => ?_⟩
  · rw [bI_inj] at h
    unfold df; rw [if_neg h]; exact ⟨rfl, rfl⟩
  · rw [Classical.not_not, bI_inj] at h
    unfold df; rw [if_pos h]; exact ⟨rfl, rfl⟩
theorem df_le (p q : Nat) : df be bf p q ≤ 1 := by unfold df; split <;> omega
theorem c_differingAmong (hb : isX0 lay b) (hc : isX0 lay c) (hB : brd D b n be we) (hC : brd D c n bf wf) (hT : trn n be) (hU : trn n bf) {x y z : Nat} (hx : x < 2 ^ 31) (hy : y < 2 ^ 31) (hz : z < 2 ^ 31) : am_MetP lay (d + 3) mX4_differingAmong [.ref b, .ref c, .int (nI x), .int (nI y), .int (nI z)] D (nI (df be bf x y + df be bf y z + df be bf x z)) := by
  refine eX4_differingAmong hb hc ⟨_, c_differs hb hc hB hC hT hU hx hy, _, c_differs hb hc hB hC hT hU hy hz, _, c_differs hb hc hB hC hT hU hx hz, ?_⟩
  rw [nI_add, nI_add]; exact ⟨rfl, rfl⟩
theorem gk_abc {x y z : Nat} (hz : z < 10) (hy : y < 10) : gk n be bf (100 * x + 10 * y + z) = (decide (x < y ∧ y < z ∧ z < n) && (tri be x y z && decide (2 ≤ df be bf x y + df be bf y z + df be bf x z))) := by
  have e1 : (100 * x + 10 * y + z) / 100 = x := by omega
  have e2 : (100 * x + 10 * y + z) / 10 % 10 = y := by omega
  have e3 : (100 * x + 10 * y + z) % 10 = z := by omega
  unfold gk; rw [e1, e2, e3]
theorem gk_bad {k : Nat} (h : ¬ (k / 100 < k / 10 % 10 ∧ k / 10 % 10 < k % 10 ∧ k % 10 < n)) : gk n be bf k = false := by
  unfold gk; rw [decide_eq_false h]; rfl
theorem c_helpfulTriangle (hb : isX0 lay b) (hc : isX0 lay c) (hB : brd D b n be we) (hC : brd D c n bf wf) (hT : trn n be) (hU : trn n bf) : am_MetP lay (d + 4) mX4_helpfulTriangle [.ref b, .ref c] D (hti n be bf) := by
  have h10 := hT.2.1
  let Q : Option Value → am_D → Prop := fun r D1 => r = some (.int (hti n be bf)) ∧ D1 = D
  have hno : (∀ j, j < 100 * n → gk n be bf j = false) → Q (some (.int (-4))) D := fun h => by
    have h2 := hti_no (n := n) (be := be) (bf := bf) (fun j hj => by
      by_cases e : j < 100 * n
      · exact h j e
      · exact gk_bad (by omega))
    exact ⟨by rw [h2], rfl⟩
  have l27 : ∀ k z x y, z + k = n → x < y → y < z → (∀ j, j < 100 * x + 10 * y + z → gk n be bf j = false) → (am_AW lay (d + 4) mX4_helpfulTriangle 14 [.ref b, .ref c, .int (nI x), .int (nI (y + 1)), .null] [] D Q ∨ ∃ j, j < 100 * x + 10 * y + n ∧ gk n be bf j = true) → am_AW lay (d + 4) mX4_helpfulTriangle 27 [.ref b, .ref c, .int (nI x), .int (nI y), .int (nI z)] [] D Q := by
    intro k
    induction k with
    | zero =>
      intro z x y hz hxy hyz hm hnx
      obtain rfl : z = n := by omega
      refine rX4_helpfulTriangle_27 hb hc ⟨_, c_size hb hB, fun _ => ?_, fun h2 => absurd (nI_le (Nat.le_refl _) (by omega)) h2⟩
      rcases hnx with h | ⟨j, h1, h2⟩
      · rw [nI_add]; exact h
      · rw [hm j h1] at h2; cases h2
    | succ k ih =>
      intro z x y hz hxy hyz hm hnx
      have hg := gk_abc (n := n) (be := be) (bf := bf) (x := x) (y := y) (z := z) (by omega) (by omega)
      rw [decide_eq_true ⟨hxy, hyz, (by omega : z < n)⟩, Bool.true_and] at hg
      have next : gk n be bf (100 * x + 10 * y + z) = false → am_AW lay (d + 4) mX4_helpfulTriangle 27 [.ref b, .ref c, .int (nI x), .int (nI y), .int (nI z + nI 1)] [] D Q := by
        intro hf
        rw [nI_add]
        refine ih (z + 1) x y (by omega) hxy (by omega) (fun j hj => ?_) hnx
        by_cases e : j = 100 * x + 10 * y + z
        · subst e; exact hf
        · exact hm j (by omega)
      have hd1 := df_le (be := be) (bf := bf) x y
      have hd2 := df_le (be := be) (bf := bf) y z
      have hd3 := df_le (be := be) (bf := bf) x z
      refine rX4_helpfulTriangle_27 hb hc ⟨_, c_size hb hB, fun h2 => ?_, fun _ => ⟨_, c_isTriangle hb hB hT (by omega) (by omega) (by omega), fun h => next ?_, fun h => ⟨_, c_differingAmong hb hc hB hC hT hU (by omega) (by omega) (by omega), fun h2 => next ?_, fun h2 => ?_⟩⟩⟩
      · rw [nI_leI (by omega) (by omega)] at h2; omega
      · rw [hg, bI_0.mp h]; rfl
      · rw [nI_ltI (by omega) (by decide)] at h2
        rw [hg, decide_eq_false (by omega), Bool.and_false]
      · rw [nI_ltI (by omega) (by decide)] at h2
        rw [bI_n0.mp h, decide_eq_true (by omega)] at hg
        rw [nn_mul, nn_mul, nI_add, nI_add]
        exact ⟨by rw [hti_of (by omega) hg hm], rfl⟩
  have l14 : ∀ k y x, y + k = n → x < y → (∀ j, j < 100 * x + 10 * y + y + 1 → gk n be bf j = false) → (am_AW lay (d + 4) mX4_helpfulTriangle 2 [.ref b, .ref c, .int (nI (x + 1)), .null, .null] [] D Q ∨ ∃ j, j < 100 * x + 100 ∧ gk n be bf j = true) → ((∀ j, j < 100 * x + 100 → gk n be bf j = false) → am_AW lay (d + 4) mX4_helpfulTriangle 2 [.ref b, .ref c, .int (nI (x + 1)), .null, .null] [] D Q) → am_AW lay (d + 4) mX4_helpfulTriangle 14 [.ref b, .ref c, .int (nI x), .int (nI y), .null] [] D Q := by
    intro k
    induction k with
    | zero =>
      intro y x hy hxy hm _ hnx
      obtain rfl : y = n := by omega
      refine rX4_helpfulTriangle_14 hb hc ⟨_, c_size hb hB, fun _ => ?_, fun h2 => absurd (nI_le (Nat.le_refl _) (by omega)) h2⟩
      rw [nI_add]
      refine hnx fun j hj => ?_
      by_cases e : j < 100 * x + 10 * y + y + 1
      · exact hm j e
      · exact gk_bad (by omega)
    | succ k ih =>
      intro y x hy hxy hm h0 hnx
      refine rX4_helpfulTriangle_14 hb hc ⟨_, c_size hb hB, fun h2 => ?_, fun _ => ?_⟩
      · rw [nI_leI (by omega) (by omega)] at h2; omega
      · rw [nI_add]
        by_cases hy1 : y + 1 ≤ n
        · by_cases hex : ∃ j, j < 100 * x + 10 * y + n ∧ gk n be bf j = true
          · exact l27 (n - (y + 1)) (y + 1) x y (by omega) hxy (by omega) (fun j hj => hm j (by omega)) (Or.inr hex)
          · refine l27 (n - (y + 1)) (y + 1) x y (by omega) hxy (by omega) (fun j hj => hm j (by omega)) (Or.inl (ih (y + 1) x (by omega) (by omega) (fun j hj => ?_) h0 hnx))
            by_cases e : j < 100 * x + 10 * y + n
            · cases e2 : gk n be bf j with
              | false => rfl
              | true => exact absurd ⟨j, e, e2⟩ hex
            · have h3 : j / 10 / 10 = j / 100 := Nat.div_div_eq_div_mul j 10 10
              apply gk_bad
              rintro ⟨q1, q2, q3⟩
              have hA : j / 100 = x ∨ j / 100 = x + 1 := by omega
              rcases hA with hA | hA
              · have hB : j / 10 ≤ 10 * x + y ∨ j / 10 = 10 * x + y + 1 ∨ 10 * x + y + 2 ≤ j / 10 := by omega
                rcases hB with hB | hB | hB <;> omega
              · omega
        · omega
  have l2 : ∀ k x, x + k = n → (∀ j, j < 100 * x → gk n be bf j = false) → am_AW lay (d + 4) mX4_helpfulTriangle 2 [.ref b, .ref c, .int (nI x), .null, .null] [] D Q := by
    intro k
    induction k with
    | zero =>
      intro x hx hm
      obtain rfl : x = n := by omega
      exact rX4_helpfulTriangle_2 hb hc ⟨_, c_size hb hB, fun _ => hno hm, fun h2 => absurd (nI_le (Nat.le_refl _) (by omega)) h2⟩
    | succ k ih =>
      intro x hx hm
      refine rX4_helpfulTriangle_2 hb hc ⟨_, c_size hb hB, fun h2 => ?_, fun _ => ?_⟩
      · rw [nI_leI (by omega) (by omega)] at h2; omega
      · rw [nI_add]
        have hm2 : ∀ j, j < 100 * x + 10 * (x + 1) + (x + 1) + 1 → gk n be bf j = false := fun j hj => by
          by_cases e : j < 100 * x
          · exact hm j e
          · exact gk_bad (by omega)
        by_cases hex : ∃ j, j < 100 * x + 100 ∧ gk n be bf j = true
        · refine l14 (n - (x + 1)) (x + 1) x (by omega) (by omega) hm2 (Or.inr hex) (fun h => ?_)
          obtain ⟨j, h1, h2⟩ := hex
          rw [h j h1] at h2; cases h2
        · have := ih (x + 1) (by omega) (fun j hj => by
            cases e2 : gk n be bf j with
            | false => rfl
            | true => exact absurd ⟨j, by omega, e2⟩ hex)
          exact l14 (n - (x + 1)) (x + 1) x (by omega) (by omega) hm2 (Or.inl this) (fun _ => this)
  exact eX4_helpfulTriangle hb hc (l2 n 0 (by omega) (fun j hj => absurd hj (by omega)))
theorem c_corresponds (hb : isX0 lay b) (hc : isX0 lay c) {v : Nat} (hv : lay[v]? = some (.inr (.inl (false, 10)))) (hB : brd D b n be we) (hC : brd D c n bf wf) (hT : trn n be) (hU : trn n bf) {p z : Nat} {f : Nat → Nat} (hp : p < n) (hz : z < n) (hf : ∀ q, q < p → D v q = nI (f q) ∧ f q < n) : am_MetP lay (d + 2) mX4_corresponds [.ref b, .ref c, .ref v, .int (nI p), .int (nI z)] D (bI (cor be bf p z f)) := by
  have h10 := hT.2.1
  have h1 : sc be p ≤ 10 := cnt_le _
  have h2 : sc bf z ≤ 10 := cnt_le _
  refine eX4_corresponds hb hc hv ⟨_, c_winsOf hb hB hT (by omega), _, c_winsOf hc hC hU (by omega), fun h => ?_, fun h => ?_⟩
  · rw [nI_eq (by omega) (by omega)] at h
    have loop : ∀ k i, i + k = p → (∀ q, q < i → be p q = bf z (f q)) → ∀ Q : Option Value → am_D → Prop, Q (some (.int (bI (cor be bf p z f)))) D → am_AW lay (d + 2) mX4_corresponds 19 [.ref b, .ref c, .ref v, .int (nI p), .int (nI z), .int (nI i)] [] D Q := by
      intro k
      induction k with
      | zero =>
        intro i hi hq Q hQ
        obtain rfl : i = p := by omega
        have e : cor be bf i z f = true := by
          unfold cor
          rw [decide_eq_true h, Bool.true_and, List.all_eq_true]
          intro q hq2
          rw [hq q (List.mem_range.mp hq2)]; exact beq_self_eq_true _
        rw [e] at hQ
        exact rX4_corresponds_19 hb hc hv ⟨fun _ => hQ, fun h2 => absurd (nI_le (Nat.le_refl _) (by omega)) h2⟩
      | succ k ih =>
        intro i hi hq Q hQ
        refine rX4_corresponds_19 hb hc hv ⟨fun h2 => ?_, fun _ => ⟨fun h2 => ?_, fun _ => ⟨_, c_wins hb hB hT (by omega) (by omega), vp_in_nI (by omega) (by decide), ?_⟩⟩⟩
        · rw [nI_leI (by omega) (by omega)] at h2; omega
        · rw [nI_leI (by decide) (by omega)] at h2; omega
        · rw [nI_clamp (by omega), (hf i (by omega)).1]
          refine ⟨_, c_wins hc hC hU (by omega) (by have := (hf i (by omega)).2; omega), fun h3 => ?_, fun h3 => ?_⟩
          · rw [bI_inj] at h3
            rw [nI_add]
            refine ih (i + 1) (by omega) (fun q hq2 => ?_) Q hQ
            by_cases e : q = i
            · subst e; exact h3
            · exact hq q (by omega)
          · rw [bI_inj] at h3
            have e : cor be bf p z f = false := by
              unfold cor
              have : ((List.range p).all fun q => be p q == bf z (f q)) = false := by
                rw [List.all_eq_false]
                refine ⟨i, List.mem_range.mpr (by omega), ?_⟩
                rw [beq_false_of_ne h3]; decide
              rw [this, Bool.and_false]
            rw [e] at hQ; exact hQ
    exact loop p 0 (by omega) (fun q hq => absurd hq (Nat.not_lt_zero q)) _ ⟨rfl, rfl⟩
  · rw [nI_eq (by omega) (by omega)] at h
    unfold cor; rw [decide_eq_false h]; exact ⟨rfl, rfl⟩
theorem c_assign (hb : isX0 lay b) (hc : isX0 lay c) {v : Nat} (hv : lay[v]? = some (.inr (.inl (false, 10)))) (hT : trn n be) (hU : trn n bf) (hne : b ≠ v ∧ b + 1 ≠ v ∧ b + 2 ≠ v ∧ c ≠ v ∧ c + 1 ≠ v ∧ c + 2 ≠ v) :
    ∀ k s f D, k ≤ n → s < 1024 → brd D b n be we → brd D c n bf wf → (∀ q, q < n - k → D v q = nI (f q) ∧ f q < n) → ∃ D1, am_MetI lay (d + 3 + k) mX4_assign [.ref b, .ref c, .ref v, .int (nI s), .int (nI (n - k))] D (bI (al n be bf k s f)) D1 ∧ (∀ q, q < n - k → D1 v q = D v q) ∧ ∀ q, q ≠ v → D1 q = D q := by
  have h10 := hT.2.1
  intro k
  induction k with
  | zero =>
    intro s f D _ hs hB hC hf
    refine ⟨D, eX4_assign hb hc hv ⟨fun h => absurd h (nn_neg (by omega)), fun _ => ⟨_, c_size hb hB, fun _ => ⟨_, c_size hb hB, fun h => absurd rfl h, fun _ => ⟨rfl, rfl⟩⟩, fun h => absurd (nI_le (Nat.le_refl _) (by omega)) h⟩⟩, fun _ _ => rfl, fun _ _ => rfl⟩
  | succ k ih =>
    intro s f D hk hs hB hC hf
    have loop : ∀ j i D, i + j = n → brd D b n be we → brd D c n bf wf → (∀ q, q < n - (k + 1) → D v q = nI (f q) ∧ f q < n) → (∀ z, z < i → (s.testBit z && (cor be bf (n - (k + 1)) z f && al n be bf k (mdf s (onl z)) (fst_ f (n - (k + 1)) z))) = false) →
        ∃ D1, (∀ q, q < n - (k + 1) → D1 v q = D v q) ∧ (∀ q, q ≠ v → D1 q = D q) ∧ ∀ Q : Option Value → am_D → Prop, Q (some (.int (bI (al n be bf (k + 1) s f)))) D1 → am_AW lay (d + 3 + k + 1) mX4_assign 39 [.ref b, .ref c, .ref v, .int (nI s), .int (nI (n - (k + 1))), .int (nI i)] [] D Q := by
      intro j
      induction j with
      | zero =>
        intro i D hi hB hC hf hz
        obtain rfl : i = n := by omega
        have e : al i be bf (k + 1) s f = false := List.any_eq_false.mpr fun z hz2 => by rw [hz z (List.mem_range.mp hz2)]; decide
        refine ⟨D, fun _ _ => rfl, fun _ _ => rfl, fun Q hQ => rX4_assign_39 hb hc hv ⟨_, c_size hc hC, fun _ => ?_, fun h2 => absurd (nI_le (Nat.le_refl _) (by omega)) h2⟩⟩
        rw [e] at hQ; exact hQ
      | succ j ihj =>
        intro i D hi hB hC hf hz
        have hout : ¬ nI n ≤ nI i := by rw [nI_leI (by omega) (by omega)]; omega
        have hi10 : i < 10 := by omega
        have skip : (s.testBit i && (cor be bf (n - (k + 1)) i f && al n be bf k (mdf s (onl i)) (fst_ f (n - (k + 1)) i))) = false → ∀ z, z < i + 1 → (s.testBit z && (cor be bf (n - (k + 1)) z f && al n be bf k (mdf s (onl z)) (fst_ f (n - (k + 1)) z))) = false := by
          intro h z hz2
          by_cases e : z = i
          · subst e; exact h
          · exact hz z (by omega)
        have hcor := c_corresponds (d := d + 1 + k) hb hc hv hB hC hT hU (p := n - (k + 1)) (z := i) (f := f) (by omega) (by omega) hf
        rw [show d + 1 + k + 2 = d + 3 + k by omega] at hcor
        cases hsi : s.testBit i with
        | false =>
          obtain ⟨D1, a1, a2, a3⟩ := ihj (i + 1) D (by omega) hB hC hf (skip (by rw [hsi]; rfl))
          refine ⟨D1, a1, a2, fun Q hQ => rX4_assign_39 hb hc hv ⟨_, c_size hc hC, fun h => absurd h hout, fun _ => ⟨_, c_holds (by omega), fun _ => ?_, fun h => ?_⟩⟩⟩
          · rw [nI_add]; exact a3 Q hQ
          · rw [hsi, Bool.and_false] at h; exact absurd rfl h
        | true =>
          cases hco : cor be bf (n - (k + 1)) i f with
          | false =>
            obtain ⟨D1, a1, a2, a3⟩ := ihj (i + 1) D (by omega) hB hC hf (skip (by rw [hsi, hco]; rfl))
            refine ⟨D1, a1, a2, fun Q hQ => rX4_assign_39 hb hc hv ⟨_, c_size hc hC, fun h => absurd h hout, fun _ => ⟨_, c_holds (by omega), fun h => ?_, fun _ => ⟨_, hcor, fun _ => ?_, fun h => ?_⟩⟩⟩⟩
            · rw [hsi, Bool.and_true, decide_eq_true hi10] at h; cases bI_0.mp h
            · rw [nI_add]; exact a3 Q hQ
            · rw [hco] at h; exact absurd rfl h
          | true =>
            have hB4 : brd (am_up D v (n - (k + 1)) (nI i)) b n be we := hB.keep fun q hq => am_up_ne q (by omega)
            have hC4 : brd (am_up D v (n - (k + 1)) (nI i)) c n bf wf := hC.keep fun q hq => am_up_ne q (by omega)
            obtain ⟨D7, r1, r2, r3⟩ := ih (mdf s (onl i)) (fst_ f (n - (k + 1)) i) (am_up D v (n - (k + 1)) (nI i)) (by omega) (mdf_lt hs) hB4 hC4 (fun q hq => by
              by_cases e : q = n - (k + 1)
              · subst e; exact ⟨by simp [am_up, fst_], by simp [fst_]; omega⟩
              · have := hf q (by omega)
                exact ⟨by simp [am_up, fst_, e]; exact this.1, by simp [fst_, e]; exact this.2⟩)
            have p1 : ∀ q, q < n - (k + 1) → D7 v q = D v q := fun q hq => by rw [r2 q (by omega)]; simp [am_up]; omega
            have p2 : ∀ q, q ≠ v → D7 q = D q := fun q hq => by rw [r3 q hq, am_up_ne q hq]
            have r1' : am_MetI lay (d + 3 + k) mX4_assign [.ref b, .ref c, .ref v, .int (nI (mdf s (onl i))), .int (nI (n - (k + 1)) + nI 1)] (am_up D v (n - (k + 1)) (nI i)) (bI (al n be bf k (mdf s (onl i)) (fst_ f (n - (k + 1)) i))) D7 := by
              rw [nI_add, show n - (k + 1) + 1 = n - k by omega]; exact r1
            have e11 : (nI (n - (k + 1))).toNatClampNeg = n - (k + 1) := nI_clamp (by omega)
            have hw := c_without (d := d + 2 + k) (lay := lay) (D := am_up D v (n - (k + 1)) (nI i)) (s := s) (p := i) (by omega)
            rw [show d + 2 + k + 1 = d + 3 + k by omega] at hw
            cases hal : al n be bf k (mdf s (onl i)) (fst_ f (n - (k + 1)) i) with
            | true =>
              have htr : al n be bf (k + 1) s f = true := List.any_eq_true.mpr ⟨i, List.mem_range.mpr (by omega), by rw [hsi, hco, hal]; rfl⟩
              refine ⟨D7, p1, p2, fun Q hQ => rX4_assign_39 hb hc hv ⟨_, c_size hc hC, fun h => absurd h hout, fun _ => ⟨_, c_holds (by omega), fun h => ?_, fun _ => ⟨_, hcor, fun h => ?_, fun _ => ⟨vp_in_nI (by omega) (by decide), ?_⟩⟩⟩⟩⟩
              · rw [hsi, Bool.and_true, decide_eq_true hi10] at h; cases bI_0.mp h
              · rw [hco] at h; cases bI_0.mp h
              · rw [e11]
                rintro D4 rfl
                refine ⟨_, hw, _, D7, r1', fun h => ?_, fun _ => ?_⟩
                · rw [hal] at h; cases bI_0.mp h
                · rw [htr] at hQ; exact hQ
            | false =>
              obtain ⟨D1, a1, a2, a3⟩ := ihj (i + 1) D7 (by omega) (hB.keep fun q hq => p2 q (by omega)) (hC.keep fun q hq => p2 q (by omega)) (fun q hq => ⟨by rw [p1 q hq]; exact (hf q hq).1, (hf q hq).2⟩) (skip (by rw [hsi, hco, hal]; rfl))
              refine ⟨D1, fun q hq => by rw [a1 q hq, p1 q hq], fun q hq => by rw [a2 q hq, p2 q hq], fun Q hQ => rX4_assign_39 hb hc hv ⟨_, c_size hc hC, fun h => absurd h hout, fun _ => ⟨_, c_holds (by omega), fun h => ?_, fun _ => ⟨_, hcor, fun h => ?_, fun _ => ⟨vp_in_nI (by omega) (by decide), ?_⟩⟩⟩⟩⟩
              · rw [hsi, Bool.and_true, decide_eq_true hi10] at h; cases bI_0.mp h
              · rw [hco] at h; cases bI_0.mp h
              · rw [e11]
                rintro D4 rfl
                refine ⟨_, hw, _, D7, r1', fun _ => ?_, fun h => ?_⟩
                · rw [nI_add]; exact a3 Q hQ
                · rw [hal] at h; exact absurd rfl h
    obtain ⟨D1, a1, a2, a3⟩ := loop n 0 D (by omega) hB hC hf (fun z hz => absurd hz (Nat.not_lt_zero z))
    refine ⟨D1, eX4_assign (d := d + 3 + k) hb hc hv ⟨fun h => absurd h (nn_neg (by omega)), fun _ => ⟨_, c_size hb hB, fun h => ?_, fun _ => ⟨fun _ => a3 _ ⟨rfl, rfl⟩, fun h => ?_⟩⟩⟩, a1, a2⟩
    · rw [nI_leI (by omega) (by omega)] at h; omega
    · exact absurd ((nI_ltI (by omega) (by decide)).mpr (by omega)) h
theorem c_areAlike {m : Nat} (ho : isX4 lay o) (hb : isX0 lay b) (hc : isX0 lay c) (hB : brd D b n be we) (hC : brd D c m bf wf) (hT : trn n be) (hU : trn m bf) (hne : b ≠ o + 1 ∧ b + 1 ≠ o + 1 ∧ b + 2 ≠ o + 1 ∧ c ≠ o + 1 ∧ c + 1 ≠ o + 1 ∧ c + 2 ≠ o + 1) : ∃ D1, am_MetI lay (d + 14) mX4_areAlike [.ref o, .ref b, .ref c] D (bI (decide (n = m) && al n be bf n (ful n) (fun _ => 0))) D1 ∧ ∀ q, q ≠ o + 1 → D1 q = D q := by
  have h10 := hT.2.1
  have m10 := hU.2.1
  by_cases hnm : n = m
  · subst hnm
    obtain ⟨D1, a1, a2, a3⟩ := c_assign (d := d + 10 - n) hb hc ho.2 hT hU hne n (ful n) (fun _ => 0) D (Nat.le_refl _) (ful_lt h10) hB hC (fun q hq => absurd hq (by omega))
    rw [show d + 10 - n + 3 + n = d + 13 by omega, Nat.sub_self] at a1
    rw [decide_eq_true rfl, Bool.true_and]
    refine ⟨D1, eX4_areAlike ho hb hc ⟨_, c_size hb hB, _, c_size hc hC, fun h => absurd rfl h, fun _ => ⟨_, c_everyone hc hC hU, _, D1, a1, fun h => ?_, fun h => ?_⟩⟩, a3⟩
    · rw [bI_0.mp h]; exact ⟨rfl, rfl⟩
    · rw [bI_n0.mp h]; exact ⟨rfl, rfl⟩
  · rw [decide_eq_false hnm, Bool.false_and]
    refine ⟨D, eX4_areAlike ho hb hc ⟨_, c_size hb hB, _, c_size hc hC, fun _ => ⟨rfl, rfl⟩, fun h => ?_⟩, fun _ _ => rfl⟩
    rw [Classical.not_not, nI_eq (by omega) (by omega)] at h
    exact absurd h hnm
end LIK
