/-! Structure: leaders, the first component, kings, chains; by the algorithm's own words -/
/-- the players below i of a kind -/
def col (P : Nat → Bool) (i : Nat) : Nat := msk fun p => decide (p < i) && P p
theorem col_0 (P : Nat → Bool) : col P 0 = 0 := set_ext (msk_lt _) (by decide) fun i _ => by unfold col; rw [msk_t]; simp
theorem col_lt (P : Nat → Bool) (i : Nat) : col P i < 1024 := msk_lt _
theorem col_t (P : Nat → Bool) (i p : Nat) : (col P i).testBit p = (decide (p < 10) && (decide (p < i) && P p)) := msk_t _ _
theorem col_y {P : Nat → Bool} {i : Nat} (hi : i < 10) (h : P i = true) : col P i ||| onl i = col P (i + 1) := by
  refine set_ext (or_lt (msk_lt _) (onl_lt _)) (msk_lt _) fun p hp => ?_
  rw [Nat.testBit_or, col_t, col_t, onl_t]
  by_cases e : i = p
  · subst e; simp [hi, h]
  · rw [decide_eq_false e, Bool.and_false, Bool.or_false]
    congr 2
    exact decide_eq_decide.mpr (by omega)
theorem col_n {P : Nat → Bool} {i : Nat} (h : P i = false) : col P i = col P (i + 1) := by
  refine set_ext (msk_lt _) (msk_lt _) fun p hp => ?_
  rw [col_t, col_t]
  by_cases e : p = i
  · subst e; simp [h]
  · congr 2
    exact decide_eq_decide.mpr (by omega)
/-- how many of a set a player beats -/
def wn (be : Nat → Nat → Bool) (S p : Nat) : Nat := cnt (msk (be p) &&& S)
/-- p is in S and none of S among the first i beats more of S -/
def isL (be : Nat → Nat → Bool) (S i p : Nat) : Bool := S.testBit p && (List.range i).all fun q => !S.testBit q || decide (wn be S q ≤ wn be S p)
def ldr (n : Nat) (be : Nat → Nat → Bool) (S : Nat) : Nat := col (isL be S n) n
theorem isL_iff {be : Nat → Nat → Bool} {S i p : Nat} : isL be S i p = true ↔ S.testBit p = true ∧ ∀ q, q < i → S.testBit q = true → wn be S q ≤ wn be S p := by
  unfold isL
  simp only [Bool.and_eq_true, List.all_eq_true, List.mem_range, Bool.or_eq_true, Bool.not_eq_true', decide_eq_true_eq]
  constructor
  · rintro ⟨h1, h2⟩
    refine ⟨h1, fun q hq hs => ?_⟩
    rcases h2 q hq with h | h
    · rw [hs] at h; cases h
    · exact h
  · rintro ⟨h1, h2⟩
    refine ⟨h1, fun q hq => ?_⟩
    cases e : S.testBit q with
    | false => exact Or.inl rfl
    | true => exact Or.inr (h2 q hq e)
section STR
variable {lay : List am_L} {d : Nat} {D : am_D} {b n : Nat} {be : Nat → Nat → Bool} {we : Nat → Nat → Nat}
/-- the state of leadersOf after i players -/
def lSt (be : Nat → Nat → Bool) (S i : Nat) (mI : Int32) (L : Nat) : Prop := L = col (isL be S i) i ∧ ((mI = -1 ∧ ∀ q, q < i → S.testBit q = false) ∨ ∃ p, p < i ∧ S.testBit p = true ∧ mI = nI (wn be S p) ∧ ∀ q, q < i → S.testBit q = true → wn be S q ≤ wn be S p)
theorem wn_le (S p : Nat) : wn be S p ≤ 10 := cnt_le _
theorem lSt_no {S i L : Nat} {mI : Int32} (h : lSt be S i mI L) (hs : S.testBit i = false) : lSt be S (i + 1) mI L := by
  obtain ⟨rfl, h2⟩ := h
  have e : ∀ p, isL be S i p = isL be S (i + 1) p := by
    intro p
    apply Bool.eq_iff_iff.mpr
    rw [isL_iff, isL_iff]
    constructor
    · rintro ⟨a, b⟩
      refine ⟨a, fun q hq hsq => ?_⟩
      by_cases e : q = i
      · subst e; rw [hs] at hsq; cases hsq
      · exact b q (by omega) hsq
    · rintro ⟨a, b⟩; exact ⟨a, fun q hq => b q (by omega)⟩
  refine ⟨?_, ?_⟩
  · rw [show isL be S (i + 1) = isL be S i from funext fun p => (e p).symm]
    exact col_n (by unfold isL; rw [hs]; rfl)
  · rcases h2 with ⟨a, b⟩ | ⟨p, a, b, c, e⟩
    · refine Or.inl ⟨a, fun q hq => ?_⟩
      by_cases e : q = i
      · subst e; exact hs
      · exact b q (by omega)
    · refine Or.inr ⟨p, by omega, b, c, fun q hq hsq => ?_⟩
      by_cases e2 : q = i
      · subst e2; rw [hs] at hsq; cases hsq
      · exact e q (by omega) hsq
theorem lSt_lt {S i L : Nat} {mI : Int32} (h : lSt be S i mI L) (hs : S.testBit i = true) (hlt : nI (wn be S i) < mI) : lSt be S (i + 1) mI L := by
  obtain ⟨rfl, h2⟩ := h
  have hw := wn_le (be := be) S i
  rcases h2 with ⟨a, b⟩ | ⟨p, hp, hsp, rfl, hmax⟩
  · exfalso
    rw [a] at hlt
    have : ∀ k, k < 11 → ¬ nI k < -1 := by decide
    exact this _ (by omega) hlt
  · have hwp := wn_le (be := be) S p
    rw [nI_ltI (by omega) (by omega)] at hlt
    have ei : isL be S (i + 1) i = false := by
      cases e : isL be S (i + 1) i with
      | false => rfl
      | true => have := (isL_iff.mp e).2 p (by omega) hsp; omega
    refine ⟨?_, Or.inr ⟨p, by omega, hsp, rfl, fun q hq hsq => ?_⟩⟩
    · refine set_ext (msk_lt _) (msk_lt _) fun z hz => ?_
      rw [col_t, col_t]
      by_cases e : z = i
      · subst e; rw [ei]; simp
      · by_cases hzi : z < i
        · have : isL be S i z = isL be S (i + 1) z := by
            apply Bool.eq_iff_iff.mpr
            rw [isL_iff, isL_iff]
            constructor
            · rintro ⟨x, y⟩
              refine ⟨x, fun q hq hsq => ?_⟩
              by_cases e2 : q = i
              · subst e2; have := y p (by omega) hsp; omega
              · exact y q (by omega) hsq
            · rintro ⟨x, y⟩; exact ⟨x, fun q hq => y q (by omega)⟩
          rw [this]; simp [hzi, show z < i + 1 by omega]
        · simp [hzi, show ¬ z < i + 1 by omega]
    · by_cases e2 : q = i
      · subst e2; omega
      · exact hmax q (by omega) hsq
theorem lSt_eq {S i L : Nat} {mI : Int32} (h : lSt be S i mI L) (hi : i < 10) (hs : S.testBit i = true) (he : mI = nI (wn be S i)) : lSt be S (i + 1) (nI (wn be S i)) (L ||| onl i) := by
  obtain ⟨rfl, h2⟩ := h
  have hw := wn_le (be := be) S i
  rcases h2 with ⟨a, b⟩ | ⟨p, hp, hsp, e0, hmax⟩
  · exfalso
    rw [a] at he
    have : ∀ k, k < 11 → ¬ (-1 : Int32) = nI k := by decide
    exact this _ (by omega) he
  · have hwp := wn_le (be := be) S p
    rw [e0, nI_eq (by omega) (by omega)] at he
    have mi : ∀ q, q < i + 1 → S.testBit q = true → wn be S q ≤ wn be S i := by
      intro q hq hsq
      by_cases e2 : q = i
      · subst e2; exact Nat.le_refl _
      · have := hmax q (by omega) hsq; omega
    have ei : isL be S (i + 1) i = true := isL_iff.mpr ⟨hs, mi⟩
    refine ⟨?_, Or.inr ⟨i, by omega, hs, rfl, mi⟩⟩
    rw [← col_y hi ei]
    congr 1
    refine set_ext (msk_lt _) (msk_lt _) fun z hz => ?_
    rw [col_t, col_t]
    by_cases hzi : z < i
    · have : isL be S i z = isL be S (i + 1) z := by
        apply Bool.eq_iff_iff.mpr
        rw [isL_iff, isL_iff]
        constructor
        · rintro ⟨x, y⟩
          refine ⟨x, fun q hq hsq => ?_⟩
          by_cases e2 : q = i
          · subst e2; have := y p (by omega) hsp; omega
          · exact y q (by omega) hsq
        · rintro ⟨x, y⟩; exact ⟨x, fun q hq => y q (by omega)⟩
      rw [this]
    · simp [hzi]
theorem lSt_gt {S i L : Nat} {mI : Int32} (h : lSt be S i mI L) (hi : i < 10) (hs : S.testBit i = true) (he : ¬ nI (wn be S i) ≤ mI) : lSt be S (i + 1) (nI (wn be S i)) (onl i) := by
  obtain ⟨rfl, h2⟩ := h
  have hw := wn_le (be := be) S i
  have mlt : ∀ q, q < i → S.testBit q = true → wn be S q < wn be S i := by
    intro q hq hsq
    rcases h2 with ⟨a, b⟩ | ⟨p, hp, hsp, e0, hmax⟩
    · have := b q hq; rw [hsq] at this; cases this
    · have hwp := wn_le (be := be) S p
      rw [e0, nI_leI (by omega) (by omega)] at he
      have := hmax q hq hsq; omega
  have mi : ∀ q, q < i + 1 → S.testBit q = true → wn be S q ≤ wn be S i := by
    intro q hq hsq
    by_cases e2 : q = i
    · subst e2; exact Nat.le_refl _
    · exact Nat.le_of_lt (mlt q (by omega) hsq)
  refine ⟨?_, Or.inr ⟨i, by omega, hs, rfl, mi⟩⟩
  refine set_ext (onl_lt _) (msk_lt _) fun z hz => ?_
  rw [onl_t, col_t, decide_eq_true hi, decide_eq_true hz, Bool.true_and, Bool.true_and]
  by_cases e : z = i
  · subst e; rw [isL_iff.mpr ⟨hs, mi⟩]; simp
  · rw [decide_eq_false (Ne.symm e)]
    symm
    by_cases hzi : z < i
    · have : isL be S (i + 1) z = false := by
        cases e3 : isL be S (i + 1) z with
        | false => rfl
        | true =>
          obtain ⟨x, y⟩ := isL_iff.mp e3
          have := y i (by omega) hs
          have := mlt z hzi x
          omega
      rw [this, Bool.and_false]
    · rw [decide_eq_false (by omega), Bool.false_and]
theorem l_leadersOf (hb : isX0 lay b) (hB : brd D b n be we) (hT : trn n be) {S : Nat} (hS : S < 1024) : ∀ k i mI L, i + k = n → lSt be S i mI L → ∀ Q : Option Value → am_D → Prop, Q (some (.int (nI (ldr n be S)))) D → am_AW lay (d + 1) mX9_leadersOf 7 [.ref b, .int (nI S), .int mI, .int (nI L), .int (nI i), .null] [] D Q := by
  have h10 := hT.2.1
  intro k
  induction k with
  | zero =>
    intro i mI L hi hL Q hQ
    obtain rfl : i = n := by omega
    refine rX9_leadersOf_7 hb ⟨_, c_size hb hB, fun _ => ?_, fun h2 => absurd (nI_le (Nat.le_refl _) (by omega)) h2⟩
    rw [hL.1]; exact hQ
  | succ k ih =>
    intro i mI L hi hL Q hQ
    refine rX9_leadersOf_7 hb ⟨_, c_size hb hB, fun h2 => ?_, fun _ => ⟨_, c_beatenBy hb hB hT (by omega), ?_⟩⟩
    · rw [nI_leI (by omega) (by omega)] at h2; omega
    · rw [nn_and]
      refine ⟨_, c_cnt (and_lt (msk_lt _)), _, c_holds (by omega), ?_⟩
      rw [show cnt (msk (be i) &&& S) = wn be S i from rfl, decide_eq_true (by omega : i < 10), Bool.true_and, nI_add]
      refine ⟨fun h => ih (i + 1) _ _ (by omega) (lSt_no hL (bI_0.mp h)) Q hQ, fun h => ?_⟩
      have hs := bI_n0.mp h
      refine ⟨fun h3 => ih (i + 1) _ _ (by omega) (lSt_lt hL hs h3) Q hQ, fun h3 => ⟨fun h4 => ⟨_, c_only (by omega), ?_⟩, fun h4 => ⟨_, c_only (by omega), ih (i + 1) _ _ (by omega) (lSt_gt hL (by omega) hs h4) Q hQ⟩⟩⟩
      rw [nn_or]
      refine ih (i + 1) _ _ (by omega) (lSt_eq hL (by omega) hs ?_) Q hQ
      exact Int32.le_antisymm (Int32.not_lt.mp h3) h4
theorem c_leadersOf (hb : isX0 lay b) (hB : brd D b n be we) (hT : trn n be) {S : Nat} (hS : S < 1024) : am_MetP lay (d + 1) mX9_leadersOf [.ref b, .int (nI S)] D (nI (ldr n be S)) :=
  eX9_leadersOf hb (l_leadersOf hb hB hT hS n 0 (-1) 0 (by omega) ⟨(col_0 _).symm, Or.inl ⟨rfl, fun q hq => absurd hq (Nat.not_lt_zero q)⟩⟩ _ ⟨rfl, rfl⟩)
/-- one sweep of topOf, from player i on -/
def swp (be : Nat → Nat → Bool) (S : Nat) : Nat → Nat → Nat → Nat
  | 0, _, T => T
  | k + 1, i, T => swp be S k (i + 1) (if S.testBit i = true ∧ msk (be i) &&& T ≠ 0 then T ||| onl i else T)
def swps (n : Nat) (be : Nat → Nat → Bool) (S : Nat) : Nat → Nat → Nat
  | 0, T => T
  | k + 1, T => swps n be S k (swp be S n 0 T)
def topA (n : Nat) (be : Nat → Nat → Bool) (S : Nat) : Nat := swps n be S n (ldr n be S)
theorem l_topOf_19 (hb : isX0 lay b) (hB : brd D b n be we) (hT : trn n be) {S t : Nat} (ht : t < 100) {Q : Option Value → am_D → Prop} : ∀ k i T, i + k = n → T < 1024 → am_AW lay (d + 2) mX9_topOf 8 [.ref b, .int (nI S), .int (nI (swp be S k i T)), .int (nI (t + 1)), .null] [] D Q → am_AW lay (d + 2) mX9_topOf 19 [.ref b, .int (nI S), .int (nI T), .int (nI t), .int (nI i)] [] D Q := by
  have h10 := hT.2.1
  intro k
  induction k with
  | zero =>
    intro i T hi hTl hQ
    obtain rfl : i = n := by omega
    refine rX9_topOf_19 hb ⟨_, c_size hb hB, fun _ => ?_, fun h2 => absurd (nI_le (Nat.le_refl _) (by omega)) h2⟩
    rw [nI_add]; exact hQ
  | succ k ih =>
    intro i T hi hTl hQ
    unfold swp at hQ
    refine rX9_topOf_19 hb ⟨_, c_size hb hB, fun h2 => ?_, fun _ => ⟨_, c_holds (by omega), ?_⟩⟩
    · rw [nI_leI (by omega) (by omega)] at h2; omega
    · rw [decide_eq_true (by omega : i < 10), Bool.true_and, nI_add]
      refine ⟨fun h => ?_, fun h => ⟨_, c_beatenBy hb hB hT (by omega), ?_⟩⟩
      · rw [if_neg (by rw [bI_0.mp h]; simp)] at hQ
        exact ih (i + 1) T (by omega) hTl hQ
      · have hs := bI_n0.mp h
        rw [nn_and]
        have hlt : msk (be i) &&& T < 1024 := and_lt (msk_lt _)
        refine ⟨fun h3 => ?_, fun h3 => ⟨_, c_only (by omega), ?_⟩⟩
        · rw [nI_eq (by omega) (by decide)] at h3
          rw [if_neg (by rw [h3]; simp)] at hQ
          exact ih (i + 1) T (by omega) hTl hQ
        · rw [nI_eq (by omega) (by decide)] at h3
          rw [if_pos ⟨hs, h3⟩] at hQ
          rw [nn_or]
          exact ih (i + 1) _ (by omega) (or_lt hTl (onl_lt _)) hQ
theorem swp_lt {S : Nat} : ∀ k i T, T < 1024 → swp be S k i T < 1024 := by
  intro k
  induction k with
  | zero => intro i T h; exact h
  | succ k ih =>
    intro i T h
    unfold swp
    refine ih _ _ ?_
    split
    · exact or_lt h (onl_lt _)
    · exact h
theorem l_topOf_8 (hb : isX0 lay b) (hB : brd D b n be we) (hT : trn n be) {S : Nat} : ∀ k t T, t + k = n → T < 1024 → ∀ Q : Option Value → am_D → Prop, Q (some (.int (nI (swps n be S k T)))) D → am_AW lay (d + 2) mX9_topOf 8 [.ref b, .int (nI S), .int (nI T), .int (nI t), .null] [] D Q := by
  have h10 := hT.2.1
  intro k
  induction k with
  | zero =>
    intro t T ht hTl Q hQ
    obtain rfl : t = n := by omega
    exact rX9_topOf_8 hb ⟨_, c_size hb hB, fun _ => hQ, fun h2 => absurd (nI_le (Nat.le_refl _) (by omega)) h2⟩
  | succ k ih =>
    intro t T ht hTl Q hQ
    refine rX9_topOf_8 hb ⟨_, c_size hb hB, fun h2 => ?_, fun _ => ?_⟩
    · rw [nI_leI (by omega) (by omega)] at h2; omega
    · exact l_topOf_19 hb hB hT (by omega) n 0 T (by omega) hTl (ih (t + 1) _ (by omega) (swp_lt _ _ _ hTl) Q hQ)
theorem c_topOf (hb : isX0 lay b) (hB : brd D b n be we) (hT : trn n be) {S : Nat} (hS : S < 1024) : am_MetP lay (d + 2) mX9_topOf [.ref b, .int (nI S)] D (nI (topA n be S)) :=
  eX9_topOf hb ⟨_, c_leadersOf hb hB hT hS, l_topOf_8 hb hB hT n 0 _ (by omega) (msk_lt _) _ ⟨rfl, rfl⟩⟩
theorem swps_lt {S : Nat} : ∀ k T, T < 1024 → swps n be S k T < 1024 := by
  intro k
  induction k with
  | zero => intro T h; exact h
  | succ k ih => intro T h; exact ih _ (swp_lt _ _ _ h)
theorem topA_lt (S : Nat) : topA n be S < 1024 := swps_lt _ _ (msk_lt _)
/-- the players left behind k components -/
def lft (n : Nat) (be : Nat → Nat → Bool) : Nat → Nat
  | 0 => ful n
  | k + 1 => mdf (lft n be k) (topA n be (lft n be k))
theorem lft_lt (h : n ≤ 10) : ∀ k, lft n be k < 1024 := by
  intro k
  induction k with
  | zero => exact ful_lt h
  | succ k ih => exact mdf_lt ih
/-- countParts from k components on -/
def cpt (n : Nat) (be : Nat → Nat → Bool) : Nat → Nat → Nat
  | 0, k => k
  | j + 1, k => if lft n be k = 0 then k else cpt n be j (k + 1)
theorem l_countParts (hb : isX0 lay b) (hB : brd D b n be we) (hT : trn n be) : ∀ j k, k + j = 10 → ∀ Q : Option Value → am_D → Prop, Q (some (.int (nI (cpt n be j k)))) D → am_AW lay (d + 3) mX9_countParts 9 [.ref b, .int (nI (lft n be k)), .int (nI k), .int (nI k)] [] D Q := by
  have h10 := hT.2.1
  intro j
  induction j with
  | zero =>
    intro k hk Q hQ
    obtain rfl : k = 10 := by omega
    exact rX9_countParts_9 hb ⟨fun _ => hQ, fun h => absurd (by decide) h⟩
  | succ j ih =>
    intro k hk Q hQ
    have hl := lft_lt (be := be) h10 k
    unfold cpt at hQ
    refine rX9_countParts_9 hb ⟨fun h => ?_, fun _ => ⟨fun h => ?_, fun h => ⟨_, c_topOf hb hB hT hl, ?_⟩⟩⟩
    · rw [nI_leI (by decide) (by omega)] at h; omega
    · rw [nI_eq (by omega) (by decide)] at h
      rw [if_pos h] at hQ; exact hQ
    · rw [nI_eq (by omega) (by decide)] at h
      rw [if_neg h] at hQ
      rw [nn_dif, nI_add]
      exact ih (k + 1) (by omega) Q hQ
theorem c_countParts (hb : isX0 lay b) (hB : brd D b n be we) (hT : trn n be) : am_MetP lay (d + 3) mX9_countParts [.ref b] D (nI (cpt n be 10 0)) := eX9_countParts hb ⟨_, c_everyone hb hB hT, l_countParts hb hB hT 10 0 rfl _ ⟨rfl, rfl⟩⟩
/-- partNumber from k components on -/
def pnm (n : Nat) (be : Nat → Nat → Bool) (p : Nat) : Nat → Nat → Nat
  | 0, k => k
  | j + 1, k => if (lft n be (k + 1)).testBit p then pnm n be p j (k + 1) else k
theorem l_partNumber (hb : isX0 lay b) (hB : brd D b n be we) (hT : trn n be) {p : Nat} (hp : p < 10) : ∀ j k, k + j = 10 → ∀ Q : Option Value → am_D → Prop, Q (some (.int (nI (pnm n be p j k)))) D → am_AW lay (d + 3) mX9_partNumber 21 [.ref b, .int (nI p), .int (nI (lft n be (k + 1))), .int (nI k), .int (nI k)] [] D Q := by
  have h10 := hT.2.1
  intro j
  induction j with
  | zero =>
    intro k hk Q hQ
    obtain rfl : k = 10 := by omega
    exact rX9_partNumber_21 hb ⟨fun _ => hQ, fun h => absurd (by decide) h⟩
  | succ j ih =>
    intro k hk Q hQ
    have hl := lft_lt (be := be) h10 (k + 1)
    unfold pnm at hQ
    refine rX9_partNumber_21 hb ⟨fun h => ?_, fun _ => ⟨_, c_holds (by omega), ?_⟩⟩
    · rw [nI_leI (by decide) (by omega)] at h; omega
    · rw [decide_eq_true hp, Bool.true_and]
      refine ⟨fun h => ?_, fun h => ⟨_, c_topOf hb hB hT hl, ?_⟩⟩
      · rw [bI_0.mp h] at hQ; exact hQ
      · rw [bI_n0.mp h] at hQ
        rw [nn_dif, nI_add]
        exact ih (k + 1) (by omega) Q hQ
theorem c_partNumber (hb : isX0 lay b) (hB : brd D b n be we) (hT : trn n be) {p : Nat} (hp : p < 10) : am_MetP lay (d + 3) mX9_partNumber [.ref b, .int (nI p)] D (nI (pnm n be p 10 0)) := by
  refine eX9_partNumber hb ⟨_, c_everyone hb hB hT, _, c_everyone hb hB hT, _, c_topOf hb hB hT (ful_lt hT.2.1), ?_⟩
  rw [nn_dif]
  exact l_partNumber hb hB hT hp 10 0 rfl _ ⟨rfl, rfl⟩
/-- partWith from k components on -/
def pwt (n : Nat) (be : Nat → Nat → Bool) (p : Nat) : Nat → Nat → Nat
  | 0, k => topA n be (lft n be k)
  | j + 1, k => if (topA n be (lft n be k)).testBit p then topA n be (lft n be k) else if lft n be k = 0 then topA n be (lft n be k) else pwt n be p j (k + 1)
theorem l_partWith (hb : isX0 lay b) (hB : brd D b n be we) (hT : trn n be) {p : Nat} (hp : p < 10) : ∀ j k, k + j = 10 → ∀ Q : Option Value → am_D → Prop, Q (some (.int (nI (pwt n be p j k)))) D → am_AW lay (d + 3) mX9_partWith 14 [.ref b, .int (nI p), .int (nI (lft n be k)), .int (nI (topA n be (lft n be k))), .int (nI k)] [] D Q := by
  have h10 := hT.2.1
  intro j
  induction j with
  | zero =>
    intro k hk Q hQ
    obtain rfl : k = 10 := by omega
    exact rX9_partWith_14 hb ⟨fun _ => hQ, fun h => absurd (by decide) h⟩
  | succ j ih =>
    intro k hk Q hQ
    have hl := lft_lt (be := be) h10 k
    unfold pwt at hQ
    refine rX9_partWith_14 hb ⟨fun h => ?_, fun _ => ⟨_, c_holds (by omega), ?_⟩⟩
    · rw [nI_leI (by decide) (by omega)] at h; omega
    · rw [decide_eq_true hp, Bool.true_and]
      refine ⟨fun h => ?_, fun h => ⟨fun h2 => ?_, fun h2 => ?_⟩⟩
      · rw [bI_n0.mp h] at hQ; exact hQ
      · rw [Classical.not_not] at h
        rw [nI_eq (by omega) (by decide)] at h2
        rw [bI_0.mp h] at hQ
        rw [if_neg (by decide), if_pos h2] at hQ
        exact hQ
      · rw [Classical.not_not] at h
        rw [nI_eq (by omega) (by decide)] at h2
        rw [bI_0.mp h] at hQ
        rw [if_neg (by decide), if_neg h2] at hQ
        rw [nn_dif, nI_add]
        exact ⟨_, c_topOf hb hB hT (mdf_lt hl), ih (k + 1) (by omega) Q hQ⟩
theorem c_partWith (hb : isX0 lay b) (hB : brd D b n be we) (hT : trn n be) {p : Nat} (hp : p < 10) : am_MetP lay (d + 3) mX9_partWith [.ref b, .int (nI p)] D (nI (pwt n be p 10 0)) :=
  eX9_partWith hb ⟨_, c_everyone hb hB hT, _, c_topOf hb hB hT (ful_lt hT.2.1), l_partWith hb hB hT hp 10 0 rfl _ ⟨rfl, rfl⟩⟩
end STR
