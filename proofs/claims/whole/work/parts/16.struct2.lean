/-! Structure: kings and chains -/
/-- p reaches r in at most two steps, the middle one below i -/
def kg1 (be : Nat → Nat → Bool) (p i r : Nat) : Bool := (decide (p = r) || be p r) || (List.range i).any fun q => be p q && be q r
def kingB (n : Nat) (be : Nat → Nat → Bool) (p : Nat) : Bool := (List.range n).all fun r => kg1 be p n r
theorem kg1_s (be : Nat → Nat → Bool) (p i r : Nat) : kg1 be p (i + 1) r = (kg1 be p i r || (be p i && be i r)) := by
  unfold kg1
  rw [List.range_succ, List.any_append]
  simp [Bool.or_assoc]
theorem kg1_ful {n : Nat} {be : Nat → Nat → Bool} (hT : trn n be) {p : Nat} (hp : p < n) : msk (kg1 be p n) = ful n ↔ kingB n be p = true := by
  have h10 := hT.2.1
  constructor
  · intro h
    unfold kingB
    rw [List.all_eq_true]
    intro r hr
    have hr := List.mem_range.mp hr
    have := congrArg (fun s => s.testBit r) h
    simp only [msk_t, ful_t] at this
    rw [decide_eq_true hr, decide_eq_true (by omega : r < 10)] at this
    simpa using this
  · intro h
    unfold kingB at h
    rw [List.all_eq_true] at h
    refine set_ext (msk_lt _) (ful_lt h10) fun r hr => ?_
    rw [msk_t, ful_t, decide_eq_true hr, Bool.true_and]
    by_cases hrn : r < n
    · rw [h r (List.mem_range.mpr hrn), decide_eq_true hrn]
    · rw [decide_eq_false hrn]
      unfold kg1
      rw [hT.out2 hrn, decide_eq_false (by omega : ¬ p = r)]
      rw [Bool.or_false, Bool.false_or]
      rw [List.any_eq_false]
      intro q _
      rw [hT.out2 hrn]; simp
section ST2
variable {lay : List am_L} {d : Nat} {D : am_D} {b n : Nat} {be : Nat → Nat → Bool} {we : Nat → Nat → Nat}
theorem l_isKing (hb : isX0 lay b) (hB : brd D b n be we) (hT : trn n be) {p : Nat} (hp : p < n) : ∀ k i, i + k = n → ∀ Q : Option Value → am_D → Prop, Q (some (.int (bI (kingB n be p)))) D → am_AW lay (d + 2) mX9_isKing 13 [.ref b, .int (nI p), .int (nI (msk (kg1 be p i))), .int (nI i)] [] D Q := by
  have h10 := hT.2.1
  intro k
  induction k with
  | zero =>
    intro i hi Q hQ
    obtain rfl : i = n := by omega
    have hk := kg1_ful hT hp
    have h1 : msk (kg1 be p i) < 2 ^ 31 := Nat.lt_trans (msk_lt _) (by decide)
    have h2 : ful i < 2 ^ 31 := Nat.lt_trans (ful_lt h10) (by decide)
    refine rX9_isKing_13 hb ⟨_, c_size hb hB, fun _ => ⟨_, c_everyone hb hB hT, fun h => ?_, fun h => ?_⟩, fun h2 => absurd (nI_le (Nat.le_refl _) (by omega)) h2⟩
    · rw [nI_eq h1 h2, hk] at h
      rw [Bool.not_eq_true] at h
      rw [h] at hQ; exact hQ
    · rw [Classical.not_not, nI_eq h1 h2, hk] at h
      rw [h] at hQ; exact hQ
  | succ k ih =>
    intro i hi Q hQ
    refine rX9_isKing_13 hb ⟨_, c_size hb hB, fun h2 => ?_, fun _ => ⟨_, c_wins hb hB hT (by omega) (by omega), fun h => ?_, fun h => ⟨_, c_beatenBy hb hB hT (by omega), ?_⟩⟩⟩
    · rw [nI_leI (by omega) (by omega)] at h2; omega
    · have e : kg1 be p (i + 1) = kg1 be p i := by funext r; rw [kg1_s, bI_0.mp h]; simp
      have := ih (i + 1) (by omega) Q hQ
      rw [e] at this
      rw [nI_add]; exact this
    · have e : msk (kg1 be p i) ||| msk (be i) = msk (kg1 be p (i + 1)) := by
        refine set_ext (or_lt (msk_lt _) (msk_lt _)) (msk_lt _) fun r hr => ?_
        rw [Nat.testBit_or, msk_t, msk_t, msk_t, kg1_s, bI_n0.mp h, decide_eq_true hr]; simp
      rw [nn_or, e, nI_add]
      exact ih (i + 1) (by omega) Q hQ
theorem c_isKing (hb : isX0 lay b) (hB : brd D b n be we) (hT : trn n be) {p : Nat} (hp : p < n) : am_MetP lay (d + 2) mX9_isKing [.ref b, .int (nI p)] D (bI (kingB n be p)) := by
  have h10 := hT.2.1
  have e : onl p ||| msk (be p) = msk (kg1 be p 0) := by
    refine set_ext (or_lt (onl_lt _) (msk_lt _)) (msk_lt _) fun r hr => ?_
    rw [Nat.testBit_or, msk_t, msk_t, onl_t, decide_eq_true hr, decide_eq_true (by omega : p < 10)]; simp [kg1]
  refine eX9_isKing hb ⟨_, c_only (by omega), _, c_beatenBy hb hB hT (by omega), ?_⟩
  rw [nn_or, e]
  exact l_isKing hb hB hT hp n 0 (by omega) _ ⟨rfl, rfl⟩
theorem l_kingsOf (hb : isX0 lay b) (hB : brd D b n be we) (hT : trn n be) : ∀ k i, i + k = n → ∀ Q : Option Value → am_D → Prop, Q (some (.int (nI (col (kingB n be) n)))) D → am_AW lay (d + 3) mX9_kingsOf 4 [.ref b, .int (nI (col (kingB n be) i)), .int (nI i)] [] D Q := by
  have h10 := hT.2.1
  intro k
  induction k with
  | zero =>
    intro i hi Q hQ
    obtain rfl : i = n := by omega
    exact rX9_kingsOf_4 hb ⟨_, c_size hb hB, fun _ => hQ, fun h2 => absurd (nI_le (Nat.le_refl _) (by omega)) h2⟩
  | succ k ih =>
    intro i hi Q hQ
    refine rX9_kingsOf_4 hb ⟨_, c_size hb hB, fun h2 => ?_, fun _ => ⟨_, c_isKing hb hB hT (by omega), fun h => ?_, fun h => ⟨_, c_only (by omega), ?_⟩⟩⟩
    · rw [nI_leI (by omega) (by omega)] at h2; omega
    · rw [col_n (bI_0.mp h), nI_add]; exact ih (i + 1) (by omega) Q hQ
    · rw [nn_or, col_y (by omega) (bI_n0.mp h), nI_add]; exact ih (i + 1) (by omega) Q hQ
theorem c_kingsOf (hb : isX0 lay b) (hB : brd D b n be we) (hT : trn n be) : am_MetP lay (d + 3) mX9_kingsOf [.ref b] D (nI (col (kingB n be) n)) := by
  have := l_kingsOf (d := d) hb hB hT n 0 (by omega) (fun r D1 => r = some (.int (nI (col (kingB n be) n))) ∧ D1 = D) ⟨rfl, rfl⟩
  rw [col_0] at this
  exact eX9_kingsOf hb this
/-- the tops above a chain whose first one is given, and whose extenders are E -/
def orL (f : Nat → Nat) : Nat → Nat
  | 0 => 0
  | i + 1 => orL f i ||| f i
def bset (be : Nat → Nat → Bool) (p : Nat) : Nat := msk fun q => be q p
def tab (n : Nat) (be : Nat → Nat → Bool) : Nat → Nat → Nat → Nat
  | 0, p, E => if E = 0 then onl p else 0
  | j + 1, p, E => if E = 0 then onl p else orL (fun q => if E.testBit q then tab n be j q (E &&& bset be q) else 0) n
theorem orL_lt {f : Nat → Nat} (h : ∀ q, f q < 1024) : ∀ i, orL f i < 1024 := by
  intro i
  induction i with
  | zero => exact (by decide : 0 < 1024)
  | succ i ih => exact or_lt ih (h i)
theorem tab_lt : ∀ j p E, tab n be j p E < 1024 := by
  intro j
  induction j with
  | zero => intro p E; unfold tab; split; exact onl_lt _; decide
  | succ j ih =>
    intro p E
    unfold tab
    split
    · exact onl_lt _
    · refine orL_lt (fun q => ?_) n
      split
      · exact ih _ _
      · decide
theorem c_topsAbove (hb : isX0 lay b) (hB : brd D b n be we) (hT : trn n be) : ∀ j p E, j ≤ 10 → p < 10 → E < 1024 → am_MetP lay (d + 2 + j) mX9_topsAbove [.ref b, .int (nI p), .int (nI E), .int (nI (10 - j))] D (nI (tab n be j p E)) := by
  have h10 := hT.2.1
  intro j
  induction j with
  | zero =>
    intro p E _ hp hE
    refine eX9_topsAbove hb ⟨fun h => ⟨fun h2 => absurd h h2, fun _ => ⟨_, c_only (by omega), ?_⟩⟩, fun h => ⟨fun h2 => absurd h2 (by decide), fun _ => ⟨fun _ => ?_, fun h2 => absurd h h2⟩⟩⟩
    · rw [nI_eq (by omega) (by decide)] at h
      unfold tab; rw [if_pos h]; exact ⟨rfl, rfl⟩
    · rw [nI_eq (by omega) (by decide)] at h
      unfold tab; rw [if_neg h]; exact ⟨rfl, rfl⟩
  | succ j ih =>
    intro p E hj hp hE
    refine eX9_topsAbove (d := d + 2 + j) hb ⟨fun h => ⟨fun h2 => absurd h h2, fun _ => ⟨_, c_only (by omega), ?_⟩⟩, fun h => ⟨fun _ => ?_, fun h2 => absurd ((nI_ltI (by omega) (by decide)).mpr (by omega)) h2⟩⟩
    · rw [nI_eq (by omega) (by decide)] at h
      unfold tab; rw [if_pos h]; exact ⟨rfl, rfl⟩
    · rw [nI_eq (by omega) (by decide)] at h
      have loop : ∀ k i, i + k = n → ∀ Q : Option Value → am_D → Prop, Q (some (.int (nI (tab n be (j + 1) p E)))) D → am_AW lay (d + 2 + j + 1) mX9_topsAbove 29 [.ref b, .int (nI p), .int (nI E), .int (nI (10 - (j + 1))), .int (nI (orL (fun q => if E.testBit q then tab n be j q (E &&& bset be q) else 0) i)), .int (nI i)] [] D Q := by
        intro k
        induction k with
        | zero =>
          intro i hi Q hQ
          obtain rfl : i = n := by omega
          refine rX9_topsAbove_29 hb ⟨_, c_size hb hB, fun _ => ?_, fun h2 => absurd (nI_le (Nat.le_refl _) (by omega)) h2⟩
          unfold tab at hQ; rw [if_neg h] at hQ; exact hQ
        | succ k ihk =>
          intro i hi Q hQ
          have hnx := ihk (i + 1) (by omega) Q hQ
          refine rX9_topsAbove_29 hb ⟨_, c_size hb hB, fun h2 => ?_, fun _ => ⟨_, c_holds (by omega), fun h2 => ?_, fun h2 => ?_⟩⟩
          · rw [nI_leI (by omega) (by omega)] at h2; omega
          · rw [decide_eq_true (by omega : i < 10), Bool.true_and] at h2
            have e : orL (fun q => if E.testBit q then tab n be j q (E &&& bset be q) else 0) (i + 1) = orL (fun q => if E.testBit q then tab n be j q (E &&& bset be q) else 0) i := by
              show _ ||| (if E.testBit i then _ else 0) = _
              rw [bI_0.mp h2]; simp
            rw [e] at hnx
            rw [nI_add]; exact hnx
          · rw [decide_eq_true (by omega : i < 10), Bool.true_and] at h2
            have hbs := c_beatersOf (d := d + 1 + j) hb hB hT (p := i) (by omega)
            rw [show d + 1 + j + 1 = d + 2 + j by omega] at hbs
            have hrec : am_MetP lay (d + 2 + j) mX9_topsAbove [.ref b, .int (nI i), .int (nI E &&& nI (bset be i)), .int (nI (10 - (j + 1)) + nI 1)] D (nI (tab n be j i (E &&& bset be i))) := by
              rw [nn_and, nI_add, show 10 - (j + 1) + 1 = 10 - j by omega]
              exact ih i (E &&& bset be i) (by omega) (by omega) (and_lt hE)
            refine ⟨_, hbs, _, hrec, ?_⟩
            have e : orL (fun q => if E.testBit q then tab n be j q (E &&& bset be q) else 0) (i + 1) = orL (fun q => if E.testBit q then tab n be j q (E &&& bset be q) else 0) i ||| tab n be j i (E &&& bset be i) := by
              show _ ||| (if E.testBit i then _ else 0) = _
              rw [bI_n0.mp h2, if_pos rfl]
            rw [nn_or, ← e, nI_add]; exact hnx
      exact loop n 0 (by omega) _ ⟨rfl, rfl⟩
theorem l_chainTops (hb : isX0 lay b) (hB : brd D b n be we) (hT : trn n be) : ∀ k i, i + k = n → ∀ Q : Option Value → am_D → Prop, Q (some (.int (nI (orL (fun p => tab n be 9 p (bset be p)) n)))) D → am_AW lay (d + 12) mX9_chainTopsOf 4 [.ref b, .int (nI (orL (fun p => tab n be 9 p (bset be p)) i)), .int (nI i)] [] D Q := by
  have h10 := hT.2.1
  intro k
  induction k with
  | zero =>
    intro i hi Q hQ
    obtain rfl : i = n := by omega
    exact rX9_chainTopsOf_4 hb ⟨_, c_size hb hB, fun _ => hQ, fun h2 => absurd (nI_le (Nat.le_refl _) (by omega)) h2⟩
  | succ k ih =>
    intro i hi Q hQ
    refine rX9_chainTopsOf_4 hb ⟨_, c_size hb hB, fun h2 => ?_, fun _ => ⟨_, c_beatersOf hb hB hT (by omega), _, c_topsAbove (d := d) hb hB hT 9 i _ (by omega) (by omega) (msk_lt _), ?_⟩⟩
    · rw [nI_leI (by omega) (by omega)] at h2; omega
    · rw [nn_or, nI_add]; exact ih (i + 1) (by omega) Q hQ
def chT (n : Nat) (be : Nat → Nat → Bool) : Nat := orL (fun p => tab n be 9 p (bset be p)) n
theorem c_chainTopsOf (hb : isX0 lay b) (hB : brd D b n be we) (hT : trn n be) : am_MetP lay (d + 12) mX9_chainTopsOf [.ref b] D (nI (chT n be)) := eX9_chainTopsOf hb (l_chainTops hb hB hT n 0 (by omega) _ ⟨rfl, rfl⟩)
end ST2
