/-! the model: steps, distance, a path reversed -/
theorem wlk_dsk {n : Nat} {be : Nat → Nat → Bool} {p q : Nat} : ∀ k, k < n → wlk be k p q → ∃ j, j ≤ k ∧ dsk n be p q j := by
  intro k
  induction k using Nat.strongRecOn with
  | _ k ih =>
    intro hk hw
    by_cases h : ∃ j, j < k ∧ wlk be j p q
    · obtain ⟨j, h1, h2⟩ := h
      obtain ⟨i, h3, h4⟩ := ih j h1 (by omega) h2
      exact ⟨i, by omega, h4⟩
    · exact ⟨k, Nat.le_refl _, hk, hw, fun j hj hw2 => h ⟨j, hj, hw2⟩⟩
theorem dsk_up {n : Nat} {be : Nat → Nat → Bool} {p q z r : Nat} (hr : r + 1 < n) (hb : be p z = true) (hz : dsk n be z q r) (hno : ∀ k, k < r + 1 → ¬ dsk n be p q k) : dsk n be p q (r + 1) := by
  refine ⟨hr, ⟨z, hb, hz.2.1⟩, fun j hj hw => ?_⟩
  obtain ⟨i, h1, h2⟩ := wlk_dsk (n := n) j (by omega) hw
  exact hno i (by omega) h2
/-- what steps hold of p when the rounds below r are through -/
def stI1 (D : am_D) (o n : Nat) (be : Nat → Nat → Bool) (to r p : Nat) : Prop := (∃ k, k < r ∧ dsk n be p to k ∧ D (o + 9) p = nI k) ∨ ((∀ k, k < r → ¬ dsk n be p to k) ∧ D (o + 9) p = -4)
theorem m4_ne {k : Nat} (h : k < 2 ^ 31) : ¬ (-4 : Int32) = nI k := fun e => nI_m4 h e.symm
theorem m4_neg : (-4 : Int32) < nI 0 := by decide
theorem stI1.eq {D : am_D} {o n to r p k : Nat} {be : Nat → Nat → Bool} (h : stI1 D o n be to r p) (hr : r ≤ n) (hn : n ≤ 10) (hk : k < r) : D (o + 9) p = nI k ↔ dsk n be p to k := by
  rcases h with ⟨j, h1, h2, h3⟩ | ⟨h1, h2⟩
  · rw [h3, nI_eq (by omega) (by omega)]
    constructor
    · rintro rfl; exact h2
    · intro h; exact dsk_uniq h2 h
  · rw [h2]
    exact ⟨fun e => absurd e (m4_ne (by omega)), fun e => absurd e (h1 k hk)⟩
theorem stI1.next {D : am_D} {o n to r p : Nat} {be : Nat → Nat → Bool} (h : stI1 D o n be to r p) (hr : ¬ dsk n be p to r ∨ ∃ k, k < r ∧ dsk n be p to k) : stI1 D o n be to (r + 1) p := by
  rcases h with ⟨j, h1, h2, h3⟩ | ⟨h1, h2⟩
  · exact Or.inl ⟨j, by omega, h2, h3⟩
  · rcases hr with hr | ⟨k, h3, h4⟩
    · refine Or.inr ⟨fun k hk => ?_, h2⟩
      by_cases e : k = r
      · rw [e]; exact hr
      · exact h1 k (by omega)
    · exact absurd h4 (h1 k h3)
section MO5
variable {lay : List am_L} {d : Nat} {D : am_D} {o n : Nat} {be : Nat → Nat → Bool} {we : Nat → Nat → Nat} {T T' : am_T} {H : List am_T} {s t : List Nat}
theorem l_st56 (ho : isX11 lay o) (hT : trn n be) {to r p : Nat} (hr : 1 ≤ r) (hrn : r < n) (hp : p < n) : ∀ i, i ≤ n → ∀ D, mrow (D (o + 1)) (n, be, we) → (∀ q, q < n → q ≠ p → ∃ rr, r ≤ rr ∧ rr ≤ r + 1 ∧ stI1 D o n be to rr q) → ((stI1 D o n be to r p ∧ ((∃ k, k < r ∧ dsk n be p to k) ∨ ∀ z, z < i → ¬ (be p z = true ∧ dsk n be z to (r - 1)))) ∨ (dsk n be p to r ∧ D (o + 9) p = nI r)) →
    ∃ D1, stI1 D1 o n be to (r + 1) p ∧ (∀ q, q ≠ o + 9 → D1 q = D q) ∧ (∀ q, q ≠ p → D1 (o + 9) q = D (o + 9) q) ∧ ∀ Q : Option Value → am_D → Prop, am_AW lay (d + 2) mX11_stepsTo 45 [.ref o, .int (nI to), .int (nI r), .int (nI (p + 1)), .null] [] D1 Q → am_AW lay (d + 2) mX11_stepsTo 56 [.ref o, .int (nI to), .int (nI r), .int (nI p), .int (nI i)] [] D Q := by
  have h10 := hT.2.1
  have done : ∀ D, ((stI1 D o n be to r p ∧ ((∃ k, k < r ∧ dsk n be p to k) ∨ ∀ z, z < n → ¬ (be p z = true ∧ dsk n be z to (r - 1)))) ∨ (dsk n be p to r ∧ D (o + 9) p = nI r)) → stI1 D o n be to (r + 1) p := by
    intro D h
    rcases h with ⟨h1, h2⟩ | ⟨h1, h2⟩
    · rcases h2 with h2 | h2
      · exact h1.next (Or.inr h2)
      · refine h1.next (Or.inl fun c => ?_)
        have e : r = r - 1 + 1 := by omega
        rw [e] at c
        obtain ⟨z, c1, c2⟩ := dsk_step c
        exact h2 z (hT.2.2.1 _ _ c1).2.1 ⟨c1, c2⟩
    · exact Or.inl ⟨r, by omega, h1, h2⟩
  refine up_loop ?_ fun i hi ih => ?_
  · intro D hB hO hP
    refine ⟨D, done D hP, fun _ _ => rfl, fun _ _ => rfl, fun Q hQ => rX11_stepsTo_56 ho ⟨_, k_n ho hB, fun _ => ?_, fun h => absurd (nI_le (Nat.le_refl _) (by omega)) h⟩⟩
    rw [nI_add]; exact hQ
  · intro D hB hO hP
    -- is p settled?
    by_cases hset : (∃ k, k < r ∧ dsk n be p to k) ∨ dsk n be p to r ∧ D (o + 9) p = nI r
    · have h0 : nI 0 ≤ D (o + 9) p := by
        rcases hP with ⟨h1, -⟩ | ⟨-, h2⟩
        · rcases h1 with ⟨k, a, b, c⟩ | ⟨a, b⟩
          · rw [c]; exact nI_le (Nat.zero_le _) (by omega)
          · rcases hset with ⟨k, c1, c2⟩ | ⟨-, c⟩
            · exact absurd c2 (a k c1)
            · rw [c]; exact nI_le (Nat.zero_le _) (by omega)
        · rw [h2]; exact nI_le (Nat.zero_le _) (by omega)
      have hP2 : stI1 D o n be to (r + 1) p := done D (by
        rcases hP with ⟨h1, -⟩ | h2
        · rcases hset with c | c
          · exact Or.inl ⟨h1, Or.inl c⟩
          · exact Or.inr c
        · exact Or.inr h2)
      refine ⟨D, hP2, fun _ _ => rfl, fun _ _ => rfl, fun Q hQ => rX11_stepsTo_56 ho ⟨_, k_n ho hB, fun h => absurd h (ge_no hi (by omega)), fun _ => ?_⟩⟩
      rw [nI_clamp (by omega)]
      refine ⟨vp_in_nI (by omega) (by decide), fun _ => ?_, fun c => absurd h0 c⟩
      rw [nI_add]; exact hQ
    · have hA : stI1 D o n be to r p ∧ ∀ z, z < i → ¬ (be p z = true ∧ dsk n be z to (r - 1)) := by
        rcases hP with ⟨h1, h2 | h2⟩ | h2
        · exact absurd (Or.inl h2) hset
        · exact ⟨h1, h2⟩
        · exact absurd (Or.inr h2) hset
      obtain ⟨hA1, hA2⟩ := hA
      have hv : D (o + 9) p = -4 := by
        rcases hA1 with ⟨k, a, b, c⟩ | ⟨a, b⟩
        · exact absurd (Or.inl ⟨k, a, b⟩) hset
        · exact b
      have hno : ∀ k, k < r → ¬ dsk n be p to k := fun k hk c => hset (Or.inl ⟨k, hk, c⟩)
      have hq : ∀ q, q < n → (D (o + 9) q = nI (r - 1) ↔ dsk n be q to (r - 1)) := by
        intro q hq
        by_cases e : q = p
        · rw [e]; exact hA1.eq (by omega) h10 (by omega)
        · obtain ⟨rr, a, b, c⟩ := hO q hq e
          by_cases e2 : rr ≤ n
          · exact c.eq e2 h10 (by omega)
          · omega
      have same : am_up D (o + 9) p (D (o + 9) p) = D := by
        funext q k
        unfold am_up
        by_cases c : q = o + 9 ∧ k = p
        · rw [if_pos c, c.1, c.2]
        · rw [if_neg c]
      by_cases hz : be p i = true ∧ dsk n be i to (r - 1)
      · have hd : dsk n be p to r := by
          have e : r = r - 1 + 1 := by omega
          rw [e]; exact dsk_up (by omega) hz.1 hz.2 (by rw [← e]; exact hno)
        have hB1 : mrow (am_up D (o + 9) p (nI r) (o + 1)) (n, be, we) := by rw [am_up_ne (o + 1) (by omega)]; exact hB
        obtain ⟨D1, g1, g2, g3, g4⟩ := ih (am_up D (o + 9) p (nI r)) hB1 (fun q hq hne => by
          obtain ⟨rr, a, b, c⟩ := hO q hq hne
          refine ⟨rr, a, b, ?_⟩
          unfold stI1
          rw [am_upI, if_neg hne]; exact c) (Or.inr ⟨hd, by rw [am_upI, if_pos rfl]⟩)
        refine ⟨D1, g1, fun q hq => by rw [g2 q hq, am_up_ne q hq], fun q hq => by rw [g3 q hq, am_upI, if_neg hq], fun Q hQ => rX11_stepsTo_56 ho ⟨_, k_n ho hB, fun h => absurd h (ge_no hi (by omega)), fun _ => ?_⟩⟩
        rw [nI_clamp (by omega), nI_clamp (by omega), nn_sub hr]
        refine ⟨vp_in_nI (by omega) (by decide), fun c => ?_, fun _ => ⟨vp_in_nI (by omega) (by decide), fun c => absurd ((hq i hi).mpr hz.2) c, fun _ => ⟨_, k_beats1 ho hB hT (by omega) (by omega), fun c => ?_, fun _ => ⟨vp_in_nI (by omega) (by decide), ?_⟩⟩⟩⟩
        · rw [hv] at c; exact absurd c (by decide)
        · rw [hz.1] at c; exact absurd c (by decide)
        · rintro D5 rfl
          rw [nI_add]; exact g4 Q hQ
      · obtain ⟨D1, g1, g2, g3, g4⟩ := ih D hB hO (Or.inl ⟨hA1, Or.inr fun z hz2 => by
          by_cases e : z = i
          · rw [e]; exact hz
          · exact hA2 z (by omega)⟩)
        refine ⟨D1, g1, g2, g3, fun Q hQ => rX11_stepsTo_56 ho ⟨_, k_n ho hB, fun h => absurd h (ge_no hi (by omega)), fun _ => ?_⟩⟩
        rw [nI_clamp (by omega), nI_clamp (by omega), nn_sub hr]
        refine ⟨vp_in_nI (by omega) (by decide), fun c => ?_, fun _ => ⟨vp_in_nI (by omega) (by decide), fun _ => ⟨vp_in_nI (by omega) (by decide), vp_in_nI (by omega) (by decide), ?_⟩, fun c => ⟨_, k_beats1 ho hB hT (by omega) (by omega), fun _ => ⟨vp_in_nI (by omega) (by decide), vp_in_nI (by omega) (by decide), ?_⟩, fun c2 => ?_⟩⟩⟩
        · rw [hv] at c; exact absurd c (by decide)
        · rintro D5 rfl
          rw [same, nI_add]; exact g4 Q hQ
        · rintro D5 rfl
          rw [same, nI_add]; exact g4 Q hQ
        · rw [Classical.not_not] at c
          exact absurd ⟨bI_n0.mp c2, (hq i hi).mp c⟩ hz
theorem l_st45 (ho : isX11 lay o) (hT : trn n be) {to r : Nat} (hr : 1 ≤ r) (hrn : r < n) : ∀ i, i ≤ n → ∀ D, mrow (D (o + 1)) (n, be, we) → (∀ p, p < n → stI1 D o n be to (if p < i then r + 1 else r) p) →
    ∃ D1, (∀ p, p < n → stI1 D1 o n be to (r + 1) p) ∧ (∀ q, q ≠ o + 9 → D1 q = D q) ∧ ∀ Q : Option Value → am_D → Prop, am_AW lay (d + 2) mX11_stepsTo 35 [.ref o, .int (nI to), .int (nI (r + 1)), .null, .null] [] D1 Q → am_AW lay (d + 2) mX11_stepsTo 45 [.ref o, .int (nI to), .int (nI r), .int (nI i), .null] [] D Q := by
  have h10 := hT.2.1
  refine up_loop ?_ fun i hi ih => ?_
  · intro D hB hP
    refine ⟨D, fun p hp => by have := hP p hp; rw [if_pos hp] at this; exact this, fun _ _ => rfl, fun Q hQ => rX11_stepsTo_45 ho ⟨_, k_n ho hB, fun _ => ?_, fun h => absurd (nI_le (Nat.le_refl _) (by omega)) h⟩⟩
    rw [nI_add]; exact hQ
  · intro D hB hP
    have hi0 := hP i hi
    rw [if_neg (Nat.lt_irrefl i)] at hi0
    obtain ⟨D2, g1, g2, g3, g4⟩ := l_st56 (d := d) (to := to) ho hT hr hrn hi 0 (Nat.zero_le _) D hB (fun q hq hne => by
      have := hP q hq
      by_cases c : q < i
      · rw [if_pos c] at this; exact ⟨r + 1, by omega, by omega, this⟩
      · rw [if_neg c] at this; exact ⟨r, by omega, by omega, this⟩) (Or.inl ⟨hi0, Or.inr fun z hz => absurd hz (Nat.not_lt_zero z)⟩)
    have hB2 : mrow (D2 (o + 1)) (n, be, we) := by rw [g2 (o + 1) (by omega)]; exact hB
    obtain ⟨D1, j1, j2, j3⟩ := ih D2 hB2 (fun p hp => by
      by_cases e : p = i
      · rw [e, if_pos (by omega)]; exact g1
      · have := hP p hp
        unfold stI1
        rw [g3 p e]
        by_cases c : p < i
        · rw [if_pos c] at this; rw [if_pos (by omega)]; exact this
        · rw [if_neg c] at this; rw [if_neg (by omega)]; exact this)
    exact ⟨D1, j1, fun q hq => by rw [j2 q hq, g2 q hq], fun Q hQ => rX11_stepsTo_45 ho ⟨_, k_n ho hB, fun h => absurd h (ge_no hi (by omega)), fun _ => g4 Q (j3 Q hQ)⟩⟩
theorem l_st35 (ho : isX11 lay o) (hT : trn n be) {to : Nat} : ∀ r, r ≤ n → 1 ≤ r → ∀ D, mrow (D (o + 1)) (n, be, we) → (∀ p, p < n → stI1 D o n be to r p) →
    ∃ D1, (∀ p, p < n → stI1 D1 o n be to n p) ∧ (∀ q, q ≠ o + 9 → D1 q = D q) ∧ ∀ Q : Option Value → am_D → Prop, Q none D1 → am_AW lay (d + 2) mX11_stepsTo 35 [.ref o, .int (nI to), .int (nI r), .null, .null] [] D Q := by
  have h10 := hT.2.1
  refine up_loop ?_ fun r hr ih => ?_
  · intro _ D hB hP
    exact ⟨D, hP, fun _ _ => rfl, fun Q hQ => rX11_stepsTo_35 ho ⟨_, k_n ho hB, fun _ => hQ, fun h => absurd (nI_le (Nat.le_refl _) (by omega)) h⟩⟩
  · intro h1 D hB hP
    obtain ⟨D2, g1, g2, g3⟩ := l_st45 (d := d) (to := to) ho hT h1 hr 0 (Nat.zero_le _) D hB (fun p hp => by rw [if_neg (Nat.not_lt_zero p)]; exact hP p hp)
    have hB2 : mrow (D2 (o + 1)) (n, be, we) := by rw [g2 (o + 1) (by omega)]; exact hB
    obtain ⟨D1, j1, j2, j3⟩ := ih (by omega) D2 hB2 g1
    exact ⟨D1, j1, fun q hq => by rw [j2 q hq, g2 q hq], fun Q hQ => rX11_stepsTo_35 ho ⟨_, k_n ho hB, fun h => absurd h (ge_no hr (by omega)), fun _ => g3 Q (j3 Q hQ)⟩⟩
theorem l_st2 (ho : isX11 lay o) (hT : trn n be) {to : Nat} (hto : to < n) : ∀ i, i ≤ n → ∀ D, mrow (D (o + 1)) (n, be, we) → (∀ p, p < i → stI1 D o n be to 1 p) →
    ∃ D1, (∀ p, p < n → stI1 D1 o n be to n p) ∧ (∀ q, q ≠ o + 9 → D1 q = D q) ∧ ∀ Q : Option Value → am_D → Prop, Q none D1 → am_AW lay (d + 2) mX11_stepsTo 2 [.ref o, .int (nI to), .int (nI i), .null, .null] [] D Q := by
  have h10 := hT.2.1
  have h2 := hT.1
  refine up_loop ?_ fun i hi ih => ?_
  · intro D hB hP
    obtain ⟨D1, g1, g2, g3⟩ := l_st35 (d := d) (to := to) ho hT 1 (by omega) (Nat.le_refl _) D hB hP
    exact ⟨D1, g1, g2, fun Q hQ => rX11_stepsTo_2 ho ⟨_, k_n ho hB, fun _ => g3 Q hQ, fun h => absurd (nI_le (Nat.le_refl _) (by omega)) h⟩⟩
  · intro D hB hP
    by_cases e : i = to
    · have hB2 : mrow (am_up D (o + 9) i (nI 0) (o + 1)) (n, be, we) := by rw [am_up_ne (o + 1) (by omega)]; exact hB
      obtain ⟨D1, g1, g2, g3⟩ := ih (am_up D (o + 9) i (nI 0)) hB2 (fun p hp => by
        unfold stI1
        rw [am_upI]
        by_cases c : p = i
        · rw [if_pos c]
          exact Or.inl ⟨0, by omega, ⟨by omega, by rw [c, e]; rfl, fun j hj => absurd hj (Nat.not_lt_zero j)⟩, rfl⟩
        · rw [if_neg c]; exact hP p (by omega))
      refine ⟨D1, g1, fun q hq => by rw [g2 q hq, am_up_ne q hq], fun Q hQ => rX11_stepsTo_2 ho ⟨_, k_n ho hB, fun h => absurd h (ge_no hi (by omega)), fun _ => ⟨fun c => ?_, fun _ => ⟨vp_in_nI (by omega) (by decide), ?_⟩⟩⟩⟩
      · exact absurd (by rw [e]) c
      · rintro D5 rfl
        rw [nI_clamp (by omega), nI_add]; exact g3 Q hQ
    · have hB2 : mrow (am_up D (o + 9) i (-4) (o + 1)) (n, be, we) := by rw [am_up_ne (o + 1) (by omega)]; exact hB
      obtain ⟨D1, g1, g2, g3⟩ := ih (am_up D (o + 9) i (-4)) hB2 (fun p hp => by
        unfold stI1
        rw [am_upI]
        by_cases c : p = i
        · rw [if_pos c]
          refine Or.inr ⟨fun k hk c2 => ?_, rfl⟩
          have : k = 0 := by omega
          rw [this] at c2
          exact e (by rw [← c]; exact dsk_0 c2)
        · rw [if_neg c]; exact hP p (by omega))
      refine ⟨D1, g1, fun q hq => by rw [g2 q hq, am_up_ne q hq], fun Q hQ => rX11_stepsTo_2 ho ⟨_, k_n ho hB, fun h => absurd h (ge_no hi (by omega)), fun _ => ⟨fun _ => ⟨vp_in_nI (by omega) (by decide), ?_⟩, fun c => ?_⟩⟩⟩
      · rintro D5 rfl
        rw [nI_clamp (by omega), nI_add]; exact g3 Q hQ
      · rw [Classical.not_not, nI_eq (by omega) (by omega)] at c; exact absurd c e
theorem k_stepsTo (ho : isX11 lay o) (hB : mrow (D (o + 1)) (n, be, we)) (hT : trn n be) {to : Nat} (hto : to < n) : ∃ D1, am_MetV lay (d + 2) mX11_stepsTo [.ref o, .int (nI to)] D D1 ∧ (∀ p, p < n → D1 (o + 9) p = dst n be p to) ∧ ∀ q, q ≠ o + 9 → D1 q = D q := by
  obtain ⟨D1, g1, g2, g3⟩ := l_st2 (d := d) ho hT hto 0 (Nat.zero_le _) D hB (fun p hp => absurd hp (Nat.not_lt_zero p))
  refine ⟨D1, eX11_stepsTo ho (g3 _ ⟨rfl, rfl⟩), fun p hp => ?_, g2⟩
  rcases g1 p hp with ⟨k, -, a, b⟩ | ⟨a, b⟩
  · rw [b, dst_of a]
  · rw [b, dst_no]
    intro k hk hw
    obtain ⟨j, c1, c2⟩ := wlk_dsk k hk hw
    exact a j (by omega) c2
theorem m_distance (ho : isX11 lay o) (h : RM D o (T, T', H, s, t)) (hT : okT T) (v w : Int32) : (isP T.1 v = false ∨ isP T.1 w = false → am_MetI lay (d + 3) mX11_distance [.ref o, .int v, .int w] D (-1) D) ∧ ∀ p q, p < T.1 → q < T.1 → v = nI p → w = nI q → ∃ D1, am_MetI lay (d + 3) mX11_distance [.ref o, .int v, .int w] D (dst T.1 T.2.1 p q) D1 ∧ RM D1 o (T, T', H, s, t) ∧ onlyM D D1 o := by
  have h10 : T.1 ≤ 10 := hT.1.2.1
  constructor
  · intro hv
    refine eX11_distance ho ⟨_, k_isPlayer ho h.1 hT.1 v, fun _ => ⟨rfl, rfl⟩, fun h1 => ⟨_, k_isPlayer ho h.1 hT.1 w, fun h2 => ?_, fun _ => ⟨rfl, rfl⟩⟩⟩
    rcases hv with hv | hv
    · rw [hv] at h1; exact absurd rfl h1
    · rw [hv] at h2; exact absurd rfl h2
  · rintro p q hp hq rfl rfl
    have hB : mrow (D (o + 1)) (T.1, T.2.1, T.2.2) := h.1
    obtain ⟨D1, g1, g2, g3⟩ := k_stepsTo (d := d) ho hB hT.1 hq
    refine ⟨D1, eX11_distance ho ⟨_, k_isPlayer ho h.1 hT.1 _, fun h1 => ?_, fun _ => ⟨_, k_isPlayer ho h.1 hT.1 _, fun _ => ⟨D1, g1, vp_in_nI (by omega) (by decide), ?_⟩, fun h1 => ?_⟩⟩, h.scr fun q _ hq => g3 q (by omega), fun q hq => g3 q (by omega)⟩
    · rw [isP_n h10 (by omega), decide_eq_true hp] at h1; cases bI_0.mp h1
    · rw [nI_clamp (by omega), g2 p hp]; exact ⟨rfl, rfl⟩
    · rw [Classical.not_not, isP_n h10 (by omega), decide_eq_true hq] at h1; cases bI_0.mp h1
/-! reversePath -/
theorem pfl_far {q len : Nat} {f : Nat → Nat} (hf : isPth n be q len f) {i z : Nat} (hi : i < len) (hz : dsk n be z q (len - (i + 1))) : pfl be f i (f i) z = be (f i) z := by
  have key : ∀ j, j ≤ i → pfl be f j (f i) z = be (f i) z := by
    intro j
    induction j with
    | zero => intro _; rfl
    | succ j ih =>
      intro hj
      show flp (pfl be f j) (f j) (f (j + 1)) (f i) z = _
      unfold flp
      have d1 := hf.ds j (by omega)
      have d2 := hf.ds (j + 1) (by omega)
      have d3 := hf.ds i (by omega)
      rw [if_neg, ih (by omega)]
      rintro (⟨a, b⟩ | ⟨a, b⟩)
      · rw [b] at hz
        have := dsk_uniq hz d2
        rw [a] at d3
        have := dsk_uniq d3 d1
        omega
      · rw [b] at hz
        have := dsk_uniq hz d1
        omega
  exact key i (Nat.le_refl _)
theorem l_mrpath (ho : isX11 lay o) (hT : trn n be) {q len : Nat} {f : Nat → Nat} {v1 v3 : Int32} (hq : q < n) (h0 : f 0 < n) (hf : isPth n be q len f) : ∀ i, i ≤ len → ∀ D, mrow (D (o + 1)) (n, pfl be f i, we) → (∀ p, p < n → D (o + 9) p = dst n be p q) → ∃ D1, mrow (D1 (o + 1)) (n, pfl be f len, we) ∧ (∀ q, q ≠ o + 1 → D1 q = D q) ∧ ∀ Q : Option Value → am_D → Prop, Q (some (.int v3)) D1 → am_AW lay (d + 3) mX11_reversePath 42 [.ref o, .int v1, .int (nI q), .int v3, .int (nI (f i)), .null] [] D Q := by
  have h10 := hT.2.1
  have hlt := hf.lt hT h0
  have hne := hf.ne hT
  have hlen : len < n := hf.1.1
  refine up_loop ?_ fun i hi ih => ?_
  · intro D hB hS
    refine ⟨D, hB, fun _ _ => rfl, fun Q hQ => rX11_reversePath_42 ho ⟨fun _ => hQ, fun c => ?_⟩⟩
    have := hf.ds len (Nat.le_refl _)
    rw [Nat.sub_self] at this
    rw [dsk_0 this] at c; exact absurd rfl c
  · intro D hB hS
    have hP := pfl_trn hT hlt hne i (by omega)
    obtain ⟨D2, r0, r1, r2⟩ := k_turns (d := d) ho hB hP (hlt i (by omega)) (hlt (i + 1) (by omega)) (hne i hi)
    obtain ⟨D1, g1, g2, g3⟩ := ih D2 r1 (fun p hp => by rw [r2 (o + 9) (by omega)]; exact hS p hp)
    refine ⟨D1, g1, fun q hq => by rw [g2 q hq, r2 q hq], fun Q hQ => rX11_reversePath_42 ho ⟨fun c => ?_, fun _ => ?_⟩⟩
    · have hi1 := hlt i (by omega)
      rw [nI_eq (by omega) (by omega)] at c
      have d1 := hf.ds i (by omega)
      rw [c] at d1
      have d2 : dsk n be q q 0 := ⟨by omega, rfl, fun j hj => absurd hj (Nat.not_lt_zero j)⟩
      have := dsk_uniq d1 d2
      omega
    · have hi1 := hlt i (by omega)
      have hi2 := hlt (i + 1) (by omega)
      have hnx := hf.2 i hi
      have dl : D (o + 9) (f i) = nI (len - i) := by rw [hS _ hi1, dst_of (hf.ds i (by omega))]
      have hl : ∀ j, j ≤ f (i + 1) → am_AW lay (d + 3) mX11_reversePath 51 [.ref o, .int v1, .int (nI q), .int v3, .int (nI (f i)), .int (nI j)] [] D Q := by
        refine up_loop ?_ fun j hj ihj => ?_
        · have hb : pfl be f i (f i) (f (i + 1)) = true := by rw [pfl_far hf hi hnx.2.1]; exact hnx.1
          refine rX11_reversePath_51 ho ⟨_, k_beats1 ho hB hP (by omega) (by omega), fun c => ?_, fun _ => ?_⟩
          · rw [hb] at c; exact absurd c (by decide)
          · rw [nI_clamp (by omega), nI_clamp (by omega), dl, hS _ hi2, nn_sub (by omega)]
            refine ⟨vp_in_nI (by omega) (by decide), vp_in_nI (by omega) (by decide), fun _ => ⟨D2, r0, g3 Q hQ⟩, fun c => ?_⟩
            rw [dst_eq_nI (by omega) (by omega)] at c
            exact absurd hnx.2.1 (by rw [show len - (i + 1) = len - i - 1 by omega]; exact c)
        · refine rX11_reversePath_51 ho ⟨_, k_beats1 ho hB hP (by omega) (by omega), fun c => ?_, fun c0 => ?_⟩
          · rw [nI_add]; exact ihj
          · rw [nI_clamp (by omega), nI_clamp (by omega), dl, hS j (by omega), nn_sub (by omega)]
            refine ⟨vp_in_nI (by omega) (by decide), vp_in_nI (by omega) (by decide), fun c => ?_, fun _ => ?_⟩
            · rw [dst_eq_nI (by omega) (by omega)] at c
              have c : dsk n be j q (len - (i + 1)) := by rw [show len - (i + 1) = len - i - 1 by omega]; exact c
              have hb := bI_n0.mp c0
              rw [pfl_far hf hi c] at hb
              exact absurd c (hnx.2.2 j hj hb)
            · rw [nI_add]; exact ihj
      exact hl 0 (Nat.zero_le _)
theorem m_reversePath_no (ho : isX11 lay o) (h : RM D o (T, T', H, s, t)) (hT : okT T) {v w : Int32} (hv : isPr T.1 v w = false) : am_MetI lay (d + 4) mX11_reversePath [.ref o, .int v, .int w] D (-1) D := by
  refine eX11_reversePath ho ⟨_, k_isPair ho h.1 hT.1 _ _, fun h1 => ?_, fun _ => ⟨rfl, rfl⟩⟩
  rw [hv] at h1; exact absurd rfl h1
theorem m_reversePath_none (ho : isX11 lay o) (h : RM D o (T, T', H, s, t)) (hT : okT T) {x y : Nat} (hx : x < T.1) (hy : y < T.1) (hne : x ≠ y) (hd : dst T.1 T.2.1 x y = -4) : ∃ D1, am_MetI lay (d + 4) mX11_reversePath [.ref o, .int (nI x), .int (nI y)] D (-2) D1 ∧ RM D1 o (T, T', H, s, t) ∧ onlyM D D1 o := by
  have h10 : T.1 ≤ 10 := hT.1.2.1
  have hB : mrow (D (o + 1)) (T.1, T.2.1, T.2.2) := h.1
  obtain ⟨D1, g1, g2, g3⟩ := k_stepsTo (d := d + 1) ho hB hT.1 hy
  refine ⟨D1, eX11_reversePath ho ⟨_, k_isPair ho h.1 hT.1 _ _, fun _ => ⟨D1, g1, vp_in_nI (by omega) (by decide), fun c => ?_, fun _ => ⟨rfl, rfl⟩⟩, fun h1 => ?_⟩, h.scr fun q _ hq => g3 q (by omega), fun q hq => g3 q (by omega)⟩
  · rw [nI_clamp (by omega), g2 x hx, hd] at c; exact absurd c (by decide)
  · rw [Classical.not_not, isPr_n h10 (by omega) (by omega), decide_eq_true ⟨hx, hy, hne⟩] at h1; cases bI_0.mp h1
theorem m_reversePath (ho : isX11 lay o) (h : RM D o (T, T', H, s, t)) (hT : okT T) {q len : Nat} {f : Nat → Nat} (hq : q < T.1) (h0 : f 0 < T.1) (hne : f 0 ≠ q) (hf : isPth T.1 T.2.1 q len f) : ∃ D1, am_MetI lay (d + 4) mX11_reversePath [.ref o, .int (nI (f 0)), .int (nI q)] D (nI len) D1 ∧ RM D1 o ((T.1, pfl T.2.1 f len, T.2.2), T', pushH H T, s, t) ∧ onlyM D D1 o := by
  have h10 : T.1 ≤ 10 := hT.1.2.1
  have hlen : len < T.1 := hf.1.1
  have hB : mrow (D (o + 1)) (T.1, T.2.1, T.2.2) := h.1
  obtain ⟨D1, g1, g2, g3⟩ := k_stepsTo (d := d + 1) ho hB hT.1 hq
  have hd : dst T.1 T.2.1 (f 0) q = nI len := dst_of hf.1
  have h1 : RM D1 o (T, T', H, s, t) := h.scr fun q _ hq => g3 q (by omega)
  obtain ⟨D2, r0, r1, r2⟩ := m_keeps (d := d + 3) ho h1
  have hS : ∀ p, p < T.1 → D2 (o + 9) p = dst T.1 T.2.1 p q := fun p hp => by rw [r2 (o + 9) (by omega) (by omega)]; exact g2 p hp
  have hB2 : mrow (D2 (o + 1)) (T.1, pfl T.2.1 f 0, T.2.2) := r1.1
  obtain ⟨D3, i1, i2, i3⟩ := l_mrpath (d := d + 1) (v1 := nI (f 0)) (v3 := nI len) ho hT.1 hq h0 hf 0 (Nat.zero_le _) D2 hB2 hS
  refine ⟨D3, eX11_reversePath ho ⟨_, k_isPair ho h.1 hT.1 _ _, fun _ => ⟨D1, g1, vp_in_nI (by omega) (by decide), fun _ => ⟨D2, r0, vp_in_nI (by omega) (by decide), ?_⟩, fun c => ?_⟩, fun h1 => ?_⟩, r1.now i1 fun q _ _ h => i2 q h, fun q hq => ?_⟩
  · rw [nI_clamp (by omega), hS _ h0, hd]; exact i3 _ ⟨rfl, rfl⟩
  · rw [nI_clamp (by omega), g2 _ h0, hd] at c; exact absurd (nI_le (Nat.zero_le _) (by omega)) c
  · rw [Classical.not_not, isPr_n h10 (by omega) (by omega), decide_eq_true ⟨h0, hq, hne⟩] at h1; cases bI_0.mp h1
  · rw [i2 q (by omega), r2 q (by omega) (by omega), g3 q (by omega)]
end MO5
