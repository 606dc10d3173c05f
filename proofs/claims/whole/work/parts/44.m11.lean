/-! the model: cycles -/
def mc (n : Nat) (be : Nat → Nat → Bool) (st most s l : Nat) : Bool := (s.testBit l && decide (cnt s ≤ most)) && clB n be (most - cnt s) (mdf (ful n) s) l st
def tbC (D : am_D) (o n : Nat) (be : Nat → Nat → Bool) (st most S L : Nat) : Prop := ∀ s l, l < n → s ≤ ful n → (S < s ∨ (s = S ∧ l < L)) → D (o + 6) (10 * s + l) = bI (mc n be st most s l)
def mcI (n : Nat) (be : Nat → Nat → Bool) (st most s l i : Nat) : Bool := (List.range i).any fun q => (be l q && !s.testBit q) && mc n be st most (s ||| 2 ^ q) q
theorem mcI_s {n : Nat} {be : Nat → Nat → Bool} {st most s l i : Nat} : mcI n be st most s l (i + 1) = (mcI n be st most s l i || ((be l i && !s.testBit i) && mc n be st most (s ||| 2 ^ i) i)) := by
  unfold mcI
  rw [List.range_succ, List.any_append]; simp
theorem mc_rec {n : Nat} {be : Nat → Nat → Bool} (hT : trn n be) {st most s l : Nat} (hs : s < 1024) (hl : s.testBit l = true) (hc : cnt s < most) : mc n be st most s l = mcI n be st most s l n := by
  have h10 := hT.2.1
  unfold mc mcI
  rw [hl, decide_eq_true (Nat.le_of_lt hc), Bool.true_and, Bool.true_and]
  obtain ⟨k, hk⟩ : ∃ k, most - cnt s = k + 1 := ⟨most - cnt s - 1, by omega⟩
  rw [hk]
  show (List.range n).any _ = _
  congr 1
  funext q
  cases hb : be l q with
  | false => simp
  | true =>
    have qn := (hT.2.2.1 _ _ hb).2.1
    rw [mdf_t, ful_t, decide_eq_true qn, Bool.true_and, Bool.true_and]
    cases c : s.testBit q with
    | true => rfl
    | false =>
      have e1 : cnt (s ||| 2 ^ q) = cnt s + 1 := by
        rw [← onl_p (by omega), cnt_or, onl_cnt (by omega)]
        intro x hx hb
        rw [onl_t]
        cases e : decide (q = x) with
        | false => rw [Bool.and_false]
        | true => rw [← of_decide_eq_true e, c] at hb; cases hb
      unfold mc
      rw [e1, decide_eq_true (by omega), show most - (cnt s + 1) = k by omega, mdf_mdf, onl_p (by omega), Nat.testBit_or, Nat.testBit_two_pow]
      simp
section MO12
variable {lay : List am_L} {d : Nat} {D : am_D} {o n : Nat} {be : Nat → Nat → Bool} {we : Nat → Nat → Nat} {T T' : am_T} {H : List am_T} {s t : List Nat}
theorem or_ful {s q : Nat} (h10 : n ≤ 10) (hs : s ≤ ful n) (hq : q < n) (hb : s.testBit q = false) : s ||| 2 ^ q ≤ ful n ∧ s < s ||| 2 ^ q := by
  have h1 : s < 2 ^ n := by have := Nat.two_pow_pos n; unfold ful at hs; omega
  have h2 : 2 ^ q < 2 ^ n := Nat.pow_lt_pow_right (by decide) hq
  have h3 : s ||| 2 ^ q < 2 ^ n := Nat.or_lt_two_pow h1 h2
  constructor
  · unfold ful; omega
  · have h4 : s ≤ s ||| 2 ^ q := Nat.left_le_or
    rcases Nat.lt_or_ge s (s ||| 2 ^ q) with c | c
    · exact c
    · have e : s ||| 2 ^ q = s := by omega
      have : (s ||| 2 ^ q).testBit q = true := by rw [Nat.testBit_or, Nat.testBit_two_pow]; simp
      rw [e, hb] at this; cases this
theorem l_cl73 (ho : isX11 lay o) (hB : mrow (D (o + 1)) (n, be, we)) (hT : trn n be) {st most s l : Nat} (hs : s ≤ ful n) (hl : l < n) (hsl : s.testBit l = true) (hc : cnt s < most) (htb : tbC D o n be st most s l) {Q : Option Value → am_D → Prop} (hQ : am_AW lay (d + 1) mX11_closes 12 [.ref o, .int (nI st), .int (nI most), .int (nI s), .int (nI (l + 1)), .null, .null] [] (am_up D (o + 6) (10 * s + l) (bI (mc n be st most s l))) Q) : ∀ i, i ≤ n → am_AW lay (d + 1) mX11_closes 73 [.ref o, .int (nI st), .int (nI most), .int (nI s), .int (nI l), .int (bI (mcI n be st most s l i)), .int (nI i)] [] D Q := by
  have h10 := hT.2.1
  have hs3 : s < 1024 := Nat.lt_of_le_of_lt hs (ful_lt h10)
  rw [mc_rec hT hs3 hsl hc] at hQ
  refine up_loop ?_ fun i hi ih => ?_
  · refine rX11_closes_73 ho ⟨_, k_n ho hB, fun _ => ⟨fun c => ?_, fun c => ?_⟩, fun h => absurd (nI_le (Nat.le_refl _) (by omega)) h⟩
    · rw [bI_0.mp c] at hQ
      rw [nn_mul, nI_add, nI_add, nI_clamp (by omega)]
      refine ⟨vp_in_nI (by omega) (by decide), ?_⟩
      rintro D2 rfl
      exact hQ
    · rw [bI_n0.mp c] at hQ
      rw [nn_mul, nI_add, nI_add, nI_clamp (by omega)]
      refine ⟨vp_in_nI (by omega) (by decide), ?_⟩
      rintro D2 rfl
      exact hQ
  · rw [mcI_s] at ih
    have hh := k_has (lay := lay) (d := d) (D := D) (s := mdf (msk (be l)) s) (p := i) (by omega)
    rw [mdf_t, hT.mskt] at hh
    refine rX11_closes_73 ho ⟨_, k_n ho hB, fun h => absurd h (ge_no hi (by omega)), fun _ => ⟨fun c => ?_, fun c => ⟨_, k_beaten ho hB (by omega), ?_⟩⟩⟩
    · rw [bI_n0.mp c, Bool.true_or] at ih
      rw [nI_add]; exact ih
    · rw [Classical.not_not] at c
      rw [bI_0.mp c, Bool.false_or] at ih
      rw [nn_dif]
      refine ⟨_, hh, fun c2 => ?_, fun c2 => ?_⟩
      · rw [bI_0.mp c2, Bool.false_and] at ih
        rw [nI_add]; exact ih
      · have c3 := bI_n0.mp c2
        rw [c3, Bool.true_and] at ih
        rw [Bool.and_eq_true] at c3
        have hbi : s.testBit i = false := by simpa using c3.2
        obtain ⟨o1, o2⟩ := or_ful h10 hs hi hbi
        have o3 := ful_lt h10
        rw [nn_shl1 i (by omega), nn_or, nn_mul, nI_add, nI_clamp (by omega), htb _ _ hi o1 (Or.inl o2), nI_add]
        refine ⟨vp_in_nI (by omega) (by decide), fun c4 => ?_, fun c4 => ?_⟩
        · rw [bI_n1.mp c4] at ih; exact ih
        · have : mc n be st most (s ||| 2 ^ i) i = true := by
            cases e : mc n be st most (s ||| 2 ^ i) i with
            | true => rfl
            | false => rw [e] at c4; exact absurd (by decide) c4
          rw [this] at ih; exact ih
theorem l_cl12 (ho : isX11 lay o) (hB : mrow (D (o + 1)) (n, be, we)) (hT : trn n be) {st most s l : Nat} (hst : st < n) (hmost : most ≤ 10) (hs : s ≤ ful n) (hl : l < n) (htb : tbC D o n be st most s l) {Q : Option Value → am_D → Prop} (hQ : am_AW lay (d + 2) mX11_closes 12 [.ref o, .int (nI st), .int (nI most), .int (nI s), .int (nI (l + 1)), .null, .null] [] (am_up D (o + 6) (10 * s + l) (bI (mc n be st most s l))) Q) : am_AW lay (d + 2) mX11_closes 12 [.ref o, .int (nI st), .int (nI most), .int (nI s), .int (nI l), .null, .null] [] D Q := by
  have h10 := hT.2.1
  have hs3 : s < 1024 := Nat.lt_of_le_of_lt hs (ful_lt h10)
  have c10 := cnt_le s
  have put0 : mc n be st most s l = false → ∀ D4, D4 = am_up D (o + 6) (Int32.toNatClampNeg (nI 10 * nI s + nI l)) (nI 0) → am_AW lay (d + 2) mX11_closes 12 [.ref o, .int (nI st), .int (nI most), .int (nI s), .int (nI l + nI 1), .null, .null] [] D4 Q := by
    intro e
    rw [e] at hQ
    rintro D4 rfl
    rw [nn_mul, nI_add, nI_add, nI_clamp (by omega)]
    exact hQ
  have hvp : vp_in (nI 10 * nI s + nI l) 10240 := by rw [nn_mul, nI_add]; exact vp_in_nI (by omega) (by decide)
  have hh := k_has (lay := lay) (d := d + 1) (D := D) (s := s) (p := l) (by omega)
  cases hsl : s.testBit l with
  | false =>
    rw [hsl] at hh
    have e : mc n be st most s l = false := by unfold mc; rw [hsl]; rfl
    exact rX11_closes_12 ho ⟨_, k_n ho hB, fun h => absurd h (ge_no hl (by omega)), fun _ => ⟨_, hh, fun _ => ⟨_, hh, fun _ => ⟨fun _ => ⟨hvp, put0 e⟩, fun c => absurd rfl c⟩, fun c => absurd rfl c⟩, fun c => absurd rfl c⟩⟩
  | true =>
    rw [hsl] at hh
    refine rX11_closes_12 ho ⟨_, k_n ho hB, fun h => absurd h (ge_no hl (by omega)), fun _ => ⟨_, hh, fun c => absurd c (by decide), fun _ => ⟨_, k_count hs3, fun c => ⟨_, hh, fun c => absurd c (by decide), fun _ => ⟨_, k_count hs3, fun c2 => ⟨fun _ => ⟨hvp, put0 ?_⟩, fun c => absurd rfl c⟩, fun c2 => ?_⟩⟩, fun c => ⟨_, k_beats1 ho hB hT (p := l) (q := st) (by omega) (by omega), fun c2 => ⟨hvp, put0 ?_⟩, fun c2 => ⟨hvp, ?_⟩⟩⟩⟩⟩
    · rw [nI_eq (by omega) (by omega)] at c
      rw [nI_leI (by omega) (by omega)] at c2
      unfold mc
      rw [decide_eq_false (by omega), Bool.and_false, Bool.false_and]
    · rw [nI_leI (by omega) (by omega)] at c2
      exact l_cl73 (d := d + 1) ho hB hT hs hl hsl (by omega) htb hQ 0 (Nat.zero_le _)
    · rw [Classical.not_not, nI_eq (by omega) (by omega)] at c
      unfold mc
      rw [c, Nat.sub_self]
      show (_ && be l st) = false
      rw [bI_0.mp c2, Bool.and_false]
    · rw [Classical.not_not, nI_eq (by omega) (by omega)] at c
      have e : mc n be st most s l = true := by
        unfold mc
        rw [c, Nat.sub_self, hsl, decide_eq_true (Nat.le_refl _)]
        show (_ && be l st) = true
        rw [bI_n0.mp c2]; rfl
      rw [e] at hQ
      rintro D4 rfl
      rw [nn_mul, nI_add, nI_add, nI_clamp (by omega)]
      exact hQ
theorem k_closes (ho : isX11 lay o) (hB : mrow (D (o + 1)) (n, be, we)) (hT : trn n be) {st most : Nat} (hst : st < n) (hmost : most ≤ 10) : ∃ D1, am_MetV lay (d + 2) mX11_closes [.ref o, .int (nI st), .int (nI most)] D D1 ∧ tbC D1 o n be st most 0 0 ∧ ∀ q, q ≠ o + 6 → D1 q = D q := by
  have h10 := hT.2.1
  have hf := ful_lt h10
  have row : ∀ s, s ≤ ful n → 1 ≤ s → ∀ i, i ≤ n → ∀ D, mrow (D (o + 1)) (n, be, we) → tbC D o n be st most s i → ∃ D1, tbC D1 o n be st most (s - 1) 0 ∧ (∀ q, q ≠ o + 6 → D1 q = D q) ∧ ∀ Q : Option Value → am_D → Prop, am_AW lay (d + 2) mX11_closes 5 [.ref o, .int (nI st), .int (nI most), .int (nI (s - 1)), .null, .null, .null] [] D1 Q → am_AW lay (d + 2) mX11_closes 12 [.ref o, .int (nI st), .int (nI most), .int (nI s), .int (nI i), .null, .null] [] D Q := by
    intro s hs hs1
    refine up_loop ?_ fun i hi ih => ?_
    · intro D hB hT2
      refine ⟨D, fun s2 l hl h1 h2 => hT2 s2 l hl h1 ?_, fun _ _ => rfl, fun Q hQ => rX11_closes_12 ho ⟨_, k_n ho hB, fun _ => ?_, fun h => absurd (nI_le (Nat.le_refl _) (by omega)) h⟩⟩
      · rcases h2 with h2 | h2
        · by_cases c : s2 = s
          · exact Or.inr ⟨c, hl⟩
          · exact Or.inl (by omega)
        · omega
      · obtain ⟨s', rfl⟩ : ∃ s', s = s' + 1 := ⟨s - 1, by omega⟩
        rw [add_m1]; exact hQ
    · intro D hB hT2
      have hB2 : mrow (am_up D (o + 6) (10 * s + i) (bI (mc n be st most s i)) (o + 1)) (n, be, we) := by rw [am_up_ne (o + 1) (by omega)]; exact hB
      obtain ⟨D1, g1, g2, g3⟩ := ih (am_up D (o + 6) (10 * s + i) (bI (mc n be st most s i))) hB2 (fun s2 l hl h1 h2 => by
        rw [am_upI]
        by_cases c : s2 = s ∧ l = i
        · rw [if_pos (by omega), c.1, c.2]
        · rw [if_neg (by omega)]; exact hT2 s2 l hl h1 (by omega))
      exact ⟨D1, g1, fun q hq => by rw [g2 q hq, am_up_ne q hq], fun Q hQ => l_cl12 ho hB hT hst hmost hs hi hT2 (g3 Q hQ)⟩
  have all : ∀ s, s ≤ ful n → ∀ D, mrow (D (o + 1)) (n, be, we) → tbC D o n be st most s 0 → ∃ D1, tbC D1 o n be st most 0 0 ∧ (∀ q, q ≠ o + 6 → D1 q = D q) ∧ ∀ Q : Option Value → am_D → Prop, Q none D1 → am_AW lay (d + 2) mX11_closes 5 [.ref o, .int (nI st), .int (nI most), .int (nI s), .null, .null, .null] [] D Q := by
    intro s
    induction s with
    | zero =>
      intro _ D hB hT2
      exact ⟨D, hT2, fun _ _ => rfl, fun Q hQ => rX11_closes_5 ho ⟨fun _ => hQ, fun c => absurd (by decide) c⟩⟩
    | succ s ih =>
      intro hs D hB hT2
      obtain ⟨D2, g1, g2, g3⟩ := row (s + 1) hs (by omega) 0 (Nat.zero_le _) D hB hT2
      have hB2 : mrow (D2 (o + 1)) (n, be, we) := by rw [g2 (o + 1) (by omega)]; exact hB
      obtain ⟨D1, j1, j2, j3⟩ := ih (by omega) D2 hB2 g1
      refine ⟨D1, j1, fun q hq => by rw [j2 q hq, g2 q hq], fun Q hQ => rX11_closes_5 ho ⟨fun c => ?_, fun _ => g3 Q (j3 Q hQ)⟩⟩
      rw [nI_leI (by omega) (by decide)] at c; omega
  obtain ⟨D1, g1, g2, g3⟩ := all (ful n) (Nat.le_refl _) D hB (fun s l hl h1 h2 => by omega)
  exact ⟨D1, eX11_closes ho ⟨_, k_all ho hB h10, g3 _ ⟨rfl, rfl⟩⟩, g1, g2⟩
theorem mc_start (hT : trn n be) {p most : Nat} (hp : p < n) (h1 : 1 ≤ most) : mc n be p most (2 ^ p) p = fnd n be p most := by
  have h10 := hT.2.1
  rw [fnd_ful hT hp h1]
  unfold mc
  rw [← onl_p (by omega), onl_cnt (by omega), onl_t, decide_eq_true (by omega : p < 10), decide_eq_true h1]; simp
theorem k_isClosed (ho : isX11 lay o) (hT : trn n be) {p most : Nat} (hp : p < n) (h1 : 1 ≤ most) (htb : tbC D o n be p most 0 0) : am_MetP lay d mX11_isClosed [.ref o, .int (nI p)] D (bI (fnd n be p most)) := by
  have h10 := hT.2.1
  have hpf : 2 ^ p ≤ ful n := by
    have : 2 ^ p < 2 ^ n := Nat.pow_lt_pow_right (by decide) hp
    unfold ful; omega
  have hf := ful_lt h10
  have hv := htb (2 ^ p) p hp hpf (Or.inl (Nat.two_pow_pos p))
  rw [mc_start hT hp h1] at hv
  refine eX11_isClosed ho ?_
  rw [nn_shl1 p (by omega), nn_mul, nI_add, nI_clamp (by omega), hv]
  refine ⟨vp_in_nI (by omega) (by decide), fun c => ?_, fun c => ?_⟩
  · rw [bI_n1.mp c]; exact ⟨rfl, rfl⟩
  · cases e : fnd n be p most with
    | true => exact ⟨rfl, rfl⟩
    | false => rw [e] at c; exact absurd (by decide) c
/-- the walk along the least cycle -/
theorem l_ca61 (ho : isX11 lay o) (hB : mrow (D (o + 1)) (n, be, we)) (hT : trn n be) {p most place : Nat} (hp : p < n) (hm : most ≤ 10) (hpl : place < most) (htb : tbC D o n be p most 0 0) {Q : Option Value → am_D → Prop} : ∀ j i s l, i + j = place → l < n → s ≤ ful n → s.testBit l = true → cnt s = i + 1 → mc n be p most s l = true → Q (some (.int (nI (match j with | 0 => l | j + 1 => lxp n be (most - cnt s) (mdf (ful n) s) l p j)))) D → am_AW lay (d + 2) mX11_cycleAt 61 [.ref o, .int (nI p), .int (nI most), .int (nI place), .int (nI l), .int (nI s), .int (nI i), .null] [] D Q := by
  have h10 := hT.2.1
  have hf := ful_lt h10
  intro j
  induction j with
  | zero =>
    intro i s l hi hl hs hsl hc hmc hQ
    exact rX11_cycleAt_61 ho ⟨fun _ => hQ, fun c => absurd (nI_le (by omega) (by omega)) c⟩
  | succ j ih =>
    intro i s l hi hl hs hsl hc hmc hQ
    have hs3 : s < 1024 := Nat.lt_of_le_of_lt hs hf
    obtain ⟨k, hk⟩ : ∃ k, most - cnt s = k + 1 := ⟨most - cnt s - 1, by omega⟩
    have hcl : clB n be (k + 1) (mdf (ful n) s) l p = true := by
      unfold mc at hmc
      rw [Bool.and_eq_true, hk] at hmc
      exact hmc.2
    obtain ⟨x1, x2, x3⟩ := cnx_spec hcl
    -- what the table says of a next one
    have tabl : ∀ q, q < n → be l q = true → s.testBit q = false → mc n be p most (s ||| 2 ^ q) q = clB n be k (mdf (mdf (ful n) s) (onl q)) q p := by
      intro q hq hb hbi
      have e1 : cnt (s ||| 2 ^ q) = cnt s + 1 := by
        rw [← onl_p (by omega), cnt_or, onl_cnt (by omega)]
        intro x hx hb
        rw [onl_t]
        cases e : decide (q = x) with
        | false => rw [Bool.and_false]
        | true => rw [← of_decide_eq_true e, hbi] at hb; cases hb
      unfold mc
      rw [e1, decide_eq_true (by omega), show most - (cnt s + 1) = k by omega, mdf_mdf, onl_p (by omega), Nat.testBit_or, Nat.testBit_two_pow]
      simp
    generalize hz : cnx n be k (mdf (ful n) s) l p = z at *
    rw [Bool.and_eq_true, Bool.and_eq_true, mdf_t, Bool.and_eq_true] at x2
    have hzs : s.testBit z = false := by simpa using x2.1.2
    obtain ⟨o1, o2⟩ := or_ful h10 hs x1 hzs
    have hmz := tabl z x1 x2.2.1 hzs
    rw [x2.2.2] at hmz
    have e1 : cnt (s ||| 2 ^ z) = cnt s + 1 := by
      rw [← onl_p (by omega), cnt_or, onl_cnt (by omega)]
      intro x hx hb
      rw [onl_t]
      cases e : decide (z = x) with
      | false => rw [Bool.and_false]
      | true => rw [← of_decide_eq_true e, hzs] at hb; cases hb
    have hnext := ih (i + 1) (s ||| 2 ^ z) z (by omega) x1 o1 (by rw [Nat.testBit_or, Nat.testBit_two_pow]; simp) (by omega) hmz (by
      rw [hk] at hQ
      rw [e1, show most - (cnt s + 1) = k by omega, ← onl_p (show z < 10 by omega), ← mdf_mdf]
      cases j with
      | zero =>
        have hQ : Q (some (.int (nI (cnx n be k (mdf (ful n) s) l p)))) D := hQ
        rw [hz] at hQ; exact hQ
      | succ j =>
        have hQ : Q (some (.int (nI (lxp n be k (mdf (mdf (ful n) s) (onl (cnx n be k (mdf (ful n) s) l p))) (cnx n be k (mdf (ful n) s) l p) p j)))) D := hQ
        rw [hz] at hQ; exact hQ)
    have inner : ∀ y, y ≤ z → am_AW lay (d + 2) mX11_cycleAt 70 [.ref o, .int (nI p), .int (nI most), .int (nI place), .int (nI l), .int (nI s), .int (nI i), .int (nI y)] [] D Q := by
      refine up_loop ?_ fun y hy ihy => ?_
      · have hh := k_has (lay := lay) (d := d + 1) (D := D) (s := mdf (msk (be l)) s) (p := z) (by omega)
        rw [mdf_t, hT.mskt, x2.2.1, hzs] at hh
        refine rX11_cycleAt_70 ho ⟨_, k_beaten ho hB (by omega), ?_⟩
        rw [nn_dif]
        refine ⟨_, hh, fun c => absurd c (by decide), fun _ => ?_⟩
        rw [nn_shl1 z (by omega), nn_or, nn_mul, nI_add, nI_clamp (by omega), htb _ _ x1 o1 (Or.inl (by omega)), hmz, nI_add]
        exact ⟨vp_in_nI (by omega) (by decide), fun _ => hnext, fun c => absurd (by decide) c⟩
      · have hh := k_has (lay := lay) (d := d + 1) (D := D) (s := mdf (msk (be l)) s) (p := y) (by omega)
        rw [mdf_t, hT.mskt] at hh
        refine rX11_cycleAt_70 ho ⟨_, k_beaten ho hB (by omega), ?_⟩
        rw [nn_dif]
        refine ⟨_, hh, fun _ => ?_, fun c => ?_⟩
        · rw [nI_add]; exact ihy
        · have c2 := bI_n0.mp c
          rw [Bool.and_eq_true] at c2
          have hys : s.testBit y = false := by simpa using c2.2
          have yn := (hT.2.2.1 _ _ c2.1).2.1
          obtain ⟨p1, p2⟩ := or_ful h10 hs yn hys
          have hmy := tabl y yn c2.1 hys
          have hno := x3 y hy
          rw [mdf_t, ful_t, decide_eq_true yn, hys, c2.1] at hno
          have hno : clB n be k (mdf (mdf (ful n) s) (onl y)) y p = false := by simpa using hno
          rw [hno] at hmy
          rw [nn_shl1 y (by omega), nn_or, nn_mul, nI_add, nI_clamp (by omega), htb _ _ yn p1 (Or.inl (by omega)), hmy, nI_add, nI_add]
          exact ⟨vp_in_nI (by omega) (by decide), fun c => absurd rfl c, fun _ => ihy⟩
    exact rX11_cycleAt_61 ho ⟨fun c => absurd c (ge_no (by omega) (by omega)), fun _ => inner 0 (Nat.zero_le _)⟩
theorem neg_lt3 {w : Int32} (c : w < 0) : w < nI 3 := by
  rw [Int32.lt_iff_toInt_lt] at c ⊢
  have e0 : (0 : Int32).toInt = 0 := by decide
  have e3 : (nI 3).toInt = 3 := by decide
  omega
theorem in_f {v a b : Int32} (h : v < a ∨ b < v) : decide (¬ v < a ∧ ¬ b < v) = false := decide_eq_false fun c => h.elim c.1 c.2
theorem m_cycleAt_no (ho : isX11 lay o) (h : RM D o (T, T', H, s, t)) (hT : okT T) {v w z : Int32} (hv : isP T.1 v = false ∨ w < nI 3 ∨ ¬ w ≤ nI T.1 ∨ z < nI 0 ∨ ¬ z < w) : am_MetI lay (d + 4) mX11_cycleAt [.ref o, .int v, .int w, .int z] D (-1) D := by
  have h10 : T.1 ≤ 10 := hT.1.2.1
  have hB : mrow (D (o + 1)) (T.1, T.2.1, T.2.2) := h.1
  have k1 := k_in (lay := lay) (d := d + 3) (D := D) w (nI 3) (nI T.1)
  have k2 := k_in (lay := lay) (d := d + 3) (D := D) z (nI 0) (w - nI 1)
  refine eX11_cycleAt ho ⟨_, k_isPlayer ho hB hT.1 v, fun _ => ⟨rfl, rfl⟩, fun c1 => ⟨_, k_n ho hB, _, k1, fun _ => ⟨rfl, rfl⟩, fun c2 => ⟨_, k2, fun c3 => ?_, fun _ => ⟨rfl, rfl⟩⟩⟩⟩
  exfalso
  have c2 := of_decide_eq_true (bI_n0.mp c2)
  have c3 := of_decide_eq_true (bI_n0.mp c3)
  rcases hv with hv | hv | hv | hv | hv
  · rw [hv] at c1; exact absurd rfl c1
  · exact c2.1 hv
  · exact hv (by simpa using c2.2)
  · exact c3.1 hv
  · -- z is not below w, and w is a number of players
    obtain ⟨j, hj, rfl⟩ := nI_of (x := w) (fun c => c2.1 (neg_lt3 c))
    have a1 : 3 ≤ j := by
      rcases Nat.lt_or_ge j 3 with q | q
      · exact absurd (nI_lt q (by decide)) c2.1
      · exact q
    obtain ⟨i, hi, rfl⟩ := nI_of (x := z) c3.1
    rw [nn_sub (by omega)] at c3
    have a2 := c3.2
    rw [nI_ltI (by omega) hi] at a2
    rw [nI_ltI hi hj] at hv
    omega
theorem m_cycleAt (ho : isX11 lay o) (h : RM D o (T, T', H, s, t)) (hT : okT T) {p len z : Nat} (hp : p < T.1) (h3 : 3 ≤ len) (hlen : len ≤ T.1) (hz : z < len) : ∃ D1, am_MetI lay (d + 4) mX11_cycleAt [.ref o, .int (nI p), .int (nI len), .int (nI z)] D (if fnd T.1 T.2.1 p len then nI (cyc T.1 T.2.1 p len z) else -4) D1 ∧ RM D1 o (T, T', H, s, t) ∧ onlyM D D1 o := by
  have h10 : T.1 ≤ 10 := hT.1.2.1
  have hB : mrow (D (o + 1)) (T.1, T.2.1, T.2.2) := h.1
  have k1 := k_in (lay := lay) (d := d + 3) (D := D) (nI len) (nI 3) (nI T.1)
  rw [in_y h3 hlen (by omega)] at k1
  have k2 := k_in (lay := lay) (d := d + 3) (D := D) (nI z) (nI 0) (nI (len - 1))
  rw [in_y (Nat.zero_le _) (by omega) (by omega)] at k2
  obtain ⟨D1, g1, g2, g3⟩ := k_closes (d := d + 1) ho hB hT.1 hp (show len ≤ 10 by omega)
  have hB1 : mrow (D1 (o + 1)) (T.1, T.2.1, T.2.2) := by rw [g3 (o + 1) (by omega)]; exact hB
  have hic := k_isClosed (lay := lay) (d := d + 3) ho hT.1 hp (by omega) g2
  refine ⟨D1, eX11_cycleAt ho ⟨_, k_isPlayer ho hB hT.1 _, fun c => ?_, fun _ => ⟨_, k_n ho hB, _, k1, fun c => absurd c (by decide), fun _ => ?_⟩⟩, h.scr fun q _ hq => g3 q (by omega), fun q hq => g3 q (by omega)⟩
  · rw [isP_n h10 (by omega), decide_eq_true hp] at c; cases bI_0.mp c
  · rw [nn_sub (by omega)]
    refine ⟨_, k2, fun _ => ⟨D1, g1, _, hic, fun c => ?_, fun c => ?_⟩, fun c => absurd (by decide) c⟩
    · have hf := bI_n0.mp c
      rw [if_pos hf, nn_shl1 p (by omega)]
      have hpf : 2 ^ p ≤ ful T.1 := by
        have : 2 ^ p < 2 ^ T.1 := Nat.pow_lt_pow_right (by decide) hp
        unfold ful; omega
      have hc1 : cnt (2 ^ p) = 1 := by rw [← onl_p (by omega), onl_cnt (by omega)]
      refine l_ca61 (d := d + 2) ho hB1 hT.1 hp (by omega) hz g2 z 0 (2 ^ p) p (by omega) hp hpf (by rw [Nat.testBit_two_pow]; simp) hc1 (by rw [mc_start hT.1 hp (by omega)]; exact hf) ?_
      refine ⟨?_, rfl⟩
      congr 3
      cases z with
      | zero => rfl
      | succ j =>
        show lxp T.1 T.2.1 (len - cnt (2 ^ p)) (mdf (ful T.1) (2 ^ p)) p p j = lxp T.1 T.2.1 (len - 1) (mdf (prt T.1 T.2.1 p) (onl p)) p p j
        rw [hc1, ← onl_p (by omega)]
        refine lxp_part hT.1 hp _ _ _ p j (by omega) rfl ?_ (ful_prt hT.1 hp)
        rw [← fnd_ful hT.1 hp (by omega)]; exact hf
    · rw [Classical.not_not] at c
      rw [bI_0.mp c]; exact ⟨rfl, rfl⟩
theorem cl_sum {m : Nat} : ∀ k, sumR (fun i => if decide (i + 3 ≤ m) then 1 else 0) k = min k (m - 2) := by
  intro k
  induction k with
  | zero => show 0 = _; omega
  | succ k ih =>
    show sumR (fun i => if decide (i + 3 ≤ m) then 1 else 0) k + (if decide (k + 3 ≤ m) = true then 1 else 0) = _
    rw [ih]
    by_cases c : k + 3 ≤ m
    · rw [decide_eq_true c, if_pos rfl]; omega
    · rw [decide_eq_false c, if_neg (by decide)]; omega
theorem m_cycleLengths (ho : isX11 lay o) (h : RM D o (T, T', H, s, t)) (hT : okT T) (v : Int32) : (isP T.1 v = false → am_MetI lay (d + 3) mX11_cycleLengths [.ref o, .int v] D (-1) D) ∧ ∀ p, p < T.1 → v = nI p → ∃ D1, am_MetI lay (d + 3) mX11_cycleLengths [.ref o, .int v] D (nI (cnt (prt T.1 T.2.1 p) - 2)) D1 ∧ RM D1 o (T, T', H, s, t) ∧ onlyM D D1 o := by
  have h10 : T.1 ≤ 10 := hT.1.2.1
  have h2 : 2 ≤ T.1 := hT.1.1
  constructor
  · intro hv
    refine eX11_cycleLengths ho ⟨_, k_isPlayer ho h.1 hT.1 v, fun h1 => ?_, fun _ => ⟨rfl, rfl⟩⟩
    rw [hv] at h1; exact absurd rfl h1
  · rintro p hp rfl
    have hl : ∀ i, i ≤ T.1 - 2 → ∀ D, RM D o (T, T', H, s, t) → ∃ D1, RM D1 o (T, T', H, s, t) ∧ onlyM D D1 o ∧ ∀ Q : Option Value → am_D → Prop, Q (some (.int (nI (sumR (fun i => if fnd T.1 T.2.1 p (i + 3) then 1 else 0) (T.1 - 2))))) D1 → am_AW lay (d + 3) mX11_cycleLengths 14 [.ref o, .int (nI p), .int (nI (sumR (fun i => if fnd T.1 T.2.1 p (i + 3) then 1 else 0) i)), .int (nI (i + 3))] [] D Q := by
      refine up_loop ?_ fun i hi ih => ?_
      · intro D h
        have hB : mrow (D (o + 1)) (T.1, T.2.1, T.2.2) := h.1
        exact ⟨D, h, fun _ _ => rfl, fun Q hQ => rX11_cycleLengths_14 ho ⟨_, k_n ho hB, fun _ => hQ, fun c => absurd (nI_lt (by omega) (by omega)) c⟩⟩
      · intro D h
        have hB : mrow (D (o + 1)) (T.1, T.2.1, T.2.2) := h.1
        obtain ⟨D2, g1, g2, g3⟩ := k_closes (d := d) ho hB hT.1 hp (show i + 3 ≤ 10 by omega)
        have h' : RM D2 o (T, T', H, s, t) := h.scr fun q _ hq => g3 q (by omega)
        obtain ⟨D1, j1, j2, j3⟩ := ih D2 h'
        have hic := k_isClosed (lay := lay) (d := d + 2) ho hT.1 hp (show 1 ≤ i + 3 by omega) g2
        refine ⟨D1, j1, fun q hq => by rw [j2 q hq, g3 q (by omega)], fun Q hQ => rX11_cycleLengths_14 ho ⟨_, k_n ho hB, fun c => absurd c (lt_no (by omega) (by omega)), fun _ => ⟨D2, g1, _, hic, fun c => ?_, fun c => ?_⟩⟩⟩
        · have j4 := j3 Q hQ
          have e : sumR (fun i => if fnd T.1 T.2.1 p (i + 3) then 1 else 0) (i + 1) = sumR (fun i => if fnd T.1 T.2.1 p (i + 3) then 1 else 0) i + if fnd T.1 T.2.1 p (i + 3) then 1 else 0 := rfl
          rw [e, bI_0.mp c] at j4
          rw [nI_add, nI_add]; exact j4
        · have j4 := j3 Q hQ
          have e : sumR (fun i => if fnd T.1 T.2.1 p (i + 3) then 1 else 0) (i + 1) = sumR (fun i => if fnd T.1 T.2.1 p (i + 3) then 1 else 0) i + if fnd T.1 T.2.1 p (i + 3) then 1 else 0 := rfl
          rw [e, bI_n0.mp c] at j4
          rw [nI_add, nI_add]; exact j4
    obtain ⟨D1, j1, j2, j3⟩ := hl 0 (Nat.zero_le _) D h
    have e : sumR (fun i => if fnd T.1 T.2.1 p (i + 3) then 1 else 0) (T.1 - 2) = cnt (prt T.1 T.2.1 p) - 2 := by
      have : (fun i => if fnd T.1 T.2.1 p (i + 3) then 1 else 0) = fun i => if decide (i + 3 ≤ cnt (prt T.1 T.2.1 p)) then 1 else 0 := by
        funext i; rw [fnd_all hT.1 hp (by omega)]
      rw [this, cl_sum]
      have : cnt (prt T.1 T.2.1 p) ≤ cnt (ful T.1) := cnt_mono fun q _ hq => by rw [ful_t]; exact decide_eq_true (prt_in hT.1 hp q hq)
      rw [cnt_ful h10] at this
      omega
    rw [e] at j3
    refine ⟨D1, eX11_cycleLengths ho ⟨_, k_isPlayer ho h.1 hT.1 _, fun _ => j3 _ ⟨rfl, rfl⟩, fun h1 => ?_⟩, j1, j2⟩
    rw [Classical.not_not, isP_n h10 (by omega), decide_eq_true hp] at h1; cases bI_0.mp h1
end MO12
