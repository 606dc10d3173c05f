/-! cycles -/
/-- k more players out of s lead from l back to st -/
def clB (n : Nat) (be : Nat → Nat → Bool) : Nat → Nat → Nat → Nat → Bool
  | 0, _, l, st => be l st
  | k + 1, s, l, st => (List.range n).any fun z => s.testBit z && (be l z && clB n be k (mdf s (onl z)) z st)
/-- the least next one, and the cycle that takes the least at each place -/
def cnx (n : Nat) (be : Nat → Nat → Bool) (k s l st : Nat) : Nat := ((List.range n).find? fun z => s.testBit z && (be l z && clB n be k (mdf s (onl z)) z st)).getD 0
def lxp (n : Nat) (be : Nat → Nat → Bool) : Nat → Nat → Nat → Nat → Nat → Nat
  | 0, _, _, _, _ => 0
  | k + 1, s, l, st, 0 => cnx n be k s l st
  | k + 1, s, l, st, i + 1 => lxp n be k (mdf s (onl (cnx n be k s l st))) (cnx n be k s l st) st i
theorem cnt_without : ∀ s, s < 1024 → ∀ z, z < 10 → s.testBit z = true → cnt (mdf s (onl z)) + 1 = cnt s := by decide +kernel
theorem cnx_of {n : Nat} {be : Nat → Nat → Bool} {k s l st z : Nat} (hz : z < n) (h : (s.testBit z && (be l z && clB n be k (mdf s (onl z)) z st)) = true) (hm : ∀ y, y < z → (s.testBit y && (be l y && clB n be k (mdf s (onl y)) y st)) = false) : cnx n be k s l st = z := by
  unfold cnx
  have : (List.range n).find? (fun z => s.testBit z && (be l z && clB n be k (mdf s (onl z)) z st)) = some z := by
    rw [List.find?_range_eq_some]
    refine ⟨h, List.mem_range.mpr hz, fun j hj => ?_⟩
    rw [hm j hj]; rfl
  rw [this]; rfl
theorem clB_s {n : Nat} {be : Nat → Nat → Bool} {k s l st z : Nat} (hz : z < n) (h : (s.testBit z && (be l z && clB n be k (mdf s (onl z)) z st)) = true) : clB n be (k + 1) s l st = true := List.any_eq_true.mpr ⟨z, List.mem_range.mpr hz, h⟩
/-- what failed cells tell: no way on from there -/
def memo (D : am_D) (v n : Nat) (be : Nat → Nat → Bool) (len m part st : Nat) : Prop := ∀ s, s ≤ part → ∃ f, f < 1024 ∧ D v s = nI f ∧ ∀ l, l < 10 → f.testBit l = true → ∀ k, k + (m - cnt s) = len → clB n be k s l st = false
theorem memo.keep {D D1 : am_D} {v n len m part st : Nat} {be : Nat → Nat → Bool} (h : memo D v n be len m part st) (e : D1 v = D v) : memo D1 v n be len m part st := by
  intro s hs
  obtain ⟨f, h1, h2, h3⟩ := h s hs
  exact ⟨f, h1, by rw [e]; exact h2, h3⟩
section CYC
variable {lay : List am_L} {d : Nat} {D : am_D} {b o n : Nat} {be : Nat → Nat → Bool} {we : Nat → Nat → Nat}
theorem c_extend (hb : isX0 lay b) (hT : trn n be) {v1 v2 : Nat} (g1 : lay[v1]? = some (.inr (.inl (false, 10)))) (g2 : lay[v2]? = some (.inr (.inl (false, 1024)))) (hne : b ≠ v1 ∧ b + 1 ≠ v1 ∧ b + 2 ≠ v1 ∧ b ≠ v2 ∧ b + 1 ≠ v2 ∧ b + 2 ≠ v2 ∧ v1 ≠ v2) {len m part st : Nat} (hlen : len ≤ 10) (hpart : part < 1024) (hst : st < n) :
    ∀ k s dep l D, dep + k = len → 1 ≤ dep → s ≤ part → cnt s + dep = m → l < n → brd D b n be we → D v1 (dep - 1) = nI l → D v1 0 = nI st → memo D v2 n be len m part st →
      ∃ D1, am_MetI lay (d + 2 + k) mX2_extend [.ref b, .ref v1, .ref v2, .int (nI s), .int (nI dep), .int (nI len)] D (bI (clB n be k s l st)) D1 ∧ memo D1 v2 n be len m part st ∧ (∀ i, i < dep → D1 v1 i = D v1 i) ∧ (clB n be k s l st = true → ∀ i, i < k → D1 v1 (dep + i) = nI (lxp n be k s l st i)) ∧ ∀ q, q ≠ v1 → q ≠ v2 → D1 q = D q := by
  have h10 := hT.2.1
  intro k
  induction k with
  | zero =>
    intro s dep l D hd h1 hs hc hl hB el e0 hM
    have e00 : (nI 0).toNatClampNeg = 0 := by decide
    refine ⟨D, eX2_extend hb g1 g2 ?_, hM, fun _ _ => rfl, fun _ i hi => absurd hi (Nat.not_lt_zero i), fun _ _ _ => rfl⟩
    refine ⟨fun h => ?_, fun _ => ⟨fun h => ?_, fun _ => ⟨fun h => ?_, fun _ => ⟨fun h => absurd h (nn_neg (by omega)), fun _ => ⟨fun _ => ?_, fun h => ?_⟩⟩⟩⟩⟩
    · rw [nI_ltI (by omega) (by decide)] at h; omega
    · rw [nI_ltI (by omega) (by omega)] at h; omega
    · rw [nI_ltI (by decide) (by omega)] at h; omega
    · rw [nn_sub h1]
      refine ⟨vp_in_nI (by omega) (by decide), fun h => ?_, fun _ => ⟨vp_in_nI (by decide) (by decide), ?_⟩⟩
      · rw [nI_eq (by omega) (by omega)] at h; omega
      · rw [nI_clamp (by omega), e00, el, e0]
        exact ⟨_, c_wins hb hB hT (by omega) (by omega), bI_nar _, rfl, rfl⟩
    · exact absurd ((nI_ltI (by omega) (by decide)).mpr (by omega)) h
  | succ k ih =>
    intro s dep l D hd h1 hs hc hl hB el e0 hM
    obtain ⟨f, f1, f2, f3⟩ := hM s hs
    -- the loop over the next player
    have loop : ∀ j i D, i + j = n → brd D b n be we → D v1 (dep - 1) = nI l → D v1 0 = nI st → memo D v2 n be len m part st → (∀ z, z < i → (s.testBit z && (be l z && clB n be k (mdf s (onl z)) z st)) = false) →
        ∃ D1, memo D1 v2 n be len m part st ∧ (∀ i, i < dep → D1 v1 i = D v1 i) ∧ (clB n be (k + 1) s l st = true → ∀ i, i < k + 1 → D1 v1 (dep + i) = nI (lxp n be (k + 1) s l st i)) ∧ (∀ q, q ≠ v1 → q ≠ v2 → D1 q = D q) ∧ ∀ Q : Option Value → am_D → Prop, Q (some (.int (bI (clB n be (k + 1) s l st)))) D1 → am_AW lay (d + 2 + k + 1) mX2_extend 73 [.ref b, .ref v1, .ref v2, .int (nI s), .int (nI dep), .int (nI len), .int (nI l), .int (nI i)] [] D Q := by
      intro j
      induction j with
      | zero =>
        intro i D hi hB el e0 hM hz
        obtain rfl : i = n := by omega
        have hf : clB i be (k + 1) s l st = false := List.any_eq_false.mpr fun z hz2 => by rw [hz z (List.mem_range.mp hz2)]; decide
        obtain ⟨f, f1, f2, f3⟩ := hM s hs
        refine ⟨am_up D v2 s (nI (f ||| onl l)), fun s1 hs1 => ?_, fun i hi => by rw [am_up_ne v1 hne.2.2.2.2.2.2], fun h => (by rw [hf] at h; cases h), fun q q1 q2 => am_up_ne q q2, fun Q hQ => rX2_extend_73 hb g1 g2 ⟨_, c_size hb hB, fun _ => ?_, fun h2 => absurd (nI_le (Nat.le_refl _) (by omega)) h2⟩⟩
        · by_cases e : s1 = s
          · subst e
            refine ⟨f ||| onl l, or_lt f1 (onl_lt _), by simp [am_up], fun l1 hl1 ht k1 hk1 => ?_⟩
            rw [Nat.testBit_or, onl_t, Bool.or_eq_true] at ht
            rcases ht with ht | ht
            · exact f3 l1 hl1 ht k1 hk1
            · simp at ht
              obtain ⟨-, rfl⟩ := ht
              obtain rfl : k1 = k + 1 := by omega
              exact hf
          · obtain ⟨f', a1, a2, a3⟩ := hM s1 hs1
            exact ⟨f', a1, by simp [am_up, e]; exact a2, a3⟩
        · refine ⟨vp_in_nI (by omega) (by decide), _, c_only (by omega), vp_in_nI (by omega) (by decide), ?_⟩
          rw [nI_clamp (by omega), f2, nn_or]
          rintro D3 rfl
          rw [hf] at hQ
          exact hQ
      | succ j ihj =>
        intro i D hi hB el e0 hM hz
        have hout : ¬ nI n ≤ nI i := by rw [nI_leI (by omega) (by omega)]; omega
        have hdep : ¬ nI 10 ≤ nI dep := by rw [nI_leI (by decide) (by omega)]; omega
        have skip : (s.testBit i && (be l i && clB n be k (mdf s (onl i)) i st)) = false → ∀ z, z < i + 1 → (s.testBit z && (be l z && clB n be k (mdf s (onl z)) z st)) = false := by
          intro h z hz2
          by_cases e : z = i
          · subst e; exact h
          · exact hz z (by omega)
        cases hsi : s.testBit i with
        | false =>
          obtain ⟨D1, a1, a2, a3, a4, a5⟩ := ihj (i + 1) D (by omega) hB el e0 hM (skip (by rw [hsi]; rfl))
          refine ⟨D1, a1, a2, a3, a4, fun Q hQ => rX2_extend_73 hb g1 g2 ⟨_, c_size hb hB, fun h => absurd h hout, fun _ => ⟨fun h => absurd h hdep, fun _ => ⟨_, c_holds (by omega), fun _ => ?_, fun h => ?_⟩⟩⟩⟩
          · rw [nI_add]; exact a5 Q hQ
          · rw [hsi, Bool.and_false] at h; exact absurd rfl h
        | true =>
          have hwi := c_wins (d := d + 1 + k) hb hB hT (p := l) (q := i) (by omega) (by omega)
          rw [show d + 1 + k + 1 = d + 2 + k by omega] at hwi
          cases hli : be l i with
          | false =>
            obtain ⟨D1, a1, a2, a3, a4, a5⟩ := ihj (i + 1) D (by omega) hB el e0 hM (skip (by rw [hli, hsi]; rfl))
            refine ⟨D1, a1, a2, a3, a4, fun Q hQ => rX2_extend_73 hb g1 g2 ⟨_, c_size hb hB, fun h => absurd h hout, fun _ => ⟨fun h => absurd h hdep, fun _ => ⟨_, c_holds (by omega), fun _ => ?_, fun _ => ⟨_, hwi, fun _ => ?_, fun h => ?_⟩⟩⟩⟩⟩
            · rw [nI_add]; exact a5 Q hQ
            · rw [nI_add]; exact a5 Q hQ
            · rw [hli] at h; exact absurd rfl h
          | true =>
            have hi10 : i < 10 := by omega
            have hcw := cnt_without s (by omega) i hi10 hsi
            have hB8 : brd (am_up D v1 dep (nI i)) b n be we := hB.keep fun q hq => am_up_ne q (by omega)
            have hle : mdf s (onl i) ≤ part := Nat.le_trans (mdf_le _ _) hs
            obtain ⟨D11, r1, r2, r3, r4, r5⟩ := ih (mdf s (onl i)) (dep + 1) i (am_up D v1 dep (nI i)) (by omega) (by omega) hle (by omega) (by omega) hB8 (by simp [am_up]) (by simp [am_up, show ¬ 0 = dep by omega]; exact e0) (hM.keep (am_up_ne v2 (Ne.symm hne.2.2.2.2.2.2)))
            have p1 : ∀ z, z < dep → D11 v1 z = D v1 z := fun z hz => by rw [r3 z (by omega)]; simp [am_up, show ¬ z = dep by omega]
            have p2 : ∀ q, q ≠ v1 → q ≠ v2 → D11 q = D q := fun q q1 q2 => by rw [r5 q q1 q2, am_up_ne q q1]
            have hB11 : brd D11 b n be we := hB.keep fun q hq => p2 q (by omega) (by omega)
            have r1' : am_MetI lay (d + 2 + k) mX2_extend [.ref b, .ref v1, .ref v2, .int (nI (mdf s (onl i))), .int (nI dep + nI 1), .int (nI len)] (am_up D v1 dep (nI i)) (bI (clB n be k (mdf s (onl i)) i st)) D11 := by rw [nI_add]; exact r1
            have e11 : (nI dep).toNatClampNeg = dep := nI_clamp (by omega)
            have hw := c_without (d := d + 1 + k) (lay := lay) (D := am_up D v1 dep (nI i)) (s := s) (p := i) (by omega)
            rw [show d + 1 + k + 1 = d + 2 + k by omega] at hw
            cases hcl : clB n be k (mdf s (onl i)) i st with
            | true =>
              have hall : (s.testBit i && (be l i && clB n be k (mdf s (onl i)) i st)) = true := by rw [hsi, hli, hcl]; rfl
              have hnx := cnx_of (by omega : i < n) hall hz
              have htr := clB_s (by omega : i < n) hall
              refine ⟨D11, r2, p1, fun _ z hz2 => ?_, p2, fun Q hQ => rX2_extend_73 hb g1 g2 ⟨_, c_size hb hB, fun h => absurd h hout, fun _ => ⟨fun h => absurd h hdep, fun _ => ⟨_, c_holds (by omega), fun h => ?_, fun _ => ⟨_, hwi, fun h => ?_, fun _ => ⟨vp_in_nI (by omega) (by decide), ?_⟩⟩⟩⟩⟩⟩
              · cases z with
                | zero =>
                  show D11 v1 dep = nI (cnx n be k s l st)
                  rw [hnx, r3 dep (by omega)]; simp [am_up]
                | succ z =>
                  show D11 v1 (dep + (z + 1)) = nI (lxp n be k (mdf s (onl (cnx n be k s l st))) (cnx n be k s l st) st z)
                  rw [hnx, show dep + (z + 1) = dep + 1 + z by omega]
                  exact r4 hcl z (by omega)
              · rw [hsi, Bool.and_true, decide_eq_true hi10] at h; cases bI_0.mp h
              · rw [hli] at h; cases bI_0.mp h
              · rw [e11]
                rintro D8 rfl
                refine ⟨_, hw, _, D11, r1', fun h => ?_, fun _ => ?_⟩
                · rw [hcl] at h; cases bI_0.mp h
                · rw [htr] at hQ; exact hQ
            | false =>
              obtain ⟨D1, a1, a2, a3, a4, a5⟩ := ihj (i + 1) D11 (by omega) hB11 (by rw [p1 (dep - 1) (by omega)]; exact el) (by rw [p1 0 (by omega)]; exact e0) r2 (skip (by rw [hsi, hli, hcl]; rfl))
              refine ⟨D1, a1, fun z hz2 => by rw [a2 z hz2, p1 z hz2], a3, fun q q1 q2 => by rw [a4 q q1 q2, p2 q q1 q2], fun Q hQ => rX2_extend_73 hb g1 g2 ⟨_, c_size hb hB, fun h => absurd h hout, fun _ => ⟨fun h => absurd h hdep, fun _ => ⟨_, c_holds (by omega), fun h => ?_, fun _ => ⟨_, hwi, fun h => ?_, fun _ => ⟨vp_in_nI (by omega) (by decide), ?_⟩⟩⟩⟩⟩⟩
              · rw [hsi, Bool.and_true, decide_eq_true hi10] at h; cases bI_0.mp h
              · rw [hli] at h; cases bI_0.mp h
              · rw [e11]
                rintro D8 rfl
                refine ⟨_, hw, _, D11, r1', fun _ => ?_, fun h => ?_⟩
                · rw [nI_add]; exact a5 Q hQ
                · rw [hcl] at h; exact absurd rfl h
    -- the entry
    have pre : ∀ Q : Option Value → am_D → Prop, (f.testBit l = true → Q (some (.int (nI 0))) D) → (f.testBit l = false → am_AW lay (d + 2 + k + 1) mX2_extend 73 [.ref b, .ref v1, .ref v2, .int (nI s), .int (nI dep), .int (nI len), .int (nI l), .int (nI 0)] [] D Q) → am_Met lay (d + 2 + (k + 1)) mX2_extend [.ref b, .ref v1, .ref v2, .int (nI s), .int (nI dep), .int (nI len)] D Q := by
      intro Q hq1 hq2
      refine eX2_extend (d := d + 2 + k) hb g1 g2 ⟨fun h => ?_, fun _ => ⟨fun h => ?_, fun _ => ⟨fun h => ?_, fun _ => ⟨fun h => absurd h (nn_neg (by omega)), fun _ => ⟨fun _ => ?_, fun h => ?_⟩⟩⟩⟩⟩
      · rw [nI_ltI (by omega) (by decide)] at h; omega
      · rw [nI_ltI (by omega) (by omega)] at h; omega
      · rw [nI_ltI (by decide) (by omega)] at h; omega
      · rw [nn_sub h1]
        refine ⟨vp_in_nI (by omega) (by decide), fun _ => ⟨vp_in_nI (by omega) (by decide), ?_⟩, fun h => ?_⟩
        · rw [nI_clamp (by omega), nI_clamp (by omega), el, f2]
          refine ⟨_, c_holds (by omega), fun h => hq2 ?_, fun h => hq1 ?_⟩
          · rw [decide_eq_true (by omega : l < 10), Bool.true_and] at h; exact bI_0.mp h
          · rw [decide_eq_true (by omega : l < 10), Bool.true_and] at h; exact bI_n0.mp h
        · rw [Classical.not_not, nI_eq (by omega) (by omega)] at h; omega
      · exact absurd ((nI_ltI (by omega) (by decide)).mpr (by omega)) h
    cases hfl : f.testBit l with
    | true =>
      have hcl := f3 l (by omega) hfl (k + 1) (by omega)
      refine ⟨D, pre _ (fun _ => ⟨by rw [hcl]; rfl, rfl⟩) (fun h => by rw [hfl] at h; cases h), hM, fun _ _ => rfl, fun h => (by rw [hcl] at h; cases h), fun _ _ _ => rfl⟩
    | false =>
      obtain ⟨D1, a1, a2, a3, a4, a5⟩ := loop n 0 D (by omega) hB el e0 hM (fun z hz => absurd hz (Nat.not_lt_zero z))
      exact ⟨D1, pre _ (fun h => by rw [hfl] at h; cases h) (fun _ => a5 _ ⟨rfl, rfl⟩), a1, a2, a3, a4⟩
theorem c_cp (ho : isX2 lay o) {i : Nat} (hi : i < 10) : am_MetP lay d mX2_playerAt [.ref o, .int (nI i)] D (D (o + 1) i) := by
  refine eX2_playerAt ho ⟨fun h => absurd h (nn_neg (by omega)), fun _ => ⟨fun h => ?_, fun _ => ⟨vp_in_nI hi (by decide), ?_⟩⟩⟩
  · rw [nI_leI (by decide) (by omega)] at h; omega
  · rw [nI_clamp (by omega)]; exact ⟨rfl, rfl⟩
theorem pwt_lt {p : Nat} : ∀ j k, pwt n be p j k < 1024 := by
  intro j
  induction j with
  | zero => intro k; exact topA_lt _
  | succ j ih =>
    intro k; unfold pwt
    split
    · exact topA_lt _
    · split
      · exact topA_lt _
      · exact ih _
def prt (n : Nat) (be : Nat → Nat → Bool) (p : Nat) : Nat := pwt n be p 10 0
theorem max_len : ∀ c, c < 11 → (if nI 0 < nI c - nI 3 + nI 1 then nI c - nI 3 + nI 1 else nI 0) = nI (c - 2) := by decide +kernel
theorem c_countLengths (hb : isX0 lay b) (hB : brd D b n be we) (hT : trn n be) {p : Nat} (hp : p < 10) : am_MetP lay (d + 4) mX2_countLengths [.ref b, .int (nI p)] D (nI (cnt (prt n be p) - 2)) := by
  refine eX2_countLengths hb ⟨_, c_partWith hb hB hT hp, _, c_cnt (pwt_lt _ _), ?_⟩
  rw [max_len _ (by have := cnt_le (pwt n be p 10 0); omega)]
  exact ⟨rfl, rfl⟩
def fnd (n : Nat) (be : Nat → Nat → Bool) (p len : Nat) : Bool := decide (len ≤ cnt (prt n be p)) && clB n be (len - 1) (mdf (prt n be p) (onl p)) p p
def cyc (n : Nat) (be : Nat → Nat → Bool) (p len : Nat) : Nat → Nat
  | 0 => p
  | i + 1 => lxp n be (len - 1) (mdf (prt n be p) (onl p)) p p i
theorem l_find (ho : isX2 lay o) (hb : isX0 lay b) (hT : trn n be) (hne : b ≠ o + 1 ∧ b + 1 ≠ o + 1 ∧ b + 2 ≠ o + 1 ∧ b ≠ o + 2 ∧ b + 1 ≠ o + 2 ∧ b + 2 ≠ o + 2) {p len : Nat} (hp : p < n) (h3 : 1 ≤ len) (hlen : len ≤ 10) (hpp : (prt n be p).testBit p = true) (hle : len ≤ cnt (prt n be p)) : ∀ j s D, s + j = prt n be p + 1 → brd D b n be we → (∀ k, k < s → D (o + 2) k = nI 0) → ∃ D1, (fnd n be p len = true → ∀ i, i < len → D1 (o + 1) i = nI (cyc n be p len i)) ∧ (∀ q, q ≠ o + 1 → q ≠ o + 2 → D1 q = D q) ∧ ∀ Q : Option Value → am_D → Prop, Q (some (.int (bI (fnd n be p len)))) D1 → am_AW lay (d + 14) mX2_find 21 [.ref o, .ref b, .int (nI p), .int (nI len), .int (nI (prt n be p)), .int (nI s)] [] D Q := by
  have h10 := hT.2.1
  have hpl : prt n be p < 1024 := pwt_lt _ _
  intro j
  induction j with
  | zero =>
    intro s D hs hB hk
    have hB1 : brd (am_up D (o + 1) 0 (nI p)) b n be we := hB.keep fun q hq => am_up_ne q (by omega)
    have hM : memo (am_up D (o + 1) 0 (nI p)) (o + 2) n be len (cnt (prt n be p)) (prt n be p) p := fun s1 hs1 => ⟨0, by decide, by simp [am_up]; exact hk s1 (by omega), fun l _ h => by simp at h⟩
    have hcw := cnt_without _ hpl p (by omega) hpp
    obtain ⟨D1, a1, a2, a3, a4, a5⟩ := c_extend (d := d + 12 - len) hb hT ho.2.1 ho.2.2 (by omega) hlen hpl hp (len - 1) (mdf (prt n be p) (onl p)) 1 p (am_up D (o + 1) 0 (nI p)) (by omega) (Nat.le_refl _) (mdf_le _ _) (by omega) hp hB1 (by simp [am_up]) (by simp [am_up]) hM
    rw [show d + 12 - len + 2 + (len - 1) = d + 13 by omega] at a1
    have hf : fnd n be p len = clB n be (len - 1) (mdf (prt n be p) (onl p)) p p := by unfold fnd; rw [decide_eq_true hle, Bool.true_and]
    refine ⟨D1, fun h i hi => ?_, fun q q1 q2 => by rw [a5 q q1 q2, am_up_ne q q1], fun Q hQ => rX2_find_21 ho hb ⟨fun _ => ⟨vp_in_nI (by decide) (by decide), ?_⟩, fun h => ?_⟩⟩
    · rw [hf] at h
      cases i with
      | zero => rw [a3 0 (by decide)]; simp [am_up, cyc]
      | succ i =>
        have := a4 h i (by omega)
        rw [Nat.add_comm 1 i] at this
        exact this
    · rw [show (nI 0).toNatClampNeg = 0 from by decide]
      rintro D5 rfl
      refine ⟨_, c_without (by omega), _, D1, a1, ?_⟩
      rw [hf] at hQ
      exact ⟨bI_nar _, hQ⟩
    · exact absurd ((nI_ltI (by omega) (by omega)).mpr (by omega)) h
  | succ j ih =>
    intro s D hs hB hk
    have hB1 : brd (am_up D (o + 2) s (nI 0)) b n be we := hB.keep fun q hq => am_up_ne q (by omega)
    obtain ⟨D1, a1, a2, a3⟩ := ih (s + 1) (am_up D (o + 2) s (nI 0)) (by omega) hB1 (fun k hk2 => by
      by_cases e : k = s
      · subst e; simp [am_up]
      · simp [am_up, e]; exact hk k (by omega))
    refine ⟨D1, a1, fun q q1 q2 => by rw [a2 q q1 q2, am_up_ne q q2], fun Q hQ => rX2_find_21 ho hb ⟨fun h => ?_, fun _ => ⟨fun h => ?_, fun _ => ⟨vp_in_nI (by omega) (by decide), ?_⟩⟩⟩⟩
    · rw [nI_ltI (by omega) (by omega)] at h; omega
    · rw [nI_leI (by decide) (by omega)] at h; omega
    · rw [nI_clamp (by omega)]
      rintro D9 rfl
      rw [nI_add]; exact a3 Q hQ
theorem c_find (ho : isX2 lay o) (hb : isX0 lay b) (hT : trn n be) (hB : brd D b n be we) (hne : b ≠ o + 1 ∧ b + 1 ≠ o + 1 ∧ b + 2 ≠ o + 1 ∧ b ≠ o + 2 ∧ b + 1 ≠ o + 2 ∧ b + 2 ≠ o + 2) {p len : Nat} (hp : p < n) (h3 : 1 ≤ len) (hlen : len ≤ 10) (hpp : (prt n be p).testBit p = true) : ∃ D1, am_MetI lay (d + 14) mX2_find [.ref o, .ref b, .int (nI p), .int (nI len)] D (bI (fnd n be p len)) D1 ∧ (fnd n be p len = true → ∀ i, i < len → D1 (o + 1) i = nI (cyc n be p len i)) ∧ ∀ q, q ≠ o + 1 → q ≠ o + 2 → D1 q = D q := by
  have h10 := hT.2.1
  have hcl := cnt_le (prt n be p)
  by_cases hle : len ≤ cnt (prt n be p)
  · obtain ⟨D1, a1, a2, a3⟩ := l_find (d := d) ho hb hT hne hp h3 hlen hpp hle (prt n be p + 1) 0 D (by omega) hB (fun k hk => absurd hk (Nat.not_lt_zero k))
    refine ⟨D1, eX2_find ho hb ⟨_, c_partWith hb hB hT (by omega), _, c_cnt (pwt_lt _ _), fun _ => a3 _ ⟨rfl, rfl⟩, fun h => ?_⟩, a1, a2⟩
    exact absurd ((nI_leI (by omega) (Nat.lt_of_le_of_lt hcl (by decide))).mpr hle) h
  · have hf : fnd n be p len = false := by unfold fnd; rw [decide_eq_false hle, Bool.false_and]
    refine ⟨D, eX2_find ho hb ⟨_, c_partWith hb hB hT (by omega), _, c_cnt (pwt_lt _ _), fun h => ?_, fun _ => ⟨by rw [hf]; rfl, rfl⟩⟩, fun h => (by rw [hf] at h; cases h), fun _ _ _ => rfl⟩
    rw [nI_leI (by omega) (Nat.lt_of_le_of_lt (cnt_le _) (by decide))] at h
    exact absurd h hle
end CYC
