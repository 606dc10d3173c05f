/-! paths by first and last; the model: spanningPaths, pathAt -/
def pF (be : Nat → Nat → Bool) (s a b : Nat) : Nat :=
  if h : a < 10 ∧ s.testBit a = true then (if mdf s (onl a) = 0 then (if a = b then 1 else 0) else sumR (fun q => if (mdf s (onl a)).testBit q && be a q then pF be (mdf s (onl a)) q b else 0) 10) else 0
termination_by s
decreasing_by exact mdf_dec h
def pG (be : Nat → Nat → Bool) (s a b : Nat) : Nat :=
  if h : b < 10 ∧ s.testBit b = true then (if mdf s (onl b) = 0 then (if a = b then 1 else 0) else sumR (fun q => if (mdf s (onl b)).testBit q && be q b then pG be (mdf s (onl b)) a q else 0) 10) else 0
termination_by s
decreasing_by exact mdf_dec h
theorem pF_n {be : Nat → Nat → Bool} {s a b : Nat} (h : ¬ (a < 10 ∧ s.testBit a = true)) : pF be s a b = 0 := by rw [pF, dif_neg h]
theorem pF_0 {be : Nat → Nat → Bool} {s a b : Nat} (h : a < 10 ∧ s.testBit a = true) (h0 : mdf s (onl a) = 0) : pF be s a b = if a = b then 1 else 0 := by rw [pF, dif_pos h, if_pos h0]
theorem pF_s {be : Nat → Nat → Bool} {s a b : Nat} (h : a < 10 ∧ s.testBit a = true) (h0 : mdf s (onl a) ≠ 0) : pF be s a b = sumR (fun q => if (mdf s (onl a)).testBit q && be a q then pF be (mdf s (onl a)) q b else 0) 10 := by rw [pF, dif_pos h, if_neg h0]
theorem pG_n {be : Nat → Nat → Bool} {s a b : Nat} (h : ¬ (b < 10 ∧ s.testBit b = true)) : pG be s a b = 0 := by rw [pG, dif_neg h]
theorem pG_0 {be : Nat → Nat → Bool} {s a b : Nat} (h : b < 10 ∧ s.testBit b = true) (h0 : mdf s (onl b) = 0) : pG be s a b = if a = b then 1 else 0 := by rw [pG, dif_pos h, if_pos h0]
theorem pG_s {be : Nat → Nat → Bool} {s a b : Nat} (h : b < 10 ∧ s.testBit b = true) (h0 : mdf s (onl b) ≠ 0) : pG be s a b = sumR (fun q => if (mdf s (onl b)).testBit q && be q b then pG be (mdf s (onl b)) a q else 0) 10 := by rw [pG, dif_pos h, if_neg h0]
theorem mdf_on {s p q : Nat} (hp : p < 10) : (mdf s (onl p)).testBit q = (s.testBit q && !decide (p = q)) := by rw [mdf_t, onl_t, decide_eq_true hp, Bool.true_and]
theorem pF_sup {be : Nat → Nat → Bool} {b : Nat} : ∀ s, ∀ a, s.testBit b = false → pF be s a b = 0 := by
  intro s
  induction s using Nat.strongRecOn with
  | _ s ih =>
    intro a hb
    by_cases h : a < 10 ∧ s.testBit a = true
    · by_cases h0 : mdf s (onl a) = 0
      · rw [pF_0 h h0, if_neg]
        intro e; rw [← e, h.2] at hb; cases hb
      · rw [pF_s h h0]
        refine sumR_0 10 fun q _ => ?_
        split
        · exact ih _ (mdf_dec h) q (by rw [mdf_on h.1, hb]; rfl)
        · rfl
    · exact pF_n h
theorem pG_sup {be : Nat → Nat → Bool} {a : Nat} : ∀ s, ∀ b, s.testBit a = false → pG be s a b = 0 := by
  intro s
  induction s using Nat.strongRecOn with
  | _ s ih =>
    intro b hb
    by_cases h : b < 10 ∧ s.testBit b = true
    · by_cases h0 : mdf s (onl b) = 0
      · rw [pG_0 h h0, if_neg]
        intro e; rw [e, h.2] at hb; cases hb
      · rw [pG_s h h0]
        refine sumR_0 10 fun q _ => ?_
        split
        · exact ih _ (mdf_dec h) q (by rw [mdf_on h.1, hb]; rfl)
        · rfl
    · exact pG_n h
theorem sumR_pick {f : Nat → Nat} {p : Nat} (k : Nat) (hp : p < k) (h : ∀ q, q < k → q ≠ p → f q = 0) : sumR f k = f p := by
  rw [sumR_split k hp, sumR_0 k fun q hq => ?_, Nat.add_zero]
  by_cases c : q = p
  · rw [if_pos c]
  · rw [if_neg c]; exact h q hq c
theorem pFG {be : Nat → Nat → Bool} : ∀ s a b, pF be s a b = pG be s a b := by
  intro s
  induction s using Nat.strongRecOn with
  | _ s ih =>
    intro a b
    by_cases ha : a < 10 ∧ s.testBit a = true
    · by_cases hb : b < 10 ∧ s.testBit b = true
      · by_cases e : a = b
        · subst e
          by_cases h0 : mdf s (onl a) = 0
          · rw [pF_0 ha h0, pG_0 ha h0]
          · have hz : (mdf s (onl a)).testBit a = false := by rw [mdf_on ha.1]; simp
            rw [pF_s ha h0, pG_s ha h0, sumR_0 10 fun q _ => ?_, sumR_0 10 fun q _ => ?_]
            · split
              · exact pG_sup _ _ hz
              · rfl
            · split
              · exact pF_sup _ _ hz
              · rfl
        · have hba : (mdf s (onl a)).testBit b = true := by rw [mdf_on ha.1, hb.2, decide_eq_false e]; rfl
          have hab : (mdf s (onl b)).testBit a = true := by rw [mdf_on hb.1, ha.2, decide_eq_false (fun c => e c.symm)]; rfl
          have na : mdf s (onl a) ≠ 0 := fun c => by rw [c, Nat.zero_testBit] at hba; cases hba
          have nb : mdf s (onl b) ≠ 0 := fun c => by rw [c, Nat.zero_testBit] at hab; cases hab
          have com : mdf (mdf s (onl a)) (onl b) = mdf (mdf s (onl b)) (onl a) := by rw [mdf_mdf, mdf_mdf, Nat.or_comm]
          have la : mdf s (onl a) < s := mdf_dec ha
          have lb : mdf s (onl b) < s := mdf_dec hb
          have lab : mdf (mdf s (onl a)) (onl b) < s := Nat.lt_trans (mdf_dec ⟨hb.1, hba⟩) la
          rw [pF_s ha na, pG_s hb nb]
          by_cases h0 : mdf (mdf s (onl a)) (onl b) = 0
          · rw [sumR_pick 10 hb.1, sumR_pick 10 ha.1]
            · rw [hba, hab, Bool.true_and]
              split
              · rw [ih _ la, pG_0 ⟨hb.1, hba⟩ h0, if_pos rfl, ← ih _ lb, pF_0 ⟨ha.1, hab⟩ (by rw [← com]; exact h0), if_pos rfl]
              · rfl
            · intro q _ hq
              split
              · rw [← ih _ lb, pF_0 ⟨ha.1, hab⟩ (by rw [← com]; exact h0), if_neg (fun c => hq c.symm)]
              · rfl
            · intro q _ hq
              split
              · rw [ih _ la, pG_0 ⟨hb.1, hba⟩ h0, if_neg hq]
              · rfl
          · have e1 : sumR (fun q => if (mdf s (onl a)).testBit q && be a q then pF be (mdf s (onl a)) q b else 0) 10 = sumR (fun q => sumR (fun r => if be a q && be r b then pG be (mdf (mdf s (onl a)) (onl b)) q r else 0) 10) 10 := by
              refine sumR_congr 10 fun q hq => ?_
              cases c : (mdf s (onl a)).testBit q with
              | false =>
                have cz : (mdf (mdf s (onl a)) (onl b)).testBit q = false := by rw [mdf_t, c, Bool.false_and]
                rw [sumR_0 10 fun r _ => ?_]
                · rfl
                · split
                  · exact pG_sup _ _ cz
                  · rfl
              | true =>
                cases c2 : be a q with
                | false => rw [sumR_0 10 fun r _ => ?_]
                           · rfl
                           · rfl
                | true =>
                  rw [ih _ la, pG_s ⟨hb.1, hba⟩ h0]
                  refine sumR_congr 10 fun r hr => ?_
                  rw [Bool.true_and]
                  cases c3 : (mdf (mdf s (onl a)) (onl b)).testBit r with
                  | true => rfl
                  | false =>
                    have : pG be (mdf (mdf s (onl a)) (onl b)) q r = 0 := by rw [← ih _ lab]; exact pF_sup _ _ c3
                    rw [this]; simp
            have e2 : sumR (fun r => if (mdf s (onl b)).testBit r && be r b then pG be (mdf s (onl b)) a r else 0) 10 = sumR (fun r => sumR (fun q => if be a q && be r b then pG be (mdf (mdf s (onl a)) (onl b)) q r else 0) 10) 10 := by
              refine sumR_congr 10 fun r hr => ?_
              cases c : (mdf s (onl b)).testBit r with
              | false =>
                have cz : (mdf (mdf s (onl a)) (onl b)).testBit r = false := by rw [com, mdf_t, c, Bool.false_and]
                rw [sumR_0 10 fun q _ => ?_]
                · rfl
                · split
                  · rw [← ih _ lab]; exact pF_sup _ _ cz
                  · rfl
              | true =>
                cases c2 : be r b with
                | false =>
                  rw [sumR_0 10 fun q _ => ?_]
                  · rfl
                  · rw [Bool.and_false]; rfl
                | true =>
                  rw [← ih _ lb, pF_s ⟨ha.1, hab⟩ (by rw [← com]; exact h0), ← com]
                  refine sumR_congr 10 fun q hq => ?_
                  rw [Bool.and_true, ih _ lab]
                  cases c3 : (mdf (mdf s (onl a)) (onl b)).testBit q with
                  | true => rfl
                  | false =>
                    rw [pG_sup _ _ c3]; simp
            rw [e1, e2]
            exact sumR_comm _ 10 10
      · have hb2 : s.testBit b = false ∨ ¬ b < 10 := by
          by_cases c : b < 10
          · left
            cases c2 : s.testBit b with
            | false => rfl
            | true => exact absurd ⟨c, c2⟩ hb
          · exact Or.inr c
        rw [pG_n hb]
        rcases hb2 with hb2 | hb2
        · exact pF_sup s a hb2
        · -- b is no player
          have key : ∀ s a, pF be s a b = 0 := by
            intro s
            induction s using Nat.strongRecOn with
            | _ s ih =>
              intro a
              by_cases h : a < 10 ∧ s.testBit a = true
              · by_cases h0 : mdf s (onl a) = 0
                · rw [pF_0 h h0, if_neg (by omega)]
                · rw [pF_s h h0]
                  refine sumR_0 10 fun q _ => ?_
                  split
                  · exact ih _ (mdf_dec h) q
                  · rfl
              · exact pF_n h
          exact key s a
    · rw [pF_n ha]
      have ha2 : s.testBit a = false ∨ ¬ a < 10 := by
        by_cases c : a < 10
        · left
          cases c2 : s.testBit a with
          | false => rfl
          | true => exact absurd ⟨c, c2⟩ ha
        · exact Or.inr c
      rcases ha2 with ha2 | ha2
      · exact (pG_sup s b ha2).symm
      · have key : ∀ s b, pG be s a b = 0 := by
          intro s
          induction s using Nat.strongRecOn with
          | _ s ih =>
            intro b
            by_cases h : b < 10 ∧ s.testBit b = true
            · by_cases h0 : mdf s (onl b) = 0
              · rw [pG_0 h h0, if_neg (by omega)]
              · rw [pG_s h h0]
                refine sumR_0 10 fun q _ => ?_
                split
                · exact ih _ (mdf_dec h) q
                · rfl
            · exact pG_n h
        exact (key s b).symm
theorem pf_sum {be : Nat → Nat → Bool} : ∀ s a, pf be s a = sumR (fun b => pF be s a b) 10 := by
  intro s
  induction s using Nat.strongRecOn with
  | _ s ih =>
    intro a
    by_cases h : a < 10 ∧ s.testBit a = true
    · by_cases h0 : mdf s (onl a) = 0
      · rw [pf_1 h h0, sumR_pick (p := a) 10 h.1, pF_0 h h0, if_pos rfl]
        intro q _ hq
        rw [pF_0 h h0, if_neg (fun c => hq c.symm)]
      · rw [pf_s h h0]
        have : (fun b => pF be s a b) = fun b => sumR (fun q => if (mdf s (onl a)).testBit q && be a q then pF be (mdf s (onl a)) q b else 0) 10 := by
          funext b; exact pF_s h h0
        rw [this, sumR_comm]
        refine sumR_congr 10 fun q _ => ?_
        cases c : (mdf s (onl a)).testBit q && be a q with
        | false => exact (sumR_0 10 fun b _ => rfl).symm
        | true => rw [if_pos rfl, ih _ (mdf_dec h)]; rfl
    · rw [pf_0 h]
      exact (sumR_0 10 fun b _ => pF_n h).symm
theorem ce_sum {n : Nat} {be : Nat → Nat → Bool} (hT : trn n be) : ∀ s, (∀ x, s.testBit x = true → x < n) → ∀ b, ce be s b = sumR (fun a => pG be s a b) 10 := by
  intro s
  induction s using Nat.strongRecOn with
  | _ s ih =>
    intro hs b
    by_cases h : b < 10 ∧ s.testBit b = true
    · by_cases h0 : mdf s (onl b) = 0
      · have : ce be s b = 1 := by rw [ce, dif_pos h, if_pos h0]
        rw [this, sumR_pick (p := b) 10 h.1, pG_0 h h0, if_pos rfl]
        intro q _ hq
        rw [pG_0 h h0, if_neg hq]
      · have : ce be s b = sumR (fun q => if (mdf s (onl b)).testBit q && !be b q then ce be (mdf s (onl b)) q else 0) 10 := by rw [ce, dif_pos h, if_neg h0]
        rw [this]
        have : (fun a => pG be s a b) = fun a => sumR (fun q => if (mdf s (onl b)).testBit q && be q b then pG be (mdf s (onl b)) a q else 0) 10 := by
          funext a; exact pG_s h h0
        rw [this, sumR_comm]
        refine sumR_congr 10 fun q _ => ?_
        cases c : (mdf s (onl b)).testBit q with
        | false => exact (sumR_0 10 fun b _ => rfl).symm
        | true =>
          have c2 : s.testBit q = true ∧ ¬ b = q := by
            rw [mdf_on h.1, Bool.and_eq_true] at c
            exact ⟨c.1, by simpa using c.2⟩
          have ea : be q b = !be b q := hT.anti (hs b h.2) (hs q c2.1) c2.2
          rw [Bool.true_and, Bool.true_and, ← ea]
          cases c3 : be q b with
          | false => exact (sumR_0 10 fun b _ => rfl).symm
          | true =>
            rw [if_pos rfl, ih _ (mdf_dec h) (fun x hx => by rw [mdf_t, Bool.and_eq_true] at hx; exact hs x hx.1)]; rfl
    · have : ce be s b = 0 := by rw [ce, dif_neg h]
      rw [this]
      exact (sumR_0 10 fun b _ => pG_n h).symm
theorem paths_two {n : Nat} {be : Nat → Nat → Bool} (hT : trn n be) : sumR (fun p => pf be (ful n) p) n = sumB (ce be (ful n)) (ful n) := by
  have h10 := hT.2.1
  have hf : ∀ x, (ful n).testBit x = true → x < n := fun x hx => by rw [ful_t] at hx; exact of_decide_eq_true hx
  have e1 : sumR (fun p => pf be (ful n) p) n = sumR (fun p => pf be (ful n) p) 10 := by
    refine (sumR_cut 10 h10 fun q h1 _ => pf_0 ?_).symm
    rintro ⟨-, c⟩
    have := hf q c; omega
  have e2 : sumB (ce be (ful n)) (ful n) = sumR (fun p => ce be (ful n) p) 10 := by
    refine sumR_congr 10 fun q _ => ?_
    cases c : (ful n).testBit q with
    | true => rw [if_pos rfl]
    | false =>
      rw [if_neg (by decide), ce, dif_neg]
      rintro ⟨-, c2⟩; rw [c] at c2; cases c2
  rw [e1, e2]
  have a1 : (fun p => pf be (ful n) p) = fun p => sumR (fun b => pF be (ful n) p b) 10 := by funext p; exact pf_sum _ _
  have a2 : (fun p => ce be (ful n) p) = fun b => sumR (fun a => pF be (ful n) a b) 10 := by
    funext b
    rw [ce_sum hT _ hf]
    exact sumR_congr 10 fun a _ => (pFG _ _ _).symm
  rw [a1, a2]
  exact sumR_comm _ 10 10
/-! the table of the model -/
def tbP (D : am_D) (o n : Nat) (be : Nat → Nat → Bool) (S L : Nat) : Prop := ∀ s l, l < n → 1 ≤ s → (s < S ∨ (s = S ∧ l < L)) → D (o + 6) (10 * s + l) = nI (pf be s l)
section MO11
variable {lay : List am_L} {d : Nat} {D : am_D} {o n : Nat} {be : Nat → Nat → Bool} {we : Nat → Nat → Nat} {T T' : am_T} {H : List am_T} {s t : List Nat}
def pfI (be : Nat → Nat → Bool) (s p i : Nat) : Nat := sumR (fun q => if (mdf s (onl p)).testBit q && be p q then pf be (mdf s (onl p)) q else 0) i
theorem pfI_le {s p : Nat} (hs : s < 1024) (i : Nat) : pfI be s p i ≤ 362880 * i := sumR_le i fun q => by
  show (if (mdf s (onl p)).testBit q && be p q then pf be (mdf s (onl p)) q else 0) ≤ 362880
  split
  · exact pf_small (mdf_lt hs)
  · exact Nat.zero_le _
theorem l_cp50 (ho : isX11 lay o) (hB : mrow (D (o + 1)) (n, be, we)) (hT : trn n be) {s p : Nat} (hs1 : 1 ≤ s) (hs : s ≤ ful n) (hp : p < n) (htb : tbP D o n be s p) {Q : Option Value → am_D → Prop} (hQ : am_AW lay (d + 1) mX11_countsPaths 12 [.ref o, .int (nI s), .int (nI (p + 1)), .null, .null, .null] [] (am_up D (o + 6) (10 * s + p) (nI (pf be s p))) Q) : am_AW lay (d + 1) mX11_countsPaths 12 [.ref o, .int (nI s), .int (nI p), .null, .null, .null] [] D Q := by
  have h10 := hT.2.1
  have hs3 : s < 1024 := Nat.lt_of_le_of_lt hs (ful_lt h10)
  have hin : ∀ x, s.testBit x = true → x < n := fun x hx => by
    rcases Nat.lt_or_ge x n with c | c
    · exact c
    · have : s < 2 ^ x := Nat.lt_of_lt_of_le (show s < 2 ^ n by have := Nat.two_pow_pos n; unfold ful at hs; omega) (Nat.pow_le_pow_right (by decide) c)
      rw [Nat.testBit_lt_two_pow this] at hx; cases hx
  have out : s.testBit p = false → ∀ i, am_AW lay (d + 1) mX11_countsPaths 50 [.ref o, .int (nI s), .int (nI p), .int (nI (mdf s (onl p))), .int (nI 0), .int (nI i)] [] D Q := by
    intro hb i
    have hh := k_has (lay := lay) (d := d) (D := D) (s := s) (p := p) (by omega)
    rw [pf_0 (fun c => by rw [hb] at c; cases c.2)] at hQ
    rw [hb] at hh
    refine rX11_countsPaths_50 ho ⟨_, k_n ho hB, fun _ => ?_, fun _ => ⟨_, hh, fun _ => ?_, fun c => absurd rfl c⟩⟩
    · rw [nn_mul, nI_add, nI_clamp (by omega), nI_add]
      refine ⟨vp_in_nI (by omega) (by decide), ?_⟩
      rintro D2 rfl
      exact hQ
    · rw [nn_mul, nI_add, nI_clamp (by omega), nI_add]
      refine ⟨vp_in_nI (by omega) (by decide), ?_⟩
      rintro D2 rfl
      exact hQ
  have inn : s.testBit p = true → ∀ acc, acc + pfI be s p n = pf be s p → acc ≤ 1 → am_AW lay (d + 1) mX11_countsPaths 50 [.ref o, .int (nI s), .int (nI p), .int (nI (mdf s (onl p))), .int (nI acc), .int (nI 0)] [] D Q := by
    intro hb acc hacc h1
    have hh := k_has (lay := lay) (d := d) (D := D) (s := s) (p := p) (by omega)
    rw [hb] at hh
    have hl : ∀ i, i ≤ n → am_AW lay (d + 1) mX11_countsPaths 50 [.ref o, .int (nI s), .int (nI p), .int (nI (mdf s (onl p))), .int (nI (acc + pfI be s p i)), .int (nI i)] [] D Q := by
      refine up_loop ?_ fun i hi ih => ?_
      · refine rX11_countsPaths_50 ho ⟨_, k_n ho hB, fun _ => ?_, fun h => absurd (nI_le (Nat.le_refl _) (by omega)) h⟩
        rw [nn_mul, nI_add, nI_clamp (by omega), nI_add, hacc]
        refine ⟨vp_in_nI (by omega) (by decide), ?_⟩
        rintro D2 rfl
        exact hQ
      · have e : pfI be s p (i + 1) = pfI be s p i + if (mdf s (onl p)).testBit i && be p i then pf be (mdf s (onl p)) i else 0 := rfl
        rw [e, ← Nat.add_assoc] at ih
        have h2 := k_has (lay := lay) (d := d) (D := D) (s := mdf s (onl p) &&& msk (be p)) (p := i) (by omega)
        rw [Nat.testBit_and, hT.mskt] at h2
        refine rX11_countsPaths_50 ho ⟨_, k_n ho hB, fun h => absurd h (ge_no hi (by omega)), fun _ => ⟨_, hh, fun c => absurd c (by decide), fun _ => ⟨_, k_beaten ho hB (by omega), ?_⟩⟩⟩
        rw [nn_and]
        refine ⟨_, h2, fun c => ?_, fun c => ?_⟩
        · rw [bI_0.mp c, if_neg (by decide)] at ih
          rw [nI_add, nI_add]; exact ih
        · have c2 := bI_n0.mp c
          rw [c2, if_pos rfl] at ih
          rw [Bool.and_eq_true] at c2
          have hlt : mdf s (onl p) < s := mdf_dec ⟨by omega, hb⟩
          have hr1 : 1 ≤ mdf s (onl p) := by
            rcases Nat.eq_zero_or_pos (mdf s (onl p)) with z | z
            · rw [z, Nat.zero_testBit] at c2; cases c2.1
            · exact z
          rw [nn_mul, nI_add, nI_clamp (by omega), htb _ _ hi hr1 (Or.inl hlt), nI_add, nI_add]
          exact ⟨vp_in_nI (by omega) (by decide), ih⟩
    exact hl 0 (Nat.zero_le _)
  have hh := k_has (lay := lay) (d := d) (D := D) (s := s) (p := p) (by omega)
  have e0 : pfI be s p n = sumR (fun q => if (mdf s (onl p)).testBit q && be p q then pf be (mdf s (onl p)) q else 0) 10 := by
    refine (sumR_cut 10 h10 fun q h1 _ => ?_).symm
    have : (mdf s (onl p)).testBit q = false := by
      cases c : (mdf s (onl p)).testBit q with
      | false => rfl
      | true => rw [mdf_t, Bool.and_eq_true] at c; have := hin q c.1; omega
    rw [this]; rfl
  refine rX11_countsPaths_12 ho ⟨_, k_n ho hB, fun h => absurd h (ge_no hp (by omega)), fun _ => ⟨_, hh, fun c => ?_, fun c => ⟨fun c2 => ?_, fun c2 => ?_⟩⟩⟩
  · rw [nn_shl1 p (by omega), nn_dif, ← onl_p (by omega)]
    exact out (bI_0.mp c) 0
  · rw [nn_shl1 p (by omega), nn_dif, ← onl_p (by omega)] at c2 ⊢
    have hb := bI_n0.mp c
    have hne : mdf s (onl p) ≠ 0 := fun e => c2 (by rw [e])
    exact inn hb 0 (by rw [Nat.zero_add, e0, pf_s ⟨by omega, hb⟩ hne]) (by decide)
  · rw [nn_shl1 p (by omega), nn_dif, ← onl_p (by omega)] at c2 ⊢
    have hb := bI_n0.mp c
    rw [Classical.not_not, nI_eq (Nat.lt_trans (mdf_lt hs3) (by decide)) (by decide)] at c2
    refine inn hb 1 ?_ (by decide)
    rw [pf_1 ⟨by omega, hb⟩ c2, e0, c2, sumR_0 10 fun q _ => by rw [Nat.zero_testBit]; rfl]
theorem k_countsPaths (ho : isX11 lay o) (hB : mrow (D (o + 1)) (n, be, we)) (hT : trn n be) : ∃ D1, am_MetV lay (d + 1) mX11_countsPaths [.ref o] D D1 ∧ tbP D1 o n be (ful n + 1) 0 ∧ ∀ q, q ≠ o + 6 → D1 q = D q := by
  have h10 := hT.2.1
  have hf := ful_lt h10
  have row : ∀ s, 1 ≤ s → s ≤ ful n → ∀ i, i ≤ n → ∀ D, mrow (D (o + 1)) (n, be, we) → tbP D o n be s i → ∃ D1, tbP D1 o n be (s + 1) 0 ∧ (∀ q, q ≠ o + 6 → D1 q = D q) ∧ ∀ Q : Option Value → am_D → Prop, am_AW lay (d + 1) mX11_countsPaths 2 [.ref o, .int (nI (s + 1)), .null, .null, .null, .null] [] D1 Q → am_AW lay (d + 1) mX11_countsPaths 12 [.ref o, .int (nI s), .int (nI i), .null, .null, .null] [] D Q := by
    intro s hs1 hs2
    refine up_loop ?_ fun i hi ih => ?_
    · intro D hB hT2
      refine ⟨D, fun s2 l hl h1 h2 => hT2 s2 l hl h1 ?_, fun _ _ => rfl, fun Q hQ => rX11_countsPaths_12 ho ⟨_, k_n ho hB, fun _ => ?_, fun h => absurd (nI_le (Nat.le_refl _) (by omega)) h⟩⟩
      · rcases h2 with h2 | h2
        · by_cases c : s2 = s
          · exact Or.inr ⟨c, by omega⟩
          · exact Or.inl (by omega)
        · omega
      · rw [nI_add]; exact hQ
    · intro D hB hT2
      have hB2 : mrow (am_up D (o + 6) (10 * s + i) (nI (pf be s i)) (o + 1)) (n, be, we) := by rw [am_up_ne (o + 1) (by omega)]; exact hB
      obtain ⟨D1, g1, g2, g3⟩ := ih (am_up D (o + 6) (10 * s + i) (nI (pf be s i))) hB2 (fun s2 l hl h1 h2 => by
        rw [am_upI]
        by_cases c : s2 = s ∧ l = i
        · rw [if_pos (by omega), c.1, c.2]
        · rw [if_neg (by omega)]; exact hT2 s2 l hl h1 (by omega))
      exact ⟨D1, g1, fun q hq => by rw [g2 q hq, am_up_ne q hq], fun Q hQ => l_cp50 ho hB hT hs1 hs2 hi hT2 (g3 Q hQ)⟩
  have all : ∀ s, s ≤ ful n + 1 → 1 ≤ s → ∀ D, mrow (D (o + 1)) (n, be, we) → tbP D o n be s 0 → ∃ D1, tbP D1 o n be (ful n + 1) 0 ∧ (∀ q, q ≠ o + 6 → D1 q = D q) ∧ ∀ Q : Option Value → am_D → Prop, Q none D1 → am_AW lay (d + 1) mX11_countsPaths 2 [.ref o, .int (nI s), .null, .null, .null, .null] [] D Q := by
    refine up_loop ?_ fun s hs ih => ?_
    · intro _ D hB hT2
      exact ⟨D, hT2, fun _ _ => rfl, fun Q hQ => rX11_countsPaths_2 ho ⟨_, k_all ho hB h10, fun _ => hQ, fun c => absurd (nI_lt (by omega) (by omega)) c⟩⟩
    · intro h1 D hB hT2
      obtain ⟨D2, g1, g2, g3⟩ := row s h1 (by omega) 0 (Nat.zero_le _) D hB hT2
      have hB2 : mrow (D2 (o + 1)) (n, be, we) := by rw [g2 (o + 1) (by omega)]; exact hB
      obtain ⟨D1, j1, j2, j3⟩ := ih (by omega) D2 hB2 g1
      exact ⟨D1, j1, fun q hq => by rw [j2 q hq, g2 q hq], fun Q hQ => rX11_countsPaths_2 ho ⟨_, k_all ho hB h10, fun c => absurd c (lt_no (by omega) (by omega)), fun _ => g3 Q (j3 Q hQ)⟩⟩
  obtain ⟨D1, g1, g2, g3⟩ := all 1 (by omega) (Nat.le_refl _) D hB (fun s l hl h1 h2 => by omega)
  exact ⟨D1, eX11_countsPaths ho (g3 _ ⟨rfl, rfl⟩), g1, g2⟩
theorem m_spanningPaths (ho : isX11 lay o) (h : RM D o (T, T', H, s, t)) (hT : okT T) : ∃ D1, am_MetI lay (d + 2) mX11_spanningPaths [.ref o] D (nI (sumB (ce T.2.1 (ful T.1)) (ful T.1))) D1 ∧ RM D1 o (T, T', H, s, t) ∧ onlyM D D1 o := by
  have h10 : T.1 ≤ 10 := hT.1.2.1
  have h2 : 2 ≤ T.1 := hT.1.1
  have hB : mrow (D (o + 1)) (T.1, T.2.1, T.2.2) := h.1
  have hf := ful_lt h10
  have hf1 : 1 ≤ ful T.1 := by
    have : 2 ^ 1 ≤ 2 ^ T.1 := Nat.pow_le_pow_right (by decide) (by omega)
    unfold ful; omega
  obtain ⟨D1, g1, g2, g3⟩ := k_countsPaths (d := d) ho hB hT.1
  have hB1 : mrow (D1 (o + 1)) (T.1, T.2.1, T.2.2) := by rw [g3 (o + 1) (by omega)]; exact hB
  refine ⟨D1, eX11_spanningPaths ho ⟨D1, g1, ?_⟩, h.scr fun q _ hq => g3 q (by omega), fun q hq => g3 q (by omega)⟩
  rw [← paths_two hT.1]
  have hl : ∀ i, i ≤ T.1 → am_AW lay (d + 2) mX11_spanningPaths 8 [.ref o, .int (nI (sumR (fun p => pf T.2.1 (ful T.1) p) i)), .int (nI i)] [] D1 (fun r D2 => r = some (.int (nI (sumR (fun p => pf T.2.1 (ful T.1) p) T.1))) ∧ D2 = D1) := by
    refine up_loop ?_ fun i hi ih => ?_
    · exact rX11_spanningPaths_8 ho ⟨_, k_n ho hB1, fun _ => ⟨rfl, rfl⟩, fun h => absurd (nI_le (Nat.le_refl _) (by omega)) h⟩
    · refine rX11_spanningPaths_8 ho ⟨_, k_n ho hB1, fun h => absurd h (ge_no hi (by omega)), fun _ => ⟨_, k_all ho hB1 h10, ?_⟩⟩
      rw [nn_mul, nI_add, nI_clamp (by omega), g2 _ _ hi hf1 (Or.inl (by omega)), nI_add, nI_add]
      exact ⟨vp_in_nI (by omega) (by decide), ih⟩
  exact hl 0 (Nat.zero_le _)
/-! the least spanning path -/
theorem low_least {s x : Nat} (hs : s < 1024) (h : s.testBit x = true) : lowb s ≤ x := by
  rcases Nat.lt_or_ge x (lowb s) with c | c
  · rw [low_min s hs x (tb_lt hs h) c] at h; cases h
  · exact c
theorem fs_inv (hT : trn n be) : ∀ i, i < n → (∀ x, (fsp n be i).1.testBit x = true → x < n) ∧ cnt (fsp n be i).1 + i = n ∧ (topA n be (fsp n be i).1 &&& (fsp n be i).2) ≠ 0 := by
  have h10 := hT.2.1
  intro i
  induction i with
  | zero =>
    intro hi
    have hf : ∀ x, (ful n).testBit x = true → x < n := fun x hx => by rw [ful_t] at hx; exact of_decide_eq_true hx
    refine ⟨hf, by show cnt (ful n) + 0 = n; rw [cnt_ful h10]; rfl, fun e => ?_⟩
    have e : topA n be (ful n) &&& ful n = 0 := e
    obtain ⟨⟨x, hx⟩, d2, -⟩ := topA_dmn hT hf ⟨0, by rw [ful_t]; exact decide_eq_true (by omega)⟩
    have : (topA n be (ful n) &&& ful n).testBit x = true := by rw [Nat.testBit_and, hx, d2 x hx]; rfl
    rw [e, Nat.zero_testBit] at this; cases this
  | succ i ih =>
    intro hi
    obtain ⟨a1, a2, a3⟩ := ih (by omega)
    obtain ⟨b1, b2⟩ := fsp_lt (be := be) h10 i
    have hand : (topA n be (fsp n be i).1 &&& (fsp n be i).2) < 1024 := and_lt (topA_lt _)
    obtain ⟨x10, hx⟩ := low_in _ hand a3
    rw [Nat.testBit_and, Bool.and_eq_true] at hx
    have hxs := topA_sub h10 a1 _ hx.1
    have c1 := cnt_without _ b1 _ x10 hxs
    refine ⟨fun x hx => ?_, ?_, fun e => ?_⟩
    · have hx : (mdf (fsp n be i).1 (onl (lowb (topA n be (fsp n be i).1 &&& (fsp n be i).2)))).testBit x = true := hx
      rw [mdf_t, Bool.and_eq_true] at hx; exact a1 x hx.1
    · show cnt (mdf (fsp n be i).1 (onl (lowb (topA n be (fsp n be i).1 &&& (fsp n be i).2)))) + (i + 1) = n
      omega
    · have e : topA n be (mdf (fsp n be i).1 (onl (lowb (topA n be (fsp n be i).1 &&& (fsp n be i).2)))) &&& msk (be (lowb (topA n be (fsp n be i).1 &&& (fsp n be i).2))) = 0 := e
      generalize lowb (topA n be (fsp n be i).1 &&& (fsp n be i).2) = x at *
      generalize (fsp n be i).1 = S at *
      obtain ⟨c, hc⟩ : ∃ c, cnt (mdf S (onl x)) = c + 1 := ⟨cnt (mdf S (onl x)) - 1, by omega⟩
      have h0 : mdf S (onl x) ≠ 0 := fun z => by rw [z, cntz_] at hc; omega
      have hp := (pf_pos hT (c + 1) S x (by omega) a1 b1).mpr hx.1
      rw [pf_s ⟨x10, hxs⟩ h0] at hp
      apply hp
      refine sumR_0 10 fun q hq => ?_
      cases c1 : (mdf S (onl x)).testBit q && be x q with
      | false => rfl
      | true =>
        rw [Bool.and_eq_true] at c1
        rw [if_pos rfl]
        apply Classical.byContradiction
        intro c2
        have hin : ∀ z, (mdf S (onl x)).testBit z = true → z < n := fun z hz => by rw [mdf_t, Bool.and_eq_true] at hz; exact a1 z hz.1
        have := (pf_pos hT c (mdf S (onl x)) q hc hin (mdf_lt b1)).mp c2
        have : (topA n be (mdf S (onl x)) &&& msk (be x)).testBit q = true := by rw [Nat.testBit_and, this, hT.mskt, c1.2]; rfl
        rw [e, Nat.zero_testBit] at this; cases this
theorem m_pathAt (ho : isX11 lay o) (h : RM D o (T, T', H, s, t)) (hT : okT T) (v : Int32) : (isP T.1 v = false → am_MetI lay (d + 3) mX11_pathAt [.ref o, .int v] D (-1) D) ∧ ∀ p, p < T.1 → v = nI p → ∃ D1, am_MetI lay (d + 3) mX11_pathAt [.ref o, .int v] D (nI (fsx T.1 T.2.1 p)) D1 ∧ RM D1 o (T, T', H, s, t) ∧ onlyM D D1 o := by
  have h10 : T.1 ≤ 10 := hT.1.2.1
  have hB : mrow (D (o + 1)) (T.1, T.2.1, T.2.2) := h.1
  have hf := ful_lt h10
  constructor
  · intro hv
    refine eX11_pathAt ho ⟨_, k_isPlayer ho h.1 hT.1 v, fun h1 => ?_, fun _ => ⟨rfl, rfl⟩⟩
    rw [hv] at h1; exact absurd rfl h1
  · rintro place hp rfl
    obtain ⟨D1, g1, g2, g3⟩ := k_countsPaths (d := d + 1) ho hB hT.1
    have hB1 : mrow (D1 (o + 1)) (T.1, T.2.1, T.2.2) := by rw [g3 (o + 1) (by omega)]; exact hB
    have hl : ∀ k, k ≤ place + 1 → ∀ v4, (k = place + 1 → v4 = nI (fsx T.1 T.2.1 place)) → am_AW lay (d + 3) mX11_pathAt 30 [.ref o, .int (nI place), .int (nI (fsp T.1 T.2.1 k).1), .int (nI ((fsp T.1 T.2.1 k).1 &&& (fsp T.1 T.2.1 k).2)), .int v4, .int (nI k)] [] D1 (fun r D2 => r = some (.int (nI (fsx T.1 T.2.1 place))) ∧ D2 = D1) := by
      refine up_loop ?_ fun k hk ih => ?_
      · intro v4 hv
        refine rX11_pathAt_30 ho ⟨fun _ => ⟨by rw [hv rfl], rfl⟩, fun c => absurd (nI_lt (by omega) (by omega)) c⟩
      · intro v4 _
        obtain ⟨a1, a2, a3⟩ := fs_inv hT.1 k (by omega)
        obtain ⟨b1, b2⟩ := fsp_lt (be := T.2.1) h10 k
        have hand : (topA T.1 T.2.1 (fsp T.1 T.2.1 k).1 &&& (fsp T.1 T.2.1 k).2) < 1024 := and_lt (topA_lt _)
        obtain ⟨x10, hx⟩ := low_in _ hand a3
        have hx0 := hx
        rw [Nat.testBit_and, Bool.and_eq_true] at hx
        have hxs := topA_sub h10 a1 _ hx.1
        have hxn := a1 _ hxs
        have ih := ih (nI (fsx T.1 T.2.1 k)) (fun e => by rw [show place = k by omega])
        have eS : (fsp T.1 T.2.1 (k + 1)).1 = mdf (fsp T.1 T.2.1 k).1 (onl (fsx T.1 T.2.1 k)) := rfl
        have eC : (fsp T.1 T.2.1 (k + 1)).2 = msk (T.2.1 (fsx T.1 T.2.1 k)) := rfl
        rw [eS, eC] at ih
        have exx : lowb (topA T.1 T.2.1 (fsp T.1 T.2.1 k).1 &&& (fsp T.1 T.2.1 k).2) = fsx T.1 T.2.1 k := rfl
        rw [exx] at hx hxs hxn x10
        have hS1 : 1 ≤ (fsp T.1 T.2.1 k).1 := by
          rcases Nat.eq_zero_or_pos (fsp T.1 T.2.1 k).1 with z | z
          · rw [z, Nat.zero_testBit] at hxs; cases hxs
          · exact z
        have hSf : (fsp T.1 T.2.1 k).1 ≤ ful T.1 := by
          have : (fsp T.1 T.2.1 k).1 < 2 ^ T.1 := Nat.lt_pow_two_of_testBit _ fun i hi => by
            cases c : (fsp T.1 T.2.1 k).1.testBit i with
            | false => rfl
            | true => have := a1 i c; omega
          unfold ful; omega
        obtain ⟨c, hc⟩ : ∃ c, cnt (fsp T.1 T.2.1 k).1 = c + 1 := ⟨cnt (fsp T.1 T.2.1 k).1 - 1, by omega⟩
        have hpos := fun q => pf_pos hT.1 c (fsp T.1 T.2.1 k).1 q hc a1 b1
        have inner : ∀ j, j ≤ fsx T.1 T.2.1 k → am_AW lay (d + 3) mX11_pathAt 39 [.ref o, .int (nI place), .int (nI (fsp T.1 T.2.1 k).1), .int (nI ((fsp T.1 T.2.1 k).1 &&& (fsp T.1 T.2.1 k).2)), .int (nI j), .int (nI k)] [] D1 (fun r D2 => r = some (.int (nI (fsx T.1 T.2.1 place))) ∧ D2 = D1) := by
          refine up_loop ?_ fun j hj ihj => ?_
          · have hh := k_has (lay := lay) (d := d + 2) (D := D1) (s := (fsp T.1 T.2.1 k).1 &&& (fsp T.1 T.2.1 k).2) (p := fsx T.1 T.2.1 k) (by omega)
            rw [Nat.testBit_and, hxs, hx.2] at hh
            refine rX11_pathAt_39 ho ⟨_, hh, fun c => absurd c (by decide), fun _ => ?_⟩
            rw [nn_mul, nI_add, nI_clamp (by omega), g2 _ _ hxn hS1 (Or.inl (by omega))]
            refine ⟨vp_in_nI (by omega) (by decide), fun _ => ⟨_, k_beaten ho hB1 (by omega), ?_⟩, fun c => ?_⟩
            · rw [nn_shl1 _ (by omega), nn_dif, nn_and, ← onl_p x10, nI_add]; exact ih
            · rw [Classical.not_not, nI_eq (Nat.lt_of_le_of_lt (pf_small b1) (by decide)) (by decide)] at c
              exact absurd c ((hpos _).mpr hx.1)
          · refine rX11_pathAt_39 ho ⟨_, k_has (by omega), fun _ => ?_, fun c1 => ?_⟩
            · rw [nI_add]; exact ihj
            · have c2 := bI_n0.mp c1
              rw [Nat.testBit_and, Bool.and_eq_true] at c2
              have hjn := a1 j c2.1
              rw [nn_mul, nI_add, nI_clamp (by omega), g2 _ _ hjn hS1 (Or.inl (by omega)), nI_add, nI_add]
              refine ⟨vp_in_nI (by omega) (by decide), fun c3 => ?_, fun _ => ihj⟩
              exfalso
              have h3 := (hpos j).mp fun e => c3 (by rw [e])
              have h4 : (topA T.1 T.2.1 (fsp T.1 T.2.1 k).1 &&& (fsp T.1 T.2.1 k).2).testBit j = true := by rw [Nat.testBit_and, h3, c2.2]; rfl
              have h5 := low_least hand h4
              rw [exx] at h5; omega
        exact rX11_pathAt_30 ho ⟨fun c => absurd c (lt_no (by omega) (by omega)), fun _ => inner 0 (Nat.zero_le _)⟩
    refine ⟨D1, eX11_pathAt ho ⟨_, k_isPlayer ho h.1 hT.1 _, fun _ => ⟨D1, g1, _, k_all ho hB1 h10, _, k_all ho hB1 h10, ?_⟩, fun h1 => ?_⟩, h.scr fun q _ hq => g3 q (by omega), fun q hq => g3 q (by omega)⟩
    · have := hl 0 (Nat.zero_le _) (nI 0) (fun e => by omega)
      have e : (fsp T.1 T.2.1 0).1 &&& (fsp T.1 T.2.1 0).2 = ful T.1 := Nat.and_self _
      rw [e] at this
      exact this
    · rw [Classical.not_not, isP_n h10 (by omega), decide_eq_true hp] at h1; cases bI_0.mp h1
end MO11
