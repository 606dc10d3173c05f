/-! sums; ordered sets; score sequences -/
theorem sumR_add (f g : Nat → Nat) : ∀ k, sumR (fun q => f q + g q) k = sumR f k + sumR g k := by
  intro k
  induction k with
  | zero => rfl
  | succ k ih =>
    show sumR (fun q => f q + g q) k + (f k + g k) = (sumR f k + f k) + (sumR g k + g k)
    rw [ih]; omega
theorem sumR_mono {f g : Nat → Nat} : ∀ k, (∀ q, q < k → f q ≤ g q) → sumR f k ≤ sumR g k := by
  intro k
  induction k with
  | zero => intro _; exact Nat.le_refl _
  | succ k ih =>
    intro h
    have h1 := ih fun q hq => h q (by omega)
    have h2 := h k (by omega)
    show sumR f k + f k ≤ sumR g k + g k
    omega
theorem sumR_cut {f : Nat → Nat} {i : Nat} : ∀ k, i ≤ k → (∀ q, i ≤ q → q < k → f q = 0) → sumR f k = sumR f i := by
  intro k
  induction k with
  | zero => intro h _; obtain rfl : i = 0 := by omega
            rfl
  | succ k ih =>
    intro h hz
    by_cases e : i = k + 1
    · rw [e]
    · show sumR f k + f k = _
      rw [ih (by omega) fun q a b => hz q a (by omega), hz k (by omega) (by omega)]; rfl
theorem sumR_mul (c : Nat) (f : Nat → Nat) : ∀ k, sumR (fun q => c * f q) k = c * sumR f k := by
  intro k
  induction k with
  | zero => rfl
  | succ k ih =>
    show sumR (fun q => c * f q) k + c * f k = c * (sumR f k + f k)
    rw [ih, Nat.mul_add]
theorem sumR_comm (f : Nat → Nat → Nat) (m : Nat) : ∀ n, sumR (fun i => sumR (fun j => f i j) m) n = sumR (fun j => sumR (fun i => f i j) n) m := by
  intro n
  induction n with
  | zero => exact (sumR_0 m fun _ _ => rfl).symm
  | succ n ih =>
    show sumR (fun i => sumR (fun j => f i j) m) n + sumR (fun j => f n j) m = _
    rw [ih, ← sumR_add]; rfl
theorem sumR_at {f : Nat → Nat} {k q : Nat} (h : q < k) : f q ≤ sumR f k := by
  rw [sumR_split k h]; omega
theorem countP_sum (P : Nat → Bool) : ∀ k, (List.range k).countP P = sumR (fun q => if P q then 1 else 0) k := by
  intro k
  induction k with
  | zero => rfl
  | succ k ih =>
    rw [List.range_succ, List.countP_append, List.countP_singleton, ih]; rfl
theorem cnt_sum (s : Nat) : cnt s = sumB (fun _ => 1) s := countP_sum _ 10
theorem sumB_congr {f g : Nat → Nat} {s : Nat} (h : ∀ q, q < 10 → s.testBit q = true → f q = g q) : sumB f s = sumB g s := by
  refine sumR_congr 10 fun q hq => ?_
  cases e : s.testBit q with
  | true => rw [if_pos rfl, if_pos rfl]; exact h q hq e
  | false => rfl
theorem sumB_mono {f g : Nat → Nat} {s : Nat} (h : ∀ q, q < 10 → s.testBit q = true → f q ≤ g q) : sumB f s ≤ sumB g s := by
  refine sumR_mono 10 fun q hq => ?_
  cases e : s.testBit q with
  | true => rw [if_pos rfl, if_pos rfl]; exact h q hq e
  | false => exact Nat.le_refl _
theorem sumB_or {f : Nat → Nat} {s t : Nat} (h : ∀ q, q < 10 → s.testBit q = true → t.testBit q = false) : sumB f (s ||| t) = sumB f s + sumB f t := by
  unfold sumB
  rw [← sumR_add]
  refine sumR_congr 10 fun q hq => ?_
  rw [Nat.testBit_or]
  cases e : s.testBit q with
  | true => rw [h q hq e]; rfl
  | false =>
    cases t.testBit q <;> simp
theorem sumB_addf (f g : Nat → Nat) (s : Nat) : sumB (fun q => f q + g q) s = sumB f s + sumB g s := by
  unfold sumB
  rw [← sumR_add]
  refine sumR_congr 10 fun q hq => ?_
  cases s.testBit q <;> simp
theorem sumB_const (c s : Nat) : sumB (fun _ => c) s = c * cnt s := by
  rw [cnt_sum]
  unfold sumB
  rw [← sumR_mul]
  refine sumR_congr 10 fun q hq => ?_
  cases s.testBit q <;> simp
theorem cnt_or {s t : Nat} (h : ∀ q, q < 10 → s.testBit q = true → t.testBit q = false) : cnt (s ||| t) = cnt s + cnt t := by
  rw [cnt_sum, cnt_sum, cnt_sum]; exact sumB_or h
theorem cnt_mono {s t : Nat} (h : ∀ q, q < 10 → s.testBit q = true → t.testBit q = true) : cnt s ≤ cnt t := by
  rw [cnt_sum, cnt_sum]
  refine sumR_mono 10 fun q hq => ?_
  cases e : s.testBit q with
  | true => rw [h q hq e]; exact Nat.le_refl _
  | false => rw [if_neg (by decide)]; exact Nat.zero_le _
theorem sumB_ext {f : Nat → Nat} {s t : Nat} (h : ∀ q, q < 10 → s.testBit q = t.testBit q) : sumB f s = sumB f t :=
  sumR_congr 10 fun q hq => by rw [h q hq]
theorem cnt_ext {s t : Nat} (h : ∀ q, q < 10 → s.testBit q = t.testBit q) : cnt s = cnt t := by
  rw [cnt_sum, cnt_sum]; exact sumB_ext h
theorem onl_cnt {p : Nat} (h : p < 10) : cnt (onl p) = 1 := (by decide +kernel : ∀ p, p < 10 → cnt (onl p) = 1) p h
theorem onl_sum {f : Nat → Nat} {p : Nat} (h : p < 10) : sumB f (onl p) = f p := by
  rw [sumB_split h (by rw [onl_t, decide_eq_true h]; simp)]
  have : mdf (onl p) (onl p) = 0 := by unfold mdf; rw [Nat.and_self, Nat.xor_self]
  rw [this, sumB_0]; rfl
theorem cnt_ful {n : Nat} (h : n ≤ 10) : cnt (ful n) = n := (by decide +kernel : ∀ n, n < 11 → cnt (ful n) = n) n (by omega)
/-- the best of a set by a number -/
theorem best_ex (f : Nat → Nat) (P : Nat → Bool) : ∀ k, (∀ q, q < k → P q = false) ∨ ∃ a, a < k ∧ P a = true ∧ ∀ q, q < k → P q = true → f q ≤ f a := by
  intro k
  induction k with
  | zero => exact Or.inl fun q h => absurd h (Nat.not_lt_zero q)
  | succ k ih =>
    cases e : P k with
    | false =>
      rcases ih with h | ⟨a, h1, h2, h3⟩
      · refine Or.inl fun q hq => ?_
        by_cases c : q = k
        · rw [c]; exact e
        · exact h q (by omega)
      · refine Or.inr ⟨a, by omega, h2, fun q hq hp => ?_⟩
        by_cases c : q = k
        · rw [c, e] at hp; cases hp
        · exact h3 q (by omega) hp
    | true =>
      rcases ih with h | ⟨a, h1, h2, h3⟩
      · refine Or.inr ⟨k, by omega, e, fun q hq hp => ?_⟩
        by_cases c : q = k
        · rw [c]; exact Nat.le_refl _
        · rw [h q (by omega)] at hp; cases hp
      · by_cases c : f a ≤ f k
        · refine Or.inr ⟨k, by omega, e, fun q hq hp => ?_⟩
          by_cases c2 : q = k
          · rw [c2]; exact Nat.le_refl _
          · exact Nat.le_trans (h3 q (by omega) hp) c
        · refine Or.inr ⟨a, by omega, h2, fun q hq hp => ?_⟩
          by_cases c2 : q = k
          · rw [c2]; omega
          · exact h3 q (by omega) hp
theorem least_ex (f : Nat → Nat) (P : Nat → Bool) : ∀ k, (∀ q, q < k → P q = false) ∨ ∃ a, a < k ∧ P a = true ∧ ∀ q, q < k → P q = true → f a ≤ f q := by
  intro k
  induction k with
  | zero => exact Or.inl fun q h => absurd h (Nat.not_lt_zero q)
  | succ k ih =>
    cases e : P k with
    | false =>
      rcases ih with h | ⟨a, h1, h2, h3⟩
      · refine Or.inl fun q hq => ?_
        by_cases c : q = k
        · rw [c]; exact e
        · exact h q (by omega)
      · refine Or.inr ⟨a, by omega, h2, fun q hq hp => ?_⟩
        by_cases c : q = k
        · rw [c, e] at hp; cases hp
        · exact h3 q (by omega) hp
    | true =>
      rcases ih with h | ⟨a, h1, h2, h3⟩
      · refine Or.inr ⟨k, by omega, e, fun q hq hp => ?_⟩
        by_cases c : q = k
        · rw [c]; exact Nat.le_refl _
        · rw [h q (by omega)] at hp; cases hp
      · by_cases c : f k ≤ f a
        · refine Or.inr ⟨k, by omega, e, fun q hq hp => ?_⟩
          by_cases c2 : q = k
          · rw [c2]; exact Nat.le_refl _
          · exact Nat.le_trans c (h3 q (by omega) hp)
        · refine Or.inr ⟨a, by omega, h2, fun q hq hp => ?_⟩
          by_cases c2 : q = k
          · rw [c2]; omega
          · exact h3 q (by omega) hp
/-- a set of k of the first numbers none of which is greater than one outside -/
def ordS (l : List Nat) (A k : Nat) : Prop := A < 1024 ∧ (∀ i, A.testBit i = true → i < l.length) ∧ cnt A = k ∧ ∀ a b, a < l.length → b < l.length → A.testBit a = true → A.testBit b = false → l.getD a 0 ≤ l.getD b 0
theorem small_ord {l : List Nat} {A k : Nat} (h9 : ∀ x ∈ l, x ≤ 9) (hN : l.length ≤ 10) (h : ordS l A k) : smallSum l k = sumB (fun q => l.getD q 0) A := by
  obtain ⟨hA, hin, hk, hord⟩ := h
  have main : ∀ m, m ≤ 10 → smk l k m = (sumR (fun q => if A.testBit q && decide (l.getD q 0 < m) then l.getD q 0 else 0) 10, k - sumR (fun q => if A.testBit q && decide (l.getD q 0 < m) then 1 else 0) 10) := by
    intro m
    induction m with
    | zero =>
      intro _
      rw [sumR_0 10 fun q _ => by simp, sumR_0 10 fun q _ => by simp]; rfl
    | succ m ih =>
      intro hm
      have e : smk l k (m + 1) = ((smk l k m).1 + min (tms l m l.length) (smk l k m).2 * m, (smk l k m).2 - min (tms l m l.length) (smk l k m).2) := rfl
      rw [e, ih (by omega)]
      have hc : min (tms l m l.length) (k - sumR (fun q => if A.testBit q && decide (l.getD q 0 < m) then 1 else 0) 10) = sumR (fun q => if A.testBit q && decide (l.getD q 0 = m) then 1 else 0) 10 := by
        have ht : tms l m l.length = sumR (fun q => if decide (q < l.length) && decide (l.getD q 0 = m) then 1 else 0) 10 := by
          unfold tms
          rw [countP_sum, sumR_cut (f := fun q => if decide (q < l.length) && decide (l.getD q 0 = m) then 1 else 0) 10 hN fun q h1 h2 => by rw [decide_eq_false (by omega), Bool.false_and]; rfl]
          refine sumR_congr _ fun q hq => ?_
          rw [decide_eq_true hq, Bool.true_and]
          by_cases c : l.getD q 0 = m
          · rw [if_pos (by simpa using c), if_pos (by simpa using c)]
          · rw [if_neg (by simpa using c), if_neg (by simpa using c)]
        have hle : sumR (fun q => if A.testBit q && decide (l.getD q 0 = m) then 1 else 0) 10 ≤ tms l m l.length := by
          rw [ht]
          refine sumR_mono 10 fun q hq => ?_
          cases e : A.testBit q with
          | false => simp
          | true => rw [decide_eq_true (hin q e)]; exact Nat.le_refl _
        have hk2 : sumR (fun q => if A.testBit q && decide (l.getD q 0 < m) then 1 else 0) 10 + sumR (fun q => if A.testBit q && decide (l.getD q 0 = m) then 1 else 0) 10 ≤ k := by
          rw [← hk, cnt_sum, ← sumR_add]
          refine sumR_mono 10 fun q hq => ?_
          cases e : A.testBit q with
          | false => simp
          | true =>
            by_cases c : l.getD q 0 < m
            · have c2 : ¬ l.getD q 0 = m := by omega
              simp only [decide_eq_true c, decide_eq_false c2]; decide
            · simp only [decide_eq_false c]
              by_cases c2 : l.getD q 0 = m
              · simp only [decide_eq_true c2]; decide
              · simp only [decide_eq_false c2]; decide
        by_cases hall : ∀ q, q < l.length → l.getD q 0 = m → A.testBit q = true
        · have : tms l m l.length ≤ sumR (fun q => if A.testBit q && decide (l.getD q 0 = m) then 1 else 0) 10 := by
            rw [ht]
            refine sumR_mono 10 fun q hq => ?_
            by_cases c : q < l.length ∧ l.getD q 0 = m
            · rw [hall q c.1 c.2, decide_eq_true c.1]; exact Nat.le_refl _
            · rw [if_neg]
              · exact Nat.zero_le _
              · simpa using c
          omega
        · obtain ⟨b, hb⟩ := Classical.not_forall.mp hall
          obtain ⟨hb1, hb⟩ := Classical.not_imp.mp hb
          obtain ⟨hb2, hb3⟩ := Classical.not_imp.mp hb
          have hb4 : A.testBit b = false := by simpa using hb3
          have : k ≤ sumR (fun q => if A.testBit q && decide (l.getD q 0 < m) then 1 else 0) 10 + sumR (fun q => if A.testBit q && decide (l.getD q 0 = m) then 1 else 0) 10 := by
            rw [← hk, cnt_sum, ← sumR_add]
            refine sumR_mono 10 fun q hq => ?_
            cases e : A.testBit q with
            | false => simp
            | true =>
              have := hord q b (hin q e) hb1 e hb4
              by_cases c : l.getD q 0 < m
              · simp only [decide_eq_true c]; simp
              · have c2 : l.getD q 0 = m := by omega
                simp only [decide_eq_true c2]; simp
          omega
      rw [hc]
      refine Prod.ext ?_ ?_
      · show _ + _ * m = _
        rw [Nat.mul_comm, ← sumR_mul, ← sumR_add]
        refine sumR_congr 10 fun q hq => ?_
        generalize l.getD q 0 = v
        cases e : A.testBit q with
        | false => simp
        | true =>
          by_cases c : v < m
          · have c2 : ¬ v = m := by omega
            have c3 : v < m + 1 := by omega
            simp only [decide_eq_true c, decide_eq_false c2, decide_eq_true c3]; simp
          · by_cases c2 : v = m
            · have c3 : v < m + 1 := by omega
              simp only [decide_eq_false c, decide_eq_true c2, decide_eq_true c3]; simp [c2]
            · have c3 : ¬ v < m + 1 := by omega
              simp only [decide_eq_false c, decide_eq_false c2, decide_eq_false c3]; simp
      · show k - _ - _ = k - _
        rw [Nat.sub_sub, ← sumR_add]
        congr 1
        refine sumR_congr 10 fun q hq => ?_
        cases e : A.testBit q with
        | false => simp
        | true =>
          by_cases c : l.getD q 0 < m
          · have c2 : ¬ l.getD q 0 = m := by omega
            have c3 : l.getD q 0 < m + 1 := by omega
            simp only [decide_eq_true c, decide_eq_false c2, decide_eq_true c3]; simp
          · by_cases c2 : l.getD q 0 = m
            · have c3 : l.getD q 0 < m + 1 := by omega
              simp only [decide_eq_false c, decide_eq_true c2, decide_eq_true c3]; simp
            · have c3 : ¬ l.getD q 0 < m + 1 := by omega
              simp only [decide_eq_false c, decide_eq_false c2, decide_eq_false c3]; simp
  unfold smallSum
  rw [main 10 (Nat.le_refl _)]
  refine sumR_congr 10 fun q hq => ?_
  cases e : A.testBit q with
  | false => simp
  | true =>
    have hq2 := hin q e
    have : l.getD q 0 ≤ 9 := by
      rw [List.getD_eq_getElem?_getD, List.getElem?_eq_getElem hq2]
      exact h9 _ (List.getElem_mem hq2)
    rw [decide_eq_true (by omega)]; rfl
theorem ord_min {f : Nat → Nat} {G A : Nat} (hc : cnt G = cnt A) (hA : A < 1024) (ho : ∀ a b, a < 10 → b < 10 → G.testBit a = true → G.testBit b = false → A.testBit b = true → f a ≤ f b) : sumB f G ≤ sumB f A := by
  rcases best_ex f (fun q => G.testBit q) 10 with h | ⟨v, hv1, hv2, hv3⟩
  · have e : cnt G = 0 := by rw [cnt_sum]; exact sumR_0 10 fun q hq => by rw [h q hq]; rfl
    have : sumB f G = 0 := sumR_0 10 fun q hq => by rw [h q hq]; rfl
    omega
  · have key : sumB f G + f v * cnt A ≤ sumB f A + f v * cnt G := by
      rw [← sumB_const, ← sumB_const]
      unfold sumB
      rw [← sumR_add, ← sumR_add]
      refine sumR_mono 10 fun q hq => ?_
      cases e1 : G.testBit q with
      | true =>
        cases e2 : A.testBit q with
        | true => simp
        | false => have := hv3 q hq e1; simpa using this
      | false =>
        cases e2 : A.testBit q with
        | true => have := ho v q hv1 hq hv2 e1 e2; simpa using this
        | false => simp
    rw [hc] at key
    omega
theorem ordS_ex {l : List Nat} (hN : l.length ≤ 10) : ∀ k, k ≤ l.length → ∃ A, ordS l A k := by
  intro k
  induction k with
  | zero => intro _; exact ⟨0, by decide, fun i h => by simp at h, by decide, fun a b _ _ h => by simp at h⟩
  | succ k ih =>
    intro hk
    obtain ⟨A, h1, h2, h3, h4⟩ := ih (by omega)
    rcases least_ex (fun q => l.getD q 0) (fun q => !A.testBit q) l.length with h | ⟨p, hp1, hp2, hp3⟩
    · exfalso
      have : l.length ≤ cnt A := by
        rw [← cnt_ful hN]
        refine cnt_mono fun q hq hb => ?_
        rw [ful_t] at hb
        simpa using h q (of_decide_eq_true hb)
      omega
    · have hp2 : A.testBit p = false := by simpa using hp2
      have ht : ∀ i, (A ||| onl p).testBit i = (A.testBit i || decide (p = i)) := fun i => by rw [Nat.testBit_or, onl_t, decide_eq_true (by omega : p < 10), Bool.true_and]
      refine ⟨A ||| onl p, or_lt h1 (onl_lt _), fun i hi => ?_, ?_, fun a b ha hb h5 h6 => ?_⟩
      · rw [ht, Bool.or_eq_true] at hi
        rcases hi with hi | hi
        · exact h2 i hi
        · rw [← of_decide_eq_true hi]; exact hp1
      · rw [cnt_or, h3, onl_cnt (by omega)]
        intro q hq hb
        rw [onl_t]
        cases e : decide (p = q) with
        | false => rw [Bool.and_false]
        | true => rw [← of_decide_eq_true e, hp2] at hb; cases hb
      · rw [ht, Bool.or_eq_true] at h5
        rw [ht, Bool.or_eq_false_iff] at h6
        rcases h5 with h5 | h5
        · exact h4 a b ha hb h5 h6.1
        · rw [← of_decide_eq_true h5]
          exact hp3 b hb (by rw [h6.1]; rfl)
def tri2 (k : Nat) : Nat := sumR (fun q => q) k
theorem tri2_add (a : Nat) : ∀ t, tri2 (a + t) = tri2 a + t * a + tri2 t := by
  intro t
  induction t with
  | zero => simp [tri2, sumR]
  | succ t ih =>
    have e1 : tri2 (a + (t + 1)) = tri2 (a + t) + (a + t) := rfl
    have e2 : tri2 (t + 1) = tri2 t + t := rfl
    rw [e1, e2, ih, Nat.succ_mul]; omega
theorem tri2_half : ∀ k, k < 12 → k * (k - 1) / 2 = tri2 k := by decide +kernel
/-- the rests r of the set S are the scores of a tournament -/
def lsq (S : Nat) (r : Nat → Nat) : Prop := sumB r S = tri2 (cnt S) ∧ ∀ A, (∀ i, A.testBit i = true → S.testBit i = true) → tri2 (cnt A) ≤ sumB r A
theorem failAt_0 {f : Nat → Nat} {n : Nat} : ∀ j k, 1 ≤ k → failAt f n j k = 0 → ∀ i, k ≤ i → i < k + j → i * (i - 1) / 2 ≤ f i ∧ (i = n → f i ≤ i * (i - 1) / 2) := by
  intro j
  induction j with
  | zero => intro k _ _ i h1 h2; omega
  | succ j ih =>
    intro k hk h i h1 h2
    have h : (if f k < k * (k - 1) / 2 ∨ (k = n ∧ k * (k - 1) / 2 < f k) then k else failAt f n j (k + 1)) = 0 := h
    by_cases c : f k < k * (k - 1) / 2 ∨ (k = n ∧ k * (k - 1) / 2 < f k)
    · rw [if_pos c] at h; omega
    · rw [if_neg c] at h
      by_cases e : i = k
      · subst e
        refine ⟨by omega, fun en => by omega⟩
      · exact ih (k + 1) (by omega) h i (by omega) (by omega)
theorem sub_lt {A S : Nat} (hS : S < 1024) (h : ∀ i, A.testBit i = true → S.testBit i = true) : A < 1024 := by
  apply Nat.lt_pow_two_of_testBit (n := 10)
  intro i hi
  cases e : A.testBit i with
  | false => rfl
  | true =>
    have := tb_lt hS (h i e)
    omega
theorem lsq_of {l : List Nat} (h9 : ∀ x ∈ l, x ≤ 9) (hN : l.length ≤ 10) (hf : failAt (smallSum l) l.length l.length 1 = 0) : lsq (ful l.length) (fun q => l.getD q 0) := by
  have hall := failAt_0 l.length 1 (Nat.le_refl _) hf
  have key : ∀ A, (∀ i, A.testBit i = true → (ful l.length).testBit i = true) → tri2 (cnt A) ≤ sumB (fun q => l.getD q 0) A := by
    intro A hA
    have hA2 : A < 1024 := sub_lt (ful_lt hN) hA
    have hle : cnt A ≤ l.length := by
      have := cnt_mono (s := A) (t := ful l.length) fun q _ h => hA q h
      rw [cnt_ful hN] at this; exact this
    by_cases h0 : cnt A = 0
    · rw [h0]; exact Nat.zero_le _
    · obtain ⟨G, hG⟩ := ordS_ex hN (cnt A) hle
      have h1 := (hall (cnt A) (by omega) (by omega)).1
      rw [tri2_half _ (by omega), small_ord h9 hN hG] at h1
      refine Nat.le_trans h1 (ord_min hG.2.2.1 hA2 fun a b _ _ ha hb hAb => ?_)
      have hb2 := hA b hAb
      rw [ful_t] at hb2
      exact hG.2.2.2 a b (hG.2.1 a ha) (of_decide_eq_true hb2) ha hb
  refine ⟨?_, key⟩
  have h1 := key (ful l.length) fun i h => h
  rw [cnt_ful hN] at h1
  rw [cnt_ful hN]
  by_cases h0 : l.length = 0
  · rw [h0]; exact sumB_0
  · have hG : ordS l (ful l.length) l.length := ⟨ful_lt hN, fun i h => by rw [ful_t] at h; exact of_decide_eq_true h, cnt_ful hN, fun a b _ hb _ h2 => by rw [ful_t, decide_eq_true hb] at h2; cases h2⟩
    have h2 := (hall l.length (by omega) (by omega)).2 rfl
    rw [tri2_half _ (by omega), small_ord h9 hN hG] at h2
    omega
/-- one turn of the construction keeps it -/
theorem lsq_step {S p L : Nat} {r : Nat → Nat} (hS : S < 1024) (h : lsq S r) (hp : S.testBit p = true) (hmax : ∀ q, S.testBit q = true → r q ≤ r p) (hLS : ∀ i, L.testBit i = true → (mdf S (onl p)).testBit i = true) (hLc : cnt L = r p) (hLo : ∀ a b, L.testBit a = true → (mdf S (onl p)).testBit b = true → L.testBit b = false → r a ≤ r b) :
    (∀ q, (mdf S (onl p)).testBit q = true → L.testBit q = false → 1 ≤ r q) ∧ lsq (mdf S (onl p)) (rsI r (mdf S (onl p)) L 10) := by
  have p10 := tb_lt hS hp
  obtain ⟨htot, hsub⟩ := h
  have hS' : mdf S (onl p) < 1024 := mdf_lt hS
  have hin : ∀ i, (mdf S (onl p)).testBit i = true → S.testBit i = true ∧ i ≠ p := by
    intro i hi
    rw [mdf_t, Bool.and_eq_true, onl_t, decide_eq_true p10, Bool.true_and] at hi
    refine ⟨hi.1, fun e => ?_⟩
    rw [e] at hi
    simp at hi
  have hno : (mdf S (onl p)).testBit p = false := by
    cases e : (mdf S (onl p)).testBit p with
    | false => rfl
    | true => exact absurd rfl (hin p e).2
  have hL : L < 1024 := sub_lt hS' hLS
  -- positive
  have pos : ∀ q, (mdf S (onl p)).testBit q = true → L.testBit q = false → 1 ≤ r q := by
    intro q hq hqL
    rcases Nat.eq_zero_or_pos (r q) with h0 | h0
    · exfalso
      have q10 := tb_lt hS' hq
      have hLz : sumB r L = 0 := by
        have : sumB r L ≤ sumB (fun _ => 0) L := sumB_mono fun a _ ha => by have := hLo a q ha hq hqL; omega
        rw [sumB_const] at this; omega
      have dis : ∀ i, i < 10 → L.testBit i = true → (onl q).testBit i = false := by
        intro i _ hi
        rw [onl_t]
        cases e : decide (q = i) with
        | false => rw [Bool.and_false]
        | true => rw [← of_decide_eq_true e, hqL] at hi; cases hi
      have h1 := hsub (L ||| onl q) fun i hi => by
        rw [Nat.testBit_or, Bool.or_eq_true] at hi
        rcases hi with hi | hi
        · exact (hin i (hLS i hi)).1
        · rw [onl_t, decide_eq_true q10, Bool.true_and] at hi
          rw [← of_decide_eq_true hi]; exact (hin q hq).1
      rw [cnt_or dis, sumB_or dis, hLz, onl_sum q10, h0, onl_cnt q10, hLc] at h1
      have e1 : tri2 (r p + 1) = tri2 (r p) + r p := rfl
      have hrp : r p = 0 := by omega
      have hz : sumB r S = 0 := by
        have : sumB r S ≤ sumB (fun _ => 0) S := sumB_mono fun a _ ha => by have := hmax a ha; omega
        rw [sumB_const] at this; omega
      rw [hz] at htot
      have h2 : cnt (onl p) + cnt (onl q) ≤ cnt S := by
        rw [← cnt_or]
        · refine cnt_mono fun i hi hb => ?_
          rw [Nat.testBit_or, Bool.or_eq_true, onl_t, onl_t, decide_eq_true p10, decide_eq_true q10, Bool.true_and, Bool.true_and] at hb
          rcases hb with hb | hb
          · rw [← of_decide_eq_true hb]; exact hp
          · rw [← of_decide_eq_true hb]; exact (hin q hq).1
        · intro i hi hb
          rw [onl_t] at hb ⊢
          rw [decide_eq_true p10, Bool.true_and] at hb
          have e := of_decide_eq_true hb
          rw [decide_eq_false (show ¬ q = i from fun e2 => (hin q hq).2 (e2.trans e.symm)), Bool.and_false]
      rw [onl_cnt p10, onl_cnt q10] at h2
      obtain ⟨m, hm⟩ : ∃ m, cnt S = m + 2 := ⟨cnt S - 2, by omega⟩
      rw [hm] at htot
      have e2 : tri2 (m + 2) = tri2 m + m + (m + 1) := rfl
      omega
    · exact h0
  have rs : ∀ q, rsI r (mdf S (onl p)) L 10 q = if q < 10 ∧ (mdf S (onl p)).testBit q = true ∧ L.testBit q = false then r q - 1 else r q := fun q => rfl
  have rsL : ∀ q, L.testBit q = true → rsI r (mdf S (onl p)) L 10 q = r q := fun q hq => by
    rw [rs, if_neg]; rintro ⟨-, -, c⟩; rw [hq] at c; cases c
  have rsU : ∀ q, (mdf S (onl p)).testBit q = true → L.testBit q = false → rsI r (mdf S (onl p)) L 10 q + 1 = r q := fun q hq hl => by
    rw [rs, if_pos ⟨tb_lt hS' hq, hq, hl⟩]
    have := pos q hq hl; omega
  -- what a set of the rest loses
  have loss : ∀ A, (∀ i, A.testBit i = true → (mdf S (onl p)).testBit i = true) → sumB (rsI r (mdf S (onl p)) L 10) A + cnt (mdf A L) = sumB r A := by
    intro A hA
    have e : ∀ f, sumB f A = sumB f (A &&& L) + sumB f (mdf A L) := by
      intro f
      rw [← sumB_or]
      · refine sumB_ext fun q _ => ?_
        rw [Nat.testBit_or, Nat.testBit_and, mdf_t]
        cases A.testBit q <;> cases L.testBit q <;> rfl
      · intro q _ hq
        rw [Nat.testBit_and, Bool.and_eq_true] at hq
        rw [mdf_t, hq.2, Bool.not_true, Bool.and_false]
    rw [e, e r]
    have e1 : sumB (rsI r (mdf S (onl p)) L 10) (A &&& L) = sumB r (A &&& L) := sumB_congr fun q _ hq => by
      rw [Nat.testBit_and, Bool.and_eq_true] at hq
      exact rsL q hq.2
    have e2 : sumB (rsI r (mdf S (onl p)) L 10) (mdf A L) + cnt (mdf A L) = sumB r (mdf A L) := by
      rw [cnt_sum, ← sumB_addf]
      refine sumB_congr fun q _ hq => ?_
      rw [mdf_t, Bool.and_eq_true] at hq
      exact rsU q (hA q hq.1) (by simpa using hq.2)
    omega
  have cS : cnt (mdf S (onl p)) + 1 = cnt S := cnt_without S hS p p10 hp
  have sS : sumB r S = r p + sumB r (mdf S (onl p)) := sumB_split p10 hp
  refine ⟨pos, ?_, ?_⟩
  · -- the whole
    have h1 := loss (mdf S (onl p)) fun i h => h
    have h2 : cnt (mdf (mdf S (onl p)) L) + cnt L = cnt (mdf S (onl p)) := by
      rw [Nat.add_comm, ← cnt_or]
      · refine cnt_ext fun q _ => ?_
        rw [Nat.testBit_or, mdf_t]
        cases e : L.testBit q with
        | false => simp
        | true => rw [hLS q e]; rfl
      · intro q _ hq
        rw [mdf_t, hq, Bool.not_true, Bool.and_false]
    have e1 : tri2 (cnt S) = tri2 (cnt (mdf S (onl p))) + cnt (mdf S (onl p)) := by rw [← cS]; rfl
    omega
  · -- its parts
    have strong : ∀ a A, cnt A = a → (∀ i, A.testBit i = true → (mdf S (onl p)).testBit i = true) → tri2 (cnt A) ≤ sumB (rsI r (mdf S (onl p)) L 10) A := by
      intro a
      induction a with
      | zero => intro A hc hA; rw [hc]; exact Nat.zero_le _
      | succ a ih =>
        intro A hc hA
        have hA2 : A < 1024 := sub_lt hS' hA
        have hl := loss A hA
        have hr := hsub A fun i hi => (hin i (hA i hi)).1
        rcases best_ex (fun _ => 0) (fun q => (mdf A L).testBit q) 10 with hU | ⟨y, y10, hy, -⟩
        · have : cnt (mdf A L) = 0 := by rw [cnt_sum]; exact sumR_0 10 fun q hq => by rw [hU q hq]; rfl
          omega
        · rcases Nat.lt_or_ge (sumB (rsI r (mdf S (onl p)) L 10) A) (tri2 (cnt A)) with hbad | hok
          · exfalso
            rw [mdf_t, Bool.and_eq_true] at hy
            have hy2 : L.testBit y = false := by simpa using hy.2
            have hyA := hy.1
            have hyS := hA y hyA
            have c1 : cnt (mdf A (onl y)) + 1 = cnt A := cnt_without A hA2 y y10 hyA
            have s1 : sumB (rsI r (mdf S (onl p)) L 10) A = rsI r (mdf S (onl p)) L 10 y + sumB (rsI r (mdf S (onl p)) L 10) (mdf A (onl y)) := sumB_split y10 hyA
            have i1 := ih (mdf A (onl y)) (by omega) fun i hi => by
              rw [mdf_t, Bool.and_eq_true] at hi; exact hA i hi.1
            have e1 : tri2 (cnt A) = tri2 (cnt (mdf A (onl y))) + cnt (mdf A (onl y)) := by rw [← c1]; rfl
            have r1 := rsU y hyS hy2
            have ry : r y ≤ a := by omega
            -- the set A, what L has outside of it, and p
            have d1 : ∀ q, q < 10 → A.testBit q = true → (mdf L A).testBit q = false := fun q _ hq => by rw [mdf_t, hq, Bool.not_true, Bool.and_false]
            have d2 : ∀ q, q < 10 → (A ||| mdf L A).testBit q = true → (onl p).testBit q = false := by
              intro q _ hq
              rw [onl_t]
              cases e : decide (p = q) with
              | false => rw [Bool.and_false]
              | true =>
                rw [← of_decide_eq_true e, Nat.testBit_or, Bool.or_eq_true, mdf_t, Bool.and_eq_true] at hq
                rcases hq with hq | hq
                · have := hA p hq; rw [hno] at this; cases this
                · have := hLS p hq.1; rw [hno] at this; cases this
            have w := hsub (A ||| mdf L A ||| onl p) fun i hi => by
              rw [Nat.testBit_or, Nat.testBit_or, Bool.or_eq_true, Bool.or_eq_true, mdf_t, Bool.and_eq_true] at hi
              rcases hi with (hi | hi) | hi
              · exact (hin i (hA i hi)).1
              · exact (hin i (hLS i hi.1)).1
              · rw [onl_t, decide_eq_true p10, Bool.true_and] at hi
                rw [← of_decide_eq_true hi]; exact hp
            rw [cnt_or d2, cnt_or d1, sumB_or d2, sumB_or d1, onl_cnt p10, onl_sum p10] at w
            have t1 : sumB r (mdf L A) ≤ a * cnt (mdf L A) := by
              rw [← sumB_const]
              refine sumB_mono fun q _ hq => ?_
              rw [mdf_t, Bool.and_eq_true] at hq
              exact Nat.le_trans (hLo q y hq.1 hyS hy2) ry
            have t2 : cnt (A &&& L) + cnt (mdf A L) = cnt A := by
              rw [← cnt_or]
              · refine cnt_ext fun q _ => ?_
                rw [Nat.testBit_or, Nat.testBit_and, mdf_t]
                cases A.testBit q <;> cases L.testBit q <;> rfl
              · intro q _ hq
                rw [Nat.testBit_and, Bool.and_eq_true] at hq
                rw [mdf_t, hq.2, Bool.not_true, Bool.and_false]
            have t3 : cnt (A &&& L) + cnt (mdf L A) = cnt L := by
              rw [← cnt_or]
              · refine cnt_ext fun q _ => ?_
                rw [Nat.testBit_or, Nat.testBit_and, mdf_t]
                cases A.testBit q <;> cases L.testBit q <;> rfl
              · intro q _ hq
                rw [Nat.testBit_and, Bool.and_eq_true] at hq
                rw [mdf_t, hq.1, Bool.not_true, Bool.and_false]
            have e2 : tri2 (cnt A + cnt (mdf L A) + 1) = tri2 (cnt A + cnt (mdf L A)) + (cnt A + cnt (mdf L A)) := rfl
            have e3 := tri2_add (cnt A) (cnt (mdf L A))
            rw [hc] at e2 e3 w hbad t2
            rw [Nat.mul_succ] at e3
            rw [Nat.mul_comm] at t1
            omega
          · exact hok
    intro A hA
    exact strong (cnt A) A rfl hA
