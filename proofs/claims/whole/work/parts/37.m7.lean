/-! the model: checkSequence, construct -/
theorem onl_p {p : Nat} (h : p < 10) : onl p = 2 ^ p := if_pos h
theorem low_min : ∀ s, s < 1024 → ∀ q, q < 10 → q < lowb s → s.testBit q = false := by decide +kernel
theorem grF_pre {r : Nat → Nat} {S : Nat} : ∀ i, (∀ q, q < i → S.testBit q = false) → grF r S i = lowb S := by
  intro i
  induction i with
  | zero => intro _; rfl
  | succ i ih =>
    intro h
    show (if S.testBit i = true ∧ _ then i else grF r S i) = lowb S
    rw [if_neg (by rw [h i (by omega)]; simp), ih fun q hq => h q (by omega)]
theorem smF_pre {r : Nat → Nat} {S : Nat} : ∀ i, (∀ q, q < i → S.testBit q = false) → smF r S i = lowb S := by
  intro i
  induction i with
  | zero => intro _; rfl
  | succ i ih =>
    intro h
    show (if S.testBit i = true ∧ _ then i else smF r S i) = lowb S
    rw [if_neg (by rw [h i (by omega)]; simp), ih fun q hq => h q (by omega)]
theorem low_at {S i : Nat} (hS : S < 1024) (hi : S.testBit i = true) (h : ∀ q, q < i → S.testBit q = false) : lowb S = i := by
  have h0 : S ≠ 0 := fun e => by rw [e] at hi; simp at hi
  obtain ⟨a, b⟩ := low_in S hS h0
  have i10 := tb_lt hS hi
  rcases Nat.lt_trichotomy (lowb S) i with c | c | c
  · rw [h _ c] at b; cases b
  · exact c
  · have := low_min S hS i i10 c; rw [hi] at this; cases this
theorem grF_hi {r : Nat → Nat} {S i : Nat} : ∀ j, i ≤ j → (∀ q, i ≤ q → S.testBit q = false) → grF r S j = grF r S i := by
  intro j
  induction j with
  | zero => intro h _; obtain rfl : i = 0 := by omega
            rfl
  | succ j ih =>
    intro h hz
    by_cases e : i = j + 1
    · rw [e]
    · show (if S.testBit j = true ∧ _ then j else grF r S j) = _
      rw [if_neg (by rw [hz j (by omega)]; simp), ih (by omega) hz]
theorem smF_hi {r : Nat → Nat} {S i : Nat} : ∀ j, i ≤ j → (∀ q, i ≤ q → S.testBit q = false) → smF r S j = smF r S i := by
  intro j
  induction j with
  | zero => intro h _; obtain rfl : i = 0 := by omega
            rfl
  | succ j ih =>
    intro h hz
    by_cases e : i = j + 1
    · rw [e]
    · show (if S.testBit j = true ∧ _ then j else smF r S j) = _
      rw [if_neg (by rw [hz j (by omega)]; simp), ih (by omega) hz]
theorem grF_best {r : Nat → Nat} {S : Nat} : ∀ i q, q < i → S.testBit q = true → r q ≤ r (grF r S i) := by
  intro i
  induction i with
  | zero => intro q h; omega
  | succ i ih =>
    intro q hq hs
    show _ ≤ r (if S.testBit i = true ∧ r (grF r S i) ≤ r i then i else grF r S i)
    by_cases c : S.testBit i = true ∧ r (grF r S i) ≤ r i
    · rw [if_pos c]
      by_cases e : q = i
      · rw [e]; exact Nat.le_refl _
      · exact Nat.le_trans (ih q (by omega) hs) c.2
    · rw [if_neg c]
      by_cases e : q = i
      · rw [e] at hs ⊢
        have : ¬ r (grF r S i) ≤ r i := fun h => c ⟨hs, h⟩
        omega
      · exact ih q (by omega) hs
theorem smF_best {r : Nat → Nat} {S : Nat} : ∀ i q, q < i → S.testBit q = true → r (smF r S i) ≤ r q := by
  intro i
  induction i with
  | zero => intro q h; omega
  | succ i ih =>
    intro q hq hs
    show r (if S.testBit i = true ∧ r i < r (smF r S i) then i else smF r S i) ≤ _
    by_cases c : S.testBit i = true ∧ r i < r (smF r S i)
    · rw [if_pos c]
      by_cases e : q = i
      · rw [e]; exact Nat.le_refl _
      · have := ih q (by omega) hs; omega
    · rw [if_neg c]
      by_cases e : q = i
      · rw [e] at hs ⊢
        have : ¬ r i < r (smF r S i) := fun h => c ⟨hs, h⟩
        omega
      · exact ih q (by omega) hs
theorem mdf_mdf {s a b : Nat} : mdf (mdf s a) b = mdf s (a ||| b) := by
  apply Nat.eq_of_testBit_eq
  intro i
  rw [mdf_t, mdf_t, mdf_t, Nat.testBit_or, Bool.not_or, Bool.and_assoc]
theorem slF_ok {r : Nat → Nat} {S : Nat} (hS : S < 1024) : ∀ k, k ≤ cnt S → cnt (slF r S k) = k ∧ ∀ a b, (slF r S k).testBit a = true → S.testBit b = true → (slF r S k).testBit b = false → r a ≤ r b := by
  intro k
  induction k with
  | zero => intro _; exact ⟨cntz_, fun a b h => by simp [slF] at h⟩
  | succ k ih =>
    intro hk
    obtain ⟨h1, h2⟩ := ih (by omega)
    have hO : mdf S (slF r S k) < 1024 := mdf_lt hS
    have h0 : mdf S (slF r S k) ≠ 0 := by
      intro e
      have : cnt S ≤ cnt (slF r S k) := cnt_mono fun q hq hs => by
        cases c : (slF r S k).testBit q with
        | true => rfl
        | false =>
          have : (mdf S (slF r S k)).testBit q = true := by rw [mdf_t, hs, c]; rfl
          rw [e] at this; simp at this
      omega
    obtain ⟨x10, hx⟩ := smF_in (r := r) hO h0 10 (Nat.le_refl _)
    have ht : ∀ i, (slF r S (k + 1)).testBit i = ((slF r S k).testBit i || decide (smF r (mdf S (slF r S k)) 10 = i)) := fun i => by
      show (slF r S k ||| onl (smF r (mdf S (slF r S k)) 10)).testBit i = _
      rw [Nat.testBit_or, onl_t, decide_eq_true x10, Bool.true_and]
    rw [mdf_t, Bool.and_eq_true] at hx
    have hx2 : (slF r S k).testBit (smF r (mdf S (slF r S k)) 10) = false := by simpa using hx.2
    constructor
    · show cnt (slF r S k ||| onl (smF r (mdf S (slF r S k)) 10)) = _
      rw [cnt_or, h1, onl_cnt x10]
      intro q hq hb
      rw [onl_t]
      cases e : decide (smF r (mdf S (slF r S k)) 10 = q) with
      | false => rw [Bool.and_false]
      | true => rw [← of_decide_eq_true e, hx2] at hb; cases hb
    · intro a b ha hb hb2
      rw [ht, Bool.or_eq_true] at ha
      rw [ht, Bool.or_eq_false_iff] at hb2
      rcases ha with ha | ha
      · exact h2 a b ha hb hb2.1
      · rw [← of_decide_eq_true ha]
        exact smF_best 10 b (tb_lt hS hb) (by rw [mdf_t, hb, hb2.1]; rfl)
/-- the run of a construction goes well -/
theorem run_ok {l : List Nat} (h9 : ∀ x ∈ l, x ≤ 9) (hN : l.length ≤ 10) (hf : failAt (smallSum l) l.length l.length 1 = 0) : ∀ k, lsq (csR l k).1 (csR l k).2.1 ∧ (csR l k).1 < 1024 ∧ (∀ i, (csR l k).1.testBit i = true → i < l.length) ∧ ∀ q, (csR l k).2.1 q ≤ 9 := by
  intro k
  induction k with
  | zero =>
    refine ⟨lsq_of h9 hN hf, ful_lt hN, fun i h => ?_, fun q => ?_⟩
    · have h : (ful l.length).testBit i = true := h
      rw [ful_t] at h; exact of_decide_eq_true h
    · show l.getD q 0 ≤ 9
      rw [List.getD_eq_getElem?_getD]
      cases e : l[q]? with
      | none => exact Nat.zero_le _
      | some x => exact h9 x (List.mem_of_getElem? e)
  | succ k ih =>
    obtain ⟨a1, a2, a3, a4⟩ := ih
    show lsq (csN (csR l k)).1 (csN (csR l k)).2.1 ∧ _
    refine ⟨?_, ?_, ?_, csN_r9 a4⟩
    · unfold csN
      by_cases c : (csR l k).1 = 0
      · rw [if_pos c]; exact a1
      · rw [if_neg c]
        generalize hg : csR l k = st at *
        obtain ⟨S, r, be⟩ := st
        obtain ⟨p10, hp⟩ := grF_in (r := r) a2 c 10 (Nat.le_refl _)
        have hS' : mdf S (onl (grF r S 10)) < 1024 := mdf_lt a2
        have c1 := cnt_without S a2 _ p10 hp
        have s1 : sumB r S = r (grF r S 10) + sumB r (mdf S (onl (grF r S 10))) := sumB_split p10 hp
        have t1 : tri2 (cnt (mdf S (onl (grF r S 10)))) ≤ sumB r (mdf S (onl (grF r S 10))) := a1.2 (mdf S (onl (grF r S 10))) fun i hi => by rw [mdf_t, Bool.and_eq_true] at hi; exact hi.1
        have t2 : tri2 (cnt S) = tri2 (cnt (mdf S (onl (grF r S 10)))) + cnt (mdf S (onl (grF r S 10))) := by
          have : tri2 (cnt (mdf S (onl (grF r S 10))) + 1) = tri2 (cnt (mdf S (onl (grF r S 10)))) + cnt (mdf S (onl (grF r S 10))) := rfl
          rw [c1] at this; exact this
        have t3 : sumB r S = tri2 (cnt S) := a1.1
        obtain ⟨b1, b2⟩ := slF_ok (r := r) hS' (r (grF r S 10)) (by omega)
        exact (lsq_step a2 a1 hp (fun q hq => grF_best 10 q (tb_lt a2 hq) hq) (slF_sub hS' _) b1 b2).2
    · exact Nat.lt_of_le_of_lt csN_le a2
    · intro i hi
      refine a3 i ?_
      have hi : (csN (csR l k)).1.testBit i = true := hi
      unfold csN at hi
      by_cases c : (csR l k).1 = 0
      · rw [if_pos c] at hi; exact hi
      · rw [if_neg c] at hi
        have hi : (mdf (csR l k).1 (onl (grF (csR l k).2.1 (csR l k).1 10))).testBit i = true := hi
        rw [mdf_t, Bool.and_eq_true] at hi; exact hi.1
theorem run_turn {S : Nat} {r : Nat → Nat} (h : lsq S r) (hS : S < 1024) (h0 : S ≠ 0) : r (grF r S 10) ≤ cnt (mdf S (onl (grF r S 10))) ∧ ∀ q, (mdf S (onl (grF r S 10))).testBit q = true → (slF r (mdf S (onl (grF r S 10))) (r (grF r S 10))).testBit q = false → 1 ≤ r q := by
  obtain ⟨p10, hp⟩ := grF_in (r := r) hS h0 10 (Nat.le_refl _)
  have hS' : mdf S (onl (grF r S 10)) < 1024 := mdf_lt hS
  have c1 := cnt_without S hS _ p10 hp
  have s1 : sumB r S = r (grF r S 10) + sumB r (mdf S (onl (grF r S 10))) := sumB_split p10 hp
  have t1 := h.2 (mdf S (onl (grF r S 10))) fun i hi => by rw [mdf_t, Bool.and_eq_true] at hi; exact hi.1
  have t2 : tri2 (cnt S) = tri2 (cnt (mdf S (onl (grF r S 10)))) + cnt (mdf S (onl (grF r S 10))) := by
    have : tri2 (cnt (mdf S (onl (grF r S 10))) + 1) = tri2 (cnt (mdf S (onl (grF r S 10)))) + cnt (mdf S (onl (grF r S 10))) := rfl
    rw [c1] at this; exact this
  have t3 : sumB r S = tri2 (cnt S) := h.1
  have hle : r (grF r S 10) ≤ cnt (mdf S (onl (grF r S 10))) := by omega
  obtain ⟨b1, b2⟩ := slF_ok (r := r) hS' (r (grF r S 10)) hle
  exact ⟨hle, (lsq_step hS h hp (fun q hq => grF_best 10 q (tb_lt hS hq) hq) (slF_sub hS' _) b1 b2).1⟩
theorem run_csOK {l : List Nat} (h9 : ∀ x ∈ l, x ≤ 9) (hN : l.length ≤ 10) (hf : failAt (smallSum l) l.length l.length 1 = 0) : ∀ k, k < 10 → (csR l k).1 ≠ 0 → csOK (csR l k) := by
  intro k _ h0
  obtain ⟨a1, a2, -, -⟩ := run_ok h9 hN hf k
  exact (run_turn a1 a2 h0).2
theorem csR_stay {l : List Nat} {k : Nat} (h : (csR l k).1 = 0) : ∀ j, csR l (k + j) = csR l k := by
  intro j
  induction j with
  | zero => rfl
  | succ j ih =>
    show csN (csR l (k + j)) = _
    rw [ih]
    unfold csN
    rw [if_pos h]
/-- p's results against X are laid: those of L are beaten -/
def bK (be : Nat → Nat → Bool) (p X L : Nat) : Nat → Nat → Bool := fun a b => if a = p ∧ X.testBit b = true then L.testBit b else if b = p ∧ X.testBit a = true then !L.testBit a else be a b
theorem bK_y {be : Nat → Nat → Bool} {p X L x : Nat} (hx : L.testBit x = true) (hp : X.testBit p = false) (hne : x ≠ p) (x10 : x < 10) : stw (bK be p X L) p x = bK be p (X ||| onl x) L := by
  funext a b
  have ht : ∀ i, (X ||| onl x).testBit i = (X.testBit i || decide (x = i)) := fun i => by rw [Nat.testBit_or, onl_t, decide_eq_true x10, Bool.true_and]
  unfold stw bK
  rw [ht, ht]
  by_cases c1 : a = p ∧ b = x
  · obtain ⟨rfl, rfl⟩ := c1; simp [hx]
  · rw [if_neg c1]
    by_cases c2 : a = x ∧ b = p
    · obtain ⟨rfl, rfl⟩ := c2; simp [hx, hne]
    · rw [if_neg c2]
      by_cases e1 : a = p
      · have e2 : ¬ x = b := fun h => c1 ⟨e1, h.symm⟩
        by_cases e3 : b = p
        · simp [e1, e3, hp, hne]
        · simp [e1, e2, e3]
      · by_cases e2 : b = p
        · have e3 : ¬ x = a := fun h => c2 ⟨h.symm, e2⟩
          simp [e1, e2, e3]
        · simp [e1, e2]
theorem bK_n {be : Nat → Nat → Bool} {p X L x : Nat} (hx : L.testBit x = false) (hp : X.testBit p = false) (hne : x ≠ p) (x10 : x < 10) : stw (bK be p X L) x p = bK be p (X ||| onl x) L := by
  funext a b
  have ht : ∀ i, (X ||| onl x).testBit i = (X.testBit i || decide (x = i)) := fun i => by rw [Nat.testBit_or, onl_t, decide_eq_true x10, Bool.true_and]
  unfold stw bK
  rw [ht, ht]
  by_cases c1 : a = x ∧ b = p
  · obtain ⟨rfl, rfl⟩ := c1; simp [hx, hne]
  · rw [if_neg c1]
    by_cases c2 : a = p ∧ b = x
    · obtain ⟨rfl, rfl⟩ := c2; simp [hx]
    · rw [if_neg c2]
      by_cases e1 : a = p
      · have e2 : ¬ x = b := fun h => c2 ⟨e1, h.symm⟩
        by_cases e3 : b = p
        · simp [e1, e3, hp, hne]
        · simp [e1, e2, e3]
      · by_cases e2 : b = p
        · have e3 : ¬ x = a := fun h => c1 ⟨h.symm, e2⟩
          simp [e1, e2, e3]
        · simp [e1, e2]
theorem bK_all {be : Nat → Nat → Bool} {p X L : Nat} (hX : X < 1024) : bK be p X L = stI be p X L 10 := by
  funext a b
  unfold bK stI
  have e : ∀ c, (c < 10 ∧ X.testBit c = true) ↔ X.testBit c = true := fun c => ⟨fun h => h.2, fun h => ⟨tb_lt hX h, h⟩⟩
  simp only [e]
theorem bK_0 {be : Nat → Nat → Bool} {p L : Nat} : bK be p 0 L = be := by
  funext a b
  unfold bK
  rw [if_neg (by simp), if_neg (by simp)]
section MO7
variable {lay : List am_L} {d : Nat} {D : am_D} {o n : Nat} {be : Nat → Nat → Bool} {we : Nat → Nat → Nat} {r : Nat → Nat} {T T' : am_T} {H : List am_T} {s t : List Nat}
/-- the least of those not yet taken -/
def lsO (s : List Nat) (tk i : Nat) (v : Int32) : Prop := (v = -1 ∧ ∀ q, q < i → tk.testBit q = true) ∨ ∃ p, p < i ∧ tk.testBit p = false ∧ v = nI p ∧ ∀ q, q < i → tk.testBit q = false → s.getD p 0 ≤ s.getD q 0
theorem getD_le {s : List Nat} (h9 : ∀ x ∈ s, x ≤ 9) (i : Nat) : s.getD i 0 ≤ 9 := by
  rw [List.getD_eq_getElem?_getD]
  cases e : s[i]? with
  | none => exact Nat.zero_le _
  | some x => exact h9 x (List.mem_of_getElem? e)
theorem mSq.at {D : am_D} {o i : Nat} {s : List Nat} (h : mSq D o s) (hi : i < s.length) : D (o + 4) i = nI (s.getD i 0) := by
  refine h.2.2 i _ ?_
  rw [List.getD_eq_getElem?_getD, List.getElem?_eq_getElem hi]; rfl
theorem l_fails20 (ho : isX11 lay o) (h : mSq D o s) (h9 : ∀ x ∈ s, x ≤ 9) {tk k sum : Nat} (htk : tk < 1024) {Q : Option Value → am_D → Prop} (hQ : ∀ v, lsO s tk s.length v → am_AW lay (d + 1) mX11_fails 20 [.ref o, .int (nI sum), .int (nI tk), .int (nI k), .int v, .int (nI s.length), .null] [] D Q) : ∀ i, i ≤ s.length → ∀ v, lsO s tk i v → am_AW lay (d + 1) mX11_fails 20 [.ref o, .int (nI sum), .int (nI tk), .int (nI k), .int v, .int (nI i), .null] [] D Q := by
  have h10 := h.1
  have hlen : D o 4 = nI s.length := h.2.1
  refine up_loop hQ fun i hi ih => ?_
  intro v hv
  refine rX11_fails_20 ho ⟨fun c => ?_, fun _ => ⟨_, k_has (p := i) (by omega), fun c => ?_, fun c => ?_⟩⟩
  · rw [hlen] at c; exact absurd c (ge_no hi (by omega))
  · refine ⟨fun _ => ?_, fun c => absurd rfl c⟩
    rw [nI_add]
    refine ih v ?_
    rcases hv with ⟨a, b⟩ | ⟨p, a, b, c', e⟩
    · refine Or.inl ⟨a, fun q hq => ?_⟩
      by_cases eq : q = i
      · rw [eq]; exact bI_n0.mp c
      · exact b q (by omega)
    · refine Or.inr ⟨p, by omega, b, c', fun q hq hb => ?_⟩
      by_cases eq : q = i
      · rw [eq, bI_n0.mp c] at hb; cases hb
      · exact e q (by omega) hb
  · rw [Classical.not_not, bI_0] at c
    have take : (∀ q, q < i → tk.testBit q = false → s.getD i 0 ≤ s.getD q 0) → am_AW lay (d + 1) mX11_fails 20 [.ref o, .int (nI sum), .int (nI tk), .int (nI k), .int (nI i), .int (nI (i + 1)), .null] [] D Q := by
      intro hle
      refine ih _ (Or.inr ⟨i, by omega, c, rfl, fun q hq hb => ?_⟩)
      by_cases eq : q = i
      · rw [eq]; exact Nat.le_refl _
      · exact hle q (by omega) hb
    rcases hv with ⟨a, b⟩ | ⟨p, a, b, c', e⟩
    · subst a
      refine ⟨fun _ => ⟨fun c2 => absurd c2 (by decide), fun _ => ?_⟩, fun c2 => absurd (by decide) c2⟩
      rw [nI_add]
      exact take fun q hq hb => by rw [b q hq] at hb; cases hb
    · subst c'
      have g1 := getD_le h9 p
      have g2 := getD_le h9 i
      refine ⟨fun c2 => absurd c2 (nn_neg (by omega)), fun _ => ?_⟩
      rw [nI_clamp (by omega), nI_clamp (by omega), h.at (show p < s.length by omega), h.at hi, nI_add]
      refine ⟨vp_in_nI (by omega) (by decide), vp_in_nI (by omega) (by decide), fun c2 => ⟨fun _ => ?_, fun c3 => absurd rfl c3⟩, fun c2 => ⟨fun c3 => absurd c3 (by decide), fun _ => ?_⟩⟩
      · rw [nI_leI (by omega) (by omega)] at c2
        refine ih _ (Or.inr ⟨p, by omega, b, rfl, fun q hq hb => ?_⟩)
        by_cases eq : q = i
        · rw [eq]; exact c2
        · exact e q (by omega) hb
      · rw [nI_leI (by omega) (by omega)] at c2
        exact take fun q hq hb => by have := e q hq hb; omega
theorem k_fails (ho : isX11 lay o) (h : mSq D o s) (h9 : ∀ x ∈ s, x ≤ 9) : am_MetP lay (d + 1) mX11_fails [.ref o] D (nI (failAt (smallSum s) s.length s.length 1)) := by
  have h10 := h.1
  have hlen : D o 4 = nI s.length := h.2.1
  have hl : ∀ j k tk, 1 ≤ k → k + j = s.length + 1 → ordS s tk (k - 1) → ∀ Q : Option Value → am_D → Prop, Q (some (.int (nI (failAt (smallSum s) s.length j k)))) D → am_AW lay (d + 1) mX11_fails 6 [.ref o, .int (nI (sumB (fun q => s.getD q 0) tk)), .int (nI tk), .int (nI k), .null, .null, .null] [] D Q := by
    intro j
    induction j with
    | zero =>
      intro k tk h1 hk ht Q hQ
      refine rX11_fails_6 ho ⟨fun _ => hQ, fun c => ?_⟩
      rw [hlen] at c; exact absurd (nI_lt (by omega) (by omega)) c
    | succ j ih =>
      intro k tk h1 hk ht Q hQ
      obtain ⟨t1, t2, t3, t4⟩ := ht
      have hQ : Q (some (.int (nI (if smallSum s k < k * (k - 1) / 2 ∨ (k = s.length ∧ k * (k - 1) / 2 < smallSum s k) then k else failAt (smallSum s) s.length j (k + 1))))) D := hQ
      refine rX11_fails_6 ho ⟨fun c => ?_, fun _ => ?_⟩
      · rw [hlen] at c; exact absurd c (lt_no (by omega) (by omega))
      · refine l_fails20 ho h h9 t1 (fun v hv => ?_) 0 (Nat.zero_le _) (-1) (Or.inl ⟨rfl, fun q hq => absurd hq (Nat.not_lt_zero q)⟩)
        rcases hv with ⟨a, b⟩ | ⟨p, a, b, rfl, e⟩
        · exfalso
          have : s.length ≤ cnt tk := by
            rw [← cnt_ful h10]
            exact cnt_mono fun q hq hb => by rw [ful_t] at hb; exact b q (of_decide_eq_true hb)
          omega
        · have htt : ∀ i, (tk ||| onl p).testBit i = (tk.testBit i || decide (p = i)) := fun i => by rw [Nat.testBit_or, onl_t, decide_eq_true (by omega : p < 10), Bool.true_and]
          have dis : ∀ q, q < 10 → tk.testBit q = true → (onl p).testBit q = false := by
            intro q hq hb
            rw [onl_t]
            cases e : decide (p = q) with
            | false => rw [Bool.and_false]
            | true => rw [← of_decide_eq_true e, b] at hb; cases hb
          have hord : ordS s (tk ||| onl p) k := by
            refine ⟨or_lt t1 (onl_lt _), fun i hi => ?_, ?_, fun x y hx hy h5 h6 => ?_⟩
            · rw [htt, Bool.or_eq_true] at hi
              rcases hi with hi | hi
              · exact t2 i hi
              · rw [← of_decide_eq_true hi]; exact a
            · rw [cnt_or dis, t3, onl_cnt (by omega)]; omega
            · rw [htt, Bool.or_eq_true] at h5
              rw [htt, Bool.or_eq_false_iff] at h6
              rcases h5 with h5 | h5
              · exact t4 x y hx hy h5 h6.1
              · rw [← of_decide_eq_true h5]; exact e y hy h6.1
          have hsum : sumB (fun q => s.getD q 0) (tk ||| onl p) = sumB (fun q => s.getD q 0) tk + s.getD p 0 := by rw [sumB_or dis, onl_sum (by omega)]
          have hss : smallSum s k = sumB (fun q => s.getD q 0) tk + s.getD p 0 := by rw [small_ord h9 h10 hord, hsum]
          have hbig : smallSum s k ≤ 90 := by
            rw [small_ord h9 h10 hord]
            exact sumR_le 10 fun q => by
              show (if (tk ||| onl p).testBit q = true then s.getD q 0 else 0) ≤ 9
              have := getD_le h9 q
              split <;> omega
          have hhalf : k * (k - 1) / 2 ≤ 45 := (by decide +kernel : ∀ k, k < 11 → k * (k - 1) / 2 ≤ 45) k (by omega)
          rw [hss] at hQ hbig
          refine rX11_fails_20 ho ⟨fun _ => ?_, fun c => ?_⟩
          · rw [nI_clamp (by omega), h.at a, nI_add, nn_shl1 p (by omega), nn_or, ← onl_p (by omega), nI_add, tr_half k (by omega), hlen]
            have next : ¬ (sumB (fun q => s.getD q 0) tk + s.getD p 0 < k * (k - 1) / 2 ∨ (k = s.length ∧ k * (k - 1) / 2 < sumB (fun q => s.getD q 0) tk + s.getD p 0)) → am_AW lay (d + 1) mX11_fails 6 [.ref o, .int (nI (sumB (fun q => s.getD q 0) tk + s.getD p 0)), .int (nI (tk ||| onl p)), .int (nI (k + 1)), .null, .null, .null] [] D Q := by
              intro c
              rw [if_neg c] at hQ
              have := ih (k + 1) (tk ||| onl p) (by omega) (by omega) hord Q hQ
              rw [hsum] at this; exact this
            refine ⟨vp_in_nI (by omega) (by decide), fun c => ?_, fun c => ⟨fun c2 => ?_, fun c2 => ⟨fun c3 => ?_, fun c3 => ?_⟩⟩⟩
            · rw [nI_ltI (by omega) (by omega)] at c
              rw [if_pos (Or.inl c)] at hQ; exact hQ
            · rw [nI_ltI (by omega) (by omega)] at c
              rw [nI_eq (by omega) (by omega)] at c2
              exact next (by omega)
            · rw [nI_ltI (by omega) (by omega)] at c
              rw [nI_leI (by omega) (by omega)] at c3
              exact next (by omega)
            · rw [Classical.not_not, nI_eq (by omega) (by omega)] at c2
              rw [nI_leI (by omega) (by omega)] at c3
              rw [if_pos (Or.inr ⟨c2, by omega⟩)] at hQ; exact hQ
          · rw [hlen] at c; exact absurd (nI_le (Nat.le_refl _) (by omega)) c
  have h0 := hl s.length 1 0 (Nat.le_refl _) (by omega) ⟨by decide, fun i h => by simp at h, by decide, fun a b _ _ h => by simp at h⟩ (fun r D1 => r = some (.int (nI (failAt (smallSum s) s.length s.length 1))) ∧ D1 = D) ⟨rfl, rfl⟩
  rw [sumB_0] at h0
  exact eX11_fails ho h0
theorem m_checkSequence (ho : isX11 lay o) (h : RM D o (T, T', H, s, t)) (h9 : ∀ x ∈ s, x ≤ 9) : am_MetP lay (d + 2) mX11_checkSequence [.ref o] D (chkSeq s) := by
  have hs : mSq D o s := h.2.2.2.1
  have h10 := hs.1
  have hlen : D o 4 = nI s.length := hs.2.1
  unfold chkSeq
  refine eX11_checkSequence ho ⟨fun c => ?_, fun c => ?_⟩
  · rw [hlen, nI_leI (by decide) (by omega)] at c
    rw [if_neg (by omega)]
    exact ⟨_, k_fails ho hs h9, rfl, rfl⟩
  · rw [hlen, nI_leI (by decide) (by omega)] at c
    rw [if_pos (by omega)]; exact ⟨rfl, rfl⟩
end MO7
