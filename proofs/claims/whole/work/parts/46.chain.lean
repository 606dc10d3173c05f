/-! chains -/
def chR (be : Nat → Nat → Bool) : Nat → Nat → Nat → Prop
  | 0, S, p => S = onl p
  | k + 1, S, p => S.testBit p = true ∧ (∀ q, S.testBit q = true → q ≠ p → be p q = true) ∧ ∃ q, q < 10 ∧ chR be k (mdf S (onl p)) q
def exS (be : Nat → Nat → Bool) (S : Nat) : Nat := msk fun q => (List.range 10).all fun x => !S.testBit x || be q x
theorem exS_iff {n : Nat} {be : Nat → Nat → Bool} (hT : trn n be) {S q : Nat} (hS : S < 1024) (hq : q < 10) : (exS be S).testBit q = true ↔ ∀ x, S.testBit x = true → be q x = true := by
  unfold exS
  rw [msk_t, decide_eq_true hq, Bool.true_and]
  simp only [List.all_eq_true, List.mem_range, Bool.or_eq_true, Bool.not_eq_true']
  constructor
  · intro h x hx
    rcases h x (tb_lt hS hx) with c | c
    · rw [hx] at c; cases c
    · exact c
  · intro h x _
    cases c : S.testBit x with
    | false => exact Or.inl rfl
    | true => exact Or.inr (h x c)
theorem chR_cnt {be : Nat → Nat → Bool} : ∀ k S p, S < 1024 → p < 10 → chR be k S p → cnt S = k + 1 ∧ S.testBit p = true := by
  intro k
  induction k with
  | zero =>
    intro S p hS hp h
    have h : S = onl p := h
    rw [h]; exact ⟨onl_cnt hp, by rw [onl_t, decide_eq_true hp]; simp⟩
  | succ k ih =>
    intro S p hS hp h
    obtain ⟨h1, h2, q, hq, h3⟩ := h
    have := (ih _ q (mdf_lt hS) hq h3).1
    have := cnt_without S hS p hp h1
    exact ⟨by omega, h1⟩
theorem orL_iff {f : Nat → Nat} {t : Nat} : ∀ i, (orL f i).testBit t = true ↔ ∃ q, q < i ∧ (f q).testBit t = true := by
  intro i
  induction i with
  | zero => simp [orL]
  | succ i ih =>
    show (orL f i ||| f i).testBit t = true ↔ _
    rw [Nat.testBit_or, Bool.or_eq_true, ih]
    constructor
    · rintro (⟨q, a, b⟩ | h)
      · exact ⟨q, by omega, b⟩
      · exact ⟨i, by omega, h⟩
    · rintro ⟨q, a, b⟩
      by_cases c : q = i
      · right; rw [← c]; exact b
      · left; exact ⟨q, by omega, b⟩
section CHN
variable {n : Nat} {be : Nat → Nat → Bool}
theorem exS_one (hT : trn n be) {p : Nat} (hp : p < 10) : exS be (onl p) = bset be p := by
  refine set_ext (msk_lt _) (msk_lt _) fun q hq => ?_
  apply Bool.eq_iff_iff.mpr
  rw [exS_iff hT (onl_lt _) hq]
  unfold bset
  rw [msk_t, decide_eq_true hq, Bool.true_and]
  constructor
  · intro h; exact h p (by rw [onl_t, decide_eq_true hp]; simp)
  · intro h x hx
    rw [onl_t, Bool.and_eq_true] at hx
    rw [← of_decide_eq_true hx.2]; exact h
theorem exS_add (hT : trn n be) {S p : Nat} (hS : S < 1024) (hp : p < 10) : exS be (S ||| onl p) = exS be S &&& bset be p := by
  refine set_ext (msk_lt _) (and_lt (msk_lt _)) fun q hq => ?_
  apply Bool.eq_iff_iff.mpr
  rw [Nat.testBit_and, Bool.and_eq_true, exS_iff hT (or_lt hS (onl_lt _)) hq, exS_iff hT hS hq]
  unfold bset
  rw [msk_t, decide_eq_true hq, Bool.true_and]
  constructor
  · intro h
    exact ⟨fun x hx => h x (by rw [Nat.testBit_or, hx, Bool.true_or]), h p (by rw [Nat.testBit_or, onl_t, decide_eq_true hp]; simp)⟩
  · rintro ⟨h1, h2⟩ x hx
    rw [Nat.testBit_or, Bool.or_eq_true, onl_t, Bool.and_eq_true] at hx
    rcases hx with hx | hx
    · exact h1 x hx
    · rw [← of_decide_eq_true hx.2]; exact h2
theorem mdf_back {S p : Nat} (hS : S < 1024) (hp : p < 10) (h : S.testBit p = true) : mdf S (onl p) ||| onl p = S := by
  refine set_ext (or_lt (mdf_lt hS) (onl_lt _)) hS fun q hq => ?_
  rw [Nat.testBit_or, mdf_t, onl_t, decide_eq_true hp, Bool.true_and]
  by_cases c : p = q
  · subst c; rw [h]; simp
  · simp [c]
theorem or_back {S p : Nat} (hS : S < 1024) (hp : p < 10) (h : S.testBit p = false) : mdf (S ||| onl p) (onl p) = S := by
  refine set_ext (mdf_lt (or_lt hS (onl_lt _))) hS fun q hq => ?_
  rw [mdf_t, Nat.testBit_or, onl_t, decide_eq_true hp, Bool.true_and]
  by_cases c : p = q
  · subst c; rw [h]; simp
  · simp [c]
/-- the tops of chains are the firsts of chains without an extender -/
theorem chT_to (hT : trn n be) {t : Nat} : ∀ j p E S k, p < n → S < 1024 → (∀ x, S.testBit x = true → x < n) → chR be k S p → E = exS be S → (tab n be j p E).testBit t = true → ∃ k' S', t < n ∧ S' < 1024 ∧ (∀ x, S'.testBit x = true → x < n) ∧ chR be k' S' t ∧ exS be S' = 0 := by
  have h10 := hT.2.1
  intro j
  induction j with
  | zero =>
    intro p E S k hp hS hin hc hE h
    have h : (if E = 0 then onl p else 0).testBit t = true := h
    by_cases c : E = 0
    · rw [if_pos c, onl_t, Bool.and_eq_true] at h
      have e := of_decide_eq_true h.2
      subst e
      exact ⟨k, S, hp, hS, hin, hc, by rw [← hE]; exact c⟩
    · rw [if_neg c, Nat.zero_testBit] at h; cases h
  | succ j ih =>
    intro p E S k hp hS hin hc hE h
    have h : (if E = 0 then onl p else orL (fun q => if E.testBit q then tab n be j q (E &&& bset be q) else 0) n).testBit t = true := h
    by_cases c : E = 0
    · rw [if_pos c, onl_t, Bool.and_eq_true] at h
      have e := of_decide_eq_true h.2
      subst e
      exact ⟨k, S, hp, hS, hin, hc, by rw [← hE]; exact c⟩
    · rw [if_neg c, orL_iff] at h
      obtain ⟨q, hq, h⟩ := h
      cases hEq : E.testBit q with
      | false => rw [hEq, if_neg (by decide), Nat.zero_testBit] at h; cases h
      | true =>
        rw [hEq, if_pos rfl] at h
        have hbeat := (exS_iff hT hS (show q < 10 by omega)).mp (by rw [← hE]; exact hEq)
        have hqS : S.testBit q = false := by
          cases e : S.testBit q with
          | false => rfl
          | true => have := hbeat q e; rw [hT.irr] at this; cases this
        refine ih q (E &&& bset be q) (S ||| onl q) (k + 1) hq (or_lt hS (onl_lt _)) (fun x hx => ?_) ⟨?_, fun x hx hne => ?_, p, by omega, ?_⟩ (by rw [exS_add hT hS (by omega), hE]) h
        · rw [Nat.testBit_or, Bool.or_eq_true, onl_t, Bool.and_eq_true] at hx
          rcases hx with hx | hx
          · exact hin x hx
          · rw [← of_decide_eq_true hx.2]; exact hq
        · rw [Nat.testBit_or, onl_t, decide_eq_true (by omega : q < 10)]; simp
        · rw [Nat.testBit_or, Bool.or_eq_true, onl_t, Bool.and_eq_true] at hx
          rcases hx with hx | hx
          · exact hbeat x hx
          · exact absurd (of_decide_eq_true hx.2).symm hne
        · rw [or_back hS (by omega) hqS]; exact hc
theorem chT_from (hT : trn n be) {t : Nat} : ∀ k S p, k ≤ 9 → p < n → S < 1024 → (∀ x, S.testBit x = true → x < n) → chR be k S p → (tab n be (9 - k) p (exS be S)).testBit t = true → (chT n be).testBit t = true := by
  have h10 := hT.2.1
  intro k
  induction k with
  | zero =>
    intro S p _ hp hS hin hc h
    have hc : S = onl p := hc
    rw [hc, exS_one hT (by omega)] at h
    unfold chT
    rw [orL_iff]
    exact ⟨p, hp, h⟩
  | succ k ih =>
    intro S p hk hp hS hin hc h
    obtain ⟨h1, h2, q, hq, h3⟩ := hc
    have hS2 : mdf S (onl p) < 1024 := mdf_lt hS
    have hin2 : ∀ x, (mdf S (onl p)).testBit x = true → x < n := fun x hx => by rw [mdf_t, Bool.and_eq_true] at hx; exact hin x hx.1
    have hqn := hin2 q (chR_cnt k _ q hS2 hq h3).2
    refine ih (mdf S (onl p)) q (by omega) hqn hS2 hin2 h3 ?_
    have ep : (exS be (mdf S (onl p))).testBit p = true := (exS_iff hT hS2 (by omega)).mpr fun x hx => by
      rw [mdf_t, Bool.and_eq_true, onl_t, decide_eq_true (by omega : p < 10), Bool.true_and] at hx
      exact h2 x hx.1 fun e => by rw [e] at hx; simp at hx
    have hne : exS be (mdf S (onl p)) ≠ 0 := fun e => by rw [e, Nat.zero_testBit] at ep; cases ep
    rw [show 9 - k = 9 - (k + 1) + 1 by omega]
    show (if exS be (mdf S (onl p)) = 0 then onl q else orL (fun z => if (exS be (mdf S (onl p))).testBit z then tab n be (9 - (k + 1)) z (exS be (mdf S (onl p)) &&& bset be z) else 0) n).testBit t = true
    rw [if_neg hne, orL_iff]
    refine ⟨p, hp, ?_⟩
    rw [ep, if_pos rfl, ← exS_add hT hS2 (by omega), mdf_back hS (by omega) h1]
    exact h
theorem tab_0 {j p : Nat} : tab n be j p 0 = onl p := by
  cases j with
  | zero => show (if (0 : Nat) = 0 then onl p else 0) = _; rw [if_pos rfl]
  | succ j => show (if (0 : Nat) = 0 then onl p else _) = _; rw [if_pos rfl]
theorem chT_iff (hT : trn n be) {t : Nat} : (chT n be).testBit t = true ↔ ∃ k S, t < n ∧ S < 1024 ∧ (∀ x, S.testBit x = true → x < n) ∧ chR be k S t ∧ exS be S = 0 := by
  have h10 := hT.2.1
  constructor
  · intro h
    unfold chT at h
    rw [orL_iff] at h
    obtain ⟨p, hp, h⟩ := h
    refine chT_to hT 9 p (bset be p) (onl p) 0 hp (onl_lt _) (fun x hx => ?_) rfl (exS_one hT (by omega)).symm h
    rw [onl_t, Bool.and_eq_true] at hx
    rw [← of_decide_eq_true hx.2]; exact hp
  · rintro ⟨k, S, ht, hS, hin, hc, he⟩
    have hcnt := (chR_cnt k S t hS (by omega) hc).1
    have := cnt_le S
    refine chT_from hT k S t (by omega) ht hS hin hc ?_
    rw [he, tab_0, onl_t, decide_eq_true (by omega : t < 10)]; simp
/-! chains by their scores -/
theorem wn_self (hT : trn n be) {S x : Nat} (hS : S < 1024) (hx : S.testBit x = true) : wn be S x + 1 ≤ cnt S := by
  unfold wn
  refine cnt_new (z := x) (fun q _ hq => ?_) (tb_lt hS hx) ?_ hx
  · rw [Nat.testBit_and, Bool.and_eq_true] at hq; exact hq.2
  · rw [Nat.testBit_and, hT.mskt, hT.irr, Bool.false_and]
theorem wn_top (hT : trn n be) {S x : Nat} (hS : S < 1024) (hx : S.testBit x = true) : wn be S x + 1 = cnt S ↔ ∀ q, S.testBit q = true → q ≠ x → be x q = true := by
  have x10 := tb_lt hS hx
  have hw := cnt_without S hS x x10 hx
  constructor
  · intro h q hq hne
    cases c : be x q with
    | true => rfl
    | false =>
      exfalso
      have : wn be S x + 1 ≤ cnt (mdf S (onl x)) := by
        unfold wn
        refine cnt_new (z := q) (fun z _ hz => ?_) (tb_lt hS hq) ?_ ?_
        · rw [Nat.testBit_and, Bool.and_eq_true, hT.mskt] at hz
          rw [mdf_on x10, hz.2]
          have : ¬ x = z := fun e => by rw [← e, hT.irr] at hz; cases hz.1
          rw [decide_eq_false this]; rfl
        · rw [Nat.testBit_and, hT.mskt, c, Bool.false_and]
        · rw [mdf_on x10, hq, decide_eq_false (fun e => hne e.symm)]; rfl
      omega
  · intro h
    have : cnt (mdf S (onl x)) = wn be S x := by
      unfold wn
      refine cnt_ext fun q _ => ?_
      rw [mdf_on x10, Nat.testBit_and, hT.mskt]
      by_cases c : x = q
      · subst c; rw [hT.irr]; simp
      · rw [decide_eq_false c]
        cases e : S.testBit q with
        | false => simp
        | true => rw [h q e (Ne.symm c)]; rfl
    omega
theorem wn_less (hT : trn n be) {S p x : Nat} (hp : p < 10) (h : be x p = false) : wn be (mdf S (onl p)) x = wn be S x := by
  unfold wn
  refine cnt_ext fun q _ => ?_
  rw [Nat.testBit_and, Nat.testBit_and, mdf_on hp, hT.mskt]
  by_cases c : p = q
  · subst c; rw [h]; simp
  · rw [decide_eq_false c]; simp
def fulS (be : Nat → Nat → Bool) (S k : Nat) : Prop := ∀ v, v ≤ k → ∃ x, S.testBit x = true ∧ wn be S x = v
theorem chR_ful (hT : trn n be) : ∀ k S p, S < 1024 → p < 10 → chR be k S p → fulS be S k := by
  intro k
  induction k with
  | zero =>
    intro S p hS hp h v hv
    obtain ⟨c1, c2⟩ := chR_cnt 0 S p hS hp h
    have := wn_self hT hS c2
    exact ⟨p, c2, by omega⟩
  | succ k ih =>
    intro S p hS hp h v hv
    obtain ⟨c1, c2⟩ := chR_cnt (k + 1) S p hS hp h
    obtain ⟨h1, h2, q, hq, h3⟩ := h
    by_cases c : v = k + 1
    · have := (wn_top hT hS h1).mpr h2
      exact ⟨p, h1, by omega⟩
    · obtain ⟨x, x1, x2⟩ := ih _ q (mdf_lt hS) hq h3 v (by omega)
      rw [mdf_on hp, Bool.and_eq_true] at x1
      have hne : x ≠ p := fun e => by rw [e] at x1; simp at x1
      have hb : be x p = false := (hT.2.2.1 _ _ (h2 x x1.1 hne)).2.2
      exact ⟨x, x1.1, by rw [← wn_less hT hp hb]; exact x2⟩
theorem ful_chR (hT : trn n be) : ∀ k S p, S < 1024 → cnt S = k + 1 → S.testBit p = true → (∀ q, S.testBit q = true → q ≠ p → be p q = true) → fulS be S k → chR be k S p := by
  intro k
  induction k with
  | zero =>
    intro S p hS hc hp _ _
    have p10 := tb_lt hS hp
    have h1 := cnt_without S hS p p10 hp
    have h0 := cnt_0 _ (mdf_lt hS) (show cnt (mdf S (onl p)) = 0 by omega)
    show S = onl p
    rw [← mdf_back hS p10 hp, h0, Nat.zero_or]
  | succ k ih =>
    intro S p hS hc hp hb hf
    have p10 := tb_lt hS hp
    have h1 := cnt_without S hS p p10 hp
    have hS2 : mdf S (onl p) < 1024 := mdf_lt hS
    have wp := (wn_top hT hS hp).mpr hb
    have down : ∀ v, v ≤ k → ∃ x, (mdf S (onl p)).testBit x = true ∧ wn be (mdf S (onl p)) x = v := by
      intro v hv
      obtain ⟨x, x1, x2⟩ := hf v (by omega)
      have hne : x ≠ p := fun e => by rw [e] at x2; omega
      have hbx : be x p = false := (hT.2.2.1 _ _ (hb x x1 hne)).2.2
      exact ⟨x, by rw [mdf_on p10, x1, decide_eq_false (fun e => hne e.symm)]; rfl, by rw [wn_less hT p10 hbx]; exact x2⟩
    obtain ⟨q, q1, q2⟩ := down k (Nat.le_refl _)
    refine ⟨hp, hb, q, tb_lt hS2 q1, ih _ q hS2 (by omega) q1 ((wn_top hT hS2 q1).mp (by omega)) down⟩
def chM (n : Nat) (be : Nat → Nat → Bool) (S i : Nat) : Nat := msk fun v => (List.range i).any fun p => S.testBit p && decide (wn be S p = v)
theorem chM_iff {S i v : Nat} (hv : v < 10) : (chM n be S i).testBit v = true ↔ ∃ p, p < i ∧ S.testBit p = true ∧ wn be S p = v := by
  unfold chM
  rw [msk_t, decide_eq_true hv, Bool.true_and]
  simp only [List.any_eq_true, List.mem_range, Bool.and_eq_true, decide_eq_true_eq]
theorem chM_ful (hT : trn n be) {S k : Nat} (hS : S < 1024) (hin : ∀ x, S.testBit x = true → x < n) (hc : cnt S = k + 1) : cnt (chM n be S n) = cnt S ↔ fulS be S k := by
  have c10 := cnt_le S
  have hsub : ∀ v, (chM n be S n).testBit v = true → v < k + 1 := by
    intro v hv
    have v10 := tb_lt (msk_lt _) hv
    obtain ⟨p, -, p1, p2⟩ := (chM_iff v10).mp hv
    have := wn_self hT hS p1
    omega
  constructor
  · intro h v hv
    have := cnt_all (s := chM n be S n) (n := k + 1) (by omega) hsub (by omega) v (by omega)
    obtain ⟨p, -, p1, p2⟩ := (chM_iff (show v < 10 by omega)).mp this
    exact ⟨p, p1, p2⟩
  · intro h
    have h1 : cnt (chM n be S n) ≤ k + 1 := by
      have := cnt_mono (s := chM n be S n) (t := ful (k + 1)) fun q _ hq => by rw [ful_t]; exact decide_eq_true (hsub q hq)
      rw [cnt_ful (by omega)] at this; exact this
    have h2 : k + 1 ≤ cnt (chM n be S n) := by
      have := cnt_mono (s := ful (k + 1)) (t := chM n be S n) fun q hq hb => by
        rw [ful_t] at hb
        obtain ⟨x, x1, x2⟩ := h q (by have := of_decide_eq_true hb; omega)
        exact (chM_iff hq).mpr ⟨x, hin x x1, x1, x2⟩
      rw [cnt_ful (by omega)] at this; exact this
    omega
def btB (n : Nat) (be : Nat → Nat → Bool) (S i : Nat) : Bool := (List.range i).any fun q => decide (msk (be q) &&& S = S)
theorem btB_ex (hT : trn n be) {S : Nat} (hS : S < 1024) (hne : ∃ x, S.testBit x = true) : btB n be S n = false ↔ exS be S = 0 := by
  have h10 := hT.2.1
  have one : ∀ q, (msk (be q) &&& S = S) ↔ ∀ x, S.testBit x = true → be q x = true := by
    intro q
    constructor
    · intro h x hx
      have : (msk (be q) &&& S).testBit x = true := by rw [h]; exact hx
      rw [Nat.testBit_and, Bool.and_eq_true, hT.mskt] at this; exact this.1
    · intro h
      refine set_ext (and_lt (msk_lt _)) hS fun x _ => ?_
      rw [Nat.testBit_and, hT.mskt]
      cases c : S.testBit x with
      | false => simp
      | true => rw [h x c]; rfl
  constructor
  · intro h
    refine set_ext (msk_lt _) (by decide : 0 < 1024) fun q hq => ?_
    rw [Nat.zero_testBit]
    cases c : (exS be S).testBit q with
    | false => rfl
    | true =>
      have h1 := (exS_iff hT hS hq).mp c
      obtain ⟨x, hx⟩ := hne
      have qn := (hT.2.2.1 _ _ (h1 x hx)).1
      have : btB n be S n = true := List.any_eq_true.mpr ⟨q, List.mem_range.mpr qn, decide_eq_true ((one q).mpr h1)⟩
      rw [h] at this; cases this
  · intro h
    cases c : btB n be S n with
    | false => rfl
    | true =>
      obtain ⟨q, hq, hb⟩ := List.any_eq_true.mp c
      have hq := List.mem_range.mp hq
      have := (exS_iff hT hS (show q < 10 by omega)).mpr ((one q).mp (of_decide_eq_true hb))
      rw [h, Nat.zero_testBit] at this; cases this
def okF (n : Nat) (be : Nat → Nat → Bool) (p S : Nat) : Bool := decide (mdf S (msk (be p)) = 0) && (decide (cnt (chM n be (S ||| 2 ^ p) n) = cnt (S ||| 2 ^ p)) && !btB n be (S ||| 2 ^ p) n)
theorem first_iff (hT : trn n be) {p : Nat} (hp : p < n) : (List.range (ful n + 1)).any (okF n be p) = (chT n be).testBit p := by
  have h10 := hT.2.1
  have hf := ful_lt h10
  apply Bool.eq_iff_iff.mpr
  rw [chT_iff hT, List.any_eq_true]
  constructor
  · rintro ⟨S, hS, h⟩
    have hS := List.mem_range.mp hS
    have hS3 : S < 1024 := by omega
    unfold okF at h
    rw [← onl_p (by omega), Bool.and_eq_true, Bool.and_eq_true] at h
    obtain ⟨h1, h2, h3⟩ := h
    have h1 := of_decide_eq_true h1
    have h2 := of_decide_eq_true h2
    have h3 : btB n be (S ||| onl p) n = false := by simpa using h3
    have hC : S ||| onl p < 1024 := or_lt hS3 (onl_lt _)
    have hin : ∀ x, (S ||| onl p).testBit x = true → x < n := fun x hx => by
      rw [Nat.testBit_or, Bool.or_eq_true, onl_t, Bool.and_eq_true] at hx
      rcases hx with hx | hx
      · exact sub_ful (by omega) x hx
      · rw [← of_decide_eq_true hx.2]; exact hp
    have hpC : (S ||| onl p).testBit p = true := by rw [Nat.testBit_or, onl_t, decide_eq_true (by omega : p < 10)]; simp
    have hb : ∀ q, (S ||| onl p).testBit q = true → q ≠ p → be p q = true := by
      intro q hq hne
      rw [Nat.testBit_or, Bool.or_eq_true, onl_t, Bool.and_eq_true] at hq
      rcases hq with hq | hq
      · cases c : be p q with
        | true => rfl
        | false =>
          have : (mdf S (msk (be p))).testBit q = true := by rw [mdf_t, hq, hT.mskt, c]; rfl
          rw [h1, Nat.zero_testBit] at this; cases this
      · exact absurd (of_decide_eq_true hq.2).symm hne
    obtain ⟨k, hk⟩ : ∃ k, cnt (S ||| onl p) = k + 1 := ⟨cnt (S ||| onl p) - 1, by
      have := wn_self hT hC hpC; omega⟩
    exact ⟨k, S ||| onl p, hp, hC, hin, ful_chR hT k _ p hC hk hpC hb ((chM_ful hT hC hin hk).mp h2), (btB_ex hT hC ⟨p, hpC⟩).mp h3⟩
  · rintro ⟨k, C, -, hC, hin, hc, he⟩
    obtain ⟨c1, c2⟩ := chR_cnt k C p hC (by omega) hc
    have hS : mdf C (onl p) ≤ ful n := by
      have : mdf C (onl p) < 2 ^ n := Nat.lt_pow_two_of_testBit _ fun i hi => by
        cases c : (mdf C (onl p)).testBit i with
        | false => rfl
        | true => rw [mdf_t, Bool.and_eq_true] at c; have := hin i c.1; omega
      unfold ful; omega
    refine ⟨mdf C (onl p), List.mem_range.mpr (by omega), ?_⟩
    have hfl := chR_ful hT k C p hC (by omega) hc
    have hb : ∀ q, C.testBit q = true → q ≠ p → be p q = true := by
      cases k with
      | zero =>
        have hc : C = onl p := hc
        intro q hq hne
        rw [hc, onl_t, Bool.and_eq_true] at hq
        exact absurd (of_decide_eq_true hq.2).symm hne
      | succ k => exact hc.2.1
    unfold okF
    rw [← onl_p (by omega), mdf_back hC (by omega) c2, decide_eq_true ((chM_ful hT hC hin c1).mpr hfl), (btB_ex hT hC ⟨p, c2⟩).mpr he]
    have : mdf (mdf C (onl p)) (msk (be p)) = 0 := by
      refine set_ext (mdf_lt (mdf_lt hC)) (by decide : 0 < 1024) fun q _ => ?_
      rw [mdf_t, mdf_on (by omega), hT.mskt, Nat.zero_testBit]
      by_cases c : p = q
      · rw [decide_eq_true c]; simp
      · cases e : C.testBit q with
        | false => simp
        | true => rw [hb q e (Ne.symm c)]; simp
    rw [decide_eq_true this]; rfl
end CHN
