/-! the first component of a set: its least dominant part; levels -/
def dmn (be : Nat → Nat → Bool) (S D : Nat) : Prop := (∃ x, D.testBit x = true) ∧ (∀ x, D.testBit x = true → S.testBit x = true) ∧ ∀ x y, D.testBit x = true → S.testBit y = true → D.testBit y = false → be x y = true
theorem swp_sub {be : Nat → Nat → Bool} {S : Nat} : ∀ k i T x, T.testBit x = true → (swp be S k i T).testBit x = true := by
  intro k
  induction k with
  | zero => intro i T x h; exact h
  | succ k ih =>
    intro i T x h
    refine ih (i + 1) _ x ?_
    split
    · rw [Nat.testBit_or, h, Bool.true_or]
    · exact h
theorem swp_in {be : Nat → Nat → Bool} {S D : Nat} (hD : ∀ i t, S.testBit i = true → D.testBit t = true → be i t = true → D.testBit i = true) : ∀ k i T, (∀ x, T.testBit x = true → D.testBit x = true) → ∀ x, (swp be S k i T).testBit x = true → D.testBit x = true := by
  intro k
  induction k with
  | zero => intro i T h; exact h
  | succ k ih =>
    intro i T h
    refine ih (i + 1) _ ?_
    split
    · rename_i hc
      intro x hx
      rw [Nat.testBit_or, Bool.or_eq_true, onl_t, Bool.and_eq_true] at hx
      rcases hx with hx | hx
      · exact h x hx
      · rw [← of_decide_eq_true hx.2]
        have : ∃ t, (msk (be i) &&& T).testBit t = true := by
          rcases best_ex (fun _ => 0) (fun q => (msk (be i) &&& T).testBit q) 10 with e | ⟨a, -, e, -⟩
          · exact absurd (set_ext (and_lt (msk_lt _)) (by decide : 0 < 1024) fun q hq => by rw [e q hq, Nat.zero_testBit]) hc.2
          · exact ⟨a, e⟩
        obtain ⟨t, ht⟩ := this
        rw [Nat.testBit_and, Bool.and_eq_true, msk_t, Bool.and_eq_true] at ht
        exact hD i t hc.1 (h t ht.2) ht.1.2
    · exact h
theorem swp_do {be : Nat → Nat → Bool} {S : Nat} : ∀ k i T j t, i ≤ j → j < i + k → j < 10 → S.testBit j = true → T.testBit t = true → t < 10 → be j t = true → (swp be S k i T).testBit j = true := by
  intro k
  induction k with
  | zero => intro i T j t h1 h2; omega
  | succ k ih =>
    intro i T j t h1 h2 h10 hS hT ht hb
    by_cases c : j = i
    · subst c
      refine swp_sub k (j + 1) _ j ?_
      have hne : msk (be j) &&& T ≠ 0 := by
        intro e
        have : (msk (be j) &&& T).testBit t = true := by rw [Nat.testBit_and, msk_t, decide_eq_true ht, hb, hT]; rfl
        rw [e] at this; simp at this
      rw [if_pos ⟨hS, hne⟩, Nat.testBit_or, onl_t, decide_eq_true h10]; simp
    · refine ih (i + 1) _ j t (by omega) (by omega) h10 hS ?_ ht hb
      split
      · rw [Nat.testBit_or, hT, Bool.true_or]
      · exact hT
def clo (n : Nat) (be : Nat → Nat → Bool) (S T : Nat) : Prop := ∀ i t, i < n → S.testBit i = true → T.testBit t = true → be i t = true → T.testBit i = true
theorem swp_clo {n : Nat} {be : Nat → Nat → Bool} {S T : Nat} (hS : ∀ x, S.testBit x = true → x < n) (h : clo n be S T) : ∀ k i x, (swp be S k i T).testBit x = true → T.testBit x = true := fun k i x hx => swp_in (fun j t a b c => h j t (hS j a) a b c) k i T (fun _ h => h) x hx
theorem swps_main {n : Nat} {be : Nat → Nat → Bool} (h10 : n ≤ 10) {S : Nat} (hS : ∀ x, S.testBit x = true → x < n) : ∀ k T, (∀ x, T.testBit x = true → S.testBit x = true) → clo n be S (swps n be S k T) ∨ cnt T + k ≤ cnt (swps n be S k T) := by
  intro k
  induction k with
  | zero => intro T _; right; exact Nat.le_refl _
  | succ k ih =>
    intro T hT
    by_cases hc : clo n be S T
    · left
      have stay : ∀ k T2, (∀ x, T2.testBit x = T.testBit x) → ∀ x, (swps n be S k T2).testBit x = T.testBit x := by
        intro k
        induction k with
        | zero => intro T2 h; exact h
        | succ k ih2 =>
          intro T2 h
          refine ih2 _ fun x => ?_
          have hc2 : clo n be S T2 := fun i t a b c e => by rw [h]; exact hc i t a b (by rw [← h]; exact c) e
          cases e : (swp be S n 0 T2).testBit x with
          | true => rw [← h, swp_clo hS hc2 n 0 x e]
          | false =>
            cases e2 : T.testBit x with
            | false => rfl
            | true => rw [← h] at e2; rw [swp_sub n 0 T2 x e2] at e; cases e
      intro i t a b c e
      rw [stay (k + 1) T (fun _ => rfl)] at c ⊢
      exact hc i t a b c e
    · have hsw : ∀ x, (swp be S n 0 T).testBit x = true → S.testBit x = true := swp_in (D := S) (fun i t a _ _ => a) n 0 T hT
      have hgrow : cnt T + 1 ≤ cnt (swp be S n 0 T) := by
        obtain ⟨i, hi⟩ := Classical.not_forall.mp hc
        obtain ⟨t, ht⟩ := Classical.not_forall.mp hi
        obtain ⟨a, ht⟩ := Classical.not_imp.mp ht
        obtain ⟨b, ht⟩ := Classical.not_imp.mp ht
        obtain ⟨c, ht⟩ := Classical.not_imp.mp ht
        obtain ⟨e, ht⟩ := Classical.not_imp.mp ht
        have ht : T.testBit i = false := by simpa using ht
        have t10 := hS t (hT t c)
        exact cnt_new (fun q _ h => swp_sub n 0 T q h) (by omega) ht (swp_do n 0 T i t (Nat.zero_le _) (by omega) (by omega) b c (by omega) e)
      rcases ih (swp be S n 0 T) hsw with h | h
      · exact Or.inl h
      · right
        show cnt T + (k + 1) ≤ cnt (swps n be S k (swp be S n 0 T))
        omega
theorem swps_sub {n : Nat} {be : Nat → Nat → Bool} {S : Nat} : ∀ k T x, T.testBit x = true → (swps n be S k T).testBit x = true := by
  intro k
  induction k with
  | zero => intro T x h; exact h
  | succ k ih => intro T x h; exact ih _ x (swp_sub n 0 T x h)
theorem swps_in {n : Nat} {be : Nat → Nat → Bool} {S D : Nat} (hD : ∀ i t, S.testBit i = true → D.testBit t = true → be i t = true → D.testBit i = true) : ∀ k T, (∀ x, T.testBit x = true → D.testBit x = true) → ∀ x, (swps n be S k T).testBit x = true → D.testBit x = true := by
  intro k
  induction k with
  | zero => intro T h; exact h
  | succ k ih => intro T h; exact ih _ (swp_in hD n 0 T h)
theorem ldr_iff {n : Nat} {be : Nat → Nat → Bool} {S : Nat} (h10 : n ≤ 10) (hS : ∀ x, S.testBit x = true → x < n) (p : Nat) : (ldr n be S).testBit p = true ↔ S.testBit p = true ∧ ∀ q, S.testBit q = true → wn be S q ≤ wn be S p := by
  unfold ldr
  rw [col_t, Bool.and_eq_true, Bool.and_eq_true, isL_iff, decide_eq_true_eq, decide_eq_true_eq]
  constructor
  · rintro ⟨-, -, a, b⟩; exact ⟨a, fun q hq => b q (hS q hq) hq⟩
  · rintro ⟨a, b⟩; have := hS p a; exact ⟨by omega, by omega, a, fun q _ hq => b q hq⟩
theorem topA_sub {n : Nat} {be : Nat → Nat → Bool} {S : Nat} (h10 : n ≤ 10) (hS : ∀ x, S.testBit x = true → x < n) : ∀ x, (topA n be S).testBit x = true → S.testBit x = true :=
  swps_in (D := S) (fun i t a _ _ => a) n _ fun x hx => ((ldr_iff h10 hS x).mp hx).1
theorem topA_least {n : Nat} {be : Nat → Nat → Bool} (hT : trn n be) {S D : Nat} (hS : ∀ x, S.testBit x = true → x < n) (h : dmn be S D) : ∀ x, (topA n be S).testBit x = true → D.testBit x = true := by
  have h10 := hT.2.1
  obtain ⟨⟨d, hd⟩, h2, h3⟩ := h
  refine swps_in (fun i t a b c => ?_) n _ fun x hx => ?_
  · cases e : D.testBit i with
    | true => rfl
    | false =>
      have := h3 t i b a e
      rw [(hT.2.2.1 _ _ c).2.2] at this; cases this
  · rw [ldr_iff h10 hS] at hx
    cases e : D.testBit x with
    | true => rfl
    | false =>
      exfalso
      have hdx := h3 d x hd hx.1 e
      have h5 := hx.2 d (h2 d hd)
      have x10 := hS x hx.1
      have : wn be S x + 1 ≤ wn be S d := by
        unfold wn
        refine cnt_new (z := x) (fun q hq hb => ?_) (by omega) ?_ ?_
        · rw [Nat.testBit_and, Bool.and_eq_true, hT.mskt] at hb ⊢
          refine ⟨h3 d q hd hb.2 ?_, hb.2⟩
          cases e2 : D.testBit q with
          | false => rfl
          | true =>
            have := h3 q x e2 hx.1 e
            rw [(hT.2.2.1 _ _ hb.1).2.2] at this; cases this
        · rw [Nat.testBit_and, hT.mskt, hT.irr, Bool.false_and]
        · rw [Nat.testBit_and, hT.mskt, hdx, hx.1]; rfl
      omega
theorem topA_dmn {n : Nat} {be : Nat → Nat → Bool} (hT : trn n be) {S : Nat} (hS : ∀ x, S.testBit x = true → x < n) (hne : ∃ x, S.testBit x = true) : dmn be S (topA n be S) := by
  have h10 := hT.2.1
  have hsub := topA_sub (be := be) h10 hS
  have hlead : ∃ x, (ldr n be S).testBit x = true := by
    rcases best_ex (fun q => wn be S q) (fun q => S.testBit q) n with h | ⟨a, a1, a2, a3⟩
    · obtain ⟨x, hx⟩ := hne
      rw [h x (hS x hx)] at hx; cases hx
    · exact ⟨a, (ldr_iff h10 hS a).mpr ⟨a2, fun q hq => a3 q (hS q hq) hq⟩⟩
  obtain ⟨l, hl⟩ := hlead
  have hc : clo n be S (topA n be S) := by
    rcases swps_main (be := be) h10 hS n (ldr n be S) (fun x hx => ((ldr_iff h10 hS x).mp hx).1) with h | h
    · exact h
    · exfalso
      have h1 : cnt (topA n be S) ≤ cnt (ful n) := cnt_mono fun q _ hq => by rw [ful_t]; exact decide_eq_true (hS q (hsub q hq))
      rw [cnt_ful h10] at h1
      have h2 : cnt (onl l) ≤ cnt (ldr n be S) := cnt_mono fun q _ hq => by
        rw [onl_t, Bool.and_eq_true] at hq
        rw [← of_decide_eq_true hq.2]; exact hl
      have l10 := hS l ((ldr_iff h10 hS l).mp hl).1
      rw [onl_cnt (by omega)] at h2
      have h3 : cnt (ldr n be S) + n ≤ cnt (topA n be S) := h
      omega
  refine ⟨⟨l, swps_sub n _ l hl⟩, hsub, fun x y hx hy hny => ?_⟩
  have hxn := hS x (hsub x hx)
  have hyn := hS y hy
  have hne : x ≠ y := fun e => by rw [e, hny] at hx; cases hx
  rcases hT.2.2.2 x y hxn hyn hne with h | h
  · exact h
  · rw [hc y x hyn hy hx h] at hny; cases hny
/-! levels -/
section LEV
variable {n : Nat} {be : Nat → Nat → Bool}
theorem lft_in (hT : trn n be) : ∀ k x, (lft n be k).testBit x = true → x < n := by
  intro k
  induction k with
  | zero => intro x h; have h : (ful n).testBit x = true := h; rw [ful_t] at h; exact of_decide_eq_true h
  | succ k ih => intro x h; have h : (mdf (lft n be k) (topA n be (lft n be k))).testBit x = true := h; rw [mdf_t, Bool.and_eq_true] at h; exact ih x h.1
theorem lft_s (k x : Nat) : (lft n be (k + 1)).testBit x = ((lft n be k).testBit x && !(topA n be (lft n be k)).testBit x) := mdf_t _ _ _
theorem lft_anti {k x : Nat} : ∀ j, (lft n be (k + j)).testBit x = true → (lft n be k).testBit x = true := by
  intro j
  induction j with
  | zero => intro h; exact h
  | succ j ih =>
    intro h
    have h : (lft n be (k + j + 1)).testBit x = true := h
    rw [lft_s, Bool.and_eq_true] at h
    exact ih h.1
theorem ne_ex {s : Nat} (hs : s < 1024) (h : s ≠ 0) : ∃ x, s.testBit x = true := ⟨lowb s, (low_in s hs h).2⟩
theorem lft_cnt (hT : trn n be) : ∀ k, cnt (lft n be k) + k ≤ n ∨ lft n be k = 0 := by
  have h10 := hT.2.1
  intro k
  induction k with
  | zero => left; show cnt (ful n) + 0 ≤ n; rw [cnt_ful h10]; exact Nat.le_refl _
  | succ k ih =>
    by_cases h0 : lft n be k = 0
    · right
      refine set_ext (lft_lt h10 _) (by decide : 0 < 1024) fun q _ => ?_
      rw [lft_s, h0, Nat.zero_testBit, Bool.false_and]
    · rcases ih with ih | ih
      · left
        obtain ⟨⟨x, hx⟩, h2, -⟩ := topA_dmn hT (lft_in hT k) (ne_ex (lft_lt h10 k) h0)
        have := cnt_new (s := lft n be (k + 1)) (t := lft n be k) (z := x) (fun q _ h => by rw [lft_s, Bool.and_eq_true] at h; exact h.1) (by have := lft_in hT k x (h2 x hx); omega) (by rw [lft_s, hx, Bool.not_true, Bool.and_false]) (h2 x hx)
        omega
      · exact absurd ih h0
theorem lft_10 (hT : trn n be) : lft n be 10 = 0 := by
  have h10 := hT.2.1
  have h2 := hT.1
  rcases lft_cnt hT 10 with h | h
  · exact cnt_0 _ (lft_lt h10 10) (by omega)
  · exact h
theorem cpt_spec (hT : trn n be) : lft n be (cpt n be 10 0) = 0 ∧ ∀ k, k < cpt n be 10 0 → lft n be k ≠ 0 := by
  have key : ∀ j k, k + j = 10 → (∀ i, i < k → lft n be i ≠ 0) → lft n be (cpt n be j k) = 0 ∧ ∀ i, i < cpt n be j k → lft n be i ≠ 0 := by
    intro j
    induction j with
    | zero => intro k hk h; obtain rfl : k = 10 := by omega
              exact ⟨lft_10 hT, h⟩
    | succ j ih =>
      intro k hk h
      show lft n be (if lft n be k = 0 then k else cpt n be j (k + 1)) = 0 ∧ ∀ i, i < (if lft n be k = 0 then k else cpt n be j (k + 1)) → _
      by_cases c : lft n be k = 0
      · rw [if_pos c]; exact ⟨c, h⟩
      · rw [if_neg c]
        refine ih (k + 1) (by omega) fun i hi => ?_
        by_cases e : i = k
        · rw [e]; exact c
        · exact h i (by omega)
  exact key 10 0 rfl fun i hi => absurd hi (Nat.not_lt_zero i)
def lv (n : Nat) (be : Nat → Nat → Bool) (p : Nat) : Nat := pnm n be p 10 0
theorem lvl_spec (hT : trn n be) {p : Nat} (hp : p < n) : (lft n be (lv n be p)).testBit p = true ∧ (lft n be (lv n be p + 1)).testBit p = false := by
  have key : ∀ j k, k + j = 10 → (lft n be k).testBit p = true → (lft n be (pnm n be p j k)).testBit p = true ∧ (lft n be (pnm n be p j k + 1)).testBit p = false := by
    intro j
    induction j with
    | zero => intro k hk h; obtain rfl : k = 10 := by omega
              rw [lft_10 hT, Nat.zero_testBit] at h; cases h
    | succ j ih =>
      intro k hk h
      show (lft n be (if (lft n be (k + 1)).testBit p then pnm n be p j (k + 1) else k)).testBit p = true ∧ (lft n be ((if (lft n be (k + 1)).testBit p then pnm n be p j (k + 1) else k) + 1)).testBit p = false
      cases c : (lft n be (k + 1)).testBit p with
      | true => rw [if_pos rfl]; exact ih (k + 1) (by omega) c
      | false => rw [if_neg (by decide)]; exact ⟨h, c⟩
  refine key 10 0 rfl ?_
  show (ful n).testBit p = true
  rw [ful_t]; exact decide_eq_true hp
theorem lft_iff (hT : trn n be) {p k : Nat} (hp : p < n) : (lft n be k).testBit p = true ↔ k ≤ lv n be p := by
  obtain ⟨h1, h2⟩ := lvl_spec hT hp
  constructor
  · intro h
    rcases Nat.lt_or_ge (lv n be p) k with c | c
    · have := lft_anti (be := be) (k := lv n be p + 1) (k - (lv n be p + 1)) (x := p) (by rw [show lv n be p + 1 + (k - (lv n be p + 1)) = k by omega]; exact h)
      rw [h2] at this; cases this
    · exact c
  · intro h
    exact lft_anti (lv n be p - k) (by rw [show k + (lv n be p - k) = lv n be p by omega]; exact h1)
theorem top_iff (hT : trn n be) {p k : Nat} (hp : p < n) : (topA n be (lft n be k)).testBit p = true ↔ lv n be p = k := by
  have h10 := hT.2.1
  have e := lft_s (n := n) (be := be) k p
  constructor
  · intro h
    have h1 := (lft_iff hT hp).mp (topA_sub (be := be) h10 (lft_in hT k) p h)
    rw [h, Bool.not_true, Bool.and_false] at e
    rcases Nat.lt_or_ge (lv n be p) (k + 1) with c | c
    · omega
    · rw [(lft_iff hT hp).mpr c] at e; cases e
  · intro h
    have h1 := (lft_iff hT hp).mpr (show k ≤ lv n be p by omega)
    rw [h1, Bool.true_and] at e
    cases c : (topA n be (lft n be k)).testBit p with
    | true => rfl
    | false =>
      rw [c] at e
      have := (lft_iff hT hp).mp e
      omega
theorem lft_bot (hT : trn n be) : ∀ k x y, x < n → (lft n be k).testBit x = false → (lft n be k).testBit y = true → be x y = true := by
  have h10 := hT.2.1
  intro k
  induction k with
  | zero =>
    intro x y hx h
    have h : (ful n).testBit x = false := h
    rw [ful_t, decide_eq_true hx] at h; cases h
  | succ k ih =>
    intro x y hx h1 h2
    rw [lft_s] at h1
    rw [lft_s, Bool.and_eq_true] at h2
    cases e : (lft n be k).testBit x with
    | false => exact ih x y hx e h2.1
    | true =>
      rw [e, Bool.true_and] at h1
      have hx2 : (topA n be (lft n be k)).testBit x = true := by simpa using h1
      exact (topA_dmn hT (lft_in hT k) ⟨x, e⟩).2.2 x y hx2 h2.1 (by simpa using h2.2)
theorem rb_lv (hT : trn n be) {p q : Nat} (hp : p < n) (hq : q < n) : (rb n be p).testBit q = true ↔ lv n be p ≤ lv n be q := by
  have h10 := hT.2.1
  constructor
  · intro h
    have hc : ∀ k x, wlk be k p x → (lft n be (lv n be p)).testBit x = true := by
      intro k
      induction k with
      | zero => intro x hw; cases hw; exact (lft_iff hT hp).mpr (Nat.le_refl _)
      | succ k ih =>
        intro x hw
        obtain ⟨z, a, b⟩ := wlk_last k p x hw
        cases e : (lft n be (lv n be p)).testBit x with
        | true => rfl
        | false =>
          have := lft_bot hT _ x z (hT.2.2.1 _ _ b).2.1 e (ih z a)
          rw [(hT.2.2.1 _ _ b).2.2] at this; cases this
    rw [rb_iff hT hp] at h
    obtain ⟨k, hk⟩ := h
    exact (lft_iff hT hq).mp (hc k q hk)
  · intro h
    cases e : (rb n be p).testBit q with
    | true => rfl
    | false =>
      exfalso
      have hqS := (lft_iff hT hq).mpr h
      have hpT := (top_iff hT hp).mpr (rfl : lv n be p = lv n be p)
      have hD : dmn be (lft n be (lv n be p)) (mdf (lft n be (lv n be p)) (rb n be p)) := by
        refine ⟨⟨q, by rw [mdf_t, hqS, e]; rfl⟩, fun x hx => by rw [mdf_t, Bool.and_eq_true] at hx; exact hx.1, fun x y hx hy hny => ?_⟩
        rw [mdf_t, Bool.and_eq_true] at hx
        rw [mdf_t, hy, Bool.true_and] at hny
        have hy2 : (rb n be p).testBit y = true := by simpa using hny
        have hx2 : (rb n be p).testBit x = false := by simpa using hx.2
        have hne : x ≠ y := fun c => by rw [c, hy2] at hx2; cases hx2
        rcases hT.2.2.2 x y (lft_in hT _ x hx.1) (lft_in hT _ y hy) hne with c | c
        · exact c
        · rw [rb_closed hT hp y x hy2 c] at hx2; cases hx2
      have := topA_least hT (lft_in hT _) hD p hpT
      rw [mdf_t, rb_self hT hp, Bool.not_true, Bool.and_false] at this; cases this
theorem lvl_lt (hT : trn n be) {p : Nat} (hp : p < n) : lv n be p < cpt n be 10 0 := by
  rcases Nat.lt_or_ge (lv n be p) (cpt n be 10 0) with c | c
  · exact c
  · have := (lft_iff hT hp).mpr c
    rw [(cpt_spec hT).1, Nat.zero_testBit] at this; cases this
theorem lvl_ex (hT : trn n be) {k : Nat} (hk : k < cpt n be 10 0) : ∃ p, p < n ∧ lv n be p = k := by
  have h10 := hT.2.1
  obtain ⟨⟨x, hx⟩, h2, -⟩ := topA_dmn hT (lft_in hT k) (ne_ex (lft_lt h10 k) ((cpt_spec hT).2 k hk))
  have hxn := lft_in hT k x (h2 x hx)
  exact ⟨x, hxn, (top_iff hT hxn).mp hx⟩
theorem prt_top (hT : trn n be) {p : Nat} (hp : p < n) : prt n be p = topA n be (lft n be (lv n be p)) := by
  have key : ∀ j k, k + j = 10 → k ≤ lv n be p → pwt n be p j k = topA n be (lft n be (lv n be p)) := by
    intro j
    induction j with
    | zero =>
      intro k hk h
      obtain rfl : k = 10 := by omega
      have := (lft_iff hT hp).mpr h
      rw [lft_10 hT, Nat.zero_testBit] at this; cases this
    | succ j ih =>
      intro k hk h
      show (if (topA n be (lft n be k)).testBit p then topA n be (lft n be k) else if lft n be k = 0 then topA n be (lft n be k) else pwt n be p j (k + 1)) = _
      cases c : (topA n be (lft n be k)).testBit p with
      | true => rw [if_pos rfl, (top_iff hT hp).mp c]
      | false =>
        rw [if_neg (by decide), if_neg]
        · refine ih (k + 1) (by omega) ?_
          by_cases e : lv n be p = k
          · rw [(top_iff hT hp).mpr e] at c; cases c
          · omega
        · intro e
          have := (lft_iff hT hp).mpr h
          rw [e, Nat.zero_testBit] at this; cases this
  exact key 10 0 rfl (Nat.zero_le _)
theorem prt_iff (hT : trn n be) {p q : Nat} (hp : p < n) (hq : q < n) : (prt n be p).testBit q = true ↔ lv n be q = lv n be p := by rw [prt_top hT hp, top_iff hT hq]
theorem prt_self (hT : trn n be) {p : Nat} (hp : p < n) : (prt n be p).testBit p = true := (prt_iff hT hp hp).mpr rfl
theorem prt_in (hT : trn n be) {p : Nat} (hp : p < n) : ∀ x, (prt n be p).testBit x = true → x < n := by
  intro x hx
  rw [prt_top hT hp] at hx
  exact lft_in hT _ x (topA_sub hT.2.1 (lft_in hT _) x hx)
/-- the lowest of its component -/
def lwB (n : Nat) (be : Nat → Nat → Bool) (p : Nat) : Bool := (List.range p).all fun q => !((rb n be p).testBit q && (rb n be q).testBit p)
theorem lwB_iff (hT : trn n be) {p : Nat} (hp : p < n) : lwB n be p = true ↔ ∀ q, q < p → lv n be q ≠ lv n be p := by
  unfold lwB
  simp only [List.all_eq_true, List.mem_range, Bool.not_eq_true', Bool.and_eq_false_iff]
  constructor
  · intro h q hq e
    have h1 : (rb n be p).testBit q = true := (rb_lv hT hp (by omega)).mpr (by omega)
    have h2 : (rb n be q).testBit p = true := (rb_lv hT (by omega) hp).mpr (by omega)
    rcases h q hq with c | c
    · rw [h1] at c; cases c
    · rw [h2] at c; cases c
  · intro h q hq
    cases c1 : (rb n be p).testBit q with
    | false => exact Or.inl rfl
    | true =>
      cases c2 : (rb n be q).testBit p with
      | false => exact Or.inr rfl
      | true =>
        have a := (rb_lv hT hp (by omega)).mp c1
        have b := (rb_lv hT (by omega) hp).mp c2
        exact absurd (by omega) (h q hq)
theorem sumR_one {f : Nat → Nat} {a : Nat} : ∀ k, a < k → (∀ q, q < k → f q = if q = a then 1 else 0) → sumR f k = 1 := by
  intro k ha h
  rw [sumR_split k ha, h a ha, if_pos rfl, sumR_0 k fun q hq => ?_]
  by_cases c : q = a
  · rw [if_pos c]
  · rw [if_neg c, h q hq, if_neg c]
theorem lw_sum (hT : trn n be) : ∀ M, M ≤ cpt n be 10 0 → sumR (fun p => if lwB n be p && decide (lv n be p < M) then 1 else 0) n = M := by
  intro M
  induction M with
  | zero => intro _; exact sumR_0 n fun q _ => by simp
  | succ M ih =>
    intro hM
    have e : sumR (fun p => if lwB n be p && decide (lv n be p < M + 1) then 1 else 0) n = sumR (fun p => if lwB n be p && decide (lv n be p < M) then 1 else 0) n + sumR (fun p => if lwB n be p && decide (lv n be p = M) then 1 else 0) n := by
      rw [← sumR_add]
      refine sumR_congr n fun p _ => ?_
      cases c : lwB n be p with
      | false => simp
      | true =>
        by_cases c1 : lv n be p < M
        · have c2 : ¬ lv n be p = M := by omega
          have c3 : lv n be p < M + 1 := by omega
          simp [c1, c2, c3]
        · by_cases c2 : lv n be p = M
          · have c3 : lv n be p < M + 1 := by omega
            simp [c2]
          · have c3 : ¬ lv n be p < M + 1 := by omega
            simp [c1, c2, c3]
    rw [e, ih (by omega)]
    congr 1
    obtain ⟨x, hx1, hx2⟩ := lvl_ex hT (show M < cpt n be 10 0 by omega)
    rcases least_ex (fun q => q) (fun q => decide (lv n be q = M)) n with h | ⟨a, a1, a2, a3⟩
    · have := h x hx1; rw [decide_eq_true hx2] at this; cases this
    · have a2 := of_decide_eq_true a2
      refine sumR_one n a1 fun q hq => ?_
      by_cases c : q = a
      · subst c
        have : lwB n be q = true := (lwB_iff hT hq).mpr fun z hz hl => by
          have := a3 z (by omega) (decide_eq_true (by rw [hl]; exact a2))
          have : q ≤ z := this
          omega
        rw [this, decide_eq_true a2]; simp
      · rw [if_neg c, if_neg]
        intro hb
        rw [Bool.and_eq_true] at hb
        have h1 := of_decide_eq_true hb.2
        have h2 := a3 q hq (decide_eq_true h1)
        have h2 : a ≤ q := h2
        exact (lwB_iff hT hq).mp hb.1 a (by omega) (by omega)
end LEV
