/-! triangles, differences, scores: one number either way -/
def ind (b : Bool) : Nat := if b then 1 else 0
theorem ind_t : ind true = 1 := rfl
theorem ind_f : ind false = 0 := rfl
def s3 (n : Nat) (f : Nat → Nat → Nat → Nat) : Nat := sumR (fun a => sumR (fun b => sumR (fun c => f a b c) n) n) n
theorem s3_add {n : Nat} {f g : Nat → Nat → Nat → Nat} : s3 n (fun a b c => f a b c + g a b c) = s3 n f + s3 n g := by
  unfold s3
  rw [← sumR_add]
  refine sumR_congr n fun a _ => ?_
  rw [← sumR_add]
  refine sumR_congr n fun b _ => ?_
  rw [← sumR_add]
theorem s3_congr {n : Nat} {f g : Nat → Nat → Nat → Nat} (h : ∀ a b c, a < n → b < n → c < n → f a b c = g a b c) : s3 n f = s3 n g :=
  sumR_congr n fun a ha => sumR_congr n fun b hb => sumR_congr n fun c hc => h a b c ha hb hc
theorem s3_ab {n : Nat} {f : Nat → Nat → Nat → Nat} : s3 n f = s3 n fun a b c => f b a c := by
  unfold s3
  exact sumR_comm (fun a b => sumR (fun c => f a b c) n) n n
theorem s3_bc {n : Nat} {f : Nat → Nat → Nat → Nat} : s3 n f = s3 n fun a b c => f a c b := by
  unfold s3
  exact sumR_congr n fun a _ => sumR_comm (fun b c => f a b c) n n
def lt3 (a b c : Nat) : Bool := decide (a < b ∧ b < c)
theorem s3_one : ∀ n, n < 11 → s3 n (fun a b c => ind (lt3 a b c)) = n * (n - 1) * (n - 2) / 6 := by decide +kernel
section CNT
variable {n : Nat} {be bf : Nat → Nat → Bool}
theorem pairs_sum (g : Nat → Bool) : ∀ n, sumR (fun x => sumR (fun y => ind (decide (x < y) && (g x && g y))) n) n = tri2 (sumR (fun x => ind (g x)) n) := by
  intro n
  rw [sumR_comm]
  -- by the greater one
  have key : ∀ k, k ≤ n → sumR (fun y => sumR (fun x => ind (decide (x < y) && (g x && g y))) n) k = tri2 (sumR (fun x => ind (g x)) k) := by
    intro k
    induction k with
    | zero => intro _; rfl
    | succ k ih =>
      intro hk
      show sumR (fun y => sumR (fun x => ind (decide (x < y) && (g x && g y))) n) k + sumR (fun x => ind (decide (x < k) && (g x && g k))) n = tri2 (sumR (fun x => ind (g x)) k + ind (g k))
      rw [ih (by omega), sumR_cut n (show k ≤ n by omega) fun q h1 _ => by rw [decide_eq_false (by omega), Bool.false_and]; rfl]
      cases e : g k with
      | false =>
        have : sumR (fun x => ind (decide (x < k) && (g x && false))) k = 0 := sumR_0 k fun q _ => by rw [Bool.and_false, Bool.and_false]; rfl
        rw [ind_f, Nat.add_zero, this, Nat.add_zero]
      | true =>
        have : sumR (fun x => ind (decide (x < k) && (g x && true))) k = sumR (fun x => ind (g x)) k := sumR_congr k fun q hq => by rw [decide_eq_true hq, Bool.true_and, Bool.and_true]
        rw [this, ind_t]; rfl
  exact key n (Nat.le_refl _)
theorem sc_sum (hT : trn n be) (v : Nat) : sc be v = sumR (fun x => ind (be v x)) n := by
  unfold sc
  rw [cnt_msk, countP_sum]
  refine (sumR_cut 10 hT.2.1 fun q h1 _ => by rw [hT.out2 (by omega)]; rfl).trans (sumR_congr n fun q _ => rfl)
theorem tri_four (hT : trn n be) {a b c : Nat} (ha : a < n) (hb : b < n) (hc : c < n) (h : a < b ∧ b < c) : ind (tri be a b c) + (ind (be a b && be a c) + (ind (be b a && be b c) + ind (be c a && be c b))) = 1 := by
  have a1 := hT.anti ha hb (by omega)
  have a2 := hT.anti hb hc (by omega)
  have a3 := hT.anti ha hc (by omega)
  unfold tri
  rw [a1, a2, a3]
  cases be a b <;> cases be b c <;> cases be a c <;> rfl
theorem tri_count (hT : trn n be) : trS n be n + sumR (hlfs be) n = n * (n - 1) * (n - 2) / 6 := by
  have h10 := hT.2.1
  have e0 : trS n be n = s3 n fun a b c => ind (lt3 a b c && tri be a b c) := rfl
  have e1 : sumR (hlfs be) n = s3 n fun v x y => ind (decide (x < y) && (be v x && be v y)) := by
    refine sumR_congr n fun v _ => ?_
    unfold hlfs
    rw [tri2_half _ (by have := cnt_le (msk (be v)); unfold sc; omega), sc_sum hT, pairs_sum]
  have e2 : (s3 n fun v x y => ind (decide (x < y) && (be v x && be v y))) = s3 n fun v x y => ind (lt3 v x y && (be v x && be v y)) + (ind (lt3 x v y && (be v x && be v y)) + ind (lt3 x y v && (be v x && be v y))) := by
    refine s3_congr fun v x y hv hx hy => ?_
    unfold lt3
    by_cases c : x < y
    · rcases Nat.lt_trichotomy v x with h | h | h
      · rw [decide_eq_true c, decide_eq_true (show v < x ∧ x < y from ⟨h, c⟩), decide_eq_false (show ¬ (x < v ∧ v < y) by omega), decide_eq_false (show ¬ (x < y ∧ y < v) by omega)]; rfl
      · subst h
        rw [hT.irr]; simp [ind]
      · rcases Nat.lt_trichotomy v y with h2 | h2 | h2
        · rw [decide_eq_true c, decide_eq_false (show ¬ (v < x ∧ x < y) by omega), decide_eq_true (show x < v ∧ v < y from ⟨h, h2⟩), decide_eq_false (show ¬ (x < y ∧ y < v) by omega)]; simp [ind]
        · subst h2
          rw [hT.irr]; simp [ind]
        · rw [decide_eq_true c, decide_eq_false (show ¬ (v < x ∧ x < y) by omega), decide_eq_false (show ¬ (x < v ∧ v < y) by omega), decide_eq_true (show x < y ∧ y < v from ⟨c, h2⟩)]; simp [ind]
    · rw [decide_eq_false c, decide_eq_false (show ¬ (v < x ∧ x < y) by omega), decide_eq_false (show ¬ (x < v ∧ v < y) by omega), decide_eq_false (show ¬ (x < y ∧ y < v) by omega)]; rfl
  have e3 : (s3 n fun v x y => ind (lt3 x v y && (be v x && be v y))) = s3 n fun a b c => ind (lt3 a b c && (be b a && be b c)) := s3_ab
  have e4 : (s3 n fun v x y => ind (lt3 x y v && (be v x && be v y))) = s3 n fun a b c => ind (lt3 a b c && (be c a && be c b)) := by
    rw [s3_ab, s3_bc]
  rw [e0, e1, e2, s3_add, s3_add, e3, e4, ← s3_one n (by omega), ← s3_add, ← s3_add, ← s3_add]
  refine s3_congr fun a b c ha hb hc => ?_
  cases h : lt3 a b c with
  | false => rfl
  | true =>
    have := tri_four hT ha hb hc (of_decide_eq_true h)
    rw [Bool.true_and, Bool.true_and, Bool.true_and, Bool.true_and]
    exact this
theorem triV_trS (hT : trn n be) : triV n be = nI (trS n be n) := by
  have := tri_count hT
  unfold triV
  rw [← this, nn_sub (by omega), Nat.add_sub_cancel]
/-! differences -/
theorem dif_count (hT : trn n be) (hU : trn n bf) : cdf n be bf / 2 = dfS n be bf n := by
  have h10 := hT.2.1
  have e0 : cdf n be bf = sumR (fun p => sumR (fun q => ind (bf p q != be p q)) n) n := by
    refine sumR_congr n fun p _ => ?_
    rw [cnt_sum]
    refine (sumR_cut 10 h10 fun q h1 _ => ?_).trans (sumR_congr n fun q _ => ?_)
    · rw [Nat.testBit_xor, hT.mskt, hU.mskt, hT.out2 (by omega), hU.out2 (by omega)]; rfl
    · rw [Nat.testBit_xor, hT.mskt, hU.mskt]
      cases be p q <;> cases bf p q <;> rfl
  have e1 : sumR (fun p => sumR (fun q => ind (bf p q != be p q)) n) n = sumR (fun p => sumR (fun q => ind (decide (p < q) && (bf p q != be p q))) n) n + sumR (fun p => sumR (fun q => ind (decide (q < p) && (bf p q != be p q))) n) n := by
    rw [← sumR_add]
    refine sumR_congr n fun p hp => ?_
    rw [← sumR_add]
    refine sumR_congr n fun q hq => ?_
    rcases Nat.lt_trichotomy p q with h | h | h
    · rw [decide_eq_true h, decide_eq_false (show ¬ q < p by omega)]; simp [ind]
    · subst h; rw [hT.irr, hU.irr]; simp [ind]
    · rw [decide_eq_false (show ¬ p < q by omega), decide_eq_true h]; simp [ind]
  have e2 : sumR (fun p => sumR (fun q => ind (decide (q < p) && (bf p q != be p q))) n) n = sumR (fun p => sumR (fun q => ind (decide (p < q) && (bf p q != be p q))) n) n := by
    rw [sumR_comm]
    refine sumR_congr n fun p hp => sumR_congr n fun q hq => ?_
    by_cases h : p < q
    · rw [decide_eq_true h, hT.anti hp hq (by omega), hU.anti hp hq (by omega)]
      cases be p q <;> cases bf p q <;> rfl
    · rw [decide_eq_false h]; rfl
  have e3 : dfS n be bf n = sumR (fun p => sumR (fun q => ind (decide (p < q) && (bf p q != be p q))) n) n := rfl
  rw [e0, e1, e2, ← e3]; omega
/-! scores in order -/
theorem eqW_sum (w i : Nat) : eqW be w i = sumR (fun p => ind (decide (sc be p = w))) i := by
  unfold eqW
  rw [countP_sum]
  refine sumR_congr i fun p _ => ?_
  by_cases c : sc be p = w
  · rw [decide_eq_true c, if_pos (by simpa using c)]; rfl
  · rw [decide_eq_false c, if_neg (by simpa using c)]; rfl
theorem cum_sum (k : Nat) : cum n be k = sumR (fun p => ind (decide (sc be p < k))) n := by
  induction k with
  | zero => exact (sumR_0 n fun p _ => by rw [decide_eq_false (Nat.not_lt_zero _)]; rfl).symm
  | succ k ih =>
    show cum n be k + eqW be k n = _
    rw [ih, eqW_sum, ← sumR_add]
    refine sumR_congr n fun p _ => ?_
    rcases Nat.lt_trichotomy (sc be p) k with h | h | h
    · rw [decide_eq_true h, decide_eq_false (show ¬ sc be p = k by omega), decide_eq_true (show sc be p < k + 1 by omega)]; rfl
    · rw [decide_eq_false (show ¬ sc be p < k by omega), decide_eq_true h, decide_eq_true (show sc be p < k + 1 by omega)]; rfl
    · rw [decide_eq_false (show ¬ sc be p < k by omega), decide_eq_false (show ¬ sc be p = k by omega), decide_eq_false (show ¬ sc be p < k + 1 by omega)]; rfl
theorem cum_mono {k l : Nat} (h : k ≤ l) : cum n be k ≤ cum n be l := by
  rw [cum_sum, cum_sum]
  refine sumR_mono n fun p _ => ?_
  by_cases c : sc be p < k
  · rw [decide_eq_true c, decide_eq_true (show sc be p < l by omega)]; exact Nat.le_refl _
  · rw [decide_eq_false c]; exact Nat.zero_le _
theorem sc_lt (hT : trn n be) {p : Nat} (hp : p < n) : sc be p < n := by
  have h10 := hT.2.1
  have := cnt_new (s := msk (be p)) (t := ful n) (z := p) (fun q _ hq => by rw [hT.mskt] at hq; rw [ful_t]; exact decide_eq_true (hT.2.2.1 _ _ hq).2.1) (by omega) (by rw [hT.mskt, hT.irr]) (by rw [ful_t]; exact decide_eq_true hp)
  rw [cnt_ful h10] at this
  unfold sc; omega
theorem sumR_ones : ∀ k, sumR (fun _ => 1) k = k := by
  intro k
  induction k with
  | zero => rfl
  | succ k ih => show sumR (fun _ => 1) k + 1 = _; rw [ih]
theorem cum_all (hT : trn n be) : cum n be n = n := by
  rw [cum_sum]
  exact (sumR_congr n fun p hp => by rw [decide_eq_true (sc_lt hT hp)]; rfl).trans (sumR_ones n)
theorem ahd_cum {p : Nat} (hp : p < n) : ahd be p n = cum n be (sc be p) + eqW be (sc be p) p := by
  rw [cum_sum, eqW_sum]
  have e : sumR (fun q => ind (decide (sc be q = sc be p))) p = sumR (fun q => ind (decide (sc be q = sc be p) && decide (q < p))) n := by
    rw [sumR_cut n (Nat.le_of_lt hp) fun q h1 _ => by rw [decide_eq_false (show ¬ q < p by omega), Bool.and_false]; rfl]
    exact sumR_congr p fun q hq => by rw [decide_eq_true hq, Bool.and_true]
  rw [e, ← sumR_add]
  refine sumR_congr n fun q _ => ?_
  show (if sc be q < sc be p ∨ (sc be q = sc be p ∧ q < p) then 1 else 0) = _
  rcases Nat.lt_trichotomy (sc be q) (sc be p) with h | h | h
  · rw [if_pos (Or.inl h), decide_eq_true h, decide_eq_false (show ¬ sc be q = sc be p by omega)]; rfl
  · by_cases c : q < p
    · rw [if_pos (Or.inr ⟨h, c⟩), decide_eq_false (show ¬ sc be q < sc be p by omega), decide_eq_true h, decide_eq_true c]; rfl
    · rw [if_neg (by omega), decide_eq_false (show ¬ sc be q < sc be p by omega), decide_eq_false c, Bool.and_false]; rfl
  · rw [if_neg (by omega), decide_eq_false (show ¬ sc be q < sc be p by omega), decide_eq_false (show ¬ sc be q = sc be p by omega)]; rfl
theorem ahd_lt {p : Nat} (hp : p < n) : cum n be (sc be p) ≤ ahd be p n ∧ ahd be p n < cum n be (sc be p + 1) := by
  have h := ahd_cum (be := be) hp
  have e : cum n be (sc be p + 1) = cum n be (sc be p) + eqW be (sc be p) n := rfl
  have h1 : eqW be (sc be p) (p + 1) ≤ eqW be (sc be p) n := by
    rw [eqW_sum, eqW_sum]
    obtain ⟨k, rfl⟩ : ∃ k, n = p + 1 + k := ⟨n - (p + 1), by omega⟩
    clear h e
    induction k with
    | zero => exact Nat.le_refl _
    | succ k ih =>
      show _ ≤ sumR _ (p + 1 + k) + _
      have := ih (by omega)
      omega
  rw [eqW_s, if_pos rfl] at h1
  omega
theorem eqW_at {w v : Nat} : ∀ i, v < eqW be w i → ∃ p, p < i ∧ sc be p = w ∧ eqW be w p = v := by
  intro i
  induction i with
  | zero => intro h; simp [eqW] at h
  | succ i ih =>
    intro h
    rw [eqW_s] at h
    by_cases c : v < eqW be w i
    · obtain ⟨p, a, b⟩ := ih c
      exact ⟨p, by omega, b⟩
    · by_cases e : sc be i = w
      · rw [if_pos e] at h; exact ⟨i, by omega, e, by omega⟩
      · rw [if_neg e] at h; omega
theorem atF_of {place w : Nat} (h1 : cum n be w ≤ place) (h2 : place < cum n be (w + 1)) : ∀ j v, v ≤ w → w < v + j → atF n be place j v = w := by
  intro j
  induction j with
  | zero => intro v a b; omega
  | succ j ih =>
    intro v a b
    show (if place < cum n be (v + 1) then v else atF n be place j (v + 1)) = w
    by_cases c : v = w
    · rw [c, if_pos h2]
    · have := cum_mono (n := n) (be := be) (show v + 1 ≤ w by omega)
      rw [if_neg (by omega)]
      exact ih (v + 1) (by omega) (by omega)
theorem place_ex (hT : trn n be) {place : Nat} (hp : place < n) : ∃ p, p < n ∧ ahd be p n = place := by
  have hall := cum_all hT
  have key : ∀ k, place < cum n be k → ∃ w, w < k ∧ cum n be w ≤ place ∧ place < cum n be (w + 1) := by
    intro k
    induction k with
    | zero => intro h; exact absurd h (Nat.not_lt_zero _)
    | succ k ih =>
      intro h
      by_cases c : place < cum n be k
      · obtain ⟨w, a, b⟩ := ih c
        exact ⟨w, by omega, b⟩
      · exact ⟨k, by omega, by omega, h⟩
  obtain ⟨w, w1, w2, w3⟩ := key n (by omega)
  have e : cum n be (w + 1) = cum n be w + eqW be w n := rfl
  obtain ⟨p, p1, p2, p3⟩ := eqW_at (be := be) (w := w) (v := place - cum n be w) n (by omega)
  refine ⟨p, p1, ?_⟩
  rw [ahd_cum p1, p2, p3]; omega
theorem fnS_ex {place : Nat} : ∀ i, (∃ p, p < i ∧ ahd be p n = place) → ∃ p, p < i ∧ ahd be p n = place ∧ fnS n be place i = sc be p := by
  intro i
  induction i with
  | zero => rintro ⟨p, h, -⟩; omega
  | succ i ih =>
    rintro ⟨p, h1, h2⟩
    show ∃ p, p < i + 1 ∧ ahd be p n = place ∧ (if ahd be i n = place then sc be i else fnS n be place i) = sc be p
    by_cases c : ahd be i n = place
    · exact ⟨i, by omega, c, by rw [if_pos c]⟩
    · obtain ⟨q, a, b, e⟩ := ih ⟨p, by
        by_cases c2 : p = i
        · rw [c2] at h2; exact absurd h2 c
        · omega, h2⟩
      exact ⟨q, by omega, b, by rw [if_neg c]; exact e⟩
theorem score_same (hT : trn n be) {place : Nat} (hp : place < n) : fnS n be place n = atF n be place n 0 := by
  obtain ⟨p, p1, p2, p3⟩ := fnS_ex n (place_ex hT hp)
  obtain ⟨a, b⟩ := ahd_lt (be := be) p1
  rw [p3, atF_of (w := sc be p) (by omega) (by omega) n 0 (Nat.zero_le _) (by have := sc_lt hT p1; omega)]
end CNT
