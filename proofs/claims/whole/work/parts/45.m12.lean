/-! the model: orders -/
def lsF (n : Nat) (be : Nat → Nat → Bool) (we : Nat → Nat → Nat) (s q : Nat) : Nat := if q < 10 ∧ s.testBit q = true then lst n be we (mdf s (onl q)) + cos be we q s else 2147483647
theorem lst_s {n : Nat} {be : Nat → Nat → Bool} {we : Nat → Nat → Nat} {s : Nat} (h : s ≠ 0) : lst n be we s = mnR (lsF n be we s) n := by
  rw [lst, if_neg h]
  refine mnR_congr n fun q _ => ?_
  unfold lsF
  by_cases c : q < 10 ∧ s.testBit q = true
  · rw [dif_pos c, if_pos c]
  · rw [dif_neg c, if_neg c]
theorem lst_z {n : Nat} {be : Nat → Nat → Bool} {we : Nat → Nat → Nat} : lst n be we 0 = 0 := by rw [lst, if_pos rfl]
theorem sub_ful {n s : Nat} (hs : s ≤ ful n) : ∀ x, s.testBit x = true → x < n := fun x hx => by
  rcases Nat.lt_or_ge x n with c | c
  · exact c
  · have : s < 2 ^ x := Nat.lt_of_lt_of_le (show s < 2 ^ n by have := Nat.two_pow_pos n; unfold ful at hs; omega) (Nat.pow_le_pow_right (by decide) c)
    rw [Nat.testBit_lt_two_pow this] at hx; cases hx
theorem lst_10 {n : Nat} {be : Nat → Nat → Bool} {we : Nat → Nat → Nat} (hw : ∀ p q, we p q ≤ 100) (hn : n ≤ 10) {s : Nat} (hs : s ≤ ful n) : lst n be we s ≤ 10000 := by
  have h1 := lst_le (be := be) hw hn (cnt s) s rfl hs
  have h2 := cnt_le s
  omega
theorem cos_rest {n : Nat} {be : Nat → Nat → Bool} {we : Nat → Nat → Nat} (hT : trn n be) {s q : Nat} (hq : q < 10) (h : s.testBit q = true) : cos be we q s = cos be we q (mdf s (onl q)) := by
  unfold cos
  rw [sumB_split hq h]
  have : cst be we q q = 0 := by unfold cst; rw [hT.irr]; rfl
  rw [this, Nat.zero_add]
/-- a best first one is there -/
theorem bst_ex {n : Nat} {be : Nat → Nat → Bool} {we : Nat → Nat → Nat} (hw : ∀ p q, we p q ≤ 100) (hn : n ≤ 10) {s : Nat} (hs : s ≤ ful n) (h0 : s ≠ 0) : ∃ q, q < n ∧ bst n be we s q = true := by
  have hs3 : s < 1024 := Nat.lt_of_le_of_lt hs (ful_lt hn)
  obtain ⟨x, hx⟩ := ne_ex hs3 h0
  have xn := sub_ful hs x hx
  have h1 := mnR_at (lsF n be we s) n x xn
  have hfx : lsF n be we s x ≤ 11000 := by
    unfold lsF
    rw [if_pos ⟨by omega, hx⟩]
    have a := lst_10 (be := be) hw hn (s := mdf s (onl x)) (Nat.le_trans (mdf_le _ _) hs)
    have b := cos_le (be := be) hw x s
    omega
  rcases mnR_ex (lsF n be we s) n with h | ⟨q, hq, h⟩
  · omega
  · refine ⟨q, hq, ?_⟩
    have hq2 : q < 10 ∧ s.testBit q = true := by
      apply Classical.byContradiction
      intro c
      have : lsF n be we s q = 2147483647 := by unfold lsF; rw [if_neg c]
      omega
    unfold bst
    rw [hq2.2, Bool.true_and]
    apply decide_eq_true
    rw [lst_s h0, h]
    unfold lsF
    rw [if_pos hq2]
section MO13
variable {lay : List am_L} {d : Nat} {D : am_D} {o n : Nat} {be : Nat → Nat → Bool} {we : Nat → Nat → Nat} {T T' : am_T} {H : List am_T} {s t : List Nat}
theorem k_costOf (ho : isX11 lay o) (hB : mrow (D (o + 1)) (n, be, we)) (hT : trn n be) (hsy : ∀ p q, we p q = we q p) (hw : ∀ p q, we p q ≤ 100) {p s : Nat} (hp : p < n) : am_MetP lay (d + 2) mX11_costOf [.ref o, .int (nI p), .int (nI s)] D (nI (cos be we p s)) := by
  have h10 := hT.2.1
  have b3 : ∀ p q, p < 10 → q < 10 → D (o + 1) (11 + 10 * p + q) = nI (we p q) := hB.2.2
  have e0 : cos be we p s = sumR (fun q => if s.testBit q then cst be we p q else 0) n := by
    unfold cos sumB
    refine sumR_cut 10 h10 fun q h1 _ => ?_
    have : cst be we p q = 0 := by unfold cst; rw [hT.out1 (by omega)]; rfl
    rw [this]; simp
  have hl : ∀ i, i ≤ n → am_AW lay (d + 2) mX11_costOf 5 [.ref o, .int (nI p), .int (nI s), .int (nI (sumR (fun q => if s.testBit q then cst be we p q else 0) i)), .int (nI i)] [] D (fun r D1 => r = some (.int (nI (cos be we p s))) ∧ D1 = D) := by
    refine up_loop ?_ fun i hi ih => ?_
    · exact rX11_costOf_5 ho ⟨_, k_n ho hB, fun _ => ⟨by rw [e0], rfl⟩, fun h => absurd (nI_le (Nat.le_refl _) (by omega)) h⟩
    · have e : sumR (fun q => if s.testBit q then cst be we p q else 0) (i + 1) = sumR (fun q => if s.testBit q then cst be we p q else 0) i + if s.testBit i then cst be we p i else 0 := rfl
      rw [e] at ih
      refine rX11_costOf_5 ho ⟨_, k_n ho hB, fun h => absurd h (ge_no hi (by omega)), fun _ => ⟨_, k_has (by omega), fun c => ?_, fun c => ⟨_, k_beats1 ho hB hT (by omega) (by omega), fun c2 => ?_, fun c2 => ⟨_, k_at _ _, vp_in_nI (by omega) (by decide), ?_⟩⟩⟩⟩
      · rw [bI_0.mp c] at ih
        rw [nI_add, nI_add]; exact ih
      · rw [bI_n0.mp c] at ih
        unfold cst at ih
        rw [bI_0.mp c2] at ih
        rw [nI_add, nI_add]; exact ih
      · rw [bI_n0.mp c] at ih
        unfold cst at ih
        rw [bI_n0.mp c2] at ih
        rw [nI_clamp (by omega), b3 i p (by omega) (by omega), hsy i p, nI_add, nI_add]; exact ih
  exact eX11_costOf ho (hl 0 (Nat.zero_le _))
def orM (D : am_D) (o n : Nat) (be : Nat → Nat → Bool) (we : Nat → Nat → Nat) (S : Nat) : Prop := ∀ s, s < S → D (o + 7) s = nI (lst n be we s)
theorem l_or21 (ho : isX11 lay o) (hB : mrow (D (o + 1)) (n, be, we)) (hT : trn n be) (hsy : ∀ p q, we p q = we q p) (hw : ∀ p q, we p q ≤ 100) {s : Nat} (hs : s ≤ ful n) (h0 : s ≠ 0) (hO : orM D o n be we s) {Q : Option Value → am_D → Prop} (hQ : am_AW lay (d + 3) mX11_orders 9 [.ref o, .int (nI (s + 1)), .null, .null, .null, .null] [] (am_up D (o + 7) s (nI (lst n be we s))) Q) : ∀ i, i ≤ n → ∀ v, ((v = -1 ∧ ∀ q, q < i → s.testBit q = false) ∨ (v = nI (mnR (lsF n be we s) i) ∧ mnR (lsF n be we s) i ≤ 11000)) → am_AW lay (d + 3) mX11_orders 21 [.ref o, .int (nI s), .int v, .int (nI i), .null, .null] [] D Q := by
  have h10 := hT.2.1
  have hs3 : s < 1024 := Nat.lt_of_le_of_lt hs (ful_lt h10)
  refine up_loop ?_ fun i hi ih => ?_
  · intro v hv
    have hv2 : v = nI (lst n be we s) := by
      rcases hv with ⟨-, b⟩ | ⟨a, -⟩
      · exfalso
        obtain ⟨x, hx⟩ := ne_ex hs3 h0
        rw [b x (sub_ful hs x hx)] at hx; cases hx
      · rw [a, lst_s h0]
    subst hv2
    refine rX11_orders_21 ho ⟨_, k_n ho hB, fun _ => ?_, fun h => absurd (nI_le (Nat.le_refl _) (by omega)) h⟩
    rw [nI_clamp (by omega), nI_add]
    refine ⟨vp_in_nI (by omega) (by decide), ?_⟩
    rintro D2 rfl
    exact hQ
  · intro v hv
    have em : mnR (lsF n be we s) (i + 1) = if lsF n be we s i < mnR (lsF n be we s) i then lsF n be we s i else mnR (lsF n be we s) i := rfl
    refine rX11_orders_21 ho ⟨_, k_n ho hB, fun h => absurd h (ge_no hi (by omega)), fun _ => ⟨_, k_has (p := i) (by omega), fun c => ⟨fun _ => ?_, fun c2 => absurd (by decide) c2⟩, fun c => ?_⟩⟩
    · have hb := bI_0.mp c
      have hf : lsF n be we s i = 2147483647 := by unfold lsF; rw [if_neg (by rw [hb]; simp)]
      rw [nI_add]
      refine ih v ?_
      rcases hv with ⟨a, b⟩ | ⟨a, b⟩
      · refine Or.inl ⟨a, fun q hq => ?_⟩
        by_cases e : q = i
        · rw [e]; exact hb
        · exact b q (by omega)
      · refine Or.inr ⟨?_, ?_⟩
        · rw [em, if_neg (by omega)]; exact a
        · rw [em, if_neg (by omega)]; exact b
    · have hb := bI_n0.mp c
      have hrest : mdf s (onl i) < s := mdf_dec ⟨by omega, hb⟩
      have hr3 : mdf s (onl i) < 1024 := mdf_lt hs3
      have a1 := lst_10 (be := be) hw h10 (s := mdf s (onl i)) (Nat.le_trans (mdf_le _ _) hs)
      have a2 := cos_le (be := be) hw i s
      have hf : lsF n be we s i = lst n be we (mdf s (onl i)) + cos be we i s := by unfold lsF; rw [if_pos ⟨by omega, hb⟩]
      have hc := k_costOf (lay := lay) (d := d) ho hB hT hsy hw (s := mdf s (onl i)) hi
      rw [← cos_rest hT (by omega) hb] at hc
      rw [nn_shl1 i (by omega), nn_dif, ← onl_p (by omega)]
      refine ⟨_, hc, ?_⟩
      rw [nI_clamp (by omega), hO _ hrest, nI_add, nI_add, Nat.add_comm (cos be we i s), ← hf]
      refine ⟨vp_in_nI (by omega) (by decide), fun c2 => absurd c2 (nn_neg (by omega)), fun _ => ⟨fun c2 => ?_, fun c2 => ⟨fun c3 => ?_, fun c3 => ?_⟩⟩⟩
      · refine ih _ (Or.inr ?_)
        rcases hv with ⟨a, b⟩ | ⟨a, b⟩
        · have big : ∀ j, j ≤ i → mnR (lsF n be we s) j = 2147483647 := by
            intro j
            induction j with
            | zero => intro _; rfl
            | succ j ihj =>
              intro hj
              have hfj : lsF n be we s j = 2147483647 := by unfold lsF; rw [if_neg (by rw [b j (by omega)]; simp)]
              show (if lsF n be we s j < mnR (lsF n be we s) j then lsF n be we s j else mnR (lsF n be we s) j) = _
              rw [ihj (by omega), hfj]; rfl
          rw [em, big i (Nat.le_refl _), if_pos (by omega)]
          exact ⟨rfl, by omega⟩
        · rw [a] at c2; exact absurd c2 (nn_neg (by omega))
      · rcases hv with ⟨a, b⟩ | ⟨a, b⟩
        · rw [a] at c2; exact absurd (by decide) c2
        · rw [a, nI_leI (by omega) (by omega)] at c3
          refine ih _ (Or.inr ?_)
          rw [em, if_neg (by omega)]
          exact ⟨a, b⟩
      · rcases hv with ⟨a, b⟩ | ⟨a, b⟩
        · rw [a] at c2; exact absurd (by decide) c2
        · rw [a, nI_leI (by omega) (by omega)] at c3
          refine ih _ (Or.inr ?_)
          rw [em, if_pos (by omega)]
          exact ⟨rfl, by omega⟩
theorem k_orders (ho : isX11 lay o) (hB : mrow (D (o + 1)) (n, be, we)) (hT : trn n be) (hsy : ∀ p q, we p q = we q p) (hw : ∀ p q, we p q ≤ 100) : ∃ D1, am_MetV lay (d + 3) mX11_orders [.ref o] D D1 ∧ orM D1 o n be we (ful n + 1) ∧ ∀ q, q ≠ o + 7 → D1 q = D q := by
  have h10 := hT.2.1
  have hf := ful_lt h10
  have all : ∀ s, s ≤ ful n + 1 → 1 ≤ s → ∀ D, mrow (D (o + 1)) (n, be, we) → orM D o n be we s → ∃ D1, orM D1 o n be we (ful n + 1) ∧ (∀ q, q ≠ o + 7 → D1 q = D q) ∧ ∀ Q : Option Value → am_D → Prop, Q none D1 → am_AW lay (d + 3) mX11_orders 9 [.ref o, .int (nI s), .null, .null, .null, .null] [] D Q := by
    refine up_loop ?_ fun s hs ih => ?_
    · intro _ D hB hO
      exact ⟨D, hO, fun _ _ => rfl, fun Q hQ => rX11_orders_9 ho ⟨_, k_all ho hB h10, fun _ => hQ, fun c => absurd (nI_lt (by omega) (by omega)) c⟩⟩
    · intro h1 D hB hO
      have hB2 : mrow (am_up D (o + 7) s (nI (lst n be we s)) (o + 1)) (n, be, we) := by rw [am_up_ne (o + 1) (by omega)]; exact hB
      obtain ⟨D1, g1, g2, g3⟩ := ih (by omega) (am_up D (o + 7) s (nI (lst n be we s))) hB2 (fun z hz => by
        rw [am_upI]
        by_cases c : z = s
        · rw [if_pos c, c]
        · rw [if_neg c]; exact hO z (by omega))
      exact ⟨D1, g1, fun q hq => by rw [g2 q hq, am_up_ne q hq], fun Q hQ => rX11_orders_9 ho ⟨_, k_all ho hB h10, fun c => absurd c (lt_no (by omega) (by omega)), fun _ => l_or21 ho hB hT hsy hw (by omega) (by omega) hO (g3 Q hQ) 0 (Nat.zero_le _) (-1) (Or.inl ⟨rfl, fun q hq => absurd hq (Nat.not_lt_zero q)⟩)⟩⟩
  have hB2 : mrow (am_up D (o + 7) 0 (nI 0) (o + 1)) (n, be, we) := by rw [am_up_ne (o + 1) (by omega)]; exact hB
  obtain ⟨D1, g1, g2, g3⟩ := all 1 (by omega) (Nat.le_refl _) (am_up D (o + 7) 0 (nI 0)) hB2 (fun z hz => by
    obtain rfl : z = 0 := by omega
    rw [am_upI, if_pos rfl, lst_z])
  refine ⟨D1, eX11_orders ho ⟨vp_in_nI (by decide) (by decide), ?_⟩, g1, fun q hq => by rw [g2 q hq, am_up_ne q hq]⟩
  rintro D2 rfl
  rw [e0_]
  exact g3 _ ⟨rfl, rfl⟩
theorem k_isBest (ho : isX11 lay o) (hB : mrow (D (o + 1)) (n, be, we)) (hT : trn n be) (hsy : ∀ p q, we p q = we q p) (hw : ∀ p q, we p q ≤ 100) (hO : orM D o n be we (ful n + 1)) {p s : Nat} (hp : p < n) (hs : s ≤ ful n) : am_MetP lay (d + 3) mX11_isBest [.ref o, .int (nI p), .int (nI s)] D (bI (bst n be we s p)) := by
  have h10 := hT.2.1
  have hf := ful_lt h10
  unfold bst
  refine eX11_isBest ho ⟨_, k_has (p := p) (by omega), fun c => ?_, fun c => ?_⟩
  · rw [bI_0.mp c]; exact ⟨rfl, rfl⟩
  · have hb := bI_n0.mp c
    have hle : mdf s (onl p) ≤ ful n := Nat.le_trans (mdf_le _ _) hs
    have hc := k_costOf (lay := lay) (d := d) ho hB hT hsy hw (s := mdf s (onl p)) hp
    rw [← cos_rest hT (by omega) hb] at hc
    have a1 := lst_10 (be := be) hw h10 hle
    have a2 := cos_le (be := be) hw p s
    have a3 := lst_10 (be := be) hw h10 hs
    rw [nn_shl1 p (by omega), nn_dif, ← onl_p (by omega), hb, Bool.true_and]
    refine ⟨_, hc, ?_⟩
    rw [nI_clamp (by omega), nI_clamp (by omega), hO _ (by omega), hO s (by omega), nI_add, Nat.add_comm]
    refine ⟨vp_in_nI (by omega) (by decide), vp_in_nI (by omega) (by decide), fun c => ?_, fun c => ?_⟩
    · rw [nI_eq (by omega) (by omega)] at c
      rw [decide_eq_false c]; exact ⟨rfl, rfl⟩
    · rw [Classical.not_not, nI_eq (by omega) (by omega)] at c
      rw [decide_eq_true c]; exact ⟨rfl, rfl⟩
theorem m_leastCost (ho : isX11 lay o) (h : RM D o (T, T', H, s, t)) (hT : okT T) : ∃ D1, am_MetI lay (d + 4) mX11_leastCost [.ref o] D (nI (lst T.1 T.2.1 T.2.2 (ful T.1))) D1 ∧ RM D1 o (T, T', H, s, t) ∧ onlyM D D1 o := by
  have h10 : T.1 ≤ 10 := hT.1.2.1
  have hf := ful_lt h10
  have hB : mrow (D (o + 1)) (T.1, T.2.1, T.2.2) := h.1
  obtain ⟨D1, g1, g2, g3⟩ := k_orders (d := d) ho hB hT.1 hT.2.1 fun p q => (hT.2.2.1 p q).2
  have hB1 : mrow (D1 (o + 1)) (T.1, T.2.1, T.2.2) := by rw [g3 (o + 1) (by omega)]; exact hB
  refine ⟨D1, eX11_leastCost ho ⟨D1, g1, _, k_all ho hB1 h10, vp_in_nI (by omega) (by decide), ?_⟩, h.scr fun q _ hq => g3 q (by omega), fun q hq => g3 q (by omega)⟩
  rw [nI_clamp (by omega), g2 _ (by omega)]; exact ⟨rfl, rfl⟩
theorem orl_cnt (hT : trn n be) (hw : ∀ p q, we p q ≤ 100) : ∀ k, k ≤ n → cnt (orl n be we k) + k = n := by
  have h10 := hT.2.1
  intro k
  induction k with
  | zero => intro _; show cnt (ful n) + 0 = n; rw [cnt_ful h10]; rfl
  | succ k ih =>
    intro hk
    have ih := ih (by omega)
    have hle := orl_le (n := n) (be := be) (we := we) k
    have h0 : orl n be we k ≠ 0 := fun e => by rw [e, cntz_] at ih; omega
    obtain ⟨q, hq, hb⟩ := bst_ex (be := be) hw h10 hle h0
    have hcol : (col (bst n be we (orl n be we k)) n).testBit q = true := by rw [col_t, hb, decide_eq_true hq, decide_eq_true (by omega : q < 10)]; rfl
    have hne : col (bst n be we (orl n be we k)) n ≠ 0 := fun e => by rw [e, Nat.zero_testBit] at hcol; cases hcol
    obtain ⟨x10, hx⟩ := low_in _ (col_lt _ _) hne
    rw [col_t, Bool.and_eq_true, Bool.and_eq_true] at hx
    have hx2 : (orl n be we k).testBit (lowb (col (bst n be we (orl n be we k)) n)) = true := by
      have := hx.2.2
      unfold bst at this
      rw [Bool.and_eq_true] at this; exact this.1
    have := cnt_without _ (Nat.lt_of_le_of_lt hle (ful_lt h10)) _ x10 hx2
    show cnt (mdf (orl n be we k) (onl (lowb (col (bst n be we (orl n be we k)) n)))) + (k + 1) = n
    omega
theorem m_orderAt (ho : isX11 lay o) (h : RM D o (T, T', H, s, t)) (hT : okT T) (v : Int32) : (isP T.1 v = false → am_MetI lay (d + 4) mX11_orderAt [.ref o, .int v] D (-1) D) ∧ ∀ p, p < T.1 → v = nI p → ∃ D1, am_MetI lay (d + 4) mX11_orderAt [.ref o, .int v] D (nI (orx T.1 T.2.1 T.2.2 p)) D1 ∧ RM D1 o (T, T', H, s, t) ∧ onlyM D D1 o := by
  have h10 : T.1 ≤ 10 := hT.1.2.1
  have hf := ful_lt h10
  have hB : mrow (D (o + 1)) (T.1, T.2.1, T.2.2) := h.1
  have hw : ∀ p q, T.2.2 p q ≤ 100 := fun p q => (hT.2.2.1 p q).2
  constructor
  · intro hv
    refine eX11_orderAt ho ⟨_, k_isPlayer ho h.1 hT.1 v, fun h1 => ?_, fun _ => ⟨rfl, rfl⟩⟩
    rw [hv] at h1; exact absurd rfl h1
  · rintro place hp rfl
    obtain ⟨D1, g1, g2, g3⟩ := k_orders (d := d) ho hB hT.1 hT.2.1 hw
    have hB1 : mrow (D1 (o + 1)) (T.1, T.2.1, T.2.2) := by rw [g3 (o + 1) (by omega)]; exact hB
    have hl : ∀ k, k ≤ place + 1 → ∀ v3, (k = place + 1 → v3 = nI (orx T.1 T.2.1 T.2.2 place)) → am_AW lay (d + 4) mX11_orderAt 24 [.ref o, .int (nI place), .int (nI (orl T.1 T.2.1 T.2.2 k)), .int v3, .int (nI k)] [] D1 (fun r D2 => r = some (.int (nI (orx T.1 T.2.1 T.2.2 place))) ∧ D2 = D1) := by
      refine up_loop ?_ fun k hk ih => ?_
      · intro v hv
        refine rX11_orderAt_24 ho ⟨fun _ => ⟨by rw [hv rfl], rfl⟩, fun c => absurd (nI_lt (by omega) (by omega)) c⟩
      · intro v _
        have hle := orl_le (n := T.1) (be := T.2.1) (we := T.2.2) k
        have hc := orl_cnt hT.1 hw k (by omega)
        have h0 : orl T.1 T.2.1 T.2.2 k ≠ 0 := fun e => by rw [e, cntz_] at hc; omega
        obtain ⟨q, hq, hb⟩ := bst_ex (be := T.2.1) hw h10 hle h0
        have hcol : (col (bst T.1 T.2.1 T.2.2 (orl T.1 T.2.1 T.2.2 k)) T.1).testBit q = true := by rw [col_t, hb, decide_eq_true hq, decide_eq_true (by omega : q < 10)]; rfl
        have hne : col (bst T.1 T.2.1 T.2.2 (orl T.1 T.2.1 T.2.2 k)) T.1 ≠ 0 := fun e => by rw [e, Nat.zero_testBit] at hcol; cases hcol
        obtain ⟨x10, hx⟩ := low_in _ (col_lt _ _) hne
        rw [col_t, Bool.and_eq_true, Bool.and_eq_true] at hx
        have exx : lowb (col (bst T.1 T.2.1 T.2.2 (orl T.1 T.2.1 T.2.2 k)) T.1) = orx T.1 T.2.1 T.2.2 k := rfl
        have ih := ih (nI (orx T.1 T.2.1 T.2.2 k)) (fun e => by rw [show place = k by omega])
        have eo : orl T.1 T.2.1 T.2.2 (k + 1) = mdf (orl T.1 T.2.1 T.2.2 k) (onl (orx T.1 T.2.1 T.2.2 k)) := rfl
        rw [eo] at ih
        have low := fun j (hj : (col (bst T.1 T.2.1 T.2.2 (orl T.1 T.2.1 T.2.2 k)) T.1).testBit j = true) => low_least (col_lt _ _) hj
        rw [exx] at hx x10
        have xn : orx T.1 T.2.1 T.2.2 k < T.1 := of_decide_eq_true hx.2.1
        have inner : ∀ j, j ≤ orx T.1 T.2.1 T.2.2 k → am_AW lay (d + 4) mX11_orderAt 32 [.ref o, .int (nI place), .int (nI (orl T.1 T.2.1 T.2.2 k)), .int (nI j), .int (nI k)] [] D1 (fun r D2 => r = some (.int (nI (orx T.1 T.2.1 T.2.2 place))) ∧ D2 = D1) := by
          refine up_loop ?_ fun j hj ihj => ?_
          · refine rX11_orderAt_32 ho ⟨_, k_isBest ho hB1 hT.1 hT.2.1 hw g2 xn hle, fun _ => ?_, fun c => ?_⟩
            · rw [nn_shl1 _ (by omega), nn_dif, ← onl_p x10, nI_add]; exact ih
            · rw [hx.2.2] at c; exact absurd (by decide) c
          · refine rX11_orderAt_32 ho ⟨_, k_isBest ho hB1 hT.1 hT.2.1 hw g2 (show j < T.1 by omega) hle, fun c => ?_, fun _ => ?_⟩
            · have := low j (by rw [col_t, bI_n0.mp c, decide_eq_true (show j < T.1 by omega), decide_eq_true (by omega : j < 10)]; rfl)
              rw [exx] at this; omega
            · rw [nI_add]; exact ihj
        exact rX11_orderAt_24 ho ⟨fun c => absurd c (lt_no (by omega) (by omega)), fun _ => inner 0 (Nat.zero_le _)⟩
    refine ⟨D1, eX11_orderAt ho ⟨_, k_isPlayer ho h.1 hT.1 _, fun _ => ⟨D1, g1, _, k_all ho hB1 h10, hl 0 (Nat.zero_le _) (nI 0) (fun e => by omega)⟩, fun h1 => ?_⟩, h.scr fun q _ hq => g3 q (by omega), fun q hq => g3 q (by omega)⟩
    rw [Classical.not_not, isP_n h10 (by omega), decide_eq_true hp] at h1; cases bI_0.mp h1
end MO13
