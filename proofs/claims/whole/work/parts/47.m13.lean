/-! the model: winners -/
section MO14
variable {lay : List am_L} {d : Nat} {D : am_D} {o n : Nat} {be : Nat → Nat → Bool} {we : Nat → Nat → Nat} {T T' : am_T} {H : List am_T} {s t : List Nat}
theorem k_isKing (ho : isX11 lay o) (hB : mrow (D (o + 1)) (n, be, we)) (hT : trn n be) {p : Nat} (hp : p < n) : am_MetP lay (d + 2) mX11_isKing [.ref o, .int (nI p)] D (bI (kingB n be p)) := by
  have h10 := hT.2.1
  have hl : ∀ i, i ≤ n → am_AW lay (d + 2) mX11_isKing 12 [.ref o, .int (nI p), .int (nI (msk (kg1 be p i))), .int (nI i)] [] D (fun r D1 => r = some (.int (bI (kingB n be p))) ∧ D1 = D) := by
    refine up_loop ?_ fun i hi ih => ?_
    · have hf := ful_lt h10
      have hm := msk_lt (kg1 be p n)
      refine rX11_isKing_12 ho ⟨_, k_n ho hB, fun _ => ⟨_, k_all ho hB h10, fun c => ?_, fun c => ?_⟩, fun h => absurd (nI_le (Nat.le_refl _) (by omega)) h⟩
      · rw [nI_eq (by omega) (by omega)] at c
        cases e : kingB n be p with
        | true => exact absurd ((kg1_ful hT hp).mpr e) c
        | false => exact ⟨rfl, rfl⟩
      · rw [Classical.not_not, nI_eq (by omega) (by omega)] at c
        rw [(kg1_ful hT hp).mp c]; exact ⟨rfl, rfl⟩
    · have e : kg1 be p (i + 1) = fun r => (kg1 be p i r || (be p i && be i r)) := by funext r; exact kg1_s be p i r
      rw [e] at ih
      refine rX11_isKing_12 ho ⟨_, k_n ho hB, fun h => absurd h (ge_no hi (by omega)), fun _ => ⟨_, k_beats1 ho hB hT (by omega) (by omega), fun c => ?_, fun c => ⟨_, k_beaten ho hB (by omega), ?_⟩⟩⟩
      · rw [bI_0.mp c] at ih
        rw [nn_or, Nat.or_zero, nI_add]
        have e2 : (fun r => (kg1 be p i r || (false && be i r))) = kg1 be p i := by funext r; simp
        rw [e2] at ih; exact ih
      · rw [bI_n0.mp c] at ih
        have e2 : msk (kg1 be p i) ||| msk (be i) = msk fun r => (kg1 be p i r || (true && be i r)) := by
          refine set_ext (or_lt (msk_lt _) (msk_lt _)) (msk_lt _) fun q hq => ?_
          rw [Nat.testBit_or, msk_t, msk_t, msk_t, decide_eq_true hq]; simp
        rw [nn_or, e2, nI_add]; exact ih
  have h0 := hl 0 (Nat.zero_le _)
  refine eX11_isKing ho ⟨_, k_beaten ho hB (by omega), ?_⟩
  have e : 2 ^ p ||| msk (be p) = msk (kg1 be p 0) := by
    rw [← onl_p (by omega)]
    refine set_ext (or_lt (onl_lt _) (msk_lt _)) (msk_lt _) fun q hq => ?_
    rw [Nat.testBit_or, msk_t, msk_t, onl_t, decide_eq_true hq, decide_eq_true (by omega : p < 10)]
    unfold kg1; simp
  rw [nn_shl1 p (by omega), nn_or, e]; exact h0
def tpI (be : Nat → Nat → Bool) (p i : Nat) : Bool := (List.range i).all fun q => decide (sc be q ≤ sc be p)
theorem tpI_s (be : Nat → Nat → Bool) (p i : Nat) : tpI be p (i + 1) = (tpI be p i && decide (sc be i ≤ sc be p)) := by
  unfold tpI
  rw [List.range_succ, List.all_append]; simp
theorem k_isTop (ho : isX11 lay o) (hB : mrow (D (o + 1)) (n, be, we)) (h10 : n ≤ 10) {p : Nat} (hp : p < n) : am_MetP lay (d + 1) mX11_isTop [.ref o, .int (nI p)] D (bI (tpI be p n)) := by
  have hl : ∀ i, i ≤ n → am_AW lay (d + 1) mX11_isTop 4 [.ref o, .int (nI p), .int (bI (tpI be p i)), .int (nI i)] [] D (fun r D1 => r = some (.int (bI (tpI be p n))) ∧ D1 = D) := by
    refine up_loop ?_ fun i hi ih => ?_
    · exact rX11_isTop_4 ho ⟨_, k_n ho hB, fun _ => ⟨bI_nar _, rfl, rfl⟩, fun h => absurd (nI_le (Nat.le_refl _) (by omega)) h⟩
    · rw [tpI_s] at ih
      have c1 := cnt_le (msk (be i))
      have c2 := cnt_le (msk (be p))
      refine rX11_isTop_4 ho ⟨_, k_n ho hB, fun h => absurd h (ge_no hi (by omega)), fun _ => ⟨fun c => ?_, fun c => ⟨_, k_beaten ho hB (by omega), _, k_count (msk_lt _), _, k_beaten ho hB (by omega), _, k_count (msk_lt _), fun c3 => ?_, fun c3 => ?_⟩⟩⟩
      · rw [bI_0.mp c, Bool.false_and] at ih
        rw [nI_add]; exact ih
      · rw [nI_ltI (by omega) (by omega)] at c3
        rw [bI_n0.mp c, decide_eq_false (show ¬ sc be i ≤ sc be p by unfold sc; omega)] at ih
        rw [nI_add]; exact ih
      · rw [nI_ltI (by omega) (by omega)] at c3
        rw [bI_n0.mp c, decide_eq_true (show sc be i ≤ sc be p by unfold sc; omega)] at ih
        rw [nI_add]; exact ih
  exact eX11_isTop ho (hl 0 (Nat.zero_le _))
theorem k_isChain (ho : isX11 lay o) (hB : mrow (D (o + 1)) (n, be, we)) (hT : trn n be) {S : Nat} (hS : S < 1024) : am_MetP lay (d + 1) mX11_isChain [.ref o, .int (nI S)] D (bI (decide (cnt (chM n be S n) = cnt S))) := by
  have h10 := hT.2.1
  have hl : ∀ i, i ≤ n → am_AW lay (d + 1) mX11_isChain 4 [.ref o, .int (nI S), .int (nI (chM n be S i)), .int (nI i)] [] D (fun r D1 => r = some (.int (bI (decide (cnt (chM n be S n) = cnt S)))) ∧ D1 = D) := by
    refine up_loop ?_ fun i hi ih => ?_
    · have c1 := cnt_le (chM n be S n)
      have c2 := cnt_le S
      refine rX11_isChain_4 ho ⟨_, k_n ho hB, fun _ => ⟨_, k_count (msk_lt _), _, k_count hS, fun c => ?_, fun c => ?_⟩, fun h => absurd (nI_le (Nat.le_refl _) (by omega)) h⟩
      · rw [nI_eq (by omega) (by omega)] at c
        rw [decide_eq_false c]; exact ⟨rfl, rfl⟩
      · rw [Classical.not_not, nI_eq (by omega) (by omega)] at c
        rw [decide_eq_true c]; exact ⟨rfl, rfl⟩
    · have es : ∀ v, v < 10 → (chM n be S (i + 1)).testBit v = ((chM n be S i).testBit v || (S.testBit i && decide (wn be S i = v))) := by
        intro v hv
        unfold chM
        rw [msk_t, msk_t, decide_eq_true hv, Bool.true_and, Bool.true_and, List.range_succ, List.any_append]; simp
      refine rX11_isChain_4 ho ⟨_, k_n ho hB, fun h => absurd h (ge_no hi (by omega)), fun _ => ⟨_, k_has (by omega), fun c => ?_, fun c => ⟨_, k_beaten ho hB (by omega), ?_⟩⟩⟩
      · have e : chM n be S (i + 1) = chM n be S i := set_ext (msk_lt _) (msk_lt _) fun v hv => by rw [es v hv, bI_0.mp c]; simp
        rw [e] at ih
        rw [nn_or, Nat.or_zero, nI_add]; exact ih
      · have hb := bI_n0.mp c
        have hw := wn_self hT hS hb
        have c2 := cnt_le S
        have e : chM n be S (i + 1) = chM n be S i ||| 2 ^ wn be S i := by
          rw [← onl_p (by omega)]
          refine set_ext (msk_lt _) (or_lt (msk_lt _) (onl_lt _)) fun v hv => ?_
          rw [es v hv, hb, Nat.testBit_or, onl_t, decide_eq_true (by omega : wn be S i < 10)]
        rw [e] at ih
        rw [nn_and]
        refine ⟨_, k_count (and_lt (msk_lt _)), ?_⟩
        have ew : cnt (msk (be i) &&& S) = wn be S i := rfl
        rw [ew, nn_shl1 _ (by omega), nn_or, nI_add]; exact ih
  have h0 := hl 0 (Nat.zero_le _)
  have e0 : chM n be S 0 = 0 := set_ext (msk_lt _) (by decide : 0 < 1024) fun v hv => by unfold chM; rw [msk_t]; simp
  rw [e0] at h0
  exact eX11_isChain ho h0
theorem k_isBeaten (ho : isX11 lay o) (hB : mrow (D (o + 1)) (n, be, we)) (h10 : n ≤ 10) {S : Nat} (hS : S < 1024) : am_MetP lay (d + 1) mX11_isBeaten [.ref o, .int (nI S)] D (bI (btB n be S n)) := by
  have gs : ∀ i, btB n be S (i + 1) = (btB n be S i || decide (msk (be i) &&& S = S)) := by
    intro i; unfold btB; rw [List.range_succ, List.any_append]; simp
  have hl : ∀ i, i ≤ n → am_AW lay (d + 1) mX11_isBeaten 4 [.ref o, .int (nI S), .int (bI (btB n be S i)), .int (nI i)] [] D (fun r D1 => r = some (.int (bI (btB n be S n))) ∧ D1 = D) := by
    refine up_loop ?_ fun i hi ih => ?_
    · exact rX11_isBeaten_4 ho ⟨_, k_n ho hB, fun _ => ⟨bI_nar _, rfl, rfl⟩, fun h => absurd (nI_le (Nat.le_refl _) (by omega)) h⟩
    · rw [gs] at ih
      have hm := and_lt (m := S) (msk_lt (be i))
      refine rX11_isBeaten_4 ho ⟨_, k_n ho hB, fun h => absurd h (ge_no hi (by omega)), fun _ => ⟨fun c => ?_, fun c => ⟨_, k_beaten ho hB (by omega), ?_⟩⟩⟩
      · rw [bI_n0.mp c, Bool.true_or] at ih
        rw [nI_add]; exact ih
      · rw [Classical.not_not] at c
        rw [bI_0.mp c, Bool.false_or] at ih
        rw [nn_and]
        refine ⟨fun c2 => ?_, fun c2 => ?_⟩
        · rw [nI_eq (by omega) (by omega)] at c2
          rw [decide_eq_false c2] at ih
          rw [nI_add]; exact ih
        · rw [Classical.not_not, nI_eq (by omega) (by omega)] at c2
          rw [decide_eq_true c2] at ih
          rw [nI_add]; exact ih
  exact eX11_isBeaten ho (hl 0 (Nat.zero_le _))
theorem k_isFirst (ho : isX11 lay o) (hB : mrow (D (o + 1)) (n, be, we)) (hT : trn n be) {p : Nat} (hp : p < n) : am_MetP lay (d + 2) mX11_isFirst [.ref o, .int (nI p)] D (bI ((chT n be).testBit p)) := by
  have h10 := hT.2.1
  have hf := ful_lt h10
  have yes : ∀ i, i ≤ ful n + 1 → (chT n be).testBit p = true → am_AW lay (d + 2) mX11_isFirst 4 [.ref o, .int (nI p), .int (nI 1), .int (nI i), .null] [] D (fun r D1 => r = some (.int (bI ((chT n be).testBit p))) ∧ D1 = D) := by
    intro i hi e
    rw [e]
    exact rX11_isFirst_4 ho ⟨_, k_all ho hB h10, fun _ => ⟨bI_nar true, rfl, rfl⟩, fun _ => ⟨fun _ => ⟨bI_nar true, rfl, rfl⟩, fun c => absurd (by decide) c⟩⟩
  have hl : ∀ i, i ≤ ful n + 1 → (∀ j, j < i → okF n be p j = false) → am_AW lay (d + 2) mX11_isFirst 4 [.ref o, .int (nI p), .int (nI 0), .int (nI i), .null] [] D (fun r D1 => r = some (.int (bI ((chT n be).testBit p))) ∧ D1 = D) := by
    refine up_loop ?_ fun i hi ih => ?_
    · intro h
      have e : (chT n be).testBit p = false := by
        rw [← first_iff hT hp]
        cases c : (List.range (ful n + 1)).any (okF n be p) with
        | false => rfl
        | true =>
          obtain ⟨j, j1, j2⟩ := List.any_eq_true.mp c
          rw [h j (List.mem_range.mp j1)] at j2; cases j2
      rw [e]
      exact rX11_isFirst_4 ho ⟨_, k_all ho hB h10, fun _ => ⟨bI_nar false, rfl, rfl⟩, fun c => absurd (nI_lt (by omega) (by omega)) c⟩
    · intro h
      have next : okF n be p i = false → am_AW lay (d + 2) mX11_isFirst 4 [.ref o, .int (nI p), .int (nI 0), .int (nI (i + 1)), .null] [] D (fun r D1 => r = some (.int (bI ((chT n be).testBit p))) ∧ D1 = D) := fun e => ih fun j hj => by
        by_cases c : j = i
        · rw [c]; exact e
        · exact h j (by omega)
      have hi3 : i < 1024 := by omega
      have hp2 : i ||| 2 ^ p < 1024 := by rw [← onl_p (by omega)]; exact or_lt hi3 (onl_lt _)
      have hok : okF n be p i = (decide (mdf i (msk (be p)) = 0) && (decide (cnt (chM n be (i ||| 2 ^ p) n) = cnt (i ||| 2 ^ p)) && !btB n be (i ||| 2 ^ p) n)) := rfl
      have hm : mdf i (msk (be p)) < 1024 := mdf_lt hi3
      refine rX11_isFirst_4 ho ⟨_, k_all ho hB h10, fun c => absurd c (lt_no (by omega) (by omega)), fun _ => ⟨fun c => absurd rfl c, fun _ => ⟨_, k_beaten ho hB (by omega), ?_⟩⟩⟩
      rw [nn_dif, nn_shl1 p (by omega), nn_or, nI_add]
      refine ⟨fun c => ?_, fun c => ⟨_, k_isChain ho hB hT hp2, fun c2 => ?_, fun c2 => ⟨_, k_isBeaten ho hB h10 hp2, fun c3 => ?_, fun c3 => ?_⟩⟩⟩
      · rw [nI_eq (by omega) (by decide)] at c
        exact next (by rw [hok, decide_eq_false c, Bool.false_and])
      · exact next (by rw [hok, bI_0.mp c2, Bool.false_and, Bool.and_false])
      · exact next (by rw [hok, bI_n0.mp c3, Bool.not_true, Bool.and_false, Bool.and_false])
      · rw [Classical.not_not, nI_eq (by omega) (by decide)] at c
        rw [Classical.not_not] at c3
        have e : okF n be p i = true := by rw [hok, decide_eq_true c, bI_n0.mp c2, bI_0.mp c3]; rfl
        refine yes (i + 1) (by omega) ?_
        rw [← first_iff hT hp]
        exact List.any_eq_true.mpr ⟨i, List.mem_range.mpr hi, e⟩
  exact eX11_isFirst ho (hl 0 (Nat.zero_le _) fun j hj => absurd hj (Nat.not_lt_zero j))
/-- the winners, one by one -/
def wP (T : am_T) (r p : Nat) : Bool := if r = 0 then decide (cmA T.1 T.2.1 p T.1 = 0) else if r = 1 then kingB T.1 T.2.1 p else if r = 2 then tpI T.2.1 p T.1 else if r = 3 then (chT T.1 T.2.1).testBit p else bst T.1 T.2.1 T.2.2 (ful T.1) p
theorem wP_wnB (hT : okT T) {r : Nat} (hr : r < 5) : col (wP T r) T.1 = wnB T r := by
  have h10 : T.1 ≤ 10 := hT.1.2.1
  have h2 : 2 ≤ T.1 := hT.1.1
  have hfin : ∀ x, (ful T.1).testBit x = true → x < T.1 := fun x hx => by rw [ful_t] at hx; exact of_decide_eq_true hx
  have hr : r = 0 ∨ r = 1 ∨ r = 2 ∨ r = 3 ∨ r = 4 := by omega
  rcases hr with rfl | rfl | rfl | rfl | rfl
  · show col _ T.1 = topA T.1 T.2.1 (ful T.1)
    refine set_ext (col_lt _ _) (topA_lt _) fun q hq => ?_
    rw [col_t, decide_eq_true hq, Bool.true_and]
    by_cases c : q < T.1
    · rw [decide_eq_true c, Bool.true_and]
      show decide (cmA T.1 T.2.1 q T.1 = 0) = (topA T.1 T.2.1 (lft T.1 T.2.1 0)).testBit q
      rw [cmA_lv hT.1 c]
      apply Bool.eq_iff_iff.mpr
      rw [decide_eq_true_eq, top_iff hT.1 c]
    · rw [decide_eq_false c, Bool.false_and]
      cases e : (topA T.1 T.2.1 (ful T.1)).testBit q with
      | false => rfl
      | true => exact absurd (hfin q (topA_sub h10 hfin q e)) c
  · rfl
  · show col _ T.1 = ldr T.1 T.2.1 (ful T.1)
    refine set_ext (col_lt _ _) (msk_lt _) fun q hq => ?_
    apply Bool.eq_iff_iff.mpr
    rw [ldr_iff h10 hfin, col_t, decide_eq_true hq, Bool.true_and, Bool.and_eq_true, decide_eq_true_eq, ful_t, decide_eq_true_eq]
    have ew : ∀ z, wn T.2.1 (ful T.1) z = sc T.2.1 z := fun z => by
      unfold wn sc
      refine cnt_ext fun x _ => ?_
      rw [Nat.testBit_and, hT.1.mskt, ful_t]
      cases e : T.2.1 z x with
      | false => rfl
      | true => rw [decide_eq_true (hT.1.2.2.1 _ _ e).2.1]; rfl
    show q < T.1 ∧ tpI T.2.1 q T.1 = true ↔ _
    unfold tpI
    simp only [List.all_eq_true, List.mem_range, decide_eq_true_eq]
    constructor
    · rintro ⟨a, b⟩; exact ⟨a, fun z hz => by rw [ew, ew]; exact b z (hfin z hz)⟩
    · rintro ⟨a, b⟩; exact ⟨a, fun z hz => by have := b z (by rw [ful_t]; exact decide_eq_true hz); rw [ew, ew] at this; exact this⟩
  · show col _ T.1 = chT T.1 T.2.1
    refine set_ext (col_lt _ _) (orL_lt (fun q => tab_lt _ _ _) _) fun q hq => ?_
    rw [col_t, decide_eq_true hq, Bool.true_and]
    by_cases c : q < T.1
    · rw [decide_eq_true c, Bool.true_and]; rfl
    · rw [decide_eq_false c, Bool.false_and]
      cases e : (chT T.1 T.2.1).testBit q with
      | false => rfl
      | true =>
        obtain ⟨-, -, h, -⟩ := (chT_iff hT.1).mp e
        exact absurd h c
  · rfl
theorem k_winnersBy (ho : isX11 lay o) (h : RM D o (T, T', H, s, t)) (hT : okT T) {r : Nat} (hr : r < 5) : ∃ D1, am_MetI lay (d + 4) mX11_winnersBy [.ref o, .int (nI r)] D (nI (wnB T r)) D1 ∧ RM D1 o (T, T', H, s, t) ∧ onlyM D D1 o := by
  have h10 : T.1 ≤ 10 := hT.1.2.1
  have hB : mrow (D (o + 1)) (T.1, T.2.1, T.2.2) := h.1
  have hw : ∀ p q, T.2.2 p q ≤ 100 := fun p q => (hT.2.2.1 p q).2
  obtain ⟨D1, g1, g2, g3⟩ := k_reaches (d := d + 2) ho hB hT.1
  have hB1 : mrow (D1 (o + 1)) (T.1, T.2.1, T.2.2) := by rw [g3 (o + 1) (by omega)]; exact hB
  obtain ⟨D2, i1, i2, i3⟩ := k_orders (d := d) ho hB1 hT.1 hT.2.1 hw
  have hB2 : mrow (D2 (o + 1)) (T.1, T.2.1, T.2.2) := by rw [i3 (o + 1) (by omega)]; exact hB1
  have hR : rchD D2 o T.1 T.2.1 := fun p hp => by rw [i3 (o + 8) (by omega)]; exact g2 p hp
  refine ⟨D2, eX11_winnersBy ho ⟨D1, g1, D2, i1, ?_⟩, h.scr fun q _ hq => by rw [i3 q (by omega), g3 q (by omega)], fun q hq => by rw [i3 q (by omega), g3 q (by omega)]⟩
  rw [← wP_wnB hT hr]
  have cu : ∀ {P : Nat → Bool} {i : Nat}, i < 10 → P i = true → col P i ||| 2 ^ i = col P (i + 1) := fun hi h => by rw [← onl_p hi]; exact col_y hi h
  have hl : ∀ i, i ≤ T.1 → am_AW lay (d + 4) mX11_winnersBy 12 [.ref o, .int (nI r), .int (nI (col (wP T r) i)), .int (nI i), .null] [] D2 (fun r' D3 => r' = some (.int (nI (col (wP T r) T.1))) ∧ D3 = D2) := by
    refine up_loop ?_ fun i hi ih => ?_
    · exact rX11_winnersBy_12 ho ⟨_, k_n ho hB2, fun _ => ⟨rfl, rfl⟩, fun h => absurd (nI_le (Nat.le_refl _) (by omega)) h⟩
    · have i10 : i < 10 := by omega
      have no : wP T r i = false → am_AW lay (d + 4) mX11_winnersBy 12 [.ref o, .int (nI r), .int (nI (col (wP T r) i) ||| nI 0), .int (nI i + nI 1), .null] [] D2 (fun r' D3 => r' = some (.int (nI (col (wP T r) T.1))) ∧ D3 = D2) := fun e => by
        rw [nn_or, Nat.or_zero, nI_add, col_n e]; exact ih
      have yes : wP T r i = true → am_AW lay (d + 4) mX11_winnersBy 12 [.ref o, .int (nI r), .int (nI (col (wP T r) i) ||| (nI 1 <<< (nI i &&& 31))), .int (nI i + nI 1), .null] [] D2 (fun r' D3 => r' = some (.int (nI (col (wP T r) T.1))) ∧ D3 = D2) := fun e => by
        rw [nn_shl1 i (by omega), nn_or, nI_add, cu i10 e]; exact ih
      have kc := k_componentAt (d := d + 1) ho hB2 h10 hR hi
      have kk := k_isKing (lay := lay) (d := d + 1) ho hB2 hT.1 hi
      have kt := k_isTop (lay := lay) (d := d + 2) (p := i) ho hB2 h10 hi
      have kf := k_isFirst (lay := lay) (d := d + 1) ho hB2 hT.1 hi
      have kb := k_isBest (lay := lay) (d := d) ho hB2 hT.1 hT.2.1 hw i2 hi (Nat.le_refl (ful T.1))
      have lvb : cmA T.1 T.2.1 i T.1 < 2 ^ 31 := by
        have : cmA T.1 T.2.1 i T.1 ≤ 1 * T.1 := sumR_le T.1 fun q => by
          show (if lwB T.1 T.2.1 q && ((rb T.1 T.2.1 q).testBit i && !(rb T.1 T.2.1 i).testBit q) then 1 else 0) ≤ 1
          split <;> omega
        omega
      have rneq : ∀ a, a < 5 → (nI r = nI a ↔ r = a) := fun a ha => nI_eq (by omega) (by omega)
      have w0 : r = 0 → wP T r i = decide (cmA T.1 T.2.1 i T.1 = 0) := fun e => by unfold wP; rw [if_pos e]
      have w1 : r = 1 → wP T r i = kingB T.1 T.2.1 i := fun e => by unfold wP; rw [if_neg (by omega), if_pos e]
      have w2 : r = 2 → wP T r i = tpI T.2.1 i T.1 := fun e => by unfold wP; rw [if_neg (by omega), if_neg (by omega), if_pos e]
      have w3 : r = 3 → wP T r i = (chT T.1 T.2.1).testBit i := fun e => by unfold wP; rw [if_neg (by omega), if_neg (by omega), if_neg (by omega), if_pos e]
      have w4 : r = 4 → wP T r i = bst T.1 T.2.1 T.2.2 (ful T.1) i := fun e => by unfold wP; rw [if_neg (by omega), if_neg (by omega), if_neg (by omega), if_neg (by omega)]
      refine rX11_winnersBy_12 ho ⟨_, k_n ho hB2, fun h => absurd h (ge_no hi (by omega)), fun _ => ⟨fun c0 => ⟨fun c1 => ⟨fun c2 => ⟨fun c3 => ⟨_, k_all ho hB2 h10, _, kb, fun c => no ?_, fun c => yes ?_⟩, fun c3 => ⟨_, kf, fun c => no ?_, fun c => yes ?_⟩⟩, fun c2 => ⟨_, kt, fun c => no ?_, fun c => yes ?_⟩⟩, fun c1 => ⟨_, kk, fun c => no ?_, fun c => yes ?_⟩⟩, fun c0 => ⟨_, kc, fun c => ⟨fun _ => no ?_, fun c => absurd rfl c⟩, fun c => ⟨fun c => absurd c (by decide), fun _ => yes ?_⟩⟩⟩⟩
      · rw [rneq 0 (by omega)] at c0; rw [rneq 1 (by omega)] at c1; rw [rneq 2 (by omega)] at c2; rw [rneq 3 (by omega)] at c3
        rw [w4 (by omega)]; exact bI_0.mp c
      · rw [rneq 0 (by omega)] at c0; rw [rneq 1 (by omega)] at c1; rw [rneq 2 (by omega)] at c2; rw [rneq 3 (by omega)] at c3
        rw [w4 (by omega)]; exact bI_n0.mp c
      · rw [Classical.not_not, rneq 3 (by omega)] at c3
        rw [w3 c3]; exact bI_0.mp c
      · rw [Classical.not_not, rneq 3 (by omega)] at c3
        rw [w3 c3]; exact bI_n0.mp c
      · rw [Classical.not_not, rneq 2 (by omega)] at c2
        rw [w2 c2]; exact bI_0.mp c
      · rw [Classical.not_not, rneq 2 (by omega)] at c2
        rw [w2 c2]; exact bI_n0.mp c
      · rw [Classical.not_not, rneq 1 (by omega)] at c1
        rw [w1 c1]; exact bI_0.mp c
      · rw [Classical.not_not, rneq 1 (by omega)] at c1
        rw [w1 c1]; exact bI_n0.mp c
      · rw [Classical.not_not, rneq 0 (by omega)] at c0
        rw [nI_eq lvb (by decide)] at c
        rw [w0 c0]; exact decide_eq_false c
      · rw [Classical.not_not, rneq 0 (by omega)] at c0
        rw [Classical.not_not, nI_eq lvb (by decide)] at c
        rw [w0 c0]; exact decide_eq_true c
  have h0 := hl 0 (Nat.zero_le _)
  rw [col_0] at h0
  exact h0
theorem m_winners_no (ho : isX11 lay o) {v : Int32} (hv : v < nI 0 ∨ ¬ v ≤ nI 4) : am_MetI lay (d + 5) mX11_winners [.ref o, .int v] D (-1) D := by
  have hi := k_in (lay := lay) (d := d + 4) (D := D) v (nI 0) (nI 4)
  rw [in_n hv] at hi
  exact eX11_winners ho ⟨_, hi, fun _ => ⟨rfl, rfl⟩, fun c => absurd rfl c⟩
theorem m_winners (ho : isX11 lay o) (h : RM D o (T, T', H, s, t)) (hT : okT T) {r : Nat} (hr : r < 5) : ∃ D1, am_MetI lay (d + 5) mX11_winners [.ref o, .int (nI r)] D (nI (wnB T r)) D1 ∧ RM D1 o (T, T', H, s, t) ∧ onlyM D D1 o := by
  have hi := k_in (lay := lay) (d := d + 4) (D := D) (nI r) (nI 0) (nI 4)
  rw [in_y (Nat.zero_le _) (by omega) (by decide)] at hi
  obtain ⟨D1, g1, g2, g3⟩ := k_winnersBy (d := d) ho h hT hr
  exact ⟨D1, eX11_winners ho ⟨_, hi, fun c => absurd c (by decide), fun _ => ⟨_, D1, g1, rfl, rfl⟩⟩, g2, g3⟩
theorem m_undisputed (ho : isX11 lay o) (h : RM D o (T, T', H, s, t)) (hT : okT T) : ∃ D1, am_MetI lay (d + 5) mX11_undisputed [.ref o] D (nI (cnt (unS T 5))) D1 ∧ RM D1 o (T, T', H, s, t) ∧ onlyM D D1 o := by
  have h10 : T.1 ≤ 10 := hT.1.2.1
  have hB : mrow (D (o + 1)) (T.1, T.2.1, T.2.2) := h.1
  have hl : ∀ i, i ≤ 5 → ∀ D, RM D o (T, T', H, s, t) → ∃ D1, RM D1 o (T, T', H, s, t) ∧ onlyM D D1 o ∧ ∀ Q : Option Value → am_D → Prop, Q (some (.int (nI (cnt (unS T 5))))) D1 → am_AW lay (d + 5) mX11_undisputed 7 [.ref o, .int (nI (unS T i)), .int (nI i)] [] D Q := by
    refine up_loop ?_ fun i hi ih => ?_
    · intro D h
      exact ⟨D, h, fun _ _ => rfl, fun Q hQ => rX11_undisputed_7 ho ⟨fun _ => ⟨_, k_count (unS_lt h10 5), hQ⟩, fun c => absurd (nI_le (Nat.le_refl _) (by decide)) c⟩⟩
    · intro D h
      obtain ⟨D2, g1, g2, g3⟩ := k_winnersBy (d := d) ho h hT hi
      obtain ⟨D1, j1, j2, j3⟩ := ih D2 g2
      refine ⟨D1, j1, fun q hq => by rw [j2 q hq, g3 q hq], fun Q hQ => rX11_undisputed_7 ho ⟨fun c => absurd c (ge_no hi (by decide)), fun _ => ⟨_, D2, g1, ?_⟩⟩⟩
      rw [nn_and, nI_add]
      exact j3 Q hQ
  obtain ⟨D1, g1, g2, g3⟩ := hl 0 (Nat.zero_le _) D h
  exact ⟨D1, eX11_undisputed ho ⟨_, k_all ho hB h10, g3 _ ⟨rfl, rfl⟩⟩, g1, g2⟩
end MO14
