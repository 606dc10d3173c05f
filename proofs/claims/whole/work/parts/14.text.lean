/-! the text of results -/
def chr (t : List Nat) (i : Nat) : Nat := t.getD i 32
def okX (t : List Nat) : Prop := ∀ x ∈ t, 32 ≤ x ∧ x ≤ 126
theorem chr_le {t : List Nat} (h : okX t) (i : Nat) : 32 ≤ chr t i ∧ chr t i ≤ 126 := by
  unfold chr
  rw [List.getD_eq_getElem?_getD]
  cases e : t[i]? with
  | none => exact ⟨by simp, by simp⟩
  | some x => exact h x (List.mem_of_getElem? e)
theorem chr_out {t : List Nat} {i : Nat} (h : t.length ≤ i) : chr t i = 32 := by
  unfold chr; rw [List.getD_eq_getElem?_getD, List.getElem?_eq_none h]; rfl
/-- a result stands at k -/
def res (n : Nat) (t : List Nat) (k : Nat) : Bool := isPr n (nI (chr t k) - nI 48) (nI (chr t (k + 2)) - nI 48) && ((decide (chr t (k + 1) = 62) || decide (chr t (k + 1) = 60)) && decide (chr t (k + 3) = 59))
def flt (n : Nat) (t : List Nat) : Nat → Nat → Int32
  | 0, _ => -4
  | j + 1, k => if t.length ≤ k then -4 else if res n t k then flt n t j (k + 4) else nI k
/-- winner and loser of the result at k -/
def rw_ (t : List Nat) (k : Nat) : Nat := if chr t (k + 1) = 62 then chr t k - 48 else chr t (k + 2) - 48
def rl_ (t : List Nat) (k : Nat) : Nat := if chr t (k + 1) = 62 then chr t (k + 2) - 48 else chr t k - 48
def entB (t : List Nat) : Nat → Nat → (Nat → Nat → Bool) → (Nat → Nat → Bool)
  | 0, _, be => be
  | j + 1, k, be => if t.length ≤ k then be else entB t j (k + 4) (stw be (rw_ t k) (rl_ t k))
theorem sub48 {n c : Nat} (hn : n ≤ 10) (hc : c ≤ 126) (h : isP n (nI c - nI 48) = true) : 48 ≤ c ∧ nI c - nI 48 = nI (c - 48) ∧ c - 48 < n := by
  have key : ∀ c, c < 127 → ∀ n, n < 11 → isP n (nI c - nI 48) = true → 48 ≤ c ∧ nI c - nI 48 = nI (c - 48) ∧ c - 48 < n := by decide +kernel
  exact key c (by omega) n (by omega) h
theorem res_of {n : Nat} {t : List Nat} {k : Nat} (hn : n ≤ 10) (ht : okX t) (h : res n t k = true) : nI (chr t k) - nI 48 = nI (chr t k - 48) ∧ nI (chr t (k + 2)) - nI 48 = nI (chr t (k + 2) - 48) ∧ chr t k - 48 < n ∧ chr t (k + 2) - 48 < n ∧ chr t k - 48 ≠ chr t (k + 2) - 48 ∧ (chr t (k + 1) = 62 ∨ chr t (k + 1) = 60) ∧ chr t (k + 3) = 59 := by
  unfold res isPr at h
  simp only [Bool.and_eq_true, Bool.or_eq_true, decide_eq_true_eq] at h
  obtain ⟨⟨h1, h2, h3⟩, h4, h5⟩ := h
  obtain ⟨a1, a2, a3⟩ := sub48 hn (chr_le ht k).2 h1
  obtain ⟨b1, b2, b3⟩ := sub48 hn (chr_le ht (k + 2)).2 h2
  refine ⟨a2, b2, a3, b3, fun e => h3 ?_, h4, h5⟩
  rw [a2, b2, e]
section TXT
variable {lay : List am_L} {d : Nat} {D : am_D} {o b : Nat} {t : List Nat} {n : Nat} {be : Nat → Nat → Bool} {we : Nat → Nat → Nat}
theorem nar_char : ∀ x, x < 127 → narrow .char (.int (nI x)) = .int (nI x) := by decide +kernel
theorem vnar_char : ∀ x, x < 127 → vp_nar .char (nI x) = nI x := by decide +kernel
theorem c_x_size (ho : isX7 lay o) (h : rL D o 120 t) : am_MetP lay d mX7_size [.ref o] D (nI t.length) := eX7_size ho ⟨by rw [h.2.1], rfl⟩
theorem c_x_empty (ho : isX7 lay o) : am_MetV lay d mX7_empty [.ref o] D (am_up D o 1 (nI 0)) := by
  refine eX7_empty ho ?_
  rintro D1 rfl
  exact ⟨rfl, rfl⟩
theorem c_x_add_full (ho : isX7 lay o) (h : rL D o 120 t) (hl : t.length = 120) (v : Int32) : am_MetI lay d mX7_add [.ref o, .int v] D (nI 0) D := by
  refine eX7_add ho ?_
  rw [h.2.1]
  refine ⟨fun _ => ⟨rfl, rfl⟩, fun _ => ⟨fun h2 => ?_, fun _ => ⟨rfl, rfl⟩⟩⟩
  rw [nI_ltI (by omega) (by decide)] at h2; omega
theorem c_x_add (ho : isX7 lay o) (h : rL D o 120 t) (hl : t.length < 120) {x : Nat} (hx : x < 127) : am_MetI lay d mX7_add [.ref o, .int (nI x)] D (nI 1) (am_up (am_up D (o + 1) t.length (nI x)) o 1 (nI (t.length + 1))) := by
  refine eX7_add ho ?_
  rw [h.2.1]
  refine ⟨fun h2 => absurd h2 (nn_neg (by omega)), fun _ => ⟨fun _ => ⟨vp_in_nI hl (by decide), ?_⟩, fun h2 => ?_⟩⟩
  · rintro D1 rfl D2 rfl
    rw [nI_clamp (by omega), vnar_char x hx]
    have : am_up D (o + 1) t.length (nI x) o 1 + nI 1 = nI (t.length + 1) := by
      have e : am_up D (o + 1) t.length (nI x) o 1 = nI t.length := by simp [am_up, h.2.1]
      rw [e, nI_add]
    rw [this]; exact ⟨rfl, rfl⟩
  · exact absurd ((nI_ltI (by omega) (by decide)).mpr hl) h2
theorem c_at (ho : isX7 lay o) (h : rL D o 120 t) (hx : okX t) {i : Nat} (hi : i < 2 ^ 31) : am_MetP lay d mX7_at [.ref o, .int (nI i)] D (nI (chr t i)) := by
  have hl := h.1
  refine eX7_at ho ?_
  rw [h.2.1]
  refine ⟨fun h2 => absurd h2 (nn_neg hi), fun _ => ⟨fun h2 => ?_, fun h2 => ⟨fun h3 => ?_, fun _ => ⟨vp_in_nI (by rw [nI_leI (by omega) hi] at h2; omega) (by decide), ?_⟩⟩⟩⟩
  · rw [nI_leI (by omega) hi] at h2
    rw [chr_out h2]; exact ⟨rfl, rfl⟩
  · rw [nI_leI (by omega) hi] at h2; rw [nI_leI (by decide) hi] at h3; omega
  · rw [nI_leI (by omega) hi] at h2
    have e : D (o + 1) i = nI (chr t i) := h.2.2 i _ (by unfold chr; rw [List.getD_eq_getElem?_getD, List.getElem?_eq_getElem (by omega)]; rfl)
    rw [nI_clamp hi, e]
    exact ⟨nar_char _ (by have := (chr_le hx i).2; omega), rfl, rfl⟩
theorem c_isResult (ho : isX7 lay o) (h : rL D o 120 t) (hx : okX t) (hb : isX0 lay b) (hB : brd D b n be we) {k : Nat} (hk : k < 1000) : am_MetP lay (d + 2) mX7_isResult [.ref o, .ref b, .int (nI k)] D (bI (res n t k)) := by
  have c1 := chr_le hx (k + 1)
  have c3 := chr_le hx (k + 3)
  refine eX7_isResult ho hb ?_
  rw [nI_add, nI_add, nI_add]
  refine ⟨_, c_at ho h hx (by omega), _, c_at ho h hx (by omega), _, c_at ho h hx (by omega), _, c_hasPair hb hB _ _, fun h2 => ?_, fun h2 => ⟨fun h3 => ⟨_, c_at ho h hx (by omega), fun h4 => ?_, fun h4 => ?_⟩, fun h3 => ⟨fun h4 => ?_, fun h4 => ⟨_, c_at ho h hx (by omega), fun h5 => ?_, fun h5 => ?_⟩⟩⟩⟩
  · unfold res; rw [bI_0.mp h2]; exact ⟨rfl, rfl⟩
  all_goals
    rw [nI_eq (by omega) (by decide)] at h3
    unfold res; rw [bI_n0.mp h2]
  · rw [nI_eq (by omega) (by decide)] at h4
    rw [decide_eq_false h4, Bool.and_false]; exact ⟨rfl, rfl⟩
  · rw [Classical.not_not, nI_eq (by omega) (by decide)] at h4
    rw [decide_eq_true h4, decide_eq_true h3]; exact ⟨rfl, rfl⟩
  · rw [nI_eq (by omega) (by decide)] at h4
    rw [decide_eq_false h4, decide_eq_false h3]; exact ⟨rfl, rfl⟩
  all_goals rw [Classical.not_not, nI_eq (by omega) (by decide)] at h4
  · rw [nI_eq (by omega) (by decide)] at h5
    rw [decide_eq_false h5, Bool.and_false]; exact ⟨rfl, rfl⟩
  · rw [Classical.not_not, nI_eq (by omega) (by decide)] at h5
    rw [decide_eq_true h5, decide_eq_true h4, Bool.or_true]; exact ⟨rfl, rfl⟩
theorem l_faultFor (ho : isX7 lay o) (h : rL D o 120 t) (hx : okX t) (hb : isX0 lay b) (hB : brd D b n be we) : ∀ j k, k + 4 * j = 124 → ∀ Q : Option Value → am_D → Prop, Q (some (.int (flt n t j k))) D → am_AW lay (d + 3) mX7_faultFor 2 [.ref o, .ref b, .int (nI k)] [] D Q := by
  have hl := h.1
  intro j
  induction j with
  | zero =>
    intro k hk Q hQ
    refine rX7_faultFor_2 ho hb ?_
    rw [h.2.1]
    exact ⟨fun _ => hQ, fun h2 => absurd (nI_le (by omega) (by omega)) h2⟩
  | succ j ih =>
    intro k hk Q hQ
    refine rX7_faultFor_2 ho hb ?_
    rw [h.2.1]
    unfold flt at hQ
    refine ⟨fun h2 => ?_, fun h2 => ⟨_, c_isResult ho h hx hb hB (by omega), fun h3 => ?_, fun h3 => ?_⟩⟩
    · rw [nI_leI (by omega) (by omega)] at h2
      rw [if_pos h2] at hQ; exact hQ
    · rw [nI_leI (by omega) (by omega)] at h2
      rw [if_neg h2, if_pos (bI_n0.mp h3)] at hQ
      rw [nI_add]; exact ih (k + 4) (by omega) Q hQ
    · rw [nI_leI (by omega) (by omega)] at h2
      rw [Classical.not_not] at h3
      rw [if_neg h2, bI_0.mp h3] at hQ
      exact hQ
/-- what fault answers -/
def fault_ (n : Nat) (t : List Nat) : Int32 := flt n t 31 0
theorem c_faultFor (ho : isX7 lay o) (h : rL D o 120 t) (hx : okX t) (hb : isX0 lay b) (hB : brd D b n be we) : am_MetP lay (d + 3) mX7_faultFor [.ref o, .ref b] D (fault_ n t) := eX7_faultFor ho hb (l_faultFor ho h hx hb hB 31 0 rfl _ ⟨rfl, rfl⟩)
theorem flt_next {j k : Nat} (h : flt n t (j + 1) k = -4) (hk : k < t.length) (hl : t.length ≤ 120) : res n t k = true ∧ flt n t j (k + 4) = -4 := by
  unfold flt at h
  rw [if_neg (by omega)] at h
  cases e : res n t k with
  | true => rw [e, if_pos rfl] at h; exact ⟨rfl, h⟩
  | false =>
    rw [e] at h
    exfalso
    have h3 : nI k = -4 := h
    have : ∀ k, k < 120 → ¬ nI k = -4 := by decide +kernel
    exact this k (by omega) h3
theorem res_win (hT : trn n be) (hx : okX t) {k : Nat} (h : res n t k = true) : rw_ t k < n ∧ rl_ t k < n ∧ rw_ t k ≠ rl_ t k := by
  obtain ⟨-, -, a, b, c, -, -⟩ := res_of hT.2.1 hx h
  unfold rw_ rl_
  split
  · exact ⟨a, b, c⟩
  · exact ⟨b, a, Ne.symm c⟩
theorem entB_trn (hx : okX t) (hl : t.length ≤ 120) : ∀ j k be, trn n be → flt n t j k = -4 → trn n (entB t j k be) := by
  intro j
  induction j with
  | zero => intro k be hT _; exact hT
  | succ j ih =>
    intro k be hT h
    unfold entB
    by_cases hk : t.length ≤ k
    · rw [if_pos hk]; exact hT
    · rw [if_neg hk]
      obtain ⟨h1, h2⟩ := flt_next h (by omega) hl
      obtain ⟨a, b, c⟩ := res_win hT hx h1
      exact ih _ _ (stw_trn hT a b c) h2
theorem l_enterInto (ho : isX7 lay o) (hx : okX t) (hb : isX0 lay b) (hne : o ≠ b ∧ o ≠ b + 1 ∧ o ≠ b + 2 ∧ o + 1 ≠ b ∧ o + 1 ≠ b + 2) : ∀ j k c D be, k + 4 * j = 124 → trn n be → rL D o 120 t → brd D b n be we → flt n t j k = -4 → c + j ≤ 31 → ∃ D1 c1, c1 = c + (t.length - k + 3) / 4 ∧ brd D1 b n (entB t j k be) we ∧ chg D D1 b j ∧ ∀ Q : Option Value → am_D → Prop, Q (some (.int (nI c1))) D1 → am_AW lay (d + 4) mX7_enterInto 4 [.ref o, .ref b, .int (nI c), .int (nI k), .null, .null, .null] [] D Q := by
  intro j
  induction j with
  | zero =>
    intro k c D be hk hT h hB hf hc
    have hl := h.1
    refine ⟨D, c, by omega, hB, chg.rf, fun Q hQ => rX7_enterInto_4 ho hb ?_⟩
    rw [h.2.1]
    exact ⟨fun _ => hQ, fun h2 => absurd (nI_le (by omega) (by omega)) h2⟩
  | succ j ih =>
    intro k c D be hk hT h hB hf hc
    have hl := h.1
    by_cases hkl : t.length ≤ k
    · refine ⟨D, c, by omega, ?_, chg.rf, fun Q hQ => rX7_enterInto_4 ho hb ?_⟩
      · unfold entB; rw [if_pos hkl]; exact hB
      · rw [h.2.1]
        exact ⟨fun _ => hQ, fun h2 => absurd (nI_le hkl (by omega)) h2⟩
    · obtain ⟨h1, h2⟩ := flt_next hf (by omega) hl
      obtain ⟨a1, a2, -, -, -, hs, -⟩ := res_of hT.2.1 hx h1
      obtain ⟨w1, w2, w3⟩ := res_win hT hx h1
      obtain ⟨D2, g1, g2, g3⟩ := c_setWinner (d := d) hb hB hT w1 w2 w3
      have h' : rL D2 o 120 t := h.keep (g3.1 o (by omega) (by omega) (by omega)) (g3.1 (o + 1) (by omega) (by omega) (by omega))
      obtain ⟨D1, c1, k1, k2, k3, k4⟩ := ih (k + 4) (c + 1) D2 _ (by omega) (stw_trn hT w1 w2 w3) h' g2 h2 (by omega)
      refine ⟨D1, c1, by omega, ?_, (g3.tr k3).mono (by omega), fun Q hQ => rX7_enterInto_4 ho hb ?_⟩
      · unfold entB; rw [if_neg hkl]; exact k2
      · have hnx := k4 Q hQ
        rw [h.2.1, nI_add, nI_add, nI_add, nI_add]
        have c1' := chr_le hx (k + 1)
        refine ⟨fun h2 => absurd ((nI_leI (by omega) (by omega)).mp h2) hkl, fun _ => ⟨_, c_at ho h hx (by omega), _, c_at ho h hx (by omega), _, c_at ho h hx (by omega), fun h3 => ?_, fun h3 => ?_⟩⟩
        · rw [nI_eq (by omega) (by decide)] at h3
          have e1 : rw_ t k = chr t (k + 2) - 48 := by unfold rw_; rw [if_neg h3]
          have e2 : rl_ t k = chr t k - 48 := by unfold rl_; rw [if_neg h3]
          rw [e1, e2, ← a1, ← a2] at g1
          exact ⟨fun _ => ⟨fun _ => ⟨D2, g1, hnx⟩, fun q => absurd rfl q⟩, fun q => absurd rfl q⟩
        · rw [Classical.not_not, nI_eq (by omega) (by decide)] at h3
          have e1 : rw_ t k = chr t k - 48 := by unfold rw_; rw [if_pos h3]
          have e2 : rl_ t k = chr t (k + 2) - 48 := by unfold rl_; rw [if_pos h3]
          rw [e1, e2, ← a1, ← a2] at g1
          exact ⟨fun q => absurd q (by decide), fun _ => ⟨fun q => absurd q (by decide), fun _ => ⟨D2, g1, hnx⟩⟩⟩
theorem c_enterInto (ho : isX7 lay o) (h : rL D o 120 t) (hx : okX t) (hb : isX0 lay b) (hT : trn n be) (hB : brd D b n be we) (hf : fault_ n t = -4) (hne : o ≠ b ∧ o ≠ b + 1 ∧ o ≠ b + 2 ∧ o + 1 ≠ b ∧ o + 1 ≠ b + 2) : ∃ D1, am_MetI lay (d + 4) mX7_enterInto [.ref o, .ref b] D (nI ((t.length + 3) / 4)) D1 ∧ brd D1 b n (entB t 31 0 be) we ∧ chg D D1 b 31 := by
  obtain ⟨D1, c1, k1, k2, k3, k4⟩ := l_enterInto (d := d) ho hx hb hne 31 0 0 D be rfl hT h hB hf (by omega)
  refine ⟨D1, eX7_enterInto ho hb (k4 _ ⟨?_, rfl⟩), k2, k3⟩
  rw [k1]; congr 3; omega
end TXT
