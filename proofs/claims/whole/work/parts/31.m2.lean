/-! the model's state; its rows kept, taken back, copied; the plain methods -/
theorem up_loop {P : Nat → Prop} {n : Nat} (h0 : P n) (hs : ∀ i, i < n → P (i + 1) → P i) : ∀ i, i ≤ n → P i := by
  intro i hi
  obtain ⟨k, hk⟩ : ∃ k, i + k = n := ⟨n - i, by omega⟩
  induction k generalizing i with
  | zero =>
    have e : i = n := by omega
    rw [e]; exact h0
  | succ k ih => exact hs i (by omega) (ih (i + 1) (by omega) (by omega))
theorem ge_no {n i : Nat} (h : i < n) (hn : n < 2 ^ 31) : ¬ nI n ≤ nI i := fun c => by rw [nI_leI hn (by omega)] at c; omega
theorem lt_no {n i : Nat} (h : n ≤ i) (hi : i < 2 ^ 31) : ¬ nI i < nI n := fun c => by rw [nI_ltI hi (by omega)] at c; omega
def flo (D : am_D) (c a i : Nat) (f : Nat → Int32) : am_D := fun q k => if q = c ∧ a ≤ k ∧ k < a + i then f (k - a) else D q k
theorem flo_0 {D : am_D} {c a : Nat} {f : Nat → Int32} : flo D c a 0 f = D := by
  funext q k
  unfold flo
  rw [if_neg (by omega)]
theorem flo_up {D : am_D} {c a i : Nat} {f : Nat → Int32} : am_up (flo D c a i f) c (a + i) (f i) = flo D c a (i + 1) f := by
  funext q k
  unfold am_up flo
  by_cases h1 : q = c
  · by_cases h2 : k = a + i
    · rw [if_pos ⟨h1, h2⟩, if_pos ⟨h1, by omega, by omega⟩, h2, Nat.add_sub_cancel_left]
    · rw [if_neg (fun h => h2 h.2)]
      by_cases h3 : a ≤ k ∧ k < a + i
      · rw [if_pos ⟨h1, h3⟩, if_pos ⟨h1, h3.1, by omega⟩]
      · rw [if_neg (fun h => h3 h.2), if_neg (fun h => h3 ⟨h.2.1, by omega⟩)]
  · rw [if_neg (fun h => h1 h.1), if_neg (fun h => h1 h.1), if_neg (fun h => h1 h.1)]
theorem flo_ne {D : am_D} {c a i : Nat} {f : Nat → Int32} {q : Nat} (h : q ≠ c) : flo D c a i f q = D q := by funext k; simp [flo, h]
theorem flo_in {D : am_D} {c a i : Nat} {f : Nat → Int32} {k : Nat} (h : k < i) : flo D c a i f c (a + k) = f k := by
  unfold flo
  rw [if_pos ⟨rfl, by omega, by omega⟩, Nat.add_sub_cancel_left]
theorem flo_out {D : am_D} {c a i : Nat} {f : Nat → Int32} {k : Nat} (h : k < a ∨ a + i ≤ k) : flo D c a i f c k = D c k := by
  unfold flo
  rw [if_neg (by omega)]
def mHs (D : am_D) (o : Nat) (H : List am_T) : Prop := H.length ≤ 8 ∧ D o 3 = nI H.length ∧ ∀ i U, H[i]? = some U → mrow (fun k => D (o + 3) (111 * i + k)) U
def mSq (D : am_D) (o : Nat) (s : List Nat) : Prop := s.length ≤ 10 ∧ D o 4 = nI s.length ∧ ∀ i x, s[i]? = some x → D (o + 4) i = nI x
def mTx (D : am_D) (o : Nat) (t : List Nat) : Prop := t.length ≤ 120 ∧ D o 6 = nI t.length ∧ ∀ i x, t[i]? = some x → D (o + 5) i = nI x
def RM (D : am_D) (o : Nat) (st : am_S) : Prop := mrow (D (o + 1)) st.1 ∧ mrow (D (o + 2)) st.2.1 ∧ mHs D o st.2.2.1 ∧ mSq D o st.2.2.2.1 ∧ mTx D o st.2.2.2.2
def okS (st : am_S) : Prop := okT st.1 ∧ okT st.2.1 ∧ (∀ U ∈ st.2.2.1, okT U) ∧ (∀ x ∈ st.2.2.2.1, x ≤ 9) ∧ okX st.2.2.2.2
theorem RD.ok {D : am_D} {o B : Nat} {st : am_S} (h : RD D o B st) : okS st := ⟨h.2.1, h.2.2.2.1, h.2.2.2.2.1.2.1, h.2.2.2.2.2.1.2, h.2.2.2.2.2.2.1.2⟩
def onlyM (D D1 : am_D) (o : Nat) : Prop := ∀ q, q < o ∨ o + 10 ≤ q → D1 q = D q
theorem mHs.keep {D D1 : am_D} {o : Nat} {H : List am_T} (h : mHs D o H) (e1 : D1 o 3 = D o 3) (e2 : D1 (o + 3) = D (o + 3)) : mHs D1 o H :=
  ⟨h.1, by rw [e1]; exact h.2.1, fun i U hi => by rw [e2]; exact h.2.2 i U hi⟩
theorem mSq.keep {D D1 : am_D} {o : Nat} {s : List Nat} (h : mSq D o s) (e1 : D1 o 4 = D o 4) (e2 : D1 (o + 4) = D (o + 4)) : mSq D1 o s :=
  ⟨h.1, by rw [e1]; exact h.2.1, fun i U hi => by rw [e2]; exact h.2.2 i U hi⟩
theorem mTx.keep {D D1 : am_D} {o : Nat} {s : List Nat} (h : mTx D o s) (e1 : D1 o 6 = D o 6) (e2 : D1 (o + 5) = D (o + 5)) : mTx D1 o s :=
  ⟨h.1, by rw [e1]; exact h.2.1, fun i U hi => by rw [e2]; exact h.2.2 i U hi⟩
/-- the row now changes, and scratch -/
theorem RM.now {D D1 : am_D} {o : Nat} {T T2 T' : am_T} {H : List am_T} {s t : List Nat} (h : RM D o (T, T', H, s, t)) (hr : mrow (D1 (o + 1)) T2) (hf : ∀ q, o ≤ q → q ≤ o + 5 → q ≠ o + 1 → D1 q = D q) : RM D1 o (T2, T', H, s, t) :=
  ⟨hr, by rw [hf (o + 2) (by omega) (by omega) (by omega)]; exact h.2.1, h.2.2.1.keep (by rw [hf o (by omega) (by omega) (by omega)]) (hf _ (by omega) (by omega) (by omega)), h.2.2.2.1.keep (by rw [hf o (by omega) (by omega) (by omega)]) (hf _ (by omega) (by omega) (by omega)), h.2.2.2.2.keep (by rw [hf o (by omega) (by omega) (by omega)]) (hf _ (by omega) (by omega) (by omega))⟩
theorem RM.scr {D D1 : am_D} {o : Nat} {st : am_S} (h : RM D o st) (hf : ∀ q, o ≤ q → q ≤ o + 5 → D1 q = D q) : RM D1 o st :=
  RM.now (T := st.1) h (by rw [hf (o + 1) (by omega) (by omega)]; exact h.1) fun q a b _ => hf q a b
section MO2
variable {lay : List am_L} {d : Nat} {D : am_D} {o : Nat} {T T' : am_T} {H : List am_T} {s t : List Nat}
theorem k_copies {a b : Nat} (ha : lay[a]? = some (.inr (.inl (false, 111)))) (hb : lay[b]? = some (.inr (.inl (false, 111)))) (hne : a ≠ b) : am_MetV lay d mX11_copies [.ref a, .ref b] D (fil D b 111 (D a)) := by
  refine eX11_copies ha hb ?_
  have h : ∀ i, i ≤ 111 → am_AW lay d mX11_copies 2 [.ref a, .ref b, .int (nI i)] [] (fil D b i (D a)) (fun r D2 => r = none ∧ D2 = fil D b 111 (D a)) := by
    refine up_loop ?_ fun i hi ih => ?_
    · exact rX11_copies_2 ha hb ⟨fun _ => ⟨rfl, rfl⟩, fun h => absurd (nI_le (Nat.le_refl _) (by decide)) h⟩
    · refine rX11_copies_2 ha hb ⟨fun h => absurd h (ge_no hi (by decide)), fun _ => ⟨vp_in_nI hi (by decide), vp_in_nI hi (by decide), ?_⟩⟩
      rintro D1 rfl
      rw [nI_clamp (by omega), nI_add, fil_ne hne, fil_up]
      exact ih
  have h0 := h 0 (by omega)
  rw [fil_0] at h0
  exact h0
theorem k_keeps1 (ho : isX11 lay o) (hH : mHs D o H) (hl : H.length < 8) (hT : mrow (D (o + 1)) T) : ∃ D1, mHs D1 o (H ++ [T]) ∧ (∀ q, q ≠ o → q ≠ o + 3 → D1 q = D q) ∧ (∀ i, i ≠ 3 → D1 o i = D o i) ∧ ∀ Q : Option Value → am_D → Prop, Q none D1 → am_AW lay d mX11_keeps 51 [.ref o, .int (nI 0)] [] D Q := by
  have hm : D o 3 = nI H.length := hH.2.1
  refine ⟨am_up (flo D (o + 3) (111 * H.length) 111 (D (o + 1))) o 3 (nI (H.length + 1)), ⟨?_, ?_, fun i U hi => ?_⟩, fun q h1 h2 => ?_, fun i h => ?_, fun Q hQ => ?_⟩
  · rw [List.length_append, List.length_singleton]; omega
  · rw [am_upI, if_pos rfl, List.length_append, List.length_singleton]
  · by_cases h : i < H.length
    · rw [List.getElem?_append_left h] at hi
      refine (hH.2.2 i U hi).cong fun k hk => ?_
      show am_up _ o 3 _ (o + 3) (111 * i + k) = D (o + 3) (111 * i + k)
      rw [am_up_ne (o + 3) (by omega), flo_out (by omega)]
    · have h2 := (List.getElem?_eq_some_iff.mp hi).1
      rw [List.length_append, List.length_singleton] at h2
      have e : i = H.length := by omega
      subst e
      rw [List.getElem?_append_right (Nat.le_refl _), Nat.sub_self] at hi
      have e2 : T = U := by simpa using hi
      subst e2
      refine hT.cong fun k hk => ?_
      show am_up _ o 3 _ (o + 3) (111 * H.length + k) = D (o + 1) k
      rw [am_up_ne (o + 3) (by omega), flo_in hk]
  · rw [am_up_ne q h1, flo_ne h2]
  · rw [am_upI, if_neg h, flo_ne (by omega)]
  · have h : ∀ i, i ≤ 111 → am_AW lay d mX11_keeps 51 [.ref o, .int (nI i)] [] (flo D (o + 3) (111 * H.length) i (D (o + 1))) Q := by
      refine up_loop ?_ fun i hi ih => ?_
      · refine rX11_keeps_51 ho ⟨fun _ => ?_, fun h => absurd (nI_le (Nat.le_refl _) (by decide)) h⟩
        rintro D1 rfl
        rw [flo_ne (q := o) (by omega), hm, nI_add]; exact hQ
      · refine rX11_keeps_51 ho ⟨fun h => absurd h (ge_no hi (by decide)), fun _ => ?_⟩
        rw [flo_ne (q := o) (by omega), hm, nn_mul, nI_add, nI_add, nI_clamp (by omega), nI_clamp (by omega)]
        refine ⟨vp_in_nI hi (by decide), vp_in_nI (by omega) (by decide), ?_⟩
        rintro D2 rfl
        rw [flo_ne (q := o + 1) (by omega), flo_up]
        exact ih
    have h0 := h 0 (by omega)
    rw [flo_0] at h0
    exact h0
theorem k_keeps (ho : isX11 lay o) (hH : mHs D o H) (hT : mrow (D (o + 1)) T) : ∃ D1, am_MetV lay d mX11_keeps [.ref o] D D1 ∧ mHs D1 o (pushH H T) ∧ (∀ q, q ≠ o → q ≠ o + 3 → D1 q = D q) ∧ ∀ i, i ≠ 3 → D1 o i = D o i := by
  have h8 := hH.1
  by_cases hl : H.length = 8
  · have hm : D o 3 = nI 8 := by rw [hH.2.1, hl]
    have g : mHs (am_up (fil D (o + 3) 777 (fun k => D (o + 3) (111 + k))) o 3 (nI 7)) o H.tail := by
      refine ⟨by rw [List.length_tail]; omega, by rw [am_upI, if_pos rfl, List.length_tail, hl], fun i U hi => ?_⟩
      rw [List.getElem?_tail] at hi
      have hi8 := (List.getElem?_eq_some_iff.mp hi).1
      refine (hH.2.2 (i + 1) U hi).cong fun k hk => ?_
      show am_up _ o 3 _ (o + 3) (111 * i + k) = D (o + 3) (111 * (i + 1) + k)
      rw [am_up_ne (o + 3) (by omega), fil_in (by omega)]
      congr 1; omega
    obtain ⟨D1, g1, g2, g3, g4⟩ := k_keeps1 (d := d) (T := T) ho g (by rw [List.length_tail]; omega) (by rw [am_up_ne (o + 1) (by omega), fil_ne (by omega)]; exact hT)
    refine ⟨D1, eX11_keeps ho ⟨fun h => absurd hm h, fun _ => ?_⟩, by unfold pushH; rw [if_pos hl]; exact g1, fun q h1 h2 => by rw [g2 q h1 h2, am_up_ne q h1, fil_ne h2], fun i hi => by rw [g3 i hi, am_upI, if_neg hi, fil_ne (by omega)]⟩
    have h : ∀ i, i ≤ 777 → am_AW lay d mX11_keeps 11 [.ref o, .int (nI i)] [] (fil D (o + 3) i (fun k => D (o + 3) (111 + k))) (fun r D2 => r = none ∧ D2 = D1) := by
      refine up_loop ?_ fun i hi ih => ?_
      · refine rX11_keeps_11 ho ⟨fun _ => ?_, fun h => absurd (nI_le (Nat.le_refl _) (by decide)) h⟩
        rintro D2 rfl
        rw [fil_ne (q := o) (by omega), hm, nn_sub (by decide)]
        exact g4 _ ⟨rfl, rfl⟩
      · refine rX11_keeps_11 ho ⟨fun h => absurd h (ge_no hi (by decide)), fun _ => ?_⟩
        rw [nI_add, nI_add, nI_clamp (by omega), nI_clamp (by omega)]
        refine ⟨vp_in_nI (by omega) (by decide), vp_in_nI (by omega) (by decide), ?_⟩
        rintro D2 rfl
        rw [fil_out (by omega)]
        have e : am_up (fil D (o + 3) i fun k => D (o + 3) (111 + k)) (o + 3) i (D (o + 3) (111 + i)) = fil D (o + 3) (i + 1) fun k => D (o + 3) (111 + k) := fil_up
        rw [e]
        exact ih
    have h0 := h 0 (by omega)
    rw [fil_0] at h0
    exact h0
  · have hm : D o 3 = nI H.length := hH.2.1
    obtain ⟨D1, g1, g2, g3, g4⟩ := k_keeps1 (d := d) (T := T) ho hH (by omega) hT
    refine ⟨D1, eX11_keeps ho ⟨fun _ => g4 _ ⟨rfl, rfl⟩, fun h => ?_⟩, by unfold pushH; rw [if_neg hl]; exact g1, g2, g3⟩
    rw [Classical.not_not, hm, nI_eq (by omega) (by decide)] at h
    exact absurd h hl
theorem m_keeps (ho : isX11 lay o) (h : RM D o (T, T', H, s, t)) : ∃ D1, am_MetV lay d mX11_keeps [.ref o] D D1 ∧ RM D1 o (T, T', pushH H T, s, t) ∧ ∀ q, q ≠ o → q ≠ o + 3 → D1 q = D q := by
  obtain ⟨D1, g1, g2, g3, g4⟩ := k_keeps (d := d) ho h.2.2.1 h.1
  have h1 : mrow (D (o + 1)) T := h.1
  have h2 : mrow (D (o + 2)) T' := h.2.1
  exact ⟨D1, g1, ⟨by rw [g3 (o + 1) (by omega) (by omega)]; exact h1, by rw [g3 (o + 2) (by omega) (by omega)]; exact h2, g2, h.2.2.2.1.keep (g4 4 (by omega)) (g3 (o + 4) (by omega) (by omega)), h.2.2.2.2.keep (g4 6 (by omega)) (g3 (o + 5) (by omega) (by omega))⟩, g3⟩
theorem in_y {a b n : Nat} (h1 : a ≤ n) (h2 : n ≤ b) (hb : b < 2 ^ 31) : decide (¬ nI n < nI a ∧ ¬ nI b < nI n) = true := decide_eq_true ⟨lt_no h1 (by omega), lt_no h2 hb⟩
theorem in_n {v a b : Int32} (h : v < a ∨ ¬ v ≤ b) : decide (¬ v < a ∧ ¬ b < v) = false := by
  refine decide_eq_false fun c => ?_
  rcases h with h | h
  · exact c.1 h
  · exact c.2 (by simpa using h)
theorem m_reset (ho : isX11 lay o) (h : RM D o (T, T', H, s, t)) {n : Nat} (h2 : 2 ≤ n) (h10 : n ≤ 10) : ∃ D1, am_MetI lay (d + 2) mX11_reset [.ref o, .int (nI n)] D (nI T.1) D1 ∧ RM D1 o ((n, bg0 n, fun _ _ => 1), T', pushH H T, s, t) ∧ onlyM D D1 o := by
  obtain ⟨D2, r0, r1, r2⟩ := m_keeps (d := d + 1) ho h
  obtain ⟨D3, s1, s2, s3⟩ := k_begins (d := d) (D := D2) (n := n) ho h10
  have hn : D2 (o + 1) 0 = nI T.1 := r1.1.1
  have hi := k_in (lay := lay) (d := d + 1) (D := D) (nI n) (nI 2) (nI 10)
  rw [in_y h2 h10 (by decide)] at hi
  refine ⟨D3, eX11_reset ho ⟨_, hi, fun _ => ⟨D2, r0, vp_in_nI (by decide) (by decide), D3, s1, ?_⟩, fun c => absurd (by decide) c⟩, r1.now s2 fun q _ _ h => s3 q h, fun q hq => by rw [s3 q (by omega), r2 q (by omega) (by omega)]⟩
  rw [e0_, hn]; exact ⟨rfl, rfl⟩
theorem m_reset_no (ho : isX11 lay o) {v : Int32} (hv : v < nI 2 ∨ ¬ v ≤ nI 10) : am_MetI lay (d + 2) mX11_reset [.ref o, .int v] D (-1) D := by
  have hi := k_in (lay := lay) (d := d + 1) (D := D) v (nI 2) (nI 10)
  rw [in_n hv] at hi
  exact eX11_reset ho ⟨_, hi, fun c => absurd rfl c, fun _ => ⟨rfl, rfl⟩⟩
theorem m_setResult (ho : isX11 lay o) (h : RM D o (T, T', H, s, t)) (hT : okT T) {x y : Nat} (hx : x < T.1) (hy : y < T.1) (hne : x ≠ y) : ∃ D1, am_MetI lay (d + 3) mX11_setResult [.ref o, .int (nI x), .int (nI y)] D (bI (T.2.1 x y)) D1 ∧ RM D1 o ((T.1, stw T.2.1 x y, T.2.2), T', pushH H T, s, t) ∧ onlyM D D1 o := by
  have h10 : T.1 ≤ 10 := hT.1.2.1
  obtain ⟨D2, r0, r1, r2⟩ := m_keeps (d := d + 2) ho h
  obtain ⟨D3, s1, s2, s3⟩ := k_wins (d := d + 2) (D := D2) (n := T.1) ho r1.1 hT.1 hx hy hne
  refine ⟨D3, eX11_setResult ho ⟨_, k_isPair ho h.1 hT.1 _ _, fun _ => ⟨D2, r0, _, k_beats1 ho r1.1 hT.1 (by omega) (by omega), fun h3 => ⟨D3, s1, ?_⟩, fun h3 => ⟨D3, s1, ?_⟩⟩, fun h3 => ?_⟩, r1.now s2 fun q _ _ h => s3 q h, fun q hq => by rw [s3 q (by omega), r2 q (by omega) (by omega)]⟩
  · exact ⟨by rw [bI_0.mp h3]; rfl, rfl⟩
  · exact ⟨by rw [bI_n0.mp h3]; rfl, rfl⟩
  · rw [Classical.not_not, isPr_n h10 (by omega) (by omega), decide_eq_true ⟨hx, hy, hne⟩] at h3; cases bI_0.mp h3
theorem m_setResult_no (ho : isX11 lay o) (h : RM D o (T, T', H, s, t)) (hT : okT T) {v w : Int32} (hv : isPr T.1 v w = false) : am_MetI lay (d + 3) mX11_setResult [.ref o, .int v, .int w] D (-1) D := by
  refine eX11_setResult ho ⟨_, k_isPair ho h.1 hT.1 _ _, fun h3 => ?_, fun _ => ⟨rfl, rfl⟩⟩
  rw [hv] at h3; exact absurd rfl h3
theorem m_setWeight (ho : isX11 lay o) (h : RM D o (T, T', H, s, t)) (hT : okT T) {x y w : Nat} (hx : x < T.1) (hy : y < T.1) (hne : x ≠ y) (h1 : 1 ≤ w) (h2 : w ≤ 100) : ∃ D1, am_MetI lay (d + 3) mX11_setWeight [.ref o, .int (nI x), .int (nI y), .int (nI w)] D (nI (T.2.2 x y)) D1 ∧ RM D1 o ((T.1, T.2.1, stv T.2.2 x y w), T', pushH H T, s, t) ∧ onlyM D D1 o := by
  have h10 : T.1 ≤ 10 := hT.1.2.1
  obtain ⟨D2, r0, r1, r2⟩ := m_keeps (d := d + 2) ho h
  have hi := k_in (lay := lay) (d := d + 2) (D := D) (nI w) (nI 1) (nI 100)
  rw [in_y h1 h2 (by decide)] at hi
  have b1 : D2 (o + 1) 0 = nI T.1 := r1.1.1
  have b2 : ∀ p, p < 10 → D2 (o + 1) (1 + p) = nI (msk (T.2.1 p)) := r1.1.2.1
  have b3 : ∀ p q, p < 10 → q < 10 → D2 (o + 1) (11 + 10 * p + q) = nI (T.2.2 p q) := r1.1.2.2
  refine ⟨am_up (am_up D2 (o + 1) (11 + 10 * x + y) (nI w)) (o + 1) (11 + 10 * y + x) (nI w), eX11_setWeight ho ⟨_, k_isPair ho h.1 hT.1 _ _, fun h3 => ?_, fun _ => ⟨_, hi, fun _ => ⟨D2, r0, _, k_at _ _, vp_in_nI (by omega) (by decide), _, k_at _ _, vp_in_nI (by omega) (by decide), ?_⟩, fun c => absurd (by decide) c⟩⟩, r1.now ⟨?_, fun p hp => ?_, fun p q hp hq => ?_⟩ fun q _ _ h => ?_, fun q hq => ?_⟩
  · rw [isPr_n h10 (by omega) (by omega), decide_eq_true ⟨hx, hy, hne⟩] at h3; cases bI_0.mp h3
  · rintro D6 rfl
    refine ⟨_, k_at _ _, vp_in_nI (by omega) (by decide), ?_⟩
    rintro D8 rfl
    rw [nI_clamp (by omega), nI_clamp (by omega), b3 x y (by omega) (by omega)]
    exact ⟨rfl, rfl⟩
  · rw [am_upI, if_neg (by omega), am_upI, if_neg (by omega)]; exact b1
  · rw [am_upI, if_neg (by omega), am_upI, if_neg (by omega)]; exact b2 p hp
  · show _ = nI (stv T.2.2 x y w p q)
    unfold stv
    rw [am_upI, am_upI]
    by_cases c1 : p = y ∧ q = x
    · rw [if_pos (by omega), if_pos (Or.inr c1)]
    · rw [if_neg (by omega)]
      by_cases c2 : p = x ∧ q = y
      · rw [if_pos (by omega), if_pos (Or.inl c2)]
      · rw [if_neg (by omega), if_neg (by omega)]; exact b3 p q hp hq
  · rw [am_up_ne q h, am_up_ne q h]
  · rw [am_up_ne q (by omega), am_up_ne q (by omega), r2 q (by omega) (by omega)]
theorem m_setWeight_no (ho : isX11 lay o) (h : RM D o (T, T', H, s, t)) (hT : okT T) {v w z : Int32} (hv : isPr T.1 v w = false ∨ z < nI 1 ∨ ¬ z ≤ nI 100) : am_MetI lay (d + 3) mX11_setWeight [.ref o, .int v, .int w, .int z] D (-1) D := by
  have hi := k_in (lay := lay) (d := d + 2) (D := D) z (nI 1) (nI 100)
  refine eX11_setWeight ho ⟨_, k_isPair ho h.1 hT.1 _ _, fun _ => ⟨rfl, rfl⟩, fun h3 => ⟨_, hi, fun h4 => ?_, fun _ => ⟨rfl, rfl⟩⟩⟩
  rcases hv with h | h
  · rw [h] at h3; exact absurd rfl h3
  · rw [in_n h] at h4; exact absurd rfl h4
theorem m_undo_no (ho : isX11 lay o) (h : RM D o (T, T', [], s, t)) : am_MetI lay d mX11_undo [.ref o] D (-2) D := by
  have h3 : D o 3 = nI 0 := h.2.2.1.2.1
  exact eX11_undo ho ⟨fun c => absurd h3 c, fun _ => ⟨rfl, rfl⟩⟩
theorem m_undo (ho : isX11 lay o) {U : am_T} (h : RM D o (T, T', H ++ [U], s, t)) : ∃ D1, am_MetI lay d mX11_undo [.ref o] D (nI H.length) D1 ∧ RM D1 o (U, T', H, s, t) ∧ onlyM D D1 o := by
  obtain ⟨a1, a2, ⟨a3, a4, a5⟩, a6, a7⟩ := h
  have a3 : (H ++ [U]).length ≤ 8 := a3
  have a4 : D o 3 = nI (H ++ [U]).length := a4
  rw [List.length_append, List.length_singleton] at a3 a4
  have hU : mrow (fun k => D (o + 3) (111 * H.length + k)) U := a5 H.length U (by show (H ++ [U])[H.length]? = some U; rw [List.getElem?_append_right (Nat.le_refl _), Nat.sub_self]; rfl)
  have e3 : am_up D o 3 (nI H.length) o 3 = nI H.length := by rw [am_upI, if_pos rfl]
  refine ⟨fil (am_up D o 3 (nI H.length)) (o + 1) 111 (fun k => D (o + 3) (111 * H.length + k)), eX11_undo ho ⟨fun _ => ?_, fun c => ?_⟩, ⟨hU.cong fun k hk => fil_in hk, ?_, ⟨by show H.length ≤ 8; omega, ?_, fun i V hi => ?_⟩, a6.keep ?_ ?_, a7.keep ?_ ?_⟩, fun q hq => ?_⟩
  · rintro D1 rfl
    rw [a4, nn_sub (by omega), Nat.add_sub_cancel]
    have hl : ∀ i, i ≤ 111 → am_AW lay d mX11_undo 22 [.ref o, .int (nI i)] [] (fil (am_up D o 3 (nI H.length)) (o + 1) i (fun k => D (o + 3) (111 * H.length + k))) (fun r D2 => r = some (.int (nI H.length)) ∧ D2 = fil (am_up D o 3 (nI H.length)) (o + 1) 111 (fun k => D (o + 3) (111 * H.length + k))) := by
      refine up_loop ?_ fun i hi ih => ?_
      · refine rX11_undo_22 ho ⟨fun _ => ?_, fun h => absurd (nI_le (Nat.le_refl _) (by decide)) h⟩
        rw [fil_ne (q := o) (by omega), e3]; exact ⟨rfl, rfl⟩
      · refine rX11_undo_22 ho ⟨fun h => absurd h (ge_no hi (by decide)), fun _ => ?_⟩
        rw [fil_ne (q := o) (by omega), e3, nn_mul, nI_add, nI_add, nI_clamp (by omega), nI_clamp (by omega)]
        refine ⟨vp_in_nI (by omega) (by decide), vp_in_nI hi (by decide), ?_⟩
        rintro D2 rfl
        rw [fil_ne (q := o + 3) (by omega), am_up_ne (o + 3) (by omega)]
        have e : am_up (fil (am_up D o 3 (nI H.length)) (o + 1) i fun k => D (o + 3) (111 * H.length + k)) (o + 1) i (D (o + 3) (111 * H.length + i)) = fil (am_up D o 3 (nI H.length)) (o + 1) (i + 1) fun k => D (o + 3) (111 * H.length + k) := fil_up
        rw [e]
        exact ih
    have h0 := hl 0 (by omega)
    rw [fil_0] at h0
    exact h0
  · rw [Classical.not_not, a4, nI_eq (by omega) (by decide)] at c; omega
  · rw [fil_ne (by omega), am_up_ne (o + 2) (by omega)]; exact a2
  · rw [fil_ne (by omega), e3]
  · rw [fil_ne (by omega), am_up_ne (o + 3) (by omega)]
    exact a5 i V (by show (H ++ [U])[i]? = some V; rw [List.getElem?_append_left (List.getElem?_eq_some_iff.mp hi).1]; exact hi)
  · rw [fil_ne (by omega), am_upI, if_neg (by omega)]
  · rw [fil_ne (by omega), am_up_ne (o + 4) (by omega)]
  · rw [fil_ne (by omega), am_upI, if_neg (by omega)]
  · rw [fil_ne (by omega), am_up_ne (o + 5) (by omega)]
  · rw [fil_ne (by omega), am_up_ne q (by omega)]
theorem m_recall (ho : isX11 lay o) (h : RM D o (T, T', H, s, t)) : ∃ D1, am_MetI lay (d + 1) mX11_recall [.ref o] D (nI T'.1) D1 ∧ RM D1 o (T', T', pushH H T, s, t) ∧ onlyM D D1 o := by
  obtain ⟨D2, r0, r1, r2⟩ := m_keeps (d := d) ho h
  have hc := k_copies (lay := lay) (d := d) (D := D2) ho.2.2.1 ho.2.1 (by omega)
  have h2 : mrow (D2 (o + 2)) T' := r1.2.1
  have h1 : mrow (fil D2 (o + 1) 111 (D2 (o + 2)) (o + 1)) T' := h2.cong fun k hk => fil_in hk
  refine ⟨fil D2 (o + 1) 111 (D2 (o + 2)), eX11_recall ho ⟨D2, r0, _, hc, _, k_n (n := T'.1) ho h1, rfl, rfl⟩, r1.now h1 fun q _ _ h => fil_ne h, fun q hq => by rw [fil_ne (by omega), r2 q (by omega) (by omega)]⟩
theorem m_store (ho : isX11 lay o) (h : RM D o (T, T', H, s, t)) : ∃ D1, am_MetI lay (d + 1) mX11_store [.ref o] D (nI T.1) D1 ∧ RM D1 o (T, T, H, s, t) ∧ onlyM D D1 o := by
  have hc := k_copies (lay := lay) (d := d) (D := D) ho.2.1 ho.2.2.1 (by omega)
  have h1 : mrow (D (o + 1)) T := h.1
  have h1' : mrow (fil D (o + 2) 111 (D (o + 1)) (o + 1)) T := by rw [fil_ne (by omega)]; exact h1
  refine ⟨fil D (o + 2) 111 (D (o + 1)), eX11_store ho ⟨_, hc, _, k_n (n := T.1) ho h1', rfl, rfl⟩, ⟨h1', h1.cong fun k hk => fil_in hk, h.2.2.1.keep ?_ ?_, h.2.2.2.1.keep ?_ ?_, h.2.2.2.2.keep ?_ ?_⟩, fun q hq => fil_ne (by omega)⟩
  all_goals rw [fil_ne (by omega)]
theorem m_append_no (ho : isX11 lay o) {v : Int32} (hv : v < nI 0 ∨ ¬ v ≤ nI 9) : am_MetI lay (d + 1) mX11_append [.ref o, .int v] D (-1) D := by
  have hi := k_in (lay := lay) (d := d) (D := D) v (nI 0) (nI 9)
  rw [in_n hv] at hi
  exact eX11_append ho ⟨_, hi, fun c => absurd rfl c, fun _ => ⟨rfl, rfl⟩⟩
theorem m_append_full (ho : isX11 lay o) (h : RM D o (T, T', H, s, t)) (hl : s.length = 10) {x : Nat} (hx : x ≤ 9) : am_MetI lay (d + 1) mX11_append [.ref o, .int (nI x)] D (-3) D := by
  have hi := k_in (lay := lay) (d := d) (D := D) (nI x) (nI 0) (nI 9)
  rw [in_y (Nat.zero_le _) hx (by decide)] at hi
  have h4 : D o 4 = nI s.length := h.2.2.2.1.2.1
  refine eX11_append ho ⟨_, hi, fun _ => ⟨fun c => ?_, fun _ => ⟨rfl, rfl⟩⟩, fun c => absurd (by decide) c⟩
  rw [h4, hl] at c; exact absurd rfl c
theorem m_append (ho : isX11 lay o) (h : RM D o (T, T', H, s, t)) (hl : s.length < 10) {x : Nat} (hx : x ≤ 9) : ∃ D1, am_MetI lay (d + 1) mX11_append [.ref o, .int (nI x)] D (nI (s.length + 1)) D1 ∧ RM D1 o (T, T', H, s ++ [x], t) ∧ onlyM D D1 o := by
  have hi := k_in (lay := lay) (d := d) (D := D) (nI x) (nI 0) (nI 9)
  rw [in_y (Nat.zero_le _) hx (by decide)] at hi
  obtain ⟨a1, a2, a3, ⟨a4, a5, a6⟩, a7⟩ := h
  have a5 : D o 4 = nI s.length := a5
  have a6 : ∀ i z, s[i]? = some z → D (o + 4) i = nI z := a6
  refine ⟨am_up (am_up D (o + 4) s.length (nI x)) o 4 (nI (s.length + 1)), eX11_append ho ⟨_, hi, fun _ => ⟨fun c => ?_, fun c => ?_⟩, fun c => absurd (by decide) c⟩, ⟨?_, ?_, a3.keep ?_ ?_, ⟨?_, ?_, fun i z hz => ?_⟩, a7.keep ?_ ?_⟩, fun q hq => ?_⟩
  · rw [a5]
    refine ⟨vp_in_nI hl (by decide), ?_⟩
    rintro D2 rfl D3 rfl
    rw [nI_clamp (by omega), am_up_ne (q := o + 4) o (by omega), a5, nI_add]
    refine ⟨?_, rfl⟩
    rw [am_upI, if_pos rfl]
  · rw [Classical.not_not, a5, nI_eq (by omega) (by decide)] at c; omega
  · rw [am_up_ne (o + 1) (by omega), am_up_ne (o + 1) (by omega)]; exact a1
  · rw [am_up_ne (o + 2) (by omega), am_up_ne (o + 2) (by omega)]; exact a2
  · rw [am_upI, if_neg (by omega), am_up_ne o (by omega)]
  · rw [am_up_ne (o + 3) (by omega), am_up_ne (o + 3) (by omega)]
  · show (s ++ [x]).length ≤ 10
    rw [List.length_append, List.length_singleton]; omega
  · show _ = nI (s ++ [x]).length
    rw [am_upI, if_pos rfl, List.length_append, List.length_singleton]
  · have hz : (s ++ [x])[i]? = some z := hz
    rw [am_up_ne (o + 4) (by omega), am_upI]
    by_cases c : i < s.length
    · rw [List.getElem?_append_left c] at hz
      rw [if_neg (by omega)]; exact a6 i z hz
    · have h2 := (List.getElem?_eq_some_iff.mp hz).1
      rw [List.length_append, List.length_singleton] at h2
      have e : i = s.length := by omega
      subst e
      rw [List.getElem?_append_right (Nat.le_refl _), Nat.sub_self] at hz
      have e2 : x = z := by simpa using hz
      rw [if_pos rfl, e2]
  · rw [am_upI, if_neg (by omega), am_up_ne o (by omega)]
  · rw [am_up_ne (o + 5) (by omega), am_up_ne (o + 5) (by omega)]
  · rw [am_up_ne q (by omega), am_up_ne q (by omega)]
theorem m_clearSequence (ho : isX11 lay o) (h : RM D o (T, T', H, s, t)) : ∃ D1, am_MetI lay d mX11_clearSequence [.ref o] D (nI s.length) D1 ∧ RM D1 o (T, T', H, [], t) ∧ onlyM D D1 o := by
  obtain ⟨a1, a2, a3, ⟨a4, a5, a6⟩, a7⟩ := h
  have a5 : D o 4 = nI s.length := a5
  refine ⟨am_up D o 4 (nI 0), eX11_clearSequence ho ?_, ⟨?_, ?_, a3.keep ?_ ?_, ⟨Nat.zero_le _, ?_, fun i z hz => ?_⟩, a7.keep ?_ ?_⟩, fun q hq => ?_⟩
  · rintro D1 rfl
    rw [a5]; exact ⟨rfl, rfl⟩
  · rw [am_up_ne (o + 1) (by omega)]; exact a1
  · rw [am_up_ne (o + 2) (by omega)]; exact a2
  · rw [am_upI, if_neg (by omega)]
  · rw [am_up_ne (o + 3) (by omega)]
  · rw [am_upI, if_pos rfl]; rfl
  · have hz : ([] : List Nat)[i]? = some z := hz
    simp at hz
  · rw [am_upI, if_neg (by omega)]
  · rw [am_up_ne (o + 5) (by omega)]
  · rw [am_up_ne q (by omega)]
theorem m_type_no (ho : isX11 lay o) {v : Int32} (hv : v < nI 32 ∨ ¬ v ≤ nI 126) : am_MetI lay (d + 1) mX11_type [.ref o, .int v] D (-1) D := by
  have hi := k_in (lay := lay) (d := d) (D := D) v (nI 32) (nI 126)
  rw [in_n hv] at hi
  exact eX11_type ho ⟨_, hi, fun c => absurd rfl c, fun _ => ⟨rfl, rfl⟩⟩
theorem m_type_full (ho : isX11 lay o) (h : RM D o (T, T', H, s, t)) (hl : t.length = 120) {x : Nat} (h1 : 32 ≤ x) (hx : x ≤ 126) : am_MetI lay (d + 1) mX11_type [.ref o, .int (nI x)] D (-3) D := by
  have hi := k_in (lay := lay) (d := d) (D := D) (nI x) (nI 32) (nI 126)
  rw [in_y h1 hx (by decide)] at hi
  have h4 : D o 6 = nI t.length := h.2.2.2.2.2.1
  refine eX11_type ho ⟨_, hi, fun _ => ⟨fun c => ?_, fun _ => ⟨rfl, rfl⟩⟩, fun c => absurd (by decide) c⟩
  rw [h4, hl] at c; exact absurd rfl c
theorem m_type (ho : isX11 lay o) (h : RM D o (T, T', H, s, t)) (hl : t.length < 120) {x : Nat} (h1 : 32 ≤ x) (hx : x ≤ 126) : ∃ D1, am_MetI lay (d + 1) mX11_type [.ref o, .int (nI x)] D (nI (t.length + 1)) D1 ∧ RM D1 o (T, T', H, s, t ++ [x]) ∧ onlyM D D1 o := by
  have hi := k_in (lay := lay) (d := d) (D := D) (nI x) (nI 32) (nI 126)
  rw [in_y h1 hx (by decide)] at hi
  obtain ⟨a1, a2, a3, a7, a4, a5, a6⟩ := h
  have a5 : D o 6 = nI t.length := a5
  have a6 : ∀ i z, t[i]? = some z → D (o + 5) i = nI z := a6
  refine ⟨am_up (am_up D (o + 5) t.length (nI x)) o 6 (nI (t.length + 1)), eX11_type ho ⟨_, hi, fun _ => ⟨fun c => ?_, fun c => ?_⟩, fun c => absurd (by decide) c⟩, ⟨?_, ?_, a3.keep ?_ ?_, a7.keep ?_ ?_, ⟨?_, ?_, fun i z hz => ?_⟩⟩, fun q hq => ?_⟩
  · rw [a5]
    refine ⟨vp_in_nI hl (by decide), ?_⟩
    rintro D2 rfl D3 rfl
    rw [nI_clamp (by omega), am_up_ne (q := o + 5) o (by omega), a5, nI_add]
    refine ⟨?_, rfl⟩
    rw [am_upI, if_pos rfl]
  · rw [Classical.not_not, a5, nI_eq (by omega) (by decide)] at c; omega
  · rw [am_up_ne (o + 1) (by omega), am_up_ne (o + 1) (by omega)]; exact a1
  · rw [am_up_ne (o + 2) (by omega), am_up_ne (o + 2) (by omega)]; exact a2
  · rw [am_upI, if_neg (by omega), am_up_ne o (by omega)]
  · rw [am_up_ne (o + 3) (by omega), am_up_ne (o + 3) (by omega)]
  · rw [am_upI, if_neg (by omega), am_up_ne o (by omega)]
  · rw [am_up_ne (o + 4) (by omega), am_up_ne (o + 4) (by omega)]
  · show (t ++ [x]).length ≤ 120
    rw [List.length_append, List.length_singleton]; omega
  · show _ = nI (t ++ [x]).length
    rw [am_upI, if_pos rfl, List.length_append, List.length_singleton]
  · have hz : (t ++ [x])[i]? = some z := hz
    rw [am_up_ne (o + 5) (by omega), am_upI]
    by_cases c : i < t.length
    · rw [List.getElem?_append_left c] at hz
      rw [if_neg (by omega)]; exact a6 i z hz
    · have h2 := (List.getElem?_eq_some_iff.mp hz).1
      rw [List.length_append, List.length_singleton] at h2
      have e : i = t.length := by omega
      subst e
      rw [List.getElem?_append_right (Nat.le_refl _), Nat.sub_self] at hz
      have e2 : x = z := by simpa using hz
      rw [if_pos rfl, e2]
  · rw [am_up_ne q (by omega), am_up_ne q (by omega)]
theorem m_clearText (ho : isX11 lay o) (h : RM D o (T, T', H, s, t)) : ∃ D1, am_MetI lay d mX11_clearText [.ref o] D (nI t.length) D1 ∧ RM D1 o (T, T', H, s, []) ∧ onlyM D D1 o := by
  obtain ⟨a1, a2, a3, a7, a4, a5, a6⟩ := h
  have a5 : D o 6 = nI t.length := a5
  refine ⟨am_up D o 6 (nI 0), eX11_clearText ho ?_, ⟨?_, ?_, a3.keep ?_ ?_, a7.keep ?_ ?_, ⟨Nat.zero_le _, ?_, fun i z hz => ?_⟩⟩, fun q hq => ?_⟩
  · rintro D1 rfl
    rw [a5]; exact ⟨rfl, rfl⟩
  · rw [am_up_ne (o + 1) (by omega)]; exact a1
  · rw [am_up_ne (o + 2) (by omega)]; exact a2
  · rw [am_upI, if_neg (by omega)]
  · rw [am_up_ne (o + 3) (by omega)]
  · rw [am_upI, if_neg (by omega)]
  · rw [am_up_ne (o + 4) (by omega)]
  · rw [am_upI, if_pos rfl]; rfl
  · have hz : ([] : List Nat)[i]? = some z := hz
    simp at hz
  · rw [am_up_ne q (by omega)]
theorem m_players (ho : isX11 lay o) (h : RM D o (T, T', H, s, t)) : am_MetP lay (d + 1) mX11_players [.ref o] D (nI T.1) := eX11_players ho ⟨_, k_n (n := T.1) ho h.1, rfl, rfl⟩
theorem m_beats (ho : isX11 lay o) (h : RM D o (T, T', H, s, t)) (hT : okT T) (v w : Int32) : (isP T.1 v = false ∨ isP T.1 w = false → am_MetP lay (d + 2) mX11_beats [.ref o, .int v, .int w] D (-1)) ∧ ∀ p q, p < T.1 → q < T.1 → v = nI p → w = nI q → am_MetP lay (d + 2) mX11_beats [.ref o, .int v, .int w] D (bI (T.2.1 p q)) := by
  have h10 : T.1 ≤ 10 := hT.1.2.1
  constructor
  · intro hv
    refine eX11_beats ho ⟨_, k_isPlayer ho h.1 hT.1 v, fun _ => ⟨rfl, rfl⟩, fun h1 => ⟨_, k_isPlayer ho h.1 hT.1 w, fun h2 => ?_, fun _ => ⟨rfl, rfl⟩⟩⟩
    rcases hv with hv | hv
    · rw [hv] at h1; exact absurd rfl h1
    · rw [hv] at h2; exact absurd rfl h2
  · rintro p q hp hq rfl rfl
    refine eX11_beats ho ⟨_, k_isPlayer ho h.1 hT.1 _, fun h1 => ?_, fun _ => ⟨_, k_isPlayer ho h.1 hT.1 _, fun _ => ⟨_, k_beats1 ho h.1 hT.1 (by omega) (by omega), fun h3 => ?_, fun h3 => ?_⟩, fun h2 => ?_⟩⟩
    · rw [isP_n h10 (by omega), decide_eq_true hp] at h1; cases bI_0.mp h1
    · exact ⟨by rw [bI_0.mp h3]; rfl, rfl⟩
    · exact ⟨by rw [bI_n0.mp h3]; rfl, rfl⟩
    · rw [Classical.not_not, isP_n h10 (by omega), decide_eq_true hq] at h2; cases bI_0.mp h2
theorem m_weight (ho : isX11 lay o) (h : RM D o (T, T', H, s, t)) (hT : okT T) (v w : Int32) : (isPr T.1 v w = false → am_MetP lay (d + 3) mX11_weight [.ref o, .int v, .int w] D (-1)) ∧ ∀ p q, p < T.1 → q < T.1 → p ≠ q → v = nI p → w = nI q → am_MetP lay (d + 3) mX11_weight [.ref o, .int v, .int w] D (nI (T.2.2 p q)) := by
  have h10 : T.1 ≤ 10 := hT.1.2.1
  have b3 : ∀ p q, p < 10 → q < 10 → D (o + 1) (11 + 10 * p + q) = nI (T.2.2 p q) := h.1.2.2
  constructor
  · intro hv
    refine eX11_weight ho ⟨_, k_isPair ho h.1 hT.1 v w, fun _ => ⟨rfl, rfl⟩, fun h1 => ?_⟩
    rw [hv] at h1; exact absurd rfl h1
  · rintro p q hp hq hne rfl rfl
    refine eX11_weight ho ⟨_, k_isPair ho h.1 hT.1 _ _, fun h1 => ?_, fun _ => ⟨_, k_at _ _, vp_in_nI (by omega) (by decide), ?_⟩⟩
    · rw [isPr_n h10 (by omega) (by omega), decide_eq_true ⟨hp, hq, hne⟩] at h1; cases bI_0.mp h1
    · rw [nI_clamp (by omega), b3 p q (by omega) (by omega)]; exact ⟨rfl, rfl⟩
theorem m_score (ho : isX11 lay o) (h : RM D o (T, T', H, s, t)) (hT : okT T) (v : Int32) : (isP T.1 v = false → am_MetP lay (d + 2) mX11_score [.ref o, .int v] D (-1)) ∧ ∀ p, p < T.1 → v = nI p → am_MetP lay (d + 2) mX11_score [.ref o, .int v] D (nI (sc T.2.1 p)) := by
  have h10 : T.1 ≤ 10 := hT.1.2.1
  constructor
  · intro hv
    refine eX11_score ho ⟨_, k_isPlayer ho h.1 hT.1 v, fun _ => ⟨rfl, rfl⟩, fun h1 => ?_⟩
    rw [hv] at h1; exact absurd rfl h1
  · rintro p hp rfl
    refine eX11_score ho ⟨_, k_isPlayer ho h.1 hT.1 _, fun h1 => ?_, fun _ => ⟨_, k_beaten ho h.1 (by omega), _, k_count (msk_lt _), rfl, rfl⟩⟩
    rw [isP_n h10 (by omega), decide_eq_true hp] at h1; cases bI_0.mp h1
end MO2
