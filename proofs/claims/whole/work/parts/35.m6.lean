/-! the model: text -/
theorem s48 : ∀ a, a < 127 → ∀ b, b < 127 → nI a - nI 48 = nI b - nI 48 → a = b := by decide +kernel
theorem chr_of {t : List Nat} {i : Nat} (h : i < t.length) : t[i]? = some (chr t i) := by
  unfold chr
  rw [List.getD_eq_getElem?_getD, List.getElem?_eq_getElem h]
  rfl
theorem flt_mod {n : Nat} {t : List Nat} (hl : t.length ≤ 120) : ∀ j k, k + 4 * j = 124 → k % 4 = 0 → k < t.length + 4 → flt n t j k = -4 → t.length % 4 = 0 ∨ t.length ≤ k ∧ t.length % 4 = 0 ∨ (∃ e, t.length ≤ k ∧ k = t.length + e ∧ e ≠ 0) := by
  intro j
  induction j with
  | zero => intro k hk _ h4 _; omega
  | succ j ih =>
    intro k hk hm h4 hf
    by_cases c : t.length ≤ k
    · by_cases e : t.length = k
      · left; omega
      · right; right; exact ⟨k - t.length, c, by omega, by omega⟩
    · obtain ⟨h1, h2⟩ := flt_next hf (by omega) hl
      have h3 : k + 3 < t.length := by
        rcases Nat.lt_or_ge (k + 3) t.length with h | h
        · exact h
        · have e := chr_out h
          unfold res at h1
          rw [e] at h1
          simp at h1
      rcases ih (k + 4) (by omega) (by omega) (by omega) h2 with h | ⟨h, h'⟩ | ⟨e, h, h', h''⟩
      · exact Or.inl h
      · exact Or.inl h'
      · left; omega
theorem flt_div {n : Nat} {t : List Nat} (hl : t.length ≤ 120) (hf : fault_ n t = -4) : t.length / 4 = (t.length + 3) / 4 := by
  rcases flt_mod hl 31 0 (by omega) (by omega) (by omega) hf with h | ⟨h, h'⟩ | ⟨e, h, h', h''⟩
  · omega
  · omega
  · omega
section MO6
variable {lay : List am_L} {d : Nat} {D : am_D} {o n : Nat} {be : Nat → Nat → Bool} {we : Nat → Nat → Nat} {T T' : am_T} {H : List am_T} {s t : List Nat}
theorem k_faultOf (ho : isX11 lay o) (hB : mrow (D (o + 1)) (n, be, we)) (hT : trn n be) (h : mTx D o t) (hx : okX t) : am_MetP lay (d + 2) mX11_faultOf [.ref o] D (fault_ n t) := by
  have h120 := h.1
  have hlen : D o 6 = nI t.length := h.2.1
  have h10 := hT.2.1
  have hl : ∀ j k, k + 4 * j = 124 → ∀ Q : Option Value → am_D → Prop, Q (some (.int (flt n t j k))) D → am_AW lay (d + 2) mX11_faultOf 2 [.ref o, .int (nI k), .null] [] D Q := by
    intro j
    induction j with
    | zero =>
      intro k hk Q hQ
      refine rX11_faultOf_2 ho ⟨fun _ => hQ, fun c => ?_⟩
      rw [hlen, nI_leI (by omega) (by omega)] at c; omega
    | succ j ih =>
      intro k hk Q hQ
      have hQ : Q (some (.int (if t.length ≤ k then -4 else if res n t k then flt n t j (k + 4) else nI k))) D := hQ
      by_cases c : t.length ≤ k
      · rw [if_pos c] at hQ
        refine rX11_faultOf_2 ho ⟨fun _ => hQ, fun c => ?_⟩
        rw [hlen, nI_leI (by omega) (by omega)] at c; omega
      · rw [if_neg c] at hQ
        have nope : res n t k = false → Q (some (.int (nI k))) D := fun e => by rw [e, if_neg (by decide)] at hQ; exact hQ
        have good : res n t k = true → am_AW lay (d + 2) mX11_faultOf 2 [.ref o, .int (nI (k + 4)), .null] [] D Q := fun e => by rw [e, if_pos rfl] at hQ; exact ih (k + 4) (by omega) Q hQ
        have a1 : nI k + nI 1 = nI (k + 1) := nI_add _ _
        have a2 : nI k + nI 2 = nI (k + 2) := nI_add _ _
        have a3 : nI k + nI 3 = nI (k + 3) := nI_add _ _
        have a4 : nI k + nI 4 = nI (k + 4) := nI_add _ _
        refine rX11_faultOf_2 ho ⟨fun c2 => ?_, fun _ => ?_⟩
        · rw [hlen, nI_leI (by omega) (by omega)] at c2; omega
        rw [a1, a2, a3, a4, hlen]
        by_cases c4 : k + 4 ≤ t.length
        · have r0 : D (o + 5) k = nI (chr t k) := h.2.2 _ _ (chr_of (by omega))
          have r1 : D (o + 5) (k + 1) = nI (chr t (k + 1)) := h.2.2 _ _ (chr_of (by omega))
          have r2 : D (o + 5) (k + 2) = nI (chr t (k + 2)) := h.2.2 _ _ (chr_of (by omega))
          have r3 : D (o + 5) (k + 3) = nI (chr t (k + 3)) := h.2.2 _ _ (chr_of (by omega))
          have u0 := chr_le hx k
          have u1 := chr_le hx (k + 1)
          have u2 := chr_le hx (k + 2)
          have u3 := chr_le hx (k + 3)
          rw [nI_clamp (show k < 2 ^ 31 by omega), nI_clamp (show k + 1 < 2 ^ 31 by omega), nI_clamp (show k + 2 < 2 ^ 31 by omega), nI_clamp (show k + 3 < 2 ^ 31 by omega), r0, r1, r2, r3]
          have hr : res n t k = (isPr n (nI (chr t k) - nI 48) (nI (chr t (k + 2)) - nI 48) && ((decide (chr t (k + 1) = 62) || decide (chr t (k + 1) = 60)) && decide (chr t (k + 3) = 59))) := rfl
          unfold isPr at hr
          generalize chr t k = x0 at *
          generalize chr t (k + 1) = x1 at *
          generalize chr t (k + 2) = x2 at *
          generalize chr t (k + 3) = x3 at *
          have v0 : vp_in (nI k) 120 := vp_in_nI (by omega) (by decide)
          have v1 : vp_in (nI (k + 1)) 120 := vp_in_nI (by omega) (by decide)
          have v2 : vp_in (nI (k + 2)) 120 := vp_in_nI (by omega) (by decide)
          have v3 : vp_in (nI (k + 3)) 120 := vp_in_nI (by omega) (by decide)
          refine ⟨fun c5 => ?_, fun _ => ⟨v0, _, k_isPlayer ho hB hT _, fun p0 => ⟨fun c => absurd rfl c, fun _ => nope ?_⟩, fun p0 => ⟨v1, fun p1 => ⟨v2, _, k_isPlayer ho hB hT _, fun p2 => ⟨fun c => absurd rfl c, fun _ => nope ?_⟩, fun p2 => ⟨v0, v2, fun p3 => ⟨fun c => absurd rfl c, fun _ => nope ?_⟩, fun p3 => ⟨v3, fun p4 => ⟨fun c => absurd rfl c, fun _ => nope ?_⟩, fun p4 => ⟨fun _ => good ?_, fun c => absurd (by decide) c⟩⟩⟩⟩, fun p1 => ⟨v1, fun p1b => ⟨fun c => absurd rfl c, fun _ => nope ?_⟩, fun p1b => ⟨v2, _, k_isPlayer ho hB hT _, fun p2 => ⟨fun c => absurd rfl c, fun _ => nope ?_⟩, fun p2 => ⟨v0, v2, fun p3 => ⟨fun c => absurd rfl c, fun _ => nope ?_⟩, fun p3 => ⟨v3, fun p4 => ⟨fun c => absurd rfl c, fun _ => nope ?_⟩, fun p4 => ⟨fun _ => good ?_, fun c => absurd (by decide) c⟩⟩⟩⟩⟩⟩⟩⟩
          · rw [nI_ltI (by omega) (by omega)] at c5; omega
          · rw [hr, bI_0.mp p0, Bool.false_and, Bool.false_and]
          · rw [hr, bI_n0.mp p0, bI_0.mp p2, Bool.false_and, Bool.true_and, Bool.false_and]
          · rw [hr, decide_eq_false (by rw [p3]; simp), Bool.and_false, Bool.and_false, Bool.false_and]
          · rw [nI_eq (by omega) (by decide)] at p4
            rw [hr, decide_eq_false p4, Bool.and_false, Bool.and_false]
          · rw [Classical.not_not, nI_eq (by omega) (by decide)] at p4
            rw [nI_eq (by omega) (by decide)] at p1
            rw [nI_eq (by omega) (by omega)] at p3
            rw [hr, bI_n0.mp p0, bI_n0.mp p2, decide_eq_true p4, decide_eq_true p1, decide_eq_true (show ¬ nI x0 - nI 48 = nI x2 - nI 48 from fun e => p3 (s48 _ (by omega) _ (by omega) e))]; simp
          · rw [nI_eq (by omega) (by decide)] at p1 p1b
            rw [hr, decide_eq_false p1, decide_eq_false p1b, Bool.or_false, Bool.false_and, Bool.and_false]
          · rw [hr, bI_n0.mp p0, bI_0.mp p2, Bool.false_and, Bool.true_and, Bool.false_and]
          · rw [hr, decide_eq_false (by rw [p3]; simp), Bool.and_false, Bool.and_false, Bool.false_and]
          · rw [nI_eq (by omega) (by decide)] at p4
            rw [hr, decide_eq_false p4, Bool.and_false, Bool.and_false]
          · rw [Classical.not_not, nI_eq (by omega) (by decide)] at p4 p1b
            rw [nI_eq (by omega) (by omega)] at p3
            rw [hr, bI_n0.mp p0, bI_n0.mp p2, decide_eq_true p4, decide_eq_true p1b, decide_eq_true (show ¬ nI x0 - nI 48 = nI x2 - nI 48 from fun e => p3 (s48 _ (by omega) _ (by omega) e))]; simp
        · have e : res n t k = false := by
            have e3 : chr t (k + 3) = 32 := chr_out (by omega)
            unfold res
            rw [e3, decide_eq_false (by decide : ¬ (32 : Nat) = 59), Bool.and_false, Bool.and_false]
          refine ⟨fun _ => ⟨fun c => absurd rfl c, fun _ => nope e⟩, fun c => ?_⟩
          rw [nI_ltI (by omega) (by omega)] at c; omega
  exact eX11_faultOf ho (hl 31 0 rfl _ ⟨rfl, rfl⟩)
theorem m_fault (ho : isX11 lay o) (h : RM D o (T, T', H, s, t)) (hT : okT T) (hx : okX t) : am_MetP lay (d + 3) mX11_fault [.ref o] D (fault_ T.1 t) := eX11_fault ho ⟨_, k_faultOf (n := T.1) ho h.1 hT.1 h.2.2.2.2 hx, rfl, rfl⟩
theorem m_enter_no (ho : isX11 lay o) (h : RM D o (T, T', H, s, t)) (hT : okT T) (hx : okX t) (hf : ¬ fault_ T.1 t = -4) : am_MetI lay (d + 3) mX11_enter [.ref o] D (-2) D :=
  eX11_enter ho ⟨_, k_faultOf (n := T.1) ho h.1 hT.1 h.2.2.2.2 hx, fun c => absurd c hf, fun _ => ⟨rfl, rfl⟩⟩
theorem l_enter (ho : isX11 lay o) (hx : okX t) (h120 : t.length ≤ 120) : ∀ j k D be, k + 4 * j = 124 → trn n be → mTx D o t → mrow (D (o + 1)) (n, be, we) → flt n t j k = -4 → ∃ D1, mrow (D1 (o + 1)) (n, entB t j k be, we) ∧ (∀ q, q ≠ o + 1 → D1 q = D q) ∧ ∀ Q : Option Value → am_D → Prop, Q (some (.int (nI (t.length / 4)))) D1 → am_AW lay (d + 1) mX11_enter 18 [.ref o, .int (nI k), .null] [] D Q := by
  intro j
  induction j with
  | zero =>
    intro k D be hk hT ht hB hf
    have hlen : D o 6 = nI t.length := ht.2.1
    refine ⟨D, hB, fun _ _ => rfl, fun Q hQ => rX11_enter_18 ho ⟨fun _ => ?_, fun c => ?_⟩⟩
    · rw [hlen, nn_div (by omega) (by decide)]; exact hQ
    · rw [hlen, nI_leI (by omega) (by omega)] at c; omega
  | succ j ih =>
    intro k D be hk hT ht hB hf
    have hlen : D o 6 = nI t.length := ht.2.1
    have h10 := hT.2.1
    by_cases c : t.length ≤ k
    · have e : entB t (j + 1) k be = be := by
        show (if t.length ≤ k then be else entB t j (k + 4) (stw be (rw_ t k) (rl_ t k))) = be
        rw [if_pos c]
      rw [e]
      refine ⟨D, hB, fun _ _ => rfl, fun Q hQ => rX11_enter_18 ho ⟨fun _ => ?_, fun c => ?_⟩⟩
      · rw [hlen, nn_div (by omega) (by decide)]; exact hQ
      · rw [hlen, nI_leI (by omega) (by omega)] at c; omega
    · have e : entB t (j + 1) k be = entB t j (k + 4) (stw be (rw_ t k) (rl_ t k)) := by
        show (if t.length ≤ k then be else entB t j (k + 4) (stw be (rw_ t k) (rl_ t k))) = _
        rw [if_neg c]
      rw [e]
      obtain ⟨f1, f2⟩ := flt_next hf (by omega) h120
      obtain ⟨w1, w2, w3⟩ := res_win hT hx f1
      obtain ⟨r1, r2, r3, r4, r5, r6, r7⟩ := res_of h10 hx f1
      have h3 : k + 3 < t.length := by
        rcases Nat.lt_or_ge (k + 3) t.length with h | h
        · exact h
        · have e := chr_out h; omega
      obtain ⟨D2, g1, g2, g3⟩ := k_wins (d := d) ho hB hT w1 w2 w3
      obtain ⟨D1, i1, i2, i3⟩ := ih (k + 4) D2 _ (by omega) (stw_trn hT w1 w2 w3) ⟨ht.1, by rw [g3 o (by omega)]; exact ht.2.1, fun i x hi => by rw [g3 (o + 5) (by omega)]; exact ht.2.2 i x hi⟩ g2 f2
      refine ⟨D1, i1, fun q hq => by rw [i2 q hq, g3 q hq], fun Q hQ => rX11_enter_18 ho ⟨fun c2 => ?_, fun _ => ?_⟩⟩
      · rw [hlen, nI_leI (by omega) (by omega)] at c2; omega
      · have q0 : D (o + 5) k = nI (chr t k) := ht.2.2 _ _ (chr_of (by omega))
        have q1 : D (o + 5) (k + 1) = nI (chr t (k + 1)) := ht.2.2 _ _ (chr_of (by omega))
        have q2 : D (o + 5) (k + 2) = nI (chr t (k + 2)) := ht.2.2 _ _ (chr_of (by omega))
        have a1 : nI k + nI 1 = nI (k + 1) := nI_add _ _
        have a2 : nI k + nI 2 = nI (k + 2) := nI_add _ _
        have a4 : nI k + nI 4 = nI (k + 4) := nI_add _ _
        have u1 := chr_le hx (k + 1)
        rw [a1, a2, a4, nI_clamp (show k < 2 ^ 31 by omega), nI_clamp (show k + 1 < 2 ^ 31 by omega), nI_clamp (show k + 2 < 2 ^ 31 by omega), q0, q1, q2, r1, r2]
        have v0 : vp_in (nI k) 120 := vp_in_nI (by omega) (by decide)
        have v1 : vp_in (nI (k + 1)) 120 := vp_in_nI (by omega) (by decide)
        have v2 : vp_in (nI (k + 2)) 120 := vp_in_nI (by omega) (by decide)
        refine ⟨v1, fun p => ⟨fun _ => ⟨v2, fun _ => ⟨v0, D2, ?_, i3 Q hQ⟩, fun c => absurd rfl c⟩, fun c => absurd rfl c⟩, fun p => ⟨fun c => absurd c (by decide), fun _ => ⟨v0, fun c => absurd c (by decide), fun _ => ⟨v2, D2, ?_, i3 Q hQ⟩⟩⟩⟩
        · rw [nI_eq (by omega) (by decide)] at p
          unfold rw_ rl_ at g1
          rw [if_neg p, if_neg p] at g1; exact g1
        · rw [Classical.not_not, nI_eq (by omega) (by decide)] at p
          unfold rw_ rl_ at g1
          rw [if_pos p, if_pos p] at g1; exact g1
theorem m_enter (ho : isX11 lay o) (h : RM D o (T, T', H, s, t)) (hT : okT T) (hx : okX t) (hf : fault_ T.1 t = -4) : ∃ D1, am_MetI lay (d + 3) mX11_enter [.ref o] D (nI ((t.length + 3) / 4)) D1 ∧ RM D1 o ((T.1, entB t 31 0 T.2.1, T.2.2), T', pushH H T, s, t) ∧ onlyM D D1 o := by
  have h120 : t.length ≤ 120 := h.2.2.2.2.1
  obtain ⟨D2, r0, r1, r2⟩ := m_keeps (d := d + 2) ho h
  obtain ⟨D1, g1, g2, g3⟩ := l_enter (d := d + 2) (n := T.1) (we := T.2.2) ho hx h120 31 0 D2 T.2.1 rfl hT.1 r1.2.2.2.2 r1.1 hf
  refine ⟨D1, eX11_enter ho ⟨_, k_faultOf (n := T.1) ho h.1 hT.1 h.2.2.2.2 hx, fun _ => ⟨D2, r0, g3 _ ?_⟩, fun c => absurd hf c⟩, r1.now g1 fun q _ _ h => g2 q h, fun q hq => by rw [g2 q (by omega), r2 q (by omega) (by omega)]⟩
  rw [flt_div h120 hf]; exact ⟨rfl, rfl⟩
end MO6
