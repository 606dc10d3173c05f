/-! the model: towardsStored, isLikeStored, scoreAt -/
theorem df_bI {be bf : Nat → Nat → Bool} {p q : Nat} : bI (bf p q != be p q) = nI (df be bf p q) := by
  unfold df
  by_cases h : be p q = bf p q
  · rw [if_pos h, h, bne_self_eq_false]; rfl
  · rw [if_neg h, bne_iff_ne.mpr (Ne.symm h)]; rfl
def fitB (be bf : Nat → Nat → Bool) (k z : Nat) (f : Nat → Nat) (i : Nat) : Bool := decide (sc be k = sc bf z) && (List.range i).all fun q => decide (f q ≠ z) && (be q k == bf (f q) z)
theorem fitB_s (be bf : Nat → Nat → Bool) (k z : Nat) (f : Nat → Nat) (i : Nat) : fitB be bf k z f (i + 1) = (fitB be bf k z f i && (decide (f i ≠ z) && (be i k == bf (f i) z))) := by
  unfold fitB
  rw [List.range_succ, List.all_append, ← Bool.and_assoc]
  simp
theorem fitB_no {be bf : Nat → Nat → Bool} {k z : Nat} {f : Nat → Nat} {i j : Nat} (hij : i ≤ j) (h : fitB be bf k z f i = false) : fitB be bf k z f j = false := by
  obtain ⟨e, rfl⟩ : ∃ e, j = i + e := ⟨j - i, by omega⟩
  induction e with
  | zero => exact h
  | succ e ih =>
    rw [← Nat.add_assoc, fitB_s, ih (by omega), Bool.false_and]
theorem fitB_cor {n : Nat} {be bf : Nat → Nat → Bool} (hT : trn n be) (hU : trn n bf) {k z s : Nat} {f : Nat → Nat} (hk : k < n) (hz : z < n) (hf : ∀ q, q < k → f q < n) (hs : s.testBit z = true ↔ ∀ q, q < k → f q ≠ z) : fitB be bf k z f k = (s.testBit z && cor be bf k z f) := by
  apply Bool.eq_iff_iff.mpr
  unfold fitB cor
  simp only [Bool.and_eq_true, List.all_eq_true, List.mem_range, decide_eq_true_eq, beq_iff_eq]
  rw [hs]
  constructor
  · rintro ⟨h1, h2⟩
    refine ⟨fun q hq => (h2 q hq).1, h1, fun q hq => ?_⟩
    rw [hT.anti (p := q) (q := k) (by omega) hk (by omega), hU.anti (p := f q) (q := z) (hf q hq) hz (h2 q hq).1, (h2 q hq).2]
  · rintro ⟨h1, h2, h3⟩
    refine ⟨h2, fun q hq => ⟨h1 q hq, ?_⟩⟩
    rw [hT.anti (p := k) (q := q) hk (by omega) (by omega), hU.anti (p := z) (q := f q) hz (hf q hq) (Ne.symm (h1 q hq)), h3 q hq]
def exs (n : Nat) (be bf : Nat → Nat → Bool) (j k s : Nat) (f : Nat → Nat) (c : Nat) : Bool := (List.range n).any fun z => decide (c ≤ z) && (s.testBit z && (cor be bf k z f && al n be bf j (mdf s (onl z)) (fst_ f k z)))
theorem exs_iff {n : Nat} {be bf : Nat → Nat → Bool} {j k s : Nat} {f : Nat → Nat} {c : Nat} : exs n be bf j k s f c = true ↔ ∃ z, z < n ∧ c ≤ z ∧ (s.testBit z && (cor be bf k z f && al n be bf j (mdf s (onl z)) (fst_ f k z))) = true := by
  unfold exs
  simp only [List.any_eq_true, List.mem_range, Bool.and_eq_true (decide _), decide_eq_true_eq]
theorem exs_n {n : Nat} {be bf : Nat → Nat → Bool} {j k s : Nat} {f : Nat → Nat} : exs n be bf j k s f n = false := by
  cases h : exs n be bf j k s f n with
  | false => rfl
  | true =>
    obtain ⟨z, h1, h2, -⟩ := exs_iff.mp h
    omega
theorem exs_y {n : Nat} {be bf : Nat → Nat → Bool} {j k s : Nat} {f : Nat → Nat} {c : Nat} (hc : c < n) (h : (s.testBit c && (cor be bf k c f && al n be bf j (mdf s (onl c)) (fst_ f k c))) = true) : exs n be bf j k s f c = true := exs_iff.mpr ⟨c, hc, Nat.le_refl _, h⟩
theorem exs_s {n : Nat} {be bf : Nat → Nat → Bool} {j k s : Nat} {f : Nat → Nat} {c : Nat} (h : (s.testBit c && (cor be bf k c f && al n be bf j (mdf s (onl c)) (fst_ f k c))) = false) : exs n be bf j k s f c = exs n be bf j k s f (c + 1) := by
  apply Bool.eq_iff_iff.mpr
  rw [exs_iff, exs_iff]
  constructor
  · rintro ⟨z, h1, h2, h3⟩
    refine ⟨z, h1, ?_, h3⟩
    by_cases e : z = c
    · subst e; rw [h] at h3; cases h3
    · omega
  · rintro ⟨z, h1, h2, h3⟩
    exact ⟨z, h1, by omega, h3⟩
theorem exs_0 {n : Nat} {be bf : Nat → Nat → Bool} {j s : Nat} {f : Nat → Nat} : exs n be bf j (n - (j + 1)) s f 0 = al n be bf (j + 1) s f := by
  have e : al n be bf (j + 1) s f = (List.range n).any fun z => s.testBit z && (cor be bf (n - (j + 1)) z f && al n be bf j (mdf s (onl z)) (fst_ f (n - (j + 1)) z)) := rfl
  rw [e]
  unfold exs
  congr 1
theorem sub_sgn : ∀ a, a < 11 → ∀ b, b < 11 → (nI 0 < nI a - nI b ↔ b < a) ∧ (nI a - nI b = nI 0 ↔ a = b) := by decide +kernel
def ahd (be : Nat → Nat → Bool) (p i : Nat) : Nat := sumR (fun q => if sc be q < sc be p ∨ (sc be q = sc be p ∧ q < p) then 1 else 0) i
def fnS (n : Nat) (be : Nat → Nat → Bool) (place : Nat) : Nat → Nat
  | 0 => 0
  | i + 1 => if ahd be i n = place then sc be i else fnS n be place i
section MO4
variable {lay : List am_L} {d : Nat} {D : am_D} {o n : Nat} {be bf : Nat → Nat → Bool} {we wf : Nat → Nat → Nat} {T T' : am_T} {H : List am_T} {s t : List Nat}
theorem k_towards (ho : isX11 lay o) (hB : mrow (D (o + 1)) (n, be, we)) (hC : mrow (D (o + 2)) (n, bf, wf)) (hT : trn n be) (hU : trn n bf) : am_MetP lay (d + 3) mX11_towardsStored [.ref o] D (hti n be bf) := by
  have h10 := hT.2.1
  have e0 : D (o + 2) 0 = nI n := hC.1
  let Q : Option Value → am_D → Prop := fun r D1 => r = some (.int (hti n be bf)) ∧ D1 = D
  have hl : ∀ i, i ≤ 1000 → (∀ j, j < i → gk n be bf j = false) → am_AW lay (d + 3) mX11_towardsStored 18 [.ref o, .int (nI i), .null, .null, .null, .null] [] D Q := by
    refine up_loop ?_ fun i hi ih => ?_
    · intro h
      refine rX11_towardsStored_18 ho ⟨fun _ => ?_, fun h => absurd (nI_le (Nat.le_refl _) (by decide)) h⟩
      exact ⟨by rw [hti_no h], rfl⟩
    · intro h
      have next : gk n be bf i = false → am_AW lay (d + 3) mX11_towardsStored 18 [.ref o, .int (nI (i + 1)), .null, .null, .null, .null] [] D Q := fun e => ih fun j hj => by
        by_cases c : j < i
        · exact h j c
        · have : j = i := by omega
          rw [this]; exact e
      have yes : gk n be bf i = true → Q (some (.int (nI i))) D := fun e => ⟨by rw [hti_of hi e h], rfl⟩
      have e1 : nI i / nI 100 = nI (i / 100) := nn_div (by omega) (by decide)
      have e2 : nI i / nI 10 = nI (i / 10) := nn_div (by omega) (by decide)
      have e3 : nI (i / 10) - nI (i / 10) / nI 10 * nI 10 = nI (i / 10 % 10) := nn_mod (by omega) (by decide)
      have e4 : nI i - nI (i / 10) * nI 10 = nI (i % 10) := by
        have := nn_mod (a := i) (b := 10) (by omega) (by decide)
        rw [e2] at this; exact this
      have hg : gk n be bf i = (decide (i / 100 < i / 10 % 10 ∧ i / 10 % 10 < i % 10 ∧ i % 10 < n) && (tri be (i / 100) (i / 10 % 10) (i % 10) && decide (2 ≤ df be bf (i / 100) (i / 10 % 10) + df be bf (i / 10 % 10) (i % 10) + df be bf (i / 100) (i % 10)))) := rfl
      generalize hx : i / 100 = x at *
      generalize hy : i / 10 % 10 = y at *
      generalize hz : i % 10 = z at *
      have x10 : x < 10 := by omega
      have y10 : y < 10 := by omega
      have z10 : z < 10 := by omega
      have c79 : gk n be bf i = false → am_AW lay (d + 3) mX11_towardsStored 79 [.ref o, .int (nI i), .int (nI x), .int (nI y), .int (nI z), .null] [] D Q := fun e => rX11_towardsStored_79 ho ⟨fun _ => by rw [nI_add]; exact next e, fun c => absurd rfl c⟩
      have bad : ¬ (x < y ∧ y < z ∧ z < n) → gk n be bf i = false := fun c => by rw [hg, decide_eq_false c, Bool.false_and]
      refine rX11_towardsStored_18 ho ⟨fun c => absurd c (ge_no hi (by decide)), fun _ => ?_⟩
      rw [e1, e2, e3, e4]
      refine ⟨fun c => ?_, fun c1 => ⟨fun c => ?_, fun c2 => ⟨_, k_n ho hB, fun c => ?_, fun c3 => ?_⟩⟩⟩
      · rw [nI_leI (by omega) (by omega)] at c; exact c79 (bad (by omega))
      · rw [nI_leI (by omega) (by omega)] at c; exact c79 (bad (by omega))
      · rw [nI_leI (by omega) (by omega)] at c; exact c79 (bad (by omega))
      · rw [nI_leI (by omega) (by omega)] at c1 c2 c3
        have hok : x < y ∧ y < z ∧ z < n := ⟨by omega, by omega, by omega⟩
        rw [decide_eq_true hok, Bool.true_and] at hg
        have h116 : tri be x y z = true → ∀ u v, u = df be bf x y → v = df be bf y z → am_AW lay (d + 3) mX11_towardsStored 116 [.ref o, .int (nI i), .int (nI x), .int (nI y), .int (nI z), .int (nI 1)] [.int (nI v), .int (nI u)] D Q := by
          intro ht u v hu hv
          rw [ht, Bool.true_and, ← hu, ← hv] at hg
          have hu1 : u ≤ 1 := by rw [hu]; exact df_le _ _
          have hv1 : v ≤ 1 := by rw [hv]; exact df_le _ _
          refine rX11_towardsStored_116 ho ⟨_, k_differs ho hB hC hT hU x10 z10, fun c => ?_, fun c => ?_⟩
          · have hd : df be bf x z = 0 := by
              have e := df_bI (be := be) (bf := bf) (p := x) (q := z)
              rw [bI_0.mp c] at e
              have h2 := df_le (be := be) (bf := bf) x z
              exact ((nI_eq (by decide) (by omega)).mp e).symm
            rw [hd] at hg
            rw [nI_add, nI_add]
            refine ⟨fun c => ?_, fun c => ?_⟩
            · rw [nI_ltI (by omega) (by decide)] at c
              rw [nI_add]; exact next (by rw [hg]; exact decide_eq_false (by omega))
            · rw [nI_ltI (by omega) (by decide)] at c
              exact yes (by rw [hg]; exact decide_eq_true (by omega))
          · have hd : df be bf x z = 1 := by
              have e := df_bI (be := be) (bf := bf) (p := x) (q := z)
              rw [bI_n0.mp c] at e
              have h2 := df_le (be := be) (bf := bf) x z
              exact ((nI_eq (by decide) (by omega)).mp e).symm
            rw [hd] at hg
            rw [nI_add]
            refine rX11_towardsStored_128 ho ?_
            rw [nI_add]
            refine ⟨fun c => ?_, fun c => ?_⟩
            · rw [nI_ltI (by omega) (by decide)] at c
              rw [nI_add]; exact next (by rw [hg]; exact decide_eq_false (by omega))
            · rw [nI_ltI (by omega) (by decide)] at c
              exact yes (by rw [hg]; exact decide_eq_true (by omega))
        have dv : ∀ {p q : Nat}, (bI (bf p q != be p q) = nI 0 → 0 = df be bf p q) ∧ (¬ bI (bf p q != be p q) = nI 0 → 1 = df be bf p q) := by
          intro p q
          have h2 := df_le (be := be) (bf := bf) p q
          constructor
          · intro c
            have e := df_bI (be := be) (bf := bf) (p := p) (q := q)
            rw [bI_0.mp c] at e
            exact (nI_eq (by decide) (by omega)).mp e
          · intro c
            have e := df_bI (be := be) (bf := bf) (p := p) (q := q)
            rw [bI_n0.mp c] at e
            exact (nI_eq (by decide) (by omega)).mp e
        refine ⟨_, k_isCycle ho hB hT (by omega) (by omega) hok.2.2 (by omega) (by omega) (by omega), fun c => c79 (by rw [hg, bI_0.mp c, Bool.false_and]), fun c => ⟨fun c => absurd c (by decide), fun _ => ⟨_, k_differs ho hB hC hT hU x10 y10, fun u => ⟨_, k_differs ho hB hC hT hU y10 z10, fun v => ?_, fun v => ?_⟩, fun u => ⟨_, k_differs ho hB hC hT hU y10 z10, fun v => ?_, fun v => ?_⟩⟩⟩⟩
        · exact h116 (bI_n0.mp c) 0 0 (dv.1 u) (dv.1 v)
        · exact h116 (bI_n0.mp c) 0 1 (dv.1 u) (dv.2 v)
        · exact h116 (bI_n0.mp c) 1 0 (dv.2 u) (dv.1 v)
        · exact h116 (bI_n0.mp c) 1 1 (dv.2 u) (dv.2 v)
  refine eX11_towardsStored ho ?_
  rw [e0_, e0]
  exact ⟨vp_in_nI (by decide) (by decide), _, k_n ho hB, fun _ => hl 0 (Nat.zero_le _) fun j hj => absurd hj (Nat.not_lt_zero j), fun c => absurd rfl c⟩
theorem m_towardsStored (ho : isX11 lay o) (h : RM D o (T, T', H, s, t)) (hT : okT T) (hU : okT T') : am_MetP lay (d + 3) mX11_towardsStored [.ref o] D (if T.1 = T'.1 then hti T.1 T.2.1 T'.2.1 else -2) := by
  have h10 : T.1 ≤ 10 := hT.1.2.1
  have g10 : T'.1 ≤ 10 := hU.1.2.1
  have hB : mrow (D (o + 1)) (T.1, T.2.1, T.2.2) := h.1
  have hC : mrow (D (o + 2)) (T'.1, T'.2.1, T'.2.2) := h.2.1
  have e0 : D (o + 2) 0 = nI T'.1 := hC.1
  by_cases h2 : T.1 = T'.1
  · rw [if_pos h2]
    have hU2 : trn T.1 T'.2.1 := by rw [h2]; exact hU.1
    have hC2 : mrow (D (o + 2)) (T.1, T'.2.1, T'.2.2) := by rw [h2]; exact hC
    exact k_towards ho hB hC2 hT.1 hU2
  · rw [if_neg h2]
    refine eX11_towardsStored ho ?_
    rw [e0_, e0]
    refine ⟨vp_in_nI (by decide) (by decide), _, k_n ho hB, fun c => ?_, fun _ => ⟨rfl, rfl⟩⟩
    rw [nI_eq (by omega) (by omega)] at c; exact absurd c.symm h2
/-! isLikeStored -/
theorem k_fits (ho : isX11 lay o) (hB : mrow (D (o + 1)) (n, be, we)) (hC : mrow (D (o + 2)) (n, bf, wf)) (hT : trn n be) (hU : trn n bf) {k z : Nat} {f : Nat → Nat} (hk : k < n) (hz : z < n) (hf : ∀ q, q < k → D (o + 9) q = nI (f q) ∧ f q < n) (hz9 : D (o + 9) k = nI z) : am_MetP lay (d + 2) mX11_fits [.ref o, .int (nI k)] D (bI (fitB be bf k z f k)) := by
  have h10 := hT.2.1
  have hc : ∀ p, p < 10 → D (o + 2) (1 + p) = nI (msk (bf p)) := hC.2.1
  have hl : ∀ i, i ≤ k → am_AW lay (d + 2) mX11_fits 35 [.ref o, .int (nI k), .int (bI (fitB be bf k z f i)), .int (nI i)] [] D (fun r D1 => r = some (.int (bI (fitB be bf k z f k))) ∧ D1 = D) := by
    refine up_loop ?_ fun i hi ih => ?_
    · exact rX11_fits_35 ho ⟨fun _ => ⟨bI_nar _, rfl, rfl⟩, fun h => absurd (nI_le (Nat.le_refl _) (by omega)) h⟩
    · obtain ⟨f1, f2⟩ := hf i hi
      have h1 := k_has (lay := lay) (d := d + 1) (D := D) (s := msk (bf (f i))) (p := z) (by omega)
      rw [hU.mskt] at h1
      rw [fitB_s] at ih
      refine rX11_fits_35 ho ⟨fun h => absurd h (ge_no hi (by omega)), fun _ => ⟨fun c => ⟨bI_nar _, ?_, rfl⟩, fun c => ?_⟩⟩
      · rw [bI_0.mp c, fitB_no (by omega) (bI_0.mp c)]
      · rw [bI_n0.mp c, Bool.true_and] at ih
        rw [nI_clamp (by omega), nI_clamp (by omega), f1, hz9, nI_add, nI_add, nI_clamp (by omega), hc (f i) (by omega)]
        refine ⟨vp_in_nI (by omega) (by decide), vp_in_nI (by omega) (by decide), fun c2 => ?_, fun c2 => ⟨_, k_beats1 ho hB hT (by omega) (by omega), vp_in_nI (by omega) (by decide), vp_in_nI (by omega) (by decide), vp_in_nI (by omega) (by decide), _, h1, fun c3 => ?_, fun c3 => ?_⟩⟩
        · rw [nI_eq (by omega) (by omega)] at c2
          rw [decide_eq_false (by simpa using c2), Bool.false_and] at ih; exact ih
        · rw [nI_eq (by omega) (by omega)] at c2
          rw [bI_inj] at c3
          rw [decide_eq_true c2, Bool.true_and, beq_false_of_ne c3] at ih; exact ih
        · rw [nI_eq (by omega) (by omega)] at c2
          rw [Classical.not_not, bI_inj] at c3
          rw [decide_eq_true c2, Bool.true_and, c3, beq_self_eq_true] at ih; exact ih
  have h0 := hl 0 (Nat.zero_le _)
  refine eX11_fits ho ⟨_, k_beaten ho hB (by omega), _, k_count (msk_lt _), ?_⟩
  rw [nI_clamp (by omega), hz9, nI_add, nI_clamp (by omega), hc z (by omega)]
  refine ⟨vp_in_nI (by omega) (by decide), vp_in_nI (by omega) (by decide), _, k_count (msk_lt _), fun c => ?_, fun c => ?_⟩
  · have e : fitB be bf k z f 0 = false := by
      unfold fitB
      rw [decide_eq_false (fun e => c (by rw [show cnt (msk (be k)) = sc be k from rfl, e]; rfl)), Bool.false_and]
    rw [e] at h0; exact h0
  · rw [Classical.not_not, nI_eq (by have := cnt_le (msk (be k)); omega) (by have := cnt_le (msk (bf z)); omega)] at c
    have e : fitB be bf k z f 0 = true := by
      unfold fitB
      rw [decide_eq_true (show sc be k = sc bf z from c)]; rfl
    rw [e] at h0; exact h0
theorem m1_add : (-1 : Int32) + nI 1 = nI 0 := by decide
theorem add_m1 (k : Nat) : nI (k + 1) + (-1) = nI k := by
  rw [← nI_add, Int32.add_assoc]
  have : nI 1 + (-1 : Int32) = 0 := by decide
  rw [this, Int32.add_zero]
theorem l_like (ho : isX11 lay o) (hT : trn n be) (hU : trn n bf) : ∀ j, j < n → ∀ e c, c + e = n → ∀ D f s, s < 1024 → mrow (D (o + 1)) (n, be, we) → mrow (D (o + 2)) (n, bf, wf) → (∀ q, q < n - (j + 1) → D (o + 9) q = nI (f q) ∧ f q < n) → (∀ z, z < n → (s.testBit z = true ↔ ∀ q, q < n - (j + 1) → f q ≠ z)) → D (o + 9) (n - (j + 1)) + nI 1 = nI c →
    ∃ D1, (∀ q, q ≠ o + 9 → D1 q = D q) ∧ (∀ q, q < n - (j + 1) → D1 (o + 9) q = D (o + 9) q) ∧ ∀ Q : Option Value → am_D → Prop, (if exs n be bf j (n - (j + 1)) s f c then Q (some (.int (nI 1))) D1 else am_AW lay (d + 3) mX11_isLikeStored 24 [.ref o, .int (nI (n - (j + 1)) + (-1))] [] D1 Q) → am_AW lay (d + 3) mX11_isLikeStored 24 [.ref o, .int (nI (n - (j + 1)))] [] D Q := by
  have h10 := hT.2.1
  intro j
  induction j with
  | zero =>
    intro hj e
    induction e with
    | zero =>
      intro c hc D f s hs hB hC hf hfr hk
      obtain rfl : c = n := by omega
      have hn : mrow (am_up D (o + 9) (c - (0 + 1)) (nI c) (o + 1)) (c, be, we) := by rw [am_up_ne (o + 1) (by omega)]; exact hB
      refine ⟨am_up D (o + 9) (c - (0 + 1)) (nI c), fun q hq => am_up_ne q hq, fun q hq => by rw [am_upI, if_neg (by omega)], fun Q hQ => ?_⟩
      rw [exs_n, if_neg (by decide)] at hQ
      refine rX11_isLikeStored_24 ho ⟨fun h => absurd h (nn_neg (by omega)), fun _ => ⟨_, k_n ho hB, fun h => absurd h (ge_no (by omega) (by omega)), fun _ => ?_⟩⟩
      rw [nI_clamp (by omega), hk]
      refine ⟨vp_in_nI (by omega) (by decide), vp_in_nI (by omega) (by decide), ?_⟩
      rintro D4 rfl
      refine ⟨vp_in_nI (by omega) (by decide), _, k_n ho hn, fun h => ?_, fun _ => hQ⟩
      rw [am_upI, if_pos rfl] at h; exact absurd rfl h
    | succ e ihe =>
      intro c hc D f s hs hB hC hf hfr hk
      have hn : mrow (am_up D (o + 9) (n - (0 + 1)) (nI c) (o + 1)) (n, be, we) := by rw [am_up_ne (o + 1) (by omega)]; exact hB
      have hm : mrow (am_up D (o + 9) (n - (0 + 1)) (nI c) (o + 2)) (n, bf, wf) := by rw [am_up_ne (o + 2) (by omega)]; exact hC
      have hf4 : ∀ q, q < n - (0 + 1) → am_up D (o + 9) (n - (0 + 1)) (nI c) (o + 9) q = nI (f q) ∧ f q < n := fun q hq => by rw [am_upI, if_neg (by omega)]; exact hf q hq
      have hk4 : am_up D (o + 9) (n - (0 + 1)) (nI c) (o + 9) (n - (0 + 1)) = nI c := by rw [am_upI, if_pos rfl]
      have hfit := fitB_cor (s := s) (f := f) hT hU (k := n - (0 + 1)) (z := c) (by omega) (by omega) (fun q hq => (hf q hq).2) (hfr c (by omega))
      have kf := k_fits (lay := lay) (d := d) ho hn hm hT hU (by omega) (show c < n by omega) hf4 hk4
      cases hb : fitB be bf (n - (0 + 1)) c f (n - (0 + 1)) with
      | true =>
        rw [hb] at kf hfit
        have hex : exs n be bf 0 (n - (0 + 1)) s f c = true := exs_y (by omega) (by
          show (s.testBit c && (cor be bf (n - (0 + 1)) c f && true)) = true
          rw [Bool.and_true, ← hfit])
        refine ⟨am_up D (o + 9) (n - (0 + 1)) (nI c), fun q hq => am_up_ne q hq, fun q hq => by rw [am_upI, if_neg (by omega)], fun Q hQ => ?_⟩
        rw [hex, if_pos rfl] at hQ
        refine rX11_isLikeStored_24 ho ⟨fun h => absurd h (nn_neg (by omega)), fun _ => ⟨_, k_n ho hB, fun h => absurd h (ge_no (by omega) (by omega)), fun _ => ?_⟩⟩
        rw [nI_clamp (by omega), hk]
        refine ⟨vp_in_nI (by omega) (by decide), vp_in_nI (by omega) (by decide), ?_⟩
        rintro D4 rfl
        refine ⟨vp_in_nI (by omega) (by decide), _, k_n ho hn, fun _ => ⟨_, kf, fun h => ?_, fun _ => ⟨_, k_n ho hn, fun _ => ?_, fun h => ?_⟩⟩, fun h => ?_⟩
        · exact absurd h (by decide)
        · rw [nI_add, show n - (0 + 1) + 1 = n by omega]
          exact rX11_isLikeStored_24 ho ⟨fun h => absurd h (nn_neg (by omega)), fun _ => ⟨_, k_n ho hn, fun _ => ⟨_, k_n ho hn, fun h => absurd rfl h, fun _ => hQ⟩, fun h => absurd (nI_le (Nat.le_refl _) (by omega)) h⟩⟩
        · rw [nI_add, nI_leI (by omega) (by omega)] at h; omega
        · rw [Classical.not_not, hk4, nI_eq (by omega) (by omega)] at h; omega
      | false =>
        rw [hb] at kf hfit
        have hex : exs n be bf 0 (n - (0 + 1)) s f c = exs n be bf 0 (n - (0 + 1)) s f (c + 1) := exs_s (by rw [← Bool.and_assoc, ← hfit, Bool.false_and])
        obtain ⟨D1, g1, g2, g3⟩ := ihe (c + 1) (by omega) _ f s hs hn hm hf4 hfr (by rw [hk4, nI_add])
        refine ⟨D1, fun q hq => by rw [g1 q hq, am_up_ne q hq], fun q hq => by rw [g2 q hq, am_upI, if_neg (by omega)], fun Q hQ => ?_⟩
        rw [hex] at hQ
        refine rX11_isLikeStored_24 ho ⟨fun h => absurd h (nn_neg (by omega)), fun _ => ⟨_, k_n ho hB, fun h => absurd h (ge_no (by omega) (by omega)), fun _ => ?_⟩⟩
        rw [nI_clamp (by omega), hk]
        refine ⟨vp_in_nI (by omega) (by decide), vp_in_nI (by omega) (by decide), ?_⟩
        rintro D4 rfl
        refine ⟨vp_in_nI (by omega) (by decide), _, k_n ho hn, fun _ => ⟨_, kf, fun _ => g3 Q hQ, fun h => absurd rfl h⟩, fun h => ?_⟩
        rw [Classical.not_not, hk4, nI_eq (by omega) (by omega)] at h; omega
  | succ j ihj =>
    intro hj e
    induction e with
    | zero =>
      intro c hc D f s hs hB hC hf hfr hk
      obtain rfl : c = n := by omega
      have hn : mrow (am_up D (o + 9) (c - (j + 1 + 1)) (nI c) (o + 1)) (c, be, we) := by rw [am_up_ne (o + 1) (by omega)]; exact hB
      refine ⟨am_up D (o + 9) (c - (j + 1 + 1)) (nI c), fun q hq => am_up_ne q hq, fun q hq => by rw [am_upI, if_neg (by omega)], fun Q hQ => ?_⟩
      rw [exs_n, if_neg (by decide)] at hQ
      refine rX11_isLikeStored_24 ho ⟨fun h => absurd h (nn_neg (by omega)), fun _ => ⟨_, k_n ho hB, fun h => absurd h (ge_no (by omega) (by omega)), fun _ => ?_⟩⟩
      rw [nI_clamp (by omega), hk]
      refine ⟨vp_in_nI (by omega) (by decide), vp_in_nI (by omega) (by decide), ?_⟩
      rintro D4 rfl
      refine ⟨vp_in_nI (by omega) (by decide), _, k_n ho hn, fun h => ?_, fun _ => hQ⟩
      rw [am_upI, if_pos rfl] at h; exact absurd rfl h
    | succ e ihe =>
      intro c hc D f s hs hB hC hf hfr hk
      have hn : mrow (am_up D (o + 9) (n - (j + 1 + 1)) (nI c) (o + 1)) (n, be, we) := by rw [am_up_ne (o + 1) (by omega)]; exact hB
      have hm : mrow (am_up D (o + 9) (n - (j + 1 + 1)) (nI c) (o + 2)) (n, bf, wf) := by rw [am_up_ne (o + 2) (by omega)]; exact hC
      have hf4 : ∀ q, q < n - (j + 1 + 1) → am_up D (o + 9) (n - (j + 1 + 1)) (nI c) (o + 9) q = nI (f q) ∧ f q < n := fun q hq => by rw [am_upI, if_neg (by omega)]; exact hf q hq
      have hk4 : am_up D (o + 9) (n - (j + 1 + 1)) (nI c) (o + 9) (n - (j + 1 + 1)) = nI c := by rw [am_upI, if_pos rfl]
      have hfit := fitB_cor (s := s) (f := f) hT hU (k := n - (j + 1 + 1)) (z := c) (by omega) (by omega) (fun q hq => (hf q hq).2) (hfr c (by omega))
      have kf := k_fits (lay := lay) (d := d) ho hn hm hT hU (by omega) (show c < n by omega) hf4 hk4
      have kk : n - (j + 1) = n - (j + 1 + 1) + 1 := by omega
      cases hb : fitB be bf (n - (j + 1 + 1)) c f (n - (j + 1 + 1)) with
      | true =>
        rw [hb] at kf hfit
        have hn8 : mrow (am_up (am_up D (o + 9) (n - (j + 1 + 1)) (nI c)) (o + 9) (n - (j + 1 + 1) + 1) (-1) (o + 1)) (n, be, we) := by rw [am_up_ne (o + 1) (by omega)]; exact hn
        have hm8 : mrow (am_up (am_up D (o + 9) (n - (j + 1 + 1)) (nI c)) (o + 9) (n - (j + 1 + 1) + 1) (-1) (o + 2)) (n, bf, wf) := by rw [am_up_ne (o + 2) (by omega)]; exact hm
        have hk8 : am_up (am_up D (o + 9) (n - (j + 1 + 1)) (nI c)) (o + 9) (n - (j + 1 + 1) + 1) (-1) (o + 9) (n - (j + 1 + 1)) = nI c := by rw [am_upI, if_neg (by omega)]; exact hk4
        have hf8 : ∀ q, q < n - (j + 1) → am_up (am_up D (o + 9) (n - (j + 1 + 1)) (nI c)) (o + 9) (n - (j + 1 + 1) + 1) (-1) (o + 9) q = nI (fst_ f (n - (j + 1 + 1)) c q) ∧ fst_ f (n - (j + 1 + 1)) c q < n := by
          intro q hq
          unfold fst_
          by_cases eq : q = n - (j + 1 + 1)
          · rw [if_pos eq, eq, hk8]; exact ⟨rfl, by omega⟩
          · rw [if_neg eq, am_upI, if_neg (by omega)]; exact hf4 q (by omega)
        have hfr8 : ∀ z, z < n → ((mdf s (onl c)).testBit z = true ↔ ∀ q, q < n - (j + 1) → fst_ f (n - (j + 1 + 1)) c q ≠ z) := by
          intro z hz
          rw [mdf_t, onl_t, decide_eq_true (by omega : c < 10), Bool.true_and, Bool.and_eq_true, hfr z hz]
          constructor
          · rintro ⟨a1, a2⟩ q hq
            unfold fst_
            by_cases eq : q = n - (j + 1 + 1)
            · rw [if_pos eq]; simpa using a2
            · rw [if_neg eq]; exact a1 q (by omega)
          · intro a
            refine ⟨fun q hq => ?_, ?_⟩
            · have := a q (by omega)
              unfold fst_ at this
              rw [if_neg (by omega)] at this; exact this
            · have := a (n - (j + 1 + 1)) (by omega)
              unfold fst_ at this
              rw [if_pos rfl] at this; simpa using this
        obtain ⟨D1, g1, g2, g3⟩ := ihj (by omega) n 0 (by omega) _ (fst_ f (n - (j + 1 + 1)) c) (mdf s (onl c)) (mdf_lt hs) hn8 hm8 hf8 hfr8 (by rw [am_upI, if_pos (by omega)]; exact m1_add)
        rw [exs_0] at g3
        have start : ∀ Q : Option Value → am_D → Prop, (if al n be bf (j + 1) (mdf s (onl c)) (fst_ f (n - (j + 1 + 1)) c) then Q (some (.int (nI 1))) D1 else am_AW lay (d + 3) mX11_isLikeStored 24 [.ref o, .int (nI (n - (j + 1)) + (-1))] [] D1 Q) → am_AW lay (d + 3) mX11_isLikeStored 24 [.ref o, .int (nI (n - (j + 1 + 1)))] [] D Q := by
          intro Q hQ
          refine rX11_isLikeStored_24 ho ⟨fun h => absurd h (nn_neg (by omega)), fun _ => ⟨_, k_n ho hB, fun h => absurd h (ge_no (by omega) (by omega)), fun _ => ?_⟩⟩
          rw [nI_clamp (by omega), hk]
          refine ⟨vp_in_nI (by omega) (by decide), vp_in_nI (by omega) (by decide), ?_⟩
          rintro D4 rfl
          refine ⟨vp_in_nI (by omega) (by decide), _, k_n ho hn, fun _ => ⟨_, kf, fun h => ?_, fun _ => ⟨_, k_n ho hn, fun h => ?_, fun _ => ?_⟩⟩, fun h => ?_⟩
          · exact absurd h (by decide)
          · rw [nI_add, nI_leI (by omega) (by omega)] at h; omega
          · rw [nI_add, nI_clamp (by omega)]
            refine ⟨vp_in_nI (by omega) (by decide), ?_⟩
            rintro D8 rfl
            have g := g3 Q hQ
            rw [kk] at g
            exact g
          · rw [Classical.not_not, hk4, nI_eq (by omega) (by omega)] at h; omega
        have e0 : ∀ q, q ≠ o + 9 → D1 q = D q := fun q hq => by rw [g1 q hq, am_up_ne q hq, am_up_ne q hq]
        have e1 : ∀ q, q < n - (j + 1 + 1) → D1 (o + 9) q = D (o + 9) q := fun q hq => by rw [g2 q (by omega), am_upI, if_neg (by omega), am_upI, if_neg (by omega)]
        cases ha : al n be bf (j + 1) (mdf s (onl c)) (fst_ f (n - (j + 1 + 1)) c) with
        | true =>
          have hex : exs n be bf (j + 1) (n - (j + 1 + 1)) s f c = true := exs_y (by omega) (by rw [ha, Bool.and_true, ← hfit])
          refine ⟨D1, e0, e1, fun Q hQ => ?_⟩
          rw [hex, if_pos rfl] at hQ
          exact start Q (by rw [ha, if_pos rfl]; exact hQ)
        | false =>
          have hex : exs n be bf (j + 1) (n - (j + 1 + 1)) s f c = exs n be bf (j + 1) (n - (j + 1 + 1)) s f (c + 1) := exs_s (by rw [ha, Bool.and_false, Bool.and_false])
          have hnD : mrow (D1 (o + 1)) (n, be, we) := by rw [e0 (o + 1) (by omega)]; exact hB
          have hmD : mrow (D1 (o + 2)) (n, bf, wf) := by rw [e0 (o + 2) (by omega)]; exact hC
          have hkD : D1 (o + 9) (n - (j + 1 + 1)) = nI c := by rw [g2 _ (by omega)]; exact hk8
          obtain ⟨D2, i1, i2, i3⟩ := ihe (c + 1) (by omega) D1 f s hs hnD hmD (fun q hq => by rw [e1 q hq]; exact hf q hq) hfr (by rw [hkD, nI_add])
          refine ⟨D2, fun q hq => by rw [i1 q hq, e0 q hq], fun q hq => by rw [i2 q hq, e1 q hq], fun Q hQ => ?_⟩
          rw [hex] at hQ
          refine start Q ?_
          rw [ha, if_neg (by decide), kk, add_m1]
          exact i3 Q hQ
      | false =>
        rw [hb] at kf hfit
        have hex : exs n be bf (j + 1) (n - (j + 1 + 1)) s f c = exs n be bf (j + 1) (n - (j + 1 + 1)) s f (c + 1) := exs_s (by rw [← Bool.and_assoc, ← hfit, Bool.false_and])
        obtain ⟨D1, g1, g2, g3⟩ := ihe (c + 1) (by omega) _ f s hs hn hm hf4 hfr (by rw [hk4, nI_add])
        refine ⟨D1, fun q hq => by rw [g1 q hq, am_up_ne q hq], fun q hq => by rw [g2 q hq, am_upI, if_neg (by omega)], fun Q hQ => ?_⟩
        rw [hex] at hQ
        refine rX11_isLikeStored_24 ho ⟨fun h => absurd h (nn_neg (by omega)), fun _ => ⟨_, k_n ho hB, fun h => absurd h (ge_no (by omega) (by omega)), fun _ => ?_⟩⟩
        rw [nI_clamp (by omega), hk]
        refine ⟨vp_in_nI (by omega) (by decide), vp_in_nI (by omega) (by decide), ?_⟩
        rintro D4 rfl
        refine ⟨vp_in_nI (by omega) (by decide), _, k_n ho hn, fun _ => ⟨_, kf, fun _ => g3 Q hQ, fun h => absurd rfl h⟩, fun h => ?_⟩
        rw [Classical.not_not, hk4, nI_eq (by omega) (by omega)] at h; omega
theorem m_isLikeStored (ho : isX11 lay o) (h : RM D o (T, T', H, s, t)) (hT : okT T) (hU : okT T') : ∃ D1, am_MetI lay (d + 3) mX11_isLikeStored [.ref o] D (bI (decide (T.1 = T'.1) && al T.1 T.2.1 T'.2.1 T.1 (ful T.1) (fun _ => 0))) D1 ∧ RM D1 o (T, T', H, s, t) ∧ onlyM D D1 o := by
  have h2 : 2 ≤ T.1 := hT.1.1
  have h10 : T.1 ≤ 10 := hT.1.2.1
  have g10 : T'.1 ≤ 10 := hU.1.2.1
  have hB : mrow (D (o + 1)) (T.1, T.2.1, T.2.2) := h.1
  have hC : mrow (D (o + 2)) (T'.1, T'.2.1, T'.2.2) := h.2.1
  have e0 : D (o + 2) 0 = nI T'.1 := hC.1
  by_cases hn : T.1 = T'.1
  · have hU2 : trn T.1 T'.2.1 := by rw [hn]; exact hU.1
    have hC2 : mrow (D (o + 2)) (T.1, T'.2.1, T'.2.2) := by rw [hn]; exact hC
    have ej : T.1 - (T.1 - 1 + 1) = 0 := by omega
    have ej2 : T.1 - 1 + 1 = T.1 := by omega
    obtain ⟨D1, g1, g2, g3⟩ := l_like (d := d) (n := T.1) (be := T.2.1) (bf := T'.2.1) (we := T.2.2) (wf := T'.2.2) ho hT.1 hU2 (T.1 - 1) (by omega) T.1 0 (by omega) (am_up D (o + 9) 0 (-1)) (fun _ => 0) (ful T.1) (ful_lt h10) (by rw [am_up_ne (o + 1) (by omega)]; exact hB) (by rw [am_up_ne (o + 2) (by omega)]; exact hC2) (fun q hq => by omega) (fun z hz => ⟨fun _ q hq => by omega, fun _ => by rw [ful_t, decide_eq_true hz]⟩) (by rw [ej, am_upI, if_pos rfl]; exact m1_add)
    rw [exs_0, ej, ej2] at g3
    rw [decide_eq_true hn, Bool.true_and]
    have e8 : ∀ q, q ≠ o + 9 → D1 q = D q := fun q hq => by rw [g1 q hq, am_up_ne q hq]
    have hB1 : mrow (D1 (o + 1)) (T.1, T.2.1, T.2.2) := by rw [e8 (o + 1) (by omega)]; exact hB
    refine ⟨D1, eX11_isLikeStored ho ?_, h.scr fun q _ hq => e8 q (by omega), fun q hq => e8 q (by omega)⟩
    rw [e0_, e0]
    refine ⟨vp_in_nI (by decide) (by decide), _, k_n ho hB, fun _ => ⟨vp_in_nI (by decide) (by decide), ?_⟩, fun c => absurd (by rw [hn]) c⟩
    rintro D2 rfl
    refine g3 _ ?_
    cases ha : al T.1 T.2.1 T'.2.1 T.1 (ful T.1) (fun _ => 0) with
    | true => rw [if_pos rfl]; exact ⟨rfl, rfl⟩
    | false =>
      rw [if_neg (by decide)]
      refine rX11_isLikeStored_24 ho ⟨fun _ => ⟨_, k_n ho hB1, fun _ => ⟨rfl, rfl⟩, fun c => ?_⟩, fun c => absurd (by decide) c⟩
      rw [Classical.not_not] at c
      have key : ∀ m, m < 11 → ¬ nI 0 + (-1) = nI m := by decide +kernel
      exact absurd c (key _ (by omega))
  · rw [decide_eq_false hn, Bool.false_and]
    refine ⟨D, eX11_isLikeStored ho ?_, h, fun q hq => rfl⟩
    rw [e0_, e0]
    refine ⟨vp_in_nI (by decide) (by decide), _, k_n ho hB, fun c => ?_, fun _ => ⟨rfl, rfl⟩⟩
    rw [nI_eq (by omega) (by omega)] at c; exact absurd c.symm hn
/-! scoreAt -/
theorem l_ms28 (ho : isX11 lay o) (hB : mrow (D (o + 1)) (n, be, we)) (hT : trn n be) {place p v2 : Nat} (hpl : place < 100) (hp : p < n) {Q : Option Value → am_D → Prop} (hQ : am_AW lay (d + 1) mX11_scoreAt 14 [.ref o, .int (nI place), .int (nI (if ahd be p n = place then sc be p else v2)), .int (nI (p + 1)), .null, .null, .null] [] D Q) : ∀ i, i ≤ n → am_AW lay (d + 1) mX11_scoreAt 28 [.ref o, .int (nI place), .int (nI v2), .int (nI p), .int (nI (ahd be p i)), .int (nI i), .null] [] D Q := by
  have h10 := hT.2.1
  have ale : ∀ i, ahd be p i ≤ 1 * i := fun i => sumR_le i fun q => by split <;> omega
  refine up_loop ?_ fun i hi ih => ?_
  · refine rX11_scoreAt_28 ho ⟨_, k_n ho hB, fun _ => ⟨fun c => ?_, fun c => ⟨_, k_beaten ho hB (by omega), _, k_count (msk_lt _), ?_⟩⟩, fun h => absurd (nI_le (Nat.le_refl _) (by omega)) h⟩
    · have := ale n
      rw [nI_eq (by omega) (by omega)] at c
      rw [if_neg c] at hQ
      rw [nI_add]; exact hQ
    · have := ale n
      rw [Classical.not_not, nI_eq (by omega) (by omega)] at c
      rw [if_pos c] at hQ
      rw [nI_add]; exact hQ
  · have e : ahd be p (i + 1) = ahd be p i + if sc be i < sc be p ∨ (sc be i = sc be p ∧ i < p) then 1 else 0 := rfl
    rw [e] at ih
    obtain ⟨s1, s2⟩ := sub_sgn (cnt (msk (be p))) (by have := cnt_le (msk (be p)); omega) (cnt (msk (be i))) (by have := cnt_le (msk (be i)); omega)
    have s1 : nI 0 < nI (cnt (msk (be p))) - nI (cnt (msk (be i))) ↔ sc be i < sc be p := s1
    have s2 : nI (cnt (msk (be p))) - nI (cnt (msk (be i))) = nI 0 ↔ sc be p = sc be i := s2
    refine rX11_scoreAt_28 ho ⟨_, k_n ho hB, fun h => absurd h (ge_no hi (by omega)), fun _ => ⟨_, k_beaten ho hB (by omega), _, k_count (msk_lt _), _, k_beaten ho hB (by omega), _, k_count (msk_lt _), fun c => ?_, fun c => ⟨fun c2 => ?_, fun c2 => ⟨fun c3 => ?_, fun c3 => ?_⟩⟩⟩⟩
    · rw [if_pos (Or.inl (s1.mp c))] at ih
      rw [nI_add, nI_add]; exact ih
    · rw [if_neg] at ih
      · rw [nI_add, nI_add]; exact ih
      · rintro (q | ⟨q, -⟩)
        · exact c (s1.mpr q)
        · exact c2 (s2.mpr q.symm)
    · rw [nI_leI (by omega) (by omega)] at c3
      rw [if_neg] at ih
      · rw [nI_add, nI_add]; exact ih
      · rintro (q | ⟨-, q⟩)
        · exact c (s1.mpr q)
        · omega
    · rw [nI_leI (by omega) (by omega)] at c3
      rw [Classical.not_not] at c2
      rw [if_pos (Or.inr ⟨(s2.mp c2).symm, by omega⟩)] at ih
      rw [nI_add, nI_add]; exact ih
theorem m_scoreAt (ho : isX11 lay o) (h : RM D o (T, T', H, s, t)) (hT : okT T) (v : Int32) : (isP T.1 v = false → am_MetP lay (d + 2) mX11_scoreAt [.ref o, .int v] D (-1)) ∧ ∀ p, p < T.1 → v = nI p → am_MetP lay (d + 2) mX11_scoreAt [.ref o, .int v] D (nI (fnS T.1 T.2.1 p T.1)) := by
  have h10 : T.1 ≤ 10 := hT.1.2.1
  have hB : mrow (D (o + 1)) (T.1, T.2.1, T.2.2) := h.1
  constructor
  · intro hv
    refine eX11_scoreAt ho ⟨_, k_isPlayer ho h.1 hT.1 v, fun h1 => ?_, fun _ => ⟨rfl, rfl⟩⟩
    rw [hv] at h1; exact absurd rfl h1
  · rintro p hp rfl
    refine eX11_scoreAt ho ⟨_, k_isPlayer ho h.1 hT.1 _, fun _ => ?_, fun h1 => ?_⟩
    · have hl : ∀ i, i ≤ T.1 → am_AW lay (d + 2) mX11_scoreAt 14 [.ref o, .int (nI p), .int (nI (fnS T.1 T.2.1 p i)), .int (nI i), .null, .null, .null] [] D (fun r D1 => r = some (.int (nI (fnS T.1 T.2.1 p T.1))) ∧ D1 = D) := by
        refine up_loop ?_ fun i hi ih => ?_
        · exact rX11_scoreAt_14 ho ⟨_, k_n ho hB, fun _ => ⟨rfl, rfl⟩, fun h => absurd (nI_le (Nat.le_refl _) (by omega)) h⟩
        · exact rX11_scoreAt_14 ho ⟨_, k_n ho hB, fun h => absurd h (ge_no hi (by omega)), fun _ => l_ms28 (d := d + 1) ho hB hT.1 (by omega) hi ih 0 (Nat.zero_le _)⟩
      exact hl 0 (Nat.zero_le _)
    · rw [Classical.not_not, isP_n h10 (by omega), decide_eq_true hp] at h1; cases bI_0.mp h1
end MO4
