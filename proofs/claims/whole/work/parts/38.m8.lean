/-! the model: construct -/
def gO (S : Nat) (r : Nat → Nat) (i : Nat) (v : Int32) : Prop := (v = -1 ∧ ∀ q, q < i → S.testBit q = false) ∨ (v = nI (grF r S i) ∧ ∃ q, q < i ∧ S.testBit q = true)
def sO (S : Nat) (r : Nat → Nat) (i : Nat) (v : Int32) : Prop := (v = -1 ∧ ∀ q, q < i → S.testBit q = false) ∨ (v = nI (smF r S i) ∧ ∃ q, q < i ∧ S.testBit q = true)
theorem gO_n {S : Nat} {r : Nat → Nat} {i : Nat} {v : Int32} (h : gO S r i v) (hi : S.testBit i = false) : gO S r (i + 1) v := by
  rcases h with ⟨a, b⟩ | ⟨a, q, b, c⟩
  · refine Or.inl ⟨a, fun q hq => ?_⟩
    by_cases e : q = i
    · rw [e]; exact hi
    · exact b q (by omega)
  · refine Or.inr ⟨?_, q, by omega, c⟩
    rw [a]
    show _ = nI (if S.testBit i = true ∧ _ then i else grF r S i)
    rw [if_neg (by rw [hi]; simp)]
theorem sO_n {S : Nat} {r : Nat → Nat} {i : Nat} {v : Int32} (h : sO S r i v) (hi : S.testBit i = false) : sO S r (i + 1) v := by
  rcases h with ⟨a, b⟩ | ⟨a, q, b, c⟩
  · refine Or.inl ⟨a, fun q hq => ?_⟩
    by_cases e : q = i
    · rw [e]; exact hi
    · exact b q (by omega)
  · refine Or.inr ⟨?_, q, by omega, c⟩
    rw [a]
    show _ = nI (if S.testBit i = true ∧ _ then i else smF r S i)
    rw [if_neg (by rw [hi]; simp)]
theorem gO_1 {S : Nat} {r : Nat → Nat} {i : Nat} (hS : S < 1024) (h : ∀ q, q < i → S.testBit q = false) (hi : S.testBit i = true) : gO S r (i + 1) (nI i) := by
  refine Or.inr ⟨?_, i, by omega, hi⟩
  show nI i = nI (if S.testBit i = true ∧ r (grF r S i) ≤ r i then i else grF r S i)
  have e : grF r S i = i := by rw [grF_pre i h, low_at hS hi h]
  rw [e]; simp
theorem sO_1 {S : Nat} {r : Nat → Nat} {i : Nat} (hS : S < 1024) (h : ∀ q, q < i → S.testBit q = false) (hi : S.testBit i = true) : sO S r (i + 1) (nI i) := by
  refine Or.inr ⟨?_, i, by omega, hi⟩
  show nI i = nI (if S.testBit i = true ∧ r i < r (smF r S i) then i else smF r S i)
  have e : smF r S i = i := by rw [smF_pre i h, low_at hS hi h]
  rw [e]; simp
/-- the settled ones: L, and those of S below i -/
def stX (S L i : Nat) : Nat := msk fun q => L.testBit q || (decide (q < i) && S.testBit q)
theorem stX_t {S L i q : Nat} (hq : q < 10) : (stX S L i).testBit q = (L.testBit q || (decide (q < i) && S.testBit q)) := by unfold stX; rw [msk_t, decide_eq_true hq, Bool.true_and]
theorem slF_mono {r : Nat → Nat} {S k : Nat} : ∀ j i, (slF r S k).testBit i = true → (slF r S (k + j)).testBit i = true := by
  intro j
  induction j with
  | zero => intro i h; exact h
  | succ j ih =>
    intro i h
    show (slF r S (k + j) ||| onl _).testBit i = true
    rw [Nat.testBit_or, ih i h, Bool.true_or]
section MO8
variable {lay : List am_L} {d : Nat} {D : am_D} {o n : Nat} {be : Nat → Nat → Bool} {we : Nat → Nat → Nat} {r : Nat → Nat} {T T' : am_T} {H : List am_T} {s t : List Nat}
theorem l_co71 (ho : isX11 lay o) (h4 : D o 4 = nI n) (h10 : n ≤ 10) (hr : ∀ q, q < n → D (o + 9) q = nI (r q)) (hr9 : ∀ q, r q ≤ 9) {S : Nat} (hS : S < 1024) (h0 : S ≠ 0) (hSn : ∀ i, S.testBit i = true → i < n) {Q : Option Value → am_D → Prop} (hQ : am_AW lay (d + 1) mX11_construct 131 [.ref o, .int (nI (mdf S (onl (grF r S 10)))), .int (nI (grF r S 10)), .int (nI (mdf S (onl (grF r S 10)))), .int (nI 0), .null, .null] [] D Q) : ∀ i, i ≤ n → ∀ v, gO S r i v → am_AW lay (d + 1) mX11_construct 71 [.ref o, .int (nI S), .int v, .int (nI i), .null, .null, .null] [] D Q := by
  refine up_loop ?_ fun i hi ih => ?_
  · intro v hv
    have hv2 : v = nI (grF r S 10) := by
      rcases hv with ⟨a, b⟩ | ⟨a, b⟩
      · exfalso
        obtain ⟨x, y⟩ := low_in S hS h0
        rw [b _ (hSn _ y)] at y; cases y
      · rw [a, grF_hi (r := r) 10 h10 fun q hq => by
          cases e : S.testBit q with
          | false => rfl
          | true => have := hSn q e; omega]
    subst hv2
    obtain ⟨p10, -⟩ := grF_in (r := r) hS h0 10 (Nat.le_refl _)
    refine rX11_construct_71 ho ⟨fun _ => ?_, fun c => ?_⟩
    · rw [nn_shl1 _ (by omega), nn_dif, ← onl_p p10]; exact hQ
    · rw [h4] at c; exact absurd (nI_le (Nat.le_refl _) (by omega)) c
  · intro v hv
    refine rX11_construct_71 ho ⟨fun c => ?_, fun _ => ⟨_, k_has (p := i) (by omega), fun c => ?_, fun c => ?_⟩⟩
    · rw [h4] at c; exact absurd c (ge_no hi (by omega))
    · rw [nI_add]; exact ih v (gO_n hv (bI_0.mp c))
    · have hb := bI_n0.mp c
      rcases hv with ⟨a, b⟩ | ⟨a, q, b1, b2⟩
      · subst a
        refine ⟨fun _ => ?_, fun c2 => absurd (by decide) c2⟩
        rw [nI_add]; exact ih _ (gO_1 hS b hb)
      · subst a
        have hg : ∃ q, q < i + 1 ∧ S.testBit q = true := ⟨i, by omega, hb⟩
        obtain ⟨g10, g1⟩ := grF_in (r := r) hS h0 i (by omega)
        have gn := hSn _ g1
        have e1 := hr9 i
        have e2 := hr9 (grF r S i)
        refine ⟨fun c2 => absurd c2 (nn_neg (by omega)), fun _ => ?_⟩
        rw [nI_clamp (by omega), nI_clamp (by omega), hr i hi, hr _ gn, nI_add]
        refine ⟨vp_in_nI (by omega) (by decide), vp_in_nI (by omega) (by decide), fun c2 => ?_, fun c2 => ?_⟩
        · rw [nI_ltI (by omega) (by omega)] at c2
          refine ih _ (Or.inr ⟨?_, hg⟩)
          show _ = nI (if S.testBit i = true ∧ r (grF r S i) ≤ r i then i else grF r S i)
          rw [if_neg (by omega)]
        · rw [nI_ltI (by omega) (by omega)] at c2
          refine ih _ (Or.inr ⟨?_, hg⟩)
          show _ = nI (if S.testBit i = true ∧ r (grF r S i) ≤ r i then i else grF r S i)
          rw [if_pos ⟨hb, by omega⟩]
theorem l_co148 (ho : isX11 lay o) (h4 : D o 4 = nI n) (h10 : n ≤ 10) (hr : ∀ q, q < n → D (o + 9) q = nI (r q)) (hr9 : ∀ q, r q ≤ 9) {S p k S1 : Nat} (hS : S < 1024) (h0 : S ≠ 0) (hSn : ∀ i, S.testBit i = true → i < n) {Q : Option Value → am_D → Prop} (hQ : ∃ D1, am_MetV lay d mX11_wins [.ref o, .int (nI p), .int (nI (smF r S 10))] D D1 ∧ am_AW lay (d + 1) mX11_construct 131 [.ref o, .int (nI S1), .int (nI p), .int (nI (mdf S (onl (smF r S 10)))), .int (nI (k + 1)), .null, .null] [] D1 Q) : ∀ i, i ≤ n → ∀ v, sO S r i v → am_AW lay (d + 1) mX11_construct 148 [.ref o, .int (nI S1), .int (nI p), .int (nI S), .int (nI k), .int v, .int (nI i)] [] D Q := by
  refine up_loop ?_ fun i hi ih => ?_
  · intro v hv
    have hv2 : v = nI (smF r S 10) := by
      rcases hv with ⟨a, b⟩ | ⟨a, b⟩
      · exfalso
        obtain ⟨x, y⟩ := low_in S hS h0
        rw [b _ (hSn _ y)] at y; cases y
      · rw [a, smF_hi (r := r) 10 h10 fun q hq => by
          cases e : S.testBit q with
          | false => rfl
          | true => have := hSn q e; omega]
    subst hv2
    obtain ⟨p10, -⟩ := smF_in (r := r) hS h0 10 (Nat.le_refl _)
    obtain ⟨D1, q1, q2⟩ := hQ
    refine rX11_construct_148 ho ⟨fun _ => ⟨D1, q1, ?_⟩, fun c => ?_⟩
    · rw [nn_shl1 _ (by omega), nn_dif, ← onl_p p10, nI_add]; exact q2
    · rw [h4] at c; exact absurd (nI_le (Nat.le_refl _) (by omega)) c
  · intro v hv
    refine rX11_construct_148 ho ⟨fun c => ?_, fun _ => ⟨_, k_has (p := i) (by omega), fun c => ?_, fun c => ?_⟩⟩
    · rw [h4] at c; exact absurd c (ge_no hi (by omega))
    · rw [nI_add]; exact ih v (sO_n hv (bI_0.mp c))
    · have hb := bI_n0.mp c
      rcases hv with ⟨a, b⟩ | ⟨a, q, b1, b2⟩
      · subst a
        refine ⟨fun _ => ?_, fun c2 => absurd (by decide) c2⟩
        rw [nI_add]; exact ih _ (sO_1 hS b hb)
      · subst a
        have hg : ∃ q, q < i + 1 ∧ S.testBit q = true := ⟨i, by omega, hb⟩
        obtain ⟨g10, g1⟩ := smF_in (r := r) hS h0 i (by omega)
        have gn := hSn _ g1
        have e1 := hr9 i
        have e2 := hr9 (smF r S i)
        refine ⟨fun c2 => absurd c2 (nn_neg (by omega)), fun _ => ?_⟩
        rw [nI_clamp (by omega), nI_clamp (by omega), hr i hi, hr _ gn, nI_add]
        refine ⟨vp_in_nI (by omega) (by decide), vp_in_nI (by omega) (by decide), fun c2 => ?_, fun c2 => ?_⟩
        · rw [nI_leI (by omega) (by omega)] at c2
          refine ih _ (Or.inr ⟨?_, hg⟩)
          show _ = nI (if S.testBit i = true ∧ r i < r (smF r S i) then i else smF r S i)
          rw [if_neg (by omega)]
        · rw [nI_leI (by omega) (by omega)] at c2
          refine ih _ (Or.inr ⟨?_, hg⟩)
          show _ = nI (if S.testBit i = true ∧ r i < r (smF r S i) then i else smF r S i)
          rw [if_pos ⟨hb, by omega⟩]
theorem l_co228 (ho : isX11 lay o) {S L p : Nat} (h10 : n ≤ 10) (hS : S < 1024) (hSn : ∀ i, S.testBit i = true → i < n) (hL : ∀ i, L.testBit i = true → S.testBit i = true) (hp : p < n) (hpS : S.testBit p = false) (hr9 : ∀ q, r q ≤ 9) (h1 : ∀ q, S.testBit q = true → L.testBit q = false → 1 ≤ r q) : ∀ i, i ≤ n → ∀ D, D o 4 = nI n → trn n (bK be p (stX S L i) L) → mrow (D (o + 1)) (n, bK be p (stX S L i) L, we) → (∀ q, q < n → D (o + 9) q = nI (rsI r S L i q)) →
    ∃ D1, trn n (stI be p S L 10) ∧ mrow (D1 (o + 1)) (n, stI be p S L 10, we) ∧ (∀ q, q < n → D1 (o + 9) q = nI (rsI r S L 10 q)) ∧ (∀ q, q ≠ o + 1 → q ≠ o + 9 → D1 q = D q) ∧ ∀ Q : Option Value → am_D → Prop, am_AW lay (d + 1) mX11_construct 63 [.ref o, .int (nI S), .int (nI p), .null, .null, .null, .null] [] D1 Q → am_AW lay (d + 1) mX11_construct 228 [.ref o, .int (nI S), .int (nI p), .int (nI (mdf S L)), .int (nI i), .null, .null] [] D Q := by
  refine up_loop ?_ fun i hi ih => ?_
  · intro D h4 hT hB hr
    have e1 : bK be p (stX S L n) L = stI be p S L 10 := by
      rw [← bK_all hS]
      congr 1
      refine set_ext (msk_lt _) hS fun q hq => ?_
      rw [stX_t hq]
      cases e : S.testBit q with
      | true => rw [decide_eq_true (hSn q e)]; simp
      | false =>
        rw [Bool.and_false, Bool.or_false]
        cases e2 : L.testBit q with
        | false => rfl
        | true => rw [hL q e2] at e; cases e
    have e2 : ∀ q, rsI r S L n q = rsI r S L 10 q := by
      intro q
      unfold rsI
      by_cases c : S.testBit q = true ∧ L.testBit q = false
      · rw [if_pos ⟨hSn q c.1, c⟩, if_pos ⟨by have := hSn q c.1; omega, c⟩]
      · rw [if_neg (fun h => c h.2), if_neg (fun h => c h.2)]
    rw [e1] at hT hB
    refine ⟨D, hT, hB, fun q hq => by rw [hr q hq, e2], fun _ _ _ => rfl, fun Q hQ => rX11_construct_228 ho ⟨fun _ => hQ, fun c => ?_⟩⟩
    rw [h4] at c; exact absurd (nI_le (Nat.le_refl _) (by omega)) c
  · intro D h4 hT hB hr
    have hb : (mdf S L).testBit i = (S.testBit i && !L.testBit i) := mdf_t _ _ _
    cases e : (mdf S L).testBit i with
    | false =>
      have e1 : stX S L (i + 1) = stX S L i := by
        refine set_ext (msk_lt _) (msk_lt _) fun q hq => ?_
        rw [stX_t hq, stX_t hq]
        by_cases c : q = i
        · subst c
          rw [e] at hb
          cases e3 : L.testBit q with
          | true => simp
          | false => rw [e3, Bool.not_false, Bool.and_true] at hb; rw [← hb]; simp
        · have : decide (q < i + 1) = decide (q < i) := decide_eq_decide.mpr (by omega)
          rw [this]
      have e2 : ∀ q, rsI r S L (i + 1) q = rsI r S L i q := by
        intro q
        unfold rsI
        by_cases c : q < i ∧ S.testBit q = true ∧ L.testBit q = false
        · rw [if_pos ⟨by omega, c.2⟩, if_pos c]
        · rw [if_neg c, if_neg]
          rintro ⟨c1, c2, c3⟩
          have : q = i := by
            by_cases c4 : q < i
            · exact absurd ⟨c4, c2, c3⟩ c
            · omega
          rw [this] at c2 c3
          rw [e, c2, c3] at hb; cases hb
      obtain ⟨D1, g1, g2, g3, g4, g5⟩ := ih D h4 (by rw [e1]; exact hT) (by rw [e1]; exact hB) (fun q hq => by rw [hr q hq, e2])
      refine ⟨D1, g1, g2, g3, g4, fun Q hQ => rX11_construct_228 ho ⟨fun c => ?_, fun _ => ⟨_, k_has (p := i) (by omega), fun _ => ?_, fun c => ?_⟩⟩⟩
      · rw [h4] at c; exact absurd c (ge_no hi (by omega))
      · rw [nI_add]; exact g5 Q hQ
      · rw [e] at c; exact absurd rfl c
    | true =>
      rw [e] at hb
      have hS1 : S.testBit i = true := by cases c : S.testBit i with | true => rfl | false => rw [c] at hb; cases hb
      have hL1 : L.testBit i = false := by cases c : L.testBit i with | false => rfl | true => rw [hS1, c] at hb; cases hb
      have hip : i ≠ p := fun c => by rw [c, hpS] at hS1; cases hS1
      have e1 : stX S L (i + 1) = stX S L i ||| onl i := by
        refine set_ext (msk_lt _) (or_lt (msk_lt _) (onl_lt _)) fun q hq => ?_
        rw [Nat.testBit_or, stX_t hq, stX_t hq, onl_t, decide_eq_true (by omega : i < 10), Bool.true_and]
        by_cases c : q = i
        · subst c; simp [hS1]
        · have c2 : ¬ i = q := fun h => c h.symm
          have : decide (q < i + 1) = decide (q < i) := decide_eq_decide.mpr (by omega)
          rw [this, decide_eq_false c2, Bool.or_false]
      have hX : (stX S L i).testBit p = false := by
        rw [stX_t (by omega), hpS, Bool.and_false, Bool.or_false]
        cases c : L.testBit p with
        | false => rfl
        | true => rw [hL p c] at hpS; cases hpS
      obtain ⟨D2, r0, r1, r2⟩ := k_wins (d := d) ho hB hT hi hp hip
      have hT2 := stw_trn hT hi hp hip
      rw [bK_n hL1 hX hip (by omega), ← e1] at r1 hT2
      have hri : rsI r S L i i = r i := by unfold rsI; rw [if_neg (by omega)]
      have hpos := h1 i hS1 hL1
      obtain ⟨D1, g1, g2, g3, g4, g5⟩ := ih (am_up D2 (o + 9) i (nI (r i - 1))) (by rw [am_up_ne o (by omega), r2 o (by omega)]; exact h4) hT2 (by rw [am_up_ne (o + 1) (by omega)]; exact r1) (fun q hq => by
        rw [am_upI]
        by_cases c : q = i
        · rw [if_pos c]
          unfold rsI
          rw [if_pos ⟨by omega, by rw [c]; exact hS1, by rw [c]; exact hL1⟩, c]
        · rw [if_neg c, r2 (o + 9) (by omega), hr q hq]
          unfold rsI
          by_cases c2 : q < i ∧ S.testBit q = true ∧ L.testBit q = false
          · rw [if_pos c2, if_pos ⟨by omega, c2.2⟩]
          · rw [if_neg c2, if_neg (fun h => c2 ⟨by omega, h.2⟩)])
      refine ⟨D1, g1, g2, g3, fun q h1 h2 => by rw [g4 q h1 h2, am_up_ne q h2, r2 q h1], fun Q hQ => rX11_construct_228 ho ⟨fun c => ?_, fun _ => ⟨_, k_has (p := i) (by omega), fun c => ?_, fun _ => ⟨D2, r0, vp_in_nI (by omega) (by decide), vp_in_nI (by omega) (by decide), ?_⟩⟩⟩⟩
      · rw [h4] at c; exact absurd c (ge_no hi (by omega))
      · rw [e] at c; exact absurd c (by decide)
      · rintro D3 rfl
        rw [nI_clamp (by omega), r2 (o + 9) (by omega), hr i hi, hri, nn_sub hpos, nI_add]
        exact g5 Q hQ
theorem l_co131 (ho : isX11 lay o) {S p : Nat} (h10 : n ≤ 10) (hS : S < 1024) (hSn : ∀ i, S.testBit i = true → i < n) (hp : p < n) (hpS : S.testBit p = false) (hr9 : ∀ q, r q ≤ 9) (hle : r p ≤ cnt S) (h1 : ∀ q, S.testBit q = true → (slF r S (r p)).testBit q = false → 1 ≤ r q) : ∀ k, k ≤ r p → ∀ D, D o 4 = nI n → trn n (bK be p (slF r S k) (slF r S (r p))) → mrow (D (o + 1)) (n, bK be p (slF r S k) (slF r S (r p)), we) → (∀ q, q < n → D (o + 9) q = nI (r q)) →
    ∃ D1, trn n (stI be p S (slF r S (r p)) 10) ∧ mrow (D1 (o + 1)) (n, stI be p S (slF r S (r p)) 10, we) ∧ (∀ q, q < n → D1 (o + 9) q = nI (rsI r S (slF r S (r p)) 10 q)) ∧ (∀ q, q ≠ o + 1 → q ≠ o + 9 → D1 q = D q) ∧ ∀ Q : Option Value → am_D → Prop, am_AW lay (d + 1) mX11_construct 63 [.ref o, .int (nI S), .int (nI p), .null, .null, .null, .null] [] D1 Q → am_AW lay (d + 1) mX11_construct 131 [.ref o, .int (nI S), .int (nI p), .int (nI (mdf S (slF r S k))), .int (nI k), .null, .null] [] D Q := by
  have r9 := hr9 p
  refine up_loop ?_ fun k hk ih => ?_
  · intro D h4 hT hB hr
    have eX : stX S (slF r S (r p)) 0 = slF r S (r p) := by
      refine set_ext (msk_lt _) (slF_lt _) fun q hq => ?_
      rw [stX_t hq]; simp
    obtain ⟨D1, g1, g2, g3, g4, g5⟩ := l_co228 (d := d) (be := be) (we := we) ho h10 hS hSn (slF_sub hS (r p)) hp hpS hr9 h1 0 (Nat.zero_le _) D h4 (by rw [eX]; exact hT) (by rw [eX]; exact hB) (fun q hq => by rw [hr q hq]; unfold rsI; rw [if_neg (by omega)])
    refine ⟨D1, g1, g2, g3, g4, fun Q hQ => rX11_construct_131 ho ?_⟩
    rw [nI_clamp (by omega), hr p hp]
    exact ⟨vp_in_nI (by omega) (by decide), fun _ => g5 Q hQ, fun c => absurd (nI_le (Nat.le_refl _) (by omega)) c⟩
  · intro D h4 hT hB hr
    have hO : mdf S (slF r S k) < 1024 := mdf_lt hS
    obtain ⟨ck, -⟩ := slF_ok (r := r) hS k (by omega)
    have h0 : mdf S (slF r S k) ≠ 0 := by
      intro e
      have : cnt S ≤ cnt (slF r S k) := cnt_mono fun q hq hs => by
        cases c : (slF r S k).testBit q with
        | true => rfl
        | false =>
          have : (mdf S (slF r S k)).testBit q = true := by rw [mdf_t, hs, c]; rfl
          rw [e] at this; simp at this
      omega
    have hOn : ∀ i, (mdf S (slF r S k)).testBit i = true → i < n := fun i hi => by rw [mdf_t, Bool.and_eq_true] at hi; exact hSn i hi.1
    obtain ⟨x10, hx⟩ := smF_in (r := r) hO h0 10 (Nat.le_refl _)
    have xn := hOn _ hx
    have hxS : S.testBit (smF r (mdf S (slF r S k)) 10) = true := by rw [mdf_t, Bool.and_eq_true] at hx; exact hx.1
    have hxp : smF r (mdf S (slF r S k)) 10 ≠ p := fun c => by rw [c, hpS] at hxS; cases hxS
    have es : slF r S (k + 1) = slF r S k ||| onl (smF r (mdf S (slF r S k)) 10) := rfl
    have hxL : (slF r S (r p)).testBit (smF r (mdf S (slF r S k)) 10) = true := by
      have h2 : (slF r S (k + 1)).testBit (smF r (mdf S (slF r S k)) 10) = true := by
        rw [es, Nat.testBit_or, onl_t, decide_eq_true x10]; simp
      have := slF_mono (r := r) (S := S) (k := k + 1) (r p - (k + 1)) _ h2
      rwa [show k + 1 + (r p - (k + 1)) = r p by omega] at this
    have hXp : (slF r S k).testBit p = false := by
      cases c : (slF r S k).testBit p with
      | false => rfl
      | true => rw [slF_sub hS k p c] at hpS; cases hpS
    obtain ⟨D2, r0, r1, r2⟩ := k_wins (d := d) ho hB hT hp xn (Ne.symm hxp)
    have hT2 := stw_trn hT hp xn (Ne.symm hxp)
    rw [bK_y hxL hXp hxp x10, ← es] at r1 hT2
    obtain ⟨D1, g1, g2, g3, g4, g5⟩ := ih D2 (by rw [r2 o (by omega)]; exact h4) hT2 r1 (fun q hq => by rw [r2 (o + 9) (by omega)]; exact hr q hq)
    refine ⟨D1, g1, g2, g3, fun q h1 h2 => by rw [g4 q h1 h2, r2 q h1], fun Q hQ => rX11_construct_131 ho ?_⟩
    rw [nI_clamp (by omega), hr p hp]
    refine ⟨vp_in_nI (by omega) (by decide), fun c => absurd c (ge_no hk (by omega)), fun _ => ?_⟩
    refine l_co148 ho h4 h10 hr hr9 hO h0 hOn ⟨D2, r0, ?_⟩ 0 (Nat.zero_le _) (-1) (Or.inl ⟨rfl, fun q hq => absurd hq (Nat.not_lt_zero q)⟩)
    rw [mdf_mdf, ← es]
    exact g5 Q hQ
theorem l_co63 (ho : isX11 lay o) (h9 : ∀ x ∈ s, x ≤ 9) (hN : s.length ≤ 10) (hf : failAt (smallSum s) s.length s.length 1 = 0) : ∀ j k v2 D, k + j = 10 → cnt (csR s k).1 ≤ j → D o 4 = nI s.length → trn s.length (csR s k).2.2 → mrow (D (o + 1)) (s.length, (csR s k).2.2, we) → (∀ q, q < s.length → D (o + 9) q = nI ((csR s k).2.1 q)) →
    ∃ D1, trn s.length (csF s) ∧ mrow (D1 (o + 1)) (s.length, csF s, we) ∧ (∀ q, q ≠ o + 1 → q ≠ o + 9 → D1 q = D q) ∧ ∀ Q : Option Value → am_D → Prop, Q (some (.int (nI s.length))) D1 → am_AW lay (d + 1) mX11_construct 63 [.ref o, .int (nI (csR s k).1), .int v2, .null, .null, .null, .null] [] D Q := by
  have done : ∀ k v2 D, (csR s k).1 = 0 → k ≤ 10 → D o 4 = nI s.length → trn s.length (csR s k).2.2 → mrow (D (o + 1)) (s.length, (csR s k).2.2, we) → ∃ D1, trn s.length (csF s) ∧ mrow (D1 (o + 1)) (s.length, csF s, we) ∧ (∀ q, q ≠ o + 1 → q ≠ o + 9 → D1 q = D q) ∧ ∀ Q : Option Value → am_D → Prop, Q (some (.int (nI s.length))) D1 → am_AW lay (d + 1) mX11_construct 63 [.ref o, .int (nI (csR s k).1), .int v2, .null, .null, .null, .null] [] D Q := by
    intro k v2 D hz hk h4 hT hB
    have e : (csR s k).2.2 = csF s := by
      unfold csF
      have := csR_stay hz (10 - k)
      rw [show k + (10 - k) = 10 by omega] at this
      rw [this]
    rw [e] at hT hB
    refine ⟨D, hT, hB, fun _ _ _ => rfl, fun Q hQ => rX11_construct_63 ho ⟨fun _ => ?_, fun c => ?_⟩⟩
    · rw [h4]; exact hQ
    · rw [hz] at c; exact absurd rfl c
  intro j
  induction j with
  | zero =>
    intro k v2 D hk hc h4 hT hB hr
    obtain ⟨-, a2, -, -⟩ := run_ok h9 hN hf k
    exact done k v2 D (cnt_0 _ a2 (by omega)) (by omega) h4 hT hB
  | succ j ih =>
    intro k v2 D hk hc h4 hT hB hr
    by_cases hz : (csR s k).1 = 0
    · exact done k v2 D hz (by omega) h4 hT hB
    · obtain ⟨a1, a2, a3, a4⟩ := run_ok h9 hN hf k
      obtain ⟨t1, t2⟩ := run_turn a1 a2 hz
      have en : csR s (k + 1) = csN (csR s k) := rfl
      unfold csN at en
      rw [if_neg hz] at en
      have ih := ih (k + 1)
      rw [en] at ih
      generalize csR s k = st at *
      obtain ⟨S, r, be⟩ := st
      obtain ⟨p10, hp⟩ := grF_in (r := r) a2 hz 10 (Nat.le_refl _)
      have pn := a3 _ hp
      have hS' : mdf S (onl (grF r S 10)) < 1024 := mdf_lt a2
      have hSn' : ∀ i, (mdf S (onl (grF r S 10))).testBit i = true → i < s.length := fun i hi => by rw [mdf_t, Bool.and_eq_true] at hi; exact a3 i hi.1
      have hpS : (mdf S (onl (grF r S 10))).testBit (grF r S 10) = false := by rw [mdf_t, onl_t, decide_eq_true p10]; simp
      have e0 : bK be (grF r S 10) (slF r (mdf S (onl (grF r S 10))) 0) (slF r (mdf S (onl (grF r S 10))) (r (grF r S 10))) = be := bK_0
      obtain ⟨D2, g1, g2, g3, g4, g5⟩ := l_co131 (d := d) (be := be) (we := we) ho hN hS' hSn' pn hpS a4 t1 t2 0 (Nat.zero_le _) D h4 (by rw [e0]; exact hT) (by rw [e0]; exact hB) hr
      have c1 : cnt (mdf S (onl (grF r S 10))) + 1 = cnt S := cnt_without S a2 _ p10 hp
      obtain ⟨D1, i1, i2, i3, i4⟩ := ih (nI (grF r S 10)) D2 (by omega) (by have hc : cnt S ≤ j + 1 := hc; show cnt (mdf S (onl (grF r S 10))) ≤ j; omega) (by rw [g4 o (by omega) (by omega)]; exact h4) g1 g2 g3
      refine ⟨D1, i1, i2, fun q h1 h2 => by rw [i3 q h1 h2, g4 q h1 h2], fun Q hQ => rX11_construct_63 ho ⟨fun c => ?_, fun _ => ?_⟩⟩
      · rw [nI_eq (by omega) (by decide)] at c; exact absurd c hz
      · have e2 : mdf (mdf S (onl (grF r S 10))) (slF r (mdf S (onl (grF r S 10))) 0) = mdf S (onl (grF r S 10)) := by
          refine set_ext (mdf_lt hS') hS' fun q _ => ?_
          rw [mdf_t]; simp [slF]
        rw [e2] at g5
        exact l_co71 ho h4 hN hr a4 a2 hz a3 (g5 Q (i4 Q hQ)) 0 (Nat.zero_le _) (-1) (Or.inl ⟨rfl, fun q hq => absurd hq (Nat.not_lt_zero q)⟩)
theorem m_construct_no (ho : isX11 lay o) (h : RM D o (T, T', H, s, t)) (h9 : ∀ x ∈ s, x ≤ 9) (hc : ¬ chkSeq s = nI 0) : am_MetI lay (d + 3) mX11_construct [.ref o] D (-2) D := by
  have hs : mSq D o s := h.2.2.2.1
  have h10 := hs.1
  have hlen : D o 4 = nI s.length := hs.2.1
  refine eX11_construct ho ⟨fun _ => ⟨rfl, rfl⟩, fun c => ⟨_, k_fails (d := d + 1) ho hs h9, fun c2 => ?_, fun _ => ⟨rfl, rfl⟩⟩⟩
  exfalso
  apply hc
  rw [hlen, nI_ltI (by omega) (by decide)] at c
  unfold chkSeq
  rw [if_neg (by omega)]; exact c2
theorem chk_fail {s : List Nat} (h : chkSeq s = nI 0) : 2 ≤ s.length ∧ failAt (smallSum s) s.length s.length 1 = 0 ∨ ∃ m, m ≠ 0 ∧ nI m = nI 0 ∧ failAt (smallSum s) s.length s.length 1 = m := by
  unfold chkSeq at h
  by_cases c : s.length < 2
  · rw [if_pos c] at h; exact absurd h (by decide)
  · rw [if_neg c] at h
    by_cases e : failAt (smallSum s) s.length s.length 1 = 0
    · exact Or.inl ⟨by omega, e⟩
    · exact Or.inr ⟨_, e, h, rfl⟩
theorem failAt_le {f : Nat → Nat} {n : Nat} : ∀ j k, failAt f n j k ≤ k + j := by
  intro j
  induction j with
  | zero => intro k; exact Nat.zero_le _
  | succ j ih =>
    intro k
    show (if _ then k else failAt f n j (k + 1)) ≤ _
    split
    · omega
    · have := ih (k + 1); omega
theorem chk_ok {s : List Nat} (hN : s.length ≤ 10) (h : chkSeq s = nI 0) : 2 ≤ s.length ∧ failAt (smallSum s) s.length s.length 1 = 0 := by
  rcases chk_fail h with h | ⟨m, h1, h2, h3⟩
  · exact h
  · have := failAt_le (f := smallSum s) (n := s.length) s.length 1
    rw [h3] at this
    rw [nI_eq (by omega) (by decide)] at h2
    exact absurd h2 h1
theorem m_construct (ho : isX11 lay o) (h : RM D o (T, T', H, s, t)) (h9 : ∀ x ∈ s, x ≤ 9) (hc : chkSeq s = nI 0) : ∃ D1, am_MetI lay (d + 3) mX11_construct [.ref o] D (nI s.length) D1 ∧ RM D1 o ((s.length, csF s, fun _ _ => 1), T', pushH H T, s, t) ∧ onlyM D D1 o := by
  have hs : mSq D o s := h.2.2.2.1
  have h10 := hs.1
  have hlen : D o 4 = nI s.length := hs.2.1
  obtain ⟨c1, c2⟩ := chk_ok h10 hc
  obtain ⟨D2, r0, r1, r2⟩ := m_keeps (d := d + 2) ho h
  have hs2 : mSq D2 o s := r1.2.2.2.1
  obtain ⟨D3, b0, b1, b2⟩ := k_begins (d := d + 1) (D := D2) (n := s.length) ho h10
  -- the rests
  have loop : ∀ i, i ≤ s.length → ∀ D, (∀ q, q ≠ o + 9 → D q = D3 q) → (∀ q, q < i → D (o + 9) q = nI (s.getD q 0)) → ∃ D1, (∀ q, q ≠ o + 9 → D1 q = D3 q) ∧ (∀ q, q < s.length → D1 (o + 9) q = nI (s.getD q 0)) ∧ ∀ Q : Option Value → am_D → Prop, am_AW lay (d + 3) mX11_construct 63 [.ref o, .int (nI (ful s.length)), .int (nI s.length), .null, .null, .null, .null] [] D1 Q → am_AW lay (d + 3) mX11_construct 37 [.ref o, .int (nI (ful s.length)), .int (nI i), .null, .null, .null, .null] [] D Q := by
    refine up_loop ?_ fun i hi ih => ?_
    · intro D hD hr
      have h4 : D o 4 = nI s.length := by rw [hD o (by omega), b2 o (by omega)]; exact hs2.2.1
      refine ⟨D, hD, hr, fun Q hQ => rX11_construct_37 ho ⟨fun _ => hQ, fun c => ?_⟩⟩
      rw [h4] at c; exact absurd (nI_le (Nat.le_refl _) (by omega)) c
    · intro D hD hr
      have h4 : D o 4 = nI s.length := by rw [hD o (by omega), b2 o (by omega)]; exact hs2.2.1
      have hv : D (o + 4) i = nI (s.getD i 0) := by rw [hD (o + 4) (by omega), b2 (o + 4) (by omega)]; exact hs2.at hi
      obtain ⟨D1, g1, g2, g3⟩ := ih (am_up D (o + 9) i (nI (s.getD i 0))) (fun q hq => by rw [am_up_ne q hq, hD q hq]) (fun q hq => by
        rw [am_upI]
        by_cases c : q = i
        · rw [if_pos c, c]
        · rw [if_neg c]; exact hr q (by omega))
      refine ⟨D1, g1, g2, fun Q hQ => rX11_construct_37 ho ⟨fun c => ?_, fun _ => ?_⟩⟩
      · rw [h4] at c; exact absurd c (ge_no hi (by omega))
      · rw [nI_clamp (by omega), hv, nI_add]
        refine ⟨vp_in_nI (by omega) (by decide), vp_in_nI (by omega) (by decide), ?_⟩
        rintro D5 rfl
        exact g3 Q hQ
  obtain ⟨D4, l1, l2, l3⟩ := loop 0 (Nat.zero_le _) D3 (fun _ _ => rfl) (fun q hq => absurd hq (Nat.not_lt_zero q))
  have hB4 : mrow (D4 (o + 1)) (s.length, (csR s 0).2.2, fun _ _ => 1) := by rw [l1 (o + 1) (by omega)]; exact b1
  obtain ⟨D5, e1, e2, e3, e4⟩ := l_co63 (d := d + 2) (we := fun _ _ => 1) ho h9 h10 c2 10 0 (nI s.length) D4 rfl (by show cnt (ful s.length) ≤ 10; exact cnt_le _) (by rw [l1 o (by omega), b2 o (by omega)]; exact hs2.2.1) (bg0_trn c1 h10) hB4 l2
  refine ⟨D5, eX11_construct ho ⟨fun c => ?_, fun _ => ⟨_, k_fails (d := d + 1) ho hs h9, fun _ => ⟨D2, r0, D3, ?_, _, k_all ho b1 h10, l3 _ (e4 _ ⟨rfl, rfl⟩)⟩, fun c => ?_⟩⟩, r1.now e2 fun q _ hq h => ?_, fun q hq => ?_⟩
  · rw [hlen, nI_ltI (by omega) (by decide)] at c; omega
  · rw [hs2.2.1]; exact b0
  · rw [c2] at c; exact absurd rfl c
  · rw [e3 q h (by omega), l1 q (by omega), b2 q h]
  · rw [e3 q (by omega) (by omega), l1 q (by omega), b2 q (by omega), r2 q (by omega) (by omega)]
end MO8
