/-! the model: components -/
section MO10
variable {lay : List am_L} {d : Nat} {D : am_D} {o n : Nat} {be : Nat → Nat → Bool} {we : Nat → Nat → Nat} {T T' : am_T} {H : List am_T} {s t : List Nat}
def rchD (D : am_D) (o n : Nat) (be : Nat → Nat → Bool) : Prop := ∀ p, p < n → D (o + 8) p = nI (rb n be p)
theorem k_isLowest (ho : isX11 lay o) (h10 : n ≤ 10) (hR : rchD D o n be) {p : Nat} (hp : p < n) : am_MetP lay (d + 1) mX11_isLowest [.ref o, .int (nI p)] D (bI (lwB n be p)) := by
  let g : Nat → Bool := fun i => (List.range i).all fun q => !((rb n be p).testBit q && (rb n be q).testBit p)
  have gs : ∀ i, g (i + 1) = (g i && !((rb n be p).testBit i && (rb n be i).testBit p)) := by
    intro i
    show (List.range (i + 1)).all _ = _
    rw [List.range_succ, List.all_append]; simp [g]
  have hl : ∀ i, i ≤ p → am_AW lay (d + 1) mX11_isLowest 4 [.ref o, .int (nI p), .int (bI (g i)), .int (nI i)] [] D (fun r D1 => r = some (.int (bI (g p))) ∧ D1 = D) := by
    refine up_loop ?_ fun i hi ih => ?_
    · exact rX11_isLowest_4 ho ⟨fun _ => ⟨bI_nar _, rfl, rfl⟩, fun h => absurd (nI_le (Nat.le_refl _) (by omega)) h⟩
    · rw [gs] at ih
      refine rX11_isLowest_4 ho ⟨fun h => absurd h (ge_no hi (by omega)), fun _ => ⟨fun c => ?_, fun c => ?_⟩⟩
      · rw [bI_0.mp c, Bool.false_and] at ih
        rw [nI_add]; exact ih
      · rw [bI_n0.mp c, Bool.true_and] at ih
        rw [nI_clamp (by omega), nI_clamp (by omega), hR p hp, hR i (by omega), nI_add]
        refine ⟨vp_in_nI (by omega) (by decide), _, k_has (by omega), fun c2 => ?_, fun c2 => ⟨vp_in_nI (by omega) (by decide), _, k_has (by omega), fun c3 => ?_, fun c3 => ?_⟩⟩
        · rw [bI_0.mp c2, Bool.false_and] at ih; exact ih
        · rw [bI_n0.mp c2, bI_n0.mp c3] at ih; exact ih
        · rw [Classical.not_not] at c3
          rw [bI_n0.mp c2, bI_0.mp c3] at ih; exact ih
  exact eX11_isLowest ho (hl 0 (Nat.zero_le _))
def cmA (n : Nat) (be : Nat → Nat → Bool) (p i : Nat) : Nat := sumR (fun q => if lwB n be q && ((rb n be q).testBit p && !(rb n be p).testBit q) then 1 else 0) i
theorem k_componentAt (ho : isX11 lay o) (hB : mrow (D (o + 1)) (n, be, we)) (h10 : n ≤ 10) (hR : rchD D o n be) {p : Nat} (hp : p < n) : am_MetP lay (d + 2) mX11_componentAt [.ref o, .int (nI p)] D (nI (cmA n be p n)) := by
  have hl : ∀ i, i ≤ n → am_AW lay (d + 2) mX11_componentAt 4 [.ref o, .int (nI p), .int (nI (cmA n be p i)), .int (nI i)] [] D (fun r D1 => r = some (.int (nI (cmA n be p n))) ∧ D1 = D) := by
    refine up_loop ?_ fun i hi ih => ?_
    · exact rX11_componentAt_4 ho ⟨_, k_n ho hB, fun _ => ⟨rfl, rfl⟩, fun h => absurd (nI_le (Nat.le_refl _) (by omega)) h⟩
    · have e : cmA n be p (i + 1) = cmA n be p i + if lwB n be i && ((rb n be i).testBit p && !(rb n be p).testBit i) then 1 else 0 := rfl
      rw [e] at ih
      refine rX11_componentAt_4 ho ⟨_, k_n ho hB, fun h => absurd h (ge_no hi (by omega)), fun _ => ⟨_, k_isLowest ho h10 hR hi, fun c => ?_, fun c => ?_⟩⟩
      · rw [bI_0.mp c] at ih
        rw [nI_add, nI_add]; exact ih
      · rw [bI_n0.mp c] at ih
        rw [nI_clamp (by omega), nI_clamp (by omega), hR p hp, hR i (by omega), nI_add, nI_add, nI_add]
        refine ⟨vp_in_nI (by omega) (by decide), _, k_has (by omega), fun c2 => ?_, fun c2 => ⟨vp_in_nI (by omega) (by decide), _, k_has (by omega), fun c3 => ?_, fun c3 => ?_⟩⟩
        · rw [bI_0.mp c2] at ih; exact ih
        · rw [bI_n0.mp c2, bI_n0.mp c3] at ih; exact ih
        · rw [Classical.not_not] at c3
          rw [bI_n0.mp c2, bI_0.mp c3] at ih; exact ih
  exact eX11_componentAt ho (hl 0 (Nat.zero_le _))
theorem cmA_lv (hT : trn n be) {p : Nat} (hp : p < n) : cmA n be p n = lv n be p := by
  rw [← lw_sum hT (lv n be p) (Nat.le_of_lt (lvl_lt hT hp))]
  refine sumR_congr n fun q hq => ?_
  cases c : lwB n be q with
  | false => rfl
  | true =>
    rw [Bool.true_and, Bool.true_and]
    by_cases e : lv n be q < lv n be p
    · have h1 := (rb_lv hT hq hp).mpr (by omega)
      have h2 : (rb n be p).testBit q = false := by
        cases c2 : (rb n be p).testBit q with
        | false => rfl
        | true => have := (rb_lv hT hp hq).mp c2; omega
      rw [h1, h2, decide_eq_true e]; rfl
    · have h1 := (rb_lv hT hp hq).mpr (by omega)
      rw [h1, decide_eq_false e, Bool.not_true, Bool.and_false]
theorem m_components (ho : isX11 lay o) (h : RM D o (T, T', H, s, t)) (hT : okT T) : ∃ D1, am_MetI lay (d + 2) mX11_components [.ref o] D (nI (cpt T.1 T.2.1 10 0)) D1 ∧ RM D1 o (T, T', H, s, t) ∧ onlyM D D1 o := by
  have h10 : T.1 ≤ 10 := hT.1.2.1
  have hB : mrow (D (o + 1)) (T.1, T.2.1, T.2.2) := h.1
  obtain ⟨D1, g1, g2, g3⟩ := k_reaches (d := d) ho hB hT.1
  have hB1 : mrow (D1 (o + 1)) (T.1, T.2.1, T.2.2) := by rw [g3 (o + 1) (by omega)]; exact hB
  refine ⟨D1, eX11_components ho ⟨D1, g1, ?_⟩, h.scr fun q _ hq => g3 q (by omega), fun q hq => g3 q (by omega)⟩
  have e0 : cpt T.1 T.2.1 10 0 = sumR (fun p => if lwB T.1 T.2.1 p then 1 else 0) T.1 := by
    have := lw_sum hT.1 (cpt T.1 T.2.1 10 0) (Nat.le_refl _)
    refine this.symm.trans (sumR_congr _ fun p hp => ?_)
    rw [decide_eq_true (lvl_lt hT.1 hp), Bool.and_true]
  have hl : ∀ i, i ≤ T.1 → am_AW lay (d + 2) mX11_components 8 [.ref o, .int (nI (sumR (fun p => if lwB T.1 T.2.1 p then 1 else 0) i)), .int (nI i)] [] D1 (fun r D2 => r = some (.int (nI (cpt T.1 T.2.1 10 0))) ∧ D2 = D1) := by
    refine up_loop ?_ fun i hi ih => ?_
    · exact rX11_components_8 ho ⟨_, k_n ho hB1, fun _ => ⟨by rw [e0], rfl⟩, fun h => absurd (nI_le (Nat.le_refl _) (by omega)) h⟩
    · have e : sumR (fun p => if lwB T.1 T.2.1 p then 1 else 0) (i + 1) = sumR (fun p => if lwB T.1 T.2.1 p then 1 else 0) i + if lwB T.1 T.2.1 i then 1 else 0 := rfl
      rw [e] at ih
      refine rX11_components_8 ho ⟨_, k_n ho hB1, fun h => absurd h (ge_no hi (by omega)), fun _ => ⟨_, k_isLowest ho h10 g2 hi, fun c => ?_, fun c => ?_⟩⟩
      · rw [bI_0.mp c] at ih
        rw [nI_add, nI_add]; exact ih
      · rw [bI_n0.mp c] at ih
        rw [nI_add, nI_add]; exact ih
  exact hl 0 (Nat.zero_le _)
theorem m_componentOf (ho : isX11 lay o) (h : RM D o (T, T', H, s, t)) (hT : okT T) (v : Int32) : (isP T.1 v = false → am_MetI lay (d + 3) mX11_componentOf [.ref o, .int v] D (-1) D) ∧ ∀ p, p < T.1 → v = nI p → ∃ D1, am_MetI lay (d + 3) mX11_componentOf [.ref o, .int v] D (nI (pnm T.1 T.2.1 p 10 0)) D1 ∧ RM D1 o (T, T', H, s, t) ∧ onlyM D D1 o := by
  have h10 : T.1 ≤ 10 := hT.1.2.1
  have hB : mrow (D (o + 1)) (T.1, T.2.1, T.2.2) := h.1
  constructor
  · intro hv
    refine eX11_componentOf ho ⟨_, k_isPlayer ho h.1 hT.1 v, fun h1 => ?_, fun _ => ⟨rfl, rfl⟩⟩
    rw [hv] at h1; exact absurd rfl h1
  · rintro p hp rfl
    obtain ⟨D1, g1, g2, g3⟩ := k_reaches (d := d + 1) ho hB hT.1
    have hB1 : mrow (D1 (o + 1)) (T.1, T.2.1, T.2.2) := by rw [g3 (o + 1) (by omega)]; exact hB
    have hc := k_componentAt (d := d) ho hB1 h10 g2 hp
    rw [cmA_lv hT.1 hp] at hc
    refine ⟨D1, eX11_componentOf ho ⟨_, k_isPlayer ho h.1 hT.1 _, fun _ => ⟨D1, g1, _, hc, rfl, rfl⟩, fun h1 => ?_⟩, h.scr fun q _ hq => g3 q (by omega), fun q hq => g3 q (by omega)⟩
    rw [Classical.not_not, isP_n h10 (by omega), decide_eq_true hp] at h1; cases bI_0.mp h1
end MO10
/-! paths of a whole set, by their first player -/
def pf (be : Nat → Nat → Bool) (s p : Nat) : Nat :=
  if h : p < 10 ∧ s.testBit p = true then (if mdf s (onl p) = 0 then 1 else sumR (fun q => if (mdf s (onl p)).testBit q && be p q then pf be (mdf s (onl p)) q else 0) 10) else 0
termination_by s
decreasing_by exact mdf_dec h
theorem pf_0 {be : Nat → Nat → Bool} {s p : Nat} (h : ¬ (p < 10 ∧ s.testBit p = true)) : pf be s p = 0 := by
  rw [pf, dif_neg h]
theorem pf_1 {be : Nat → Nat → Bool} {s p : Nat} (h : p < 10 ∧ s.testBit p = true) (h0 : mdf s (onl p) = 0) : pf be s p = 1 := by
  rw [pf, dif_pos h, if_pos h0]
theorem pf_s {be : Nat → Nat → Bool} {s p : Nat} (h : p < 10 ∧ s.testBit p = true) (h0 : mdf s (onl p) ≠ 0) : pf be s p = sumR (fun q => if (mdf s (onl p)).testBit q && be p q then pf be (mdf s (onl p)) q else 0) 10 := by
  rw [pf, dif_pos h, if_neg h0]
def fac : Nat → Nat
  | 0 => 1
  | k + 1 => (k + 1) * fac k
theorem cnt_pos {s : Nat} (hs : s < 1024) (h : s ≠ 0) : cnt s ≠ 0 := fun e => h (cnt_0 s hs e)
theorem sumR_bd {f : Nat → Nat} {c s : Nat} (hf : ∀ q, q < 10 → f q ≤ if s.testBit q = true then c else 0) : sumR f 10 ≤ c * cnt s := by
  rw [← sumB_const]
  exact sumR_mono 10 hf
theorem pf_le {be : Nat → Nat → Bool} : ∀ c s p, s < 1024 → cnt s = c + 1 → pf be s p ≤ fac c := by
  intro c
  induction c with
  | zero =>
    intro s p hs hc
    by_cases h : p < 10 ∧ s.testBit p = true
    · have c1 := cnt_without s hs p h.1 h.2
      rw [pf_1 h (cnt_0 _ (mdf_lt hs) (by omega))]; exact Nat.le_refl _
    · rw [pf_0 h]; exact Nat.zero_le _
  | succ c ih =>
    intro s p hs hc
    by_cases h : p < 10 ∧ s.testBit p = true
    · have c1 := cnt_without s hs p h.1 h.2
      have h0 : mdf s (onl p) ≠ 0 := fun e => by rw [e] at c1; rw [cntz_] at c1; omega
      rw [pf_s h h0]
      have := sumR_bd (f := fun q => if (mdf s (onl p)).testBit q && be p q then pf be (mdf s (onl p)) q else 0) (c := fac c) (s := mdf s (onl p)) fun q hq => by
        cases e : (mdf s (onl p)).testBit q with
        | false => simp
        | true =>
          rw [Bool.true_and, if_pos rfl]
          split
          · exact ih _ q (mdf_lt hs) (by omega)
          · exact Nat.zero_le _
      rw [show cnt (mdf s (onl p)) = c + 1 by omega, Nat.mul_comm] at this
      exact this
    · rw [pf_0 h]; exact Nat.zero_le _
theorem fac_le : ∀ c, c ≤ 9 → fac c ≤ 362880 := by decide +kernel
theorem pf_small {be : Nat → Nat → Bool} {s p : Nat} (hs : s < 1024) : pf be s p ≤ 362880 := by
  by_cases h0 : s = 0
  · rw [h0, pf_0 (by simp)]; exact Nat.zero_le _
  · have h1 := cnt_pos hs h0
    have h2 := cnt_le s
    obtain ⟨c, hc⟩ : ∃ c, cnt s = c + 1 := ⟨cnt s - 1, by omega⟩
    exact Nat.le_trans (pf_le c s p hs hc) (fac_le c (by omega))
/-- a set has such a path from p just if p is in its first component -/
theorem pf_pos {n : Nat} {be : Nat → Nat → Bool} (hT : trn n be) : ∀ c s p, cnt s = c + 1 → (∀ x, s.testBit x = true → x < n) → s < 1024 → (pf be s p ≠ 0 ↔ (topA n be s).testBit p = true) := by
  have h10 := hT.2.1
  intro c
  induction c with
  | zero =>
    intro s p hc hin hs
    have hne : s ≠ 0 := fun e => by rw [e, cntz_] at hc; omega
    obtain ⟨d1, d2, d3⟩ := topA_dmn hT hin (ne_ex hs hne)
    by_cases h : p < 10 ∧ s.testBit p = true
    · have c1 := cnt_without s hs p h.1 h.2
      have h0 := cnt_0 _ (mdf_lt hs) (show cnt (mdf s (onl p)) = 0 by omega)
      rw [pf_1 h h0]
      refine ⟨fun _ => ?_, fun _ => by decide⟩
      obtain ⟨x, hx⟩ := d1
      have hx2 := d2 x hx
      by_cases e : x = p
      · rw [← e]; exact hx
      · have : (mdf s (onl p)).testBit x = true := by rw [mdf_t, hx2, onl_t, decide_eq_false (show ¬ p = x from fun a => e a.symm)]; simp
        rw [h0, Nat.zero_testBit] at this; cases this
    · rw [pf_0 h]
      refine ⟨fun a => absurd rfl a, fun a => ?_⟩
      have := d2 p a
      exact absurd ⟨by have := hin p this; omega, this⟩ h
  | succ c ih =>
    intro s p hc hin hs
    have hne : s ≠ 0 := fun e => by rw [e, cntz_] at hc; omega
    obtain ⟨d1, d2, d3⟩ := topA_dmn hT hin (ne_ex hs hne)
    by_cases h : p < 10 ∧ s.testBit p = true
    · have c1 := cnt_without s hs p h.1 h.2
      have h0 : mdf s (onl p) ≠ 0 := fun e => by rw [e, cntz_] at c1; omega
      have hin' : ∀ x, (mdf s (onl p)).testBit x = true → x < n := fun x hx => by rw [mdf_t, Bool.and_eq_true] at hx; exact hin x hx.1
      have hs' : mdf s (onl p) < 1024 := mdf_lt hs
      have ih' := fun q => ih (mdf s (onl p)) q (by omega) hin' hs'
      obtain ⟨e1, e2, e3⟩ := topA_dmn hT hin' (ne_ex hs' h0)
      have mt : ∀ x, (mdf s (onl p)).testBit x = (s.testBit x && !decide (p = x)) := fun x => by rw [mdf_t, onl_t, decide_eq_true h.1, Bool.true_and]
      rw [pf_s h h0]
      have nz : sumR (fun q => if (mdf s (onl p)).testBit q && be p q then pf be (mdf s (onl p)) q else 0) 10 ≠ 0 ↔ ∃ q, q < 10 ∧ (topA n be (mdf s (onl p))).testBit q = true ∧ be p q = true := by
        constructor
        · intro a
          apply Classical.byContradiction
          intro b
          apply a
          refine sumR_0 10 fun q hq => ?_
          cases c1 : (mdf s (onl p)).testBit q && be p q with
          | false => rfl
          | true =>
            rw [Bool.and_eq_true] at c1
            rw [if_pos rfl]
            apply Classical.byContradiction
            intro c2
            exact b ⟨q, hq, (ih' q).mp c2, c1.2⟩
        · rintro ⟨q, hq, h1, h2⟩ a
          have := sumR_at (f := fun q => if (mdf s (onl p)).testBit q && be p q then pf be (mdf s (onl p)) q else 0) hq
          rw [a] at this
          have h3 := (ih' q).mpr h1
          simp only [e2 q h1, h2, Bool.and_self, if_true] at this
          omega
      rw [nz]
      constructor
      · rintro ⟨q, hq, h1, h2⟩
        -- else the first component without p comes first
        cases ht : (topA n be s).testBit p with
        | true => rfl
        | false =>
          exfalso
          have hps := fun x hx => d3 x p hx h.2 ht
          have hD : dmn be (mdf s (onl p)) (topA n be s) := by
            refine ⟨d1, fun x hx => ?_, fun x y hx hy hny => ?_⟩
            · rw [mt, d2 x hx]
              have : ¬ p = x := fun e => by rw [← e, ht] at hx; cases hx
              rw [decide_eq_false this]; rfl
            · rw [mt, Bool.and_eq_true] at hy
              exact d3 x y hx hy.1 hny
          have := topA_least hT hin' hD q h1
          have := hps q this
          rw [(hT.2.2.1 _ _ h2).2.2] at this; cases this
      · intro ht
        apply Classical.byContradiction
        intro b
        have hD : dmn be s (topA n be (mdf s (onl p))) := by
          refine ⟨e1, fun x hx => ?_, fun x y hx hy hny => ?_⟩
          · have := e2 x hx; rw [mt, Bool.and_eq_true] at this; exact this.1
          · by_cases e : p = y
            · subst e
              have hx2 := e2 x hx
              have hxn := hin' x hx2
              have hne : x ≠ p := fun e => by rw [mt, e] at hx2; simp at hx2
              rcases hT.2.2.2 x p hxn (hin p h.2) hne with c1 | c1
              · exact c1
              · exact absurd ⟨x, by omega, hx, c1⟩ b
            · exact e3 x y hx (by rw [mt, hy, decide_eq_false e]; rfl) hny
        have := topA_least hT hin hD p ht
        have := e2 p this
        rw [mt] at this; simp at this
    · rw [pf_0 h]
      refine ⟨fun a => absurd rfl a, fun a => ?_⟩
      have := d2 p a
      exact absurd ⟨by have := hin p this; omega, this⟩ h
