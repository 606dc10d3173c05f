/-! cycles lie in components; each length from 3 on is there -/
theorem clB_rb {n : Nat} {be : Nat → Nat → Bool} {st : Nat} : ∀ k s l, clB n be k s l st = true → ∃ j, wlk be (j + 1) l st := by
  intro k
  induction k with
  | zero => intro s l h; exact ⟨0, st, h, rfl⟩
  | succ k ih =>
    intro s l h
    obtain ⟨z, -, hz⟩ := List.any_eq_true.mp h
    rw [Bool.and_eq_true, Bool.and_eq_true] at hz
    obtain ⟨j, hj⟩ := ih _ z hz.2.2
    exact ⟨j + 1, z, hz.2.1, hj⟩
theorem clB_cnt {n : Nat} {be : Nat → Nat → Bool} (h10 : n ≤ 10) {st : Nat} : ∀ k s l, s < 1024 → clB n be k s l st = true → k ≤ cnt s := by
  intro k
  induction k with
  | zero => intro s l _ _; exact Nat.zero_le _
  | succ k ih =>
    intro s l hs h
    obtain ⟨z, hz0, hz⟩ := List.any_eq_true.mp h
    rw [Bool.and_eq_true, Bool.and_eq_true] at hz
    have z10 : z < 10 := by have := List.mem_range.mp hz0; omega
    have := ih _ z (mdf_lt hs) hz.2.2
    have := cnt_without s hs z z10 hz.1
    omega
section CY1
variable {n : Nat} {be : Nat → Nat → Bool}
/-- a step that can still come back stays in the component -/
theorem stay_lv (hT : trn n be) {st l z k s : Nat} (hst : st < n) (hl : lv n be l = lv n be st) (hb : be l z = true) (hc : clB n be k s z st = true) : lv n be z = lv n be st := by
  obtain ⟨b1, b2, -⟩ := hT.2.2.1 _ _ hb
  obtain ⟨j, hj⟩ := clB_rb k s z hc
  have h1 := (rb_lv hT b2 hst).mp ((rb_iff hT b2 st).mpr ⟨_, hj⟩)
  have h2 := (rb_lv hT b1 b2).mp ((rb_iff hT b1 z).mpr ⟨1, z, hb, rfl⟩)
  omega
theorem clB_part (hT : trn n be) {st : Nat} (hst : st < n) : ∀ k s s' l, lv n be l = lv n be st → (∀ z, s'.testBit z = (s.testBit z && (prt n be st).testBit z)) → clB n be k s l st = clB n be k s' l st := by
  have h10 := hT.2.1
  intro k
  induction k with
  | zero => intro s s' l _ _; rfl
  | succ k ih =>
    intro s s' l hl hs
    show (List.range n).any _ = (List.range n).any _
    congr 1
    funext z
    cases hb : be l z with
    | false => simp
    | true =>
      have zn := (hT.2.2.1 _ _ hb).2.1
      rw [hs]
      cases c : s.testBit z with
      | false => rfl
      | true =>
        rw [Bool.true_and, Bool.true_and, Bool.true_and, Bool.true_and]
        have hrel : ∀ x, (mdf s' (onl z)).testBit x = ((mdf s (onl z)).testBit x && (prt n be st).testBit x) := fun x => by
          rw [mdf_t, mdf_t, hs]
          cases s.testBit x <;> cases (prt n be st).testBit x <;> cases (onl z).testBit x <;> rfl
        cases c2 : (prt n be st).testBit z with
        | true => exact ih _ _ z ((prt_iff hT hst zn).mp c2) hrel
        | false =>
          cases c3 : clB n be k (mdf s (onl z)) z st with
          | false => rfl
          | true =>
            rw [(prt_iff hT hst zn).mpr (stay_lv hT hst hl hb c3)] at c2; cases c2
theorem nx_part (hT : trn n be) {st : Nat} (hst : st < n) {k s s' l : Nat} (hl : lv n be l = lv n be st) (hs : ∀ z, s'.testBit z = (s.testBit z && (prt n be st).testBit z)) : cnx n be k s l st = cnx n be k s' l st := by
  unfold cnx
  congr 2
  funext z
  cases hb : be l z with
  | false => simp
  | true =>
    have zn := (hT.2.2.1 _ _ hb).2.1
    rw [hs]
    cases c : s.testBit z with
    | false => rfl
    | true =>
      rw [Bool.true_and, Bool.true_and, Bool.true_and, Bool.true_and]
      have hrel : ∀ x, (mdf s' (onl z)).testBit x = ((mdf s (onl z)).testBit x && (prt n be st).testBit x) := fun x => by
        rw [mdf_t, mdf_t, hs]
        cases s.testBit x <;> cases (prt n be st).testBit x <;> cases (onl z).testBit x <;> rfl
      cases c2 : (prt n be st).testBit z with
      | true => exact clB_part hT hst k _ _ z ((prt_iff hT hst zn).mp c2) hrel
      | false =>
        cases c3 : clB n be k (mdf s (onl z)) z st with
        | false => rfl
        | true =>
          rw [(prt_iff hT hst zn).mpr (stay_lv hT hst hl hb c3)] at c2; cases c2
/-- the least next one, where there is one -/
theorem cnx_spec {k s l st : Nat} (h : clB n be (k + 1) s l st = true) : cnx n be k s l st < n ∧ (s.testBit (cnx n be k s l st) && (be l (cnx n be k s l st) && clB n be k (mdf s (onl (cnx n be k s l st))) (cnx n be k s l st) st)) = true ∧ ∀ y, y < cnx n be k s l st → (s.testBit y && (be l y && clB n be k (mdf s (onl y)) y st)) = false := by
  obtain ⟨z, hz0, hz⟩ := List.any_eq_true.mp h
  rcases least_ex (fun q => q) (fun z => s.testBit z && (be l z && clB n be k (mdf s (onl z)) z st)) n with hn | ⟨a, a1, a2, a3⟩
  · rw [hn z (List.mem_range.mp hz0)] at hz; cases hz
  · have hm : ∀ y, y < a → (s.testBit y && (be l y && clB n be k (mdf s (onl y)) y st)) = false := by
      intro y hy
      cases c : s.testBit y && (be l y && clB n be k (mdf s (onl y)) y st) with
      | false => rfl
      | true => have := a3 y (by omega) c; have : a ≤ y := this; omega
    rw [cnx_of a1 a2 hm]
    exact ⟨a1, a2, hm⟩
theorem lxp_part (hT : trn n be) {st : Nat} (hst : st < n) : ∀ k s s' l i, i < k → lv n be l = lv n be st → clB n be k s l st = true → (∀ z, s'.testBit z = (s.testBit z && (prt n be st).testBit z)) → lxp n be k s l st i = lxp n be k s' l st i := by
  intro k
  induction k with
  | zero => intro s s' l i hi; omega
  | succ k ih =>
    intro s s' l i hi hl hc hs
    have e := nx_part (k := k) hT hst hl hs
    obtain ⟨x1, x2, -⟩ := cnx_spec hc
    rw [Bool.and_eq_true, Bool.and_eq_true] at x2
    cases i with
    | zero => exact e
    | succ i =>
      show lxp n be k (mdf s (onl (cnx n be k s l st))) (cnx n be k s l st) st i = lxp n be k (mdf s' (onl (cnx n be k s' l st))) (cnx n be k s' l st) st i
      rw [← e]
      refine ih _ _ _ i (by omega) (stay_lv hT hst hl x2.2.1 x2.2.2) x2.2.2 fun x => ?_
      rw [mdf_t, mdf_t, hs]
      cases s.testBit x <;> cases (prt n be st).testBit x <;> cases (onl (cnx n be k s l st)).testBit x <;> rfl
theorem ful_prt (hT : trn n be) {p : Nat} (hp : p < n) : ∀ z, (mdf (prt n be p) (onl p)).testBit z = ((mdf (ful n) (onl p)).testBit z && (prt n be p).testBit z) := by
  intro z
  rw [mdf_t, mdf_t, ful_t]
  cases c : (prt n be p).testBit z with
  | false => simp
  | true => rw [decide_eq_true (prt_in hT hp z c)]; cases (onl p).testBit z <;> rfl
theorem fnd_ful (hT : trn n be) {p len : Nat} (hp : p < n) (h1 : 1 ≤ len) : fnd n be p len = clB n be (len - 1) (mdf (ful n) (onl p)) p p := by
  have h10 := hT.2.1
  rw [clB_part hT hp (len - 1) _ _ p rfl (ful_prt hT hp)]
  unfold fnd
  by_cases c : len ≤ cnt (prt n be p)
  · rw [decide_eq_true c, Bool.true_and]
  · rw [decide_eq_false c, Bool.false_and]
    cases e : clB n be (len - 1) (mdf (prt n be p) (onl p)) p p with
    | false => rfl
    | true =>
      have h2 : len - 1 ≤ cnt (mdf (prt n be p) (onl p)) := clB_cnt h10 _ _ _ (mdf_lt (pwt_lt _ _)) e
      have h3 := cnt_without (prt n be p) (pwt_lt _ _) p (by omega) (prt_self hT hp)
      have h4 : cnt (mdf (prt n be p) (onl p)) + 1 = cnt (prt n be p) := h3
      omega
/-! all lengths -/
def chn (be : Nat → Nat → Bool) : Nat → List Nat → Nat → Prop
  | l, [], st => be l st = true
  | l, z :: r, st => be l z = true ∧ chn be z r st
theorem chn_clB {st : Nat} : ∀ r s l, chn be l r st → r.Nodup → (∀ z ∈ r, s.testBit z = true ∧ z < n) → clB n be r.length s l st = true := by
  intro r
  induction r with
  | nil => intro s l h _ _; exact h
  | cons z r ih =>
    intro s l h hn hs
    obtain ⟨h1, h2⟩ := h
    rw [List.nodup_cons] at hn
    obtain ⟨a, b⟩ := hs z (List.mem_cons_self ..)
    refine List.any_eq_true.mpr ⟨z, List.mem_range.mpr b, ?_⟩
    rw [a, h1, ih _ z h2 hn.2 fun y hy => ?_]
    · rfl
    · obtain ⟨c, e⟩ := hs y (List.mem_cons_of_mem _ hy)
      refine ⟨?_, e⟩
      rw [mdf_t, c, onl_t]
      have : ¬ z = y := fun e => hn.1 (by rw [e]; exact hy)
      rw [decide_eq_false this]; simp
/-- z goes into the chain -/
theorem chn_ins (hT : trn n be) {z st : Nat} (hz : z < n) (hst : st < n) (hzs : z ≠ st) : ∀ r l, chn be l r st → (∀ c ∈ r, c < n) → z ∉ r → be l z = true → (be z st = true ∨ ∃ c ∈ r, be z c = true) → ∃ r', chn be l r' st ∧ r'.length = r.length + 1 ∧ (∀ x, x ∈ r' ↔ x ∈ r ∨ x = z) ∧ (r.Nodup → r'.Nodup) := by
  intro r
  induction r with
  | nil =>
    intro l h _ _ hl hc
    refine ⟨[z], ⟨hl, ?_⟩, rfl, fun x => by simp, fun _ => by simp⟩
    rcases hc with hc | ⟨c, hc, -⟩
    · exact hc
    · simp at hc
  | cons h r ih =>
    intro l hch hin hzr hl hc
    obtain ⟨h1, h2⟩ := hch
    by_cases hzh : be z h = true
    · refine ⟨z :: h :: r, ⟨hl, hzh, h2⟩, rfl, fun x => ?_, fun hn => ?_⟩
      · rw [List.mem_cons]
        exact ⟨fun a => a.elim Or.inr Or.inl, fun a => a.elim Or.inr Or.inl⟩
      · rw [List.nodup_cons]; exact ⟨hzr, hn⟩
    · have hne : h ≠ z := fun e => hzr (by rw [e]; exact List.mem_cons_self ..)
      have hhz : be h z = true := by
        rcases hT.2.2.2 h z (hin h (List.mem_cons_self ..)) hz hne with a | a
        · exact a
        · exact absurd a hzh
      obtain ⟨r', a1, a2, a3, a4⟩ := ih h h2 (fun c hc => hin c (List.mem_cons_of_mem _ hc)) (fun hc => hzr (List.mem_cons_of_mem _ hc)) hhz (by
        rcases hc with hc | ⟨c, hc, hb⟩
        · exact Or.inl hc
        · rcases List.mem_cons.mp hc with e | e
          · rw [e] at hb; exact absurd hb hzh
          · exact Or.inr ⟨c, e, hb⟩)
      refine ⟨h :: r', ⟨h1, a1⟩, by simp [a2], fun x => ?_, fun hn => ?_⟩
      · rw [List.mem_cons, List.mem_cons, a3, or_assoc]
      · rw [List.nodup_cons] at hn ⊢
        refine ⟨fun hm => ?_, a4 hn.2⟩
        rcases (a3 h).mp hm with e | e
        · exact hn.1 e
        · exact hne e
theorem chn_ins2 (hT : trn n be) {z st : Nat} (hz : z < n) (hst : st < n) (hzs : be z st = true) : ∀ r l, l < n → l ≠ z → chn be l r st → (∀ c ∈ r, c < n) → z ∉ r → (be l z = true ∨ ∃ c ∈ r, be c z = true) → ∃ r', chn be l r' st ∧ r'.length = r.length + 1 ∧ (∀ x, x ∈ r' ↔ x ∈ r ∨ x = z) ∧ (r.Nodup → r'.Nodup) := by
  have hne : z ≠ st := fun e => by rw [e, hT.irr] at hzs; cases hzs
  intro r
  induction r with
  | nil =>
    intro l _ _ h hin hzr hc
    rcases hc with hc | ⟨c, hc, -⟩
    · exact chn_ins hT hz hst hne [] l h hin hzr hc (Or.inl hzs)
    · simp at hc
  | cons h r ih =>
    intro l hln hlz hch hin hzr hc
    by_cases hl : be l z = true
    · exact chn_ins hT hz hst hne (h :: r) l hch hin hzr hl (Or.inl hzs)
    · obtain ⟨h1, h2⟩ := hch
      have hne2 : h ≠ z := fun e => hzr (by rw [e]; exact List.mem_cons_self ..)
      obtain ⟨r', a1, a2, a3, a4⟩ := ih h (hin h (List.mem_cons_self ..)) hne2 h2 (fun c hc => hin c (List.mem_cons_of_mem _ hc)) (fun hc => hzr (List.mem_cons_of_mem _ hc)) (by
        rcases hc with hc | ⟨c, hc, hb⟩
        · exact absurd hc hl
        · rcases List.mem_cons.mp hc with e | e
          · rw [e] at hb; exact Or.inl hb
          · exact Or.inr ⟨c, e, hb⟩)
      refine ⟨h :: r', ⟨h1, a1⟩, by simp [a2], fun x => ?_, fun hn => ?_⟩
      · rw [List.mem_cons, List.mem_cons, a3, or_assoc]
      · rw [List.nodup_cons] at hn ⊢
        refine ⟨fun hm => ?_, a4 hn.2⟩
        rcases (a3 h).mp hm with e | e
        · exact hn.1 e
        · exact hne2 e
/-- the last of the chain gives way to two -/
theorem chn_two {st b a x : Nat} (hba : be b a = true) (hast : be a st = true) : ∀ r0 l, chn be l (r0 ++ [x]) st → (∀ c ∈ l :: r0, be c b = true) → chn be l (r0 ++ [b, a]) st := by
  intro r0
  induction r0 with
  | nil => intro l _ h; exact ⟨h l (List.mem_cons_self ..), hba, hast⟩
  | cons z r ih =>
    intro l hc h
    exact ⟨hc.1, ih z hc.2 fun c hc => h c (List.mem_cons_of_mem _ hc)⟩
/-- no part of a component is beaten by all its rest -/
theorem cut (hT : trn n be) {p : Nat} (hp : p < n) (A : Nat → Bool) (h1 : ∃ x, (prt n be p).testBit x = true ∧ A x = true) (h2 : ∃ x, (prt n be p).testBit x = true ∧ A x = false) : ∃ x y, (prt n be p).testBit x = true ∧ A x = true ∧ (prt n be p).testBit y = true ∧ A y = false ∧ be x y = true := by
  have h10 := hT.2.1
  apply Classical.byContradiction
  intro hno
  obtain ⟨x0, hx0, hA0⟩ := h1
  obtain ⟨y0, hy0, hB0⟩ := h2
  have hin := prt_in hT hp
  have eP := prt_top hT hp
  obtain ⟨d1, d2, d3⟩ := topA_dmn hT (lft_in hT (lv n be p)) ⟨x0, by rw [eP] at hx0; exact topA_sub h10 (lft_in hT _) x0 hx0⟩
  rw [← eP] at d1 d2 d3
  have hD : dmn be (lft n be (lv n be p)) (msk fun q => (prt n be p).testBit q && !A q) := by
    have ht : ∀ q, q < n → (msk fun q => (prt n be p).testBit q && !A q).testBit q = ((prt n be p).testBit q && !A q) := fun q hq => by rw [msk_t, decide_eq_true (by omega : q < 10), Bool.true_and]
    have hm : ∀ q, (msk fun q => (prt n be p).testBit q && !A q).testBit q = true → (prt n be p).testBit q = true ∧ A q = false := fun q hq => by
      rw [msk_t, Bool.and_eq_true, Bool.and_eq_true] at hq
      exact ⟨hq.2.1, by simpa using hq.2.2⟩
    refine ⟨⟨y0, by rw [ht y0 (hin y0 hy0), hy0, hB0]; rfl⟩, fun x hx => d2 x (hm x hx).1, fun x y hx hy hny => ?_⟩
    obtain ⟨a, b⟩ := hm x hx
    have yn := lft_in hT _ y hy
    cases c : (prt n be p).testBit y with
    | false => exact d3 x y a hy c
    | true =>
      rw [ht y yn, c, Bool.true_and] at hny
      have hAy : A y = true := by simpa using hny
      have hne : x ≠ y := fun e => by rw [e, hAy] at b; cases b
      rcases hT.2.2.2 x y (hin x a) yn hne with h | h
      · exact h
      · exact absurd ⟨y, x, c, hAy, a, b, h⟩ hno
  have := topA_least hT (lft_in hT _) hD x0 (by rw [← eP]; exact hx0)
  rw [msk_t, Bool.and_eq_true, Bool.and_eq_true, hA0] at this
  simp at this
theorem cnt_list : ∀ (L : List Nat) (P : Nat), P < 1024 → (∀ x, P.testBit x = true → x ∈ L) → cnt P ≤ L.length := by
  intro L
  induction L with
  | nil =>
    intro P hP h
    rcases Nat.eq_zero_or_pos P with z | z
    · rw [z, cntz_]; exact Nat.zero_le _
    · obtain ⟨x, hx⟩ := ne_ex hP (by omega)
      have := h x hx; simp at this
  | cons a L ih =>
    intro P hP h
    have h1 := ih (mdf P (onl a)) (mdf_lt hP) fun x hx => by
      rw [mdf_t, Bool.and_eq_true] at hx
      rcases List.mem_cons.mp (h x hx.1) with e | e
      · have x10 := tb_lt hP hx.1
        rw [e] at hx x10
        rw [onl_t, decide_eq_true x10] at hx; simp at hx
      · exact e
    cases c : P.testBit a with
    | true =>
      have := cnt_without P hP a (tb_lt hP c) c
      show cnt P ≤ L.length + 1
      omega
    | false =>
      have : cnt P ≤ cnt (mdf P (onl a)) := cnt_mono fun q _ hq => by
        rw [mdf_t, hq, onl_t]
        have : ¬ a = q := fun e => by rw [e, hq] at c; cases c
        rw [decide_eq_false this]; simp
      show cnt P ≤ L.length + 1
      omega
theorem cyc_ex (hT : trn n be) {p : Nat} (hp : p < n) : ∀ k, k + 3 ≤ cnt (prt n be p) → ∃ r, r.length = k + 2 ∧ chn be p r p ∧ r.Nodup ∧ p ∉ r ∧ ∀ z ∈ r, (prt n be p).testBit z = true := by
  have h10 := hT.2.1
  have hin := prt_in hT hp
  have hpp := prt_self hT hp
  have hlt : prt n be p < 1024 := pwt_lt _ _
  intro k
  induction k with
  | zero =>
    intro hk
    have other : ∃ x, (prt n be p).testBit x = true ∧ decide (x = p) = false := by
      apply Classical.byContradiction
      intro hno
      have := cnt_list [p] (prt n be p) hlt fun x hx => by
        apply Classical.byContradiction
        intro e
        exact hno ⟨x, hx, decide_eq_false (fun c => e (by rw [c]; exact List.mem_cons_self ..))⟩
      have : cnt (prt n be p) ≤ 1 := this
      omega
    obtain ⟨x0, y0, -, a2, a3, -, a5⟩ := cut hT hp (fun q => decide (q = p)) ⟨p, hpp, decide_eq_true rfl⟩ other
    have a2 : x0 = p := of_decide_eq_true a2
    subst a2
    obtain ⟨x, y, b1, b2, b3, b4, b5⟩ := cut hT hp (fun q => be x0 q) ⟨y0, a3, a5⟩ ⟨x0, hpp, hT.irr x0⟩
    have hyp : y ≠ x0 := fun e => by rw [e, (hT.2.2.1 _ _ b2).2.2] at b5; cases b5
    have hyx : be y x0 = true := by
      rcases hT.2.2.2 y x0 (hin y b3) hp hyp with c | c
      · exact c
      · have b4 : be x0 y = false := b4
        rw [b4] at c; cases c
    refine ⟨[x, y], rfl, ⟨b2, b5, hyx⟩, ?_, ?_, ?_⟩
    · rw [List.nodup_cons]
      refine ⟨fun h => ?_, by simp⟩
      have : x = y := by simpa using h
      rw [this, hT.irr] at b5; cases b5
    · intro h
      rcases List.mem_cons.mp h with e | e
      · have b2 : be x0 x = true := b2
        rw [← e, hT.irr] at b2; cases b2
      · have e : x0 = y := by simpa using e
        exact hyp e.symm
    · intro z hz
      rcases List.mem_cons.mp hz with e | e
      · rw [e]; exact b1
      · have : z = y := by simpa using e
        rw [this]; exact b3
  | succ k ih =>
    intro hk
    obtain ⟨r, r1, r2, r3, r4, r5⟩ := ih (by omega)
    have rin : ∀ c ∈ r, c < n := fun c hc => hin c (r5 c hc)
    by_cases hc1 : ∃ z, (prt n be p).testBit z = true ∧ z ∉ p :: r ∧ (∃ c ∈ p :: r, be z c = true) ∧ ∃ c ∈ p :: r, be c z = true
    · obtain ⟨z, z1, z2, ⟨c, c1, c2⟩, ⟨e, e1, e2⟩⟩ := hc1
      have zn := hin z z1
      have zr : z ∉ r := fun h => z2 (List.mem_cons_of_mem _ h)
      have zp : z ≠ p := fun h => z2 (by rw [h]; exact List.mem_cons_self ..)
      have fin : ∀ r', chn be p r' p → r'.length = r.length + 1 → (∀ x, x ∈ r' ↔ x ∈ r ∨ x = z) → (r.Nodup → r'.Nodup) → ∃ r, r.length = k + 1 + 2 ∧ chn be p r p ∧ r.Nodup ∧ p ∉ r ∧ ∀ z ∈ r, (prt n be p).testBit z = true := by
        intro r' q1 q2 q3 q4
        refine ⟨r', by omega, q1, q4 r3, fun h => ?_, fun x hx => ?_⟩
        · rcases (q3 p).mp h with a | a
          · exact r4 a
          · exact zp a.symm
        · rcases (q3 x).mp hx with a | a
          · exact r5 x a
          · rw [a]; exact z1
      rcases hT.2.2.2 p z hp zn (Ne.symm zp) with h | h
      · obtain ⟨r', q1, q2, q3, q4⟩ := chn_ins hT zn hp zp r p r2 rin zr h (by
          rcases List.mem_cons.mp c1 with a | a
          · rw [a] at c2; exact Or.inl c2
          · exact Or.inr ⟨c, a, c2⟩)
        exact fin r' q1 q2 q3 q4
      · obtain ⟨r', q1, q2, q3, q4⟩ := chn_ins2 hT zn hp h r p hp (Ne.symm zp) r2 rin zr (by
          rcases List.mem_cons.mp e1 with a | a
          · rw [a] at e2; exact Or.inl e2
          · exact Or.inr ⟨e, a, e2⟩)
        exact fin r' q1 q2 q3 q4
    · -- outside, each beats all or is beaten by all
      have two : ∀ z, (prt n be p).testBit z = true → z ∉ p :: r → (∀ c ∈ p :: r, be z c = true) ∨ ∀ c ∈ p :: r, be c z = true := by
        intro z z1 z2
        have ne : ∀ c ∈ p :: r, c ≠ z := fun c hc e => z2 (by rw [← e]; exact hc)
        have cn : ∀ c ∈ p :: r, c < n := fun c hc => by
          rcases List.mem_cons.mp hc with a | a
          · rw [a]; exact hp
          · exact rin c a
        by_cases h : ∃ c ∈ p :: r, be z c = true
        · left
          intro c hc
          rcases hT.2.2.2 z c (hin z z1) (cn c hc) (Ne.symm (ne c hc)) with a | a
          · exact a
          · exact absurd ⟨z, z1, z2, h, c, hc, a⟩ hc1
        · right
          intro c hc
          rcases hT.2.2.2 c z (cn c hc) (hin z z1) (ne c hc) with a | a
          · exact a
          · exact absurd ⟨c, hc, a⟩ h
      have out : ∃ z, (prt n be p).testBit z = true ∧ z ∉ p :: r := by
        apply Classical.byContradiction
        intro hno
        have := cnt_list (p :: r) (prt n be p) hlt fun x hx => by
          apply Classical.byContradiction
          intro e
          exact hno ⟨x, hx, e⟩
        have : cnt (prt n be p) ≤ r.length + 1 := this
        omega
      have hA : ∃ z, (prt n be p).testBit z = true ∧ z ∉ p :: r ∧ ∀ c ∈ p :: r, be z c = true := by
        apply Classical.byContradiction
        intro hno
        obtain ⟨z, z1, z2⟩ := out
        obtain ⟨x, y, b1, b2, b3, b4, b5⟩ := cut hT hp (fun q => !decide (q ∈ p :: r)) ⟨z, z1, by rw [decide_eq_false z2]; rfl⟩ ⟨p, hpp, by rw [decide_eq_true (List.mem_cons_self ..)]; rfl⟩
        have b2 : x ∉ p :: r := by simpa using b2
        have b4 : y ∈ p :: r := by
          have b4 : (!decide (y ∈ p :: r)) = false := b4
          apply Classical.byContradiction
          intro hn
          rw [decide_eq_false hn] at b4; cases b4
        rcases two x b1 b2 with a | a
        · exact hno ⟨x, b1, b2, a⟩
        · have := a y b4
          rw [(hT.2.2.1 _ _ b5).2.2] at this; cases this
      obtain ⟨a0, a1, a2, a3⟩ := hA
      obtain ⟨x, y, b1, b2, b3, b4, b5⟩ := cut hT hp (fun q => !((p :: r).all fun c => be q c)) ⟨p, hpp, by
        cases e : (p :: r).all fun c => be p c with
        | false => rfl
        | true =>
          have := List.all_eq_true.mp e p (List.mem_cons_self ..)
          rw [hT.irr] at this; cases this⟩ ⟨a0, a1, by rw [List.all_eq_true.mpr a3]; rfl⟩
      have b4 : ∀ c ∈ p :: r, be y c = true := by
        have : ((p :: r).all fun c => be y c) = true := by simpa using b4
        exact List.all_eq_true.mp this
      have xo : x ∉ p :: r := fun h => by
        have := b4 x h
        rw [(hT.2.2.1 _ _ b5).2.2] at this; cases this
      have xB : ∀ c ∈ p :: r, be c x = true := by
        rcases two x b1 xo with a | a
        · have b2 : (!((p :: r).all fun c => be x c)) = true := b2
          rw [List.all_eq_true.mpr a] at b2; cases b2
        · exact a
      have yo : y ∉ p :: r := fun h => by
        have := b4 y h
        rw [hT.irr] at this; cases this
      -- the last gives way
      obtain ⟨r0, w, hr⟩ : ∃ r0 w, r = r0 ++ [w] := by
        rcases List.eq_nil_or_concat r with e | ⟨a, b, e⟩
        · rw [e] at r1; simp at r1
        · exact ⟨a, b, by rw [e, List.concat_eq_append]⟩
      have sub : ∀ c, c ∈ r0 → c ∈ r := fun c hc => by rw [hr]; exact List.mem_append_left _ hc
      have nd0 : r0.Nodup := by rw [hr, List.nodup_append] at r3; exact r3.1
      have hxy : x ≠ y := fun e => by rw [e, hT.irr] at b5; cases b5
      refine ⟨r0 ++ [x, y], ?_, ?_, ?_, fun h => ?_, fun z hz => ?_⟩
      · rw [hr] at r1
        simp only [List.length_append, List.length_cons, List.length_nil] at r1 ⊢
        omega
      · rw [hr] at r2
        refine chn_two b5 (b4 p (List.mem_cons_self ..)) r0 p r2 fun c hc => xB c ?_
        rcases List.mem_cons.mp hc with a | a
        · rw [a]; exact List.mem_cons_self ..
        · exact List.mem_cons_of_mem _ (sub c a)
      · rw [List.nodup_append]
        refine ⟨nd0, by simp [hxy], fun a ha b hb e => ?_⟩
        have har := List.mem_cons_of_mem p (sub a ha)
        rcases List.mem_cons.mp hb with c | c
        · exact xo (by rw [← c, ← e]; exact har)
        · have c : b = y := by simpa using c
          exact yo (by rw [← c, ← e]; exact har)
      · rw [List.mem_append] at h
        rcases h with h | h
        · exact r4 (sub p h)
        · rcases List.mem_cons.mp h with c | c
          · exact xo (by rw [← c]; exact List.mem_cons_self ..)
          · have c : p = y := by simpa using c
            exact yo (by rw [← c]; exact List.mem_cons_self ..)
      · rw [List.mem_append] at hz
        rcases hz with h | h
        · exact r5 z (sub z h)
        · rcases List.mem_cons.mp h with c | c
          · rw [c]; exact b1
          · have c : z = y := by simpa using c
            rw [c]; exact b3
theorem fnd_all (hT : trn n be) {p len : Nat} (hp : p < n) (h3 : 3 ≤ len) : fnd n be p len = decide (len ≤ cnt (prt n be p)) := by
  unfold fnd
  by_cases c : len ≤ cnt (prt n be p)
  · rw [decide_eq_true c, Bool.true_and]
    obtain ⟨r, r1, r2, r3, r4, r5⟩ := cyc_ex hT hp (len - 3) (by omega)
    have := chn_clB (n := n) r (mdf (prt n be p) (onl p)) p r2 r3 fun z hz => ⟨by
      rw [mdf_t, r5 z hz, onl_t]
      have : ¬ p = z := fun e => r4 (by rw [e]; exact hz)
      rw [decide_eq_false this]; simp, prt_in hT hp z (r5 z hz)⟩
    rw [r1, show len - 3 + 2 = len - 1 by omega] at this
    exact this
  · rw [decide_eq_false c, Bool.false_and]
end CY1
