/-! class and model side by side: the class's object at cell 0, the model's at cell 51 -/
def LS2 (D : am_D) (B : Nat) (st : am_S) : Prop := RD D 0 B st ∧ RM D 51 st
def Same (lay : List am_L) (mx mm : am_M) (av : List Value) (D : am_D) (B : Nat) : Prop := ∃ (x : Int32) (D1 D2 : am_D) (B2 : Nat) (st2 : am_S), am_MetI lay 20 mx (.ref 0 :: av) D x D1 ∧ am_MetI lay 20 mm (.ref 51 :: av) D1 x D2 ∧ LS2 D2 B2 st2 ∧ B2 ≤ B + 101
theorem rng {v : Int32} {a b : Nat} (hb : b < 2 ^ 31) (hab : a ≤ b) (h : ¬ (v < nI a ∨ ¬ v ≤ nI b)) : ∃ n, a ≤ n ∧ n ≤ b ∧ v = nI n := by
  have h1 : ¬ v < nI a := fun c => h (Or.inl c)
  have h2 : v ≤ nI b := Classical.byContradiction fun c => h (Or.inr c)
  have h0 : ¬ v < 0 := by
    intro c
    apply h1
    rw [Int32.lt_iff_toInt_lt] at c ⊢
    have e0 : (0 : Int32).toInt = 0 := by decide
    rw [nI_toInt (by omega)]
    omega
  obtain ⟨j, hj, rfl⟩ := nI_of h0
  rw [nI_ltI hj (by omega)] at h1
  rw [nI_leI hj hb] at h2
  exact ⟨j, by omega, h2, rfl⟩
section JNT
variable {lay : List am_L} {D : am_D} {B : Nat} {T T' : am_T} {H : List am_T} {s t : List Nat} {mx mm : am_M} {av : List Value}
theorem joinI {st st2 : am_S} {B2 : Nat} {x : Int32} (h : LS2 D B st) (hB : B2 ≤ B + 101) (hd : ∃ D1, am_MetI lay 20 mx (.ref 0 :: av) D x D1 ∧ RD D1 0 B2 st2 ∧ onlyD D D1 0) (hm : ∀ D1, RM D1 51 st → ∃ D2, am_MetI lay 20 mm (.ref 51 :: av) D1 x D2 ∧ RM D2 51 st2 ∧ onlyM D1 D2 51) : Same lay mx mm av D B := by
  obtain ⟨D1, a1, a2, a3⟩ := hd
  obtain ⟨D2, b1, b2, b3⟩ := hm D1 (h.2.scr fun q hq _ => a3 q (by omega))
  exact ⟨x, D1, D2, B2, st2, a1, b1, ⟨a2.scratch fun q hq => b3 q (by omega), b2⟩, hB⟩
/-- nothing changes on the class's side -/
theorem joinP {st : am_S} {x : Int32} (h : LS2 D B st) (hd : am_MetI lay 20 mx (.ref 0 :: av) D x D) (hm : ∀ D1, RM D1 51 st → ∃ D2, am_MetI lay 20 mm (.ref 51 :: av) D1 x D2 ∧ RM D2 51 st ∧ onlyM D1 D2 51) : Same lay mx mm av D B :=
  joinI h (Nat.le_add_right _ _) ⟨D, hd, h.1, fun _ _ => rfl⟩ hm
/-- nor on the model's -/
theorem joinPP {st : am_S} {x : Int32} (h : LS2 D B st) (hd : am_MetI lay 20 mx (.ref 0 :: av) D x D) (hm : ∀ D1, RM D1 51 st → am_MetI lay 20 mm (.ref 51 :: av) D1 x D1) : Same lay mx mm av D B :=
  joinP h hd fun D1 h1 => ⟨D1, hm D1 h1, h1, fun _ _ => rfl⟩
theorem j_reset (ho : isX10 lay 0) (hm : isX11 lay 51) (h : LS2 D B (T, T', H, s, t)) (v : Int32) : Same lay mX10_reset mX11_reset [.int v] D B := by
  have hT : okT T := h.1.ok.1
  have hU : okT T' := h.1.ok.2.1
  have h10 : T.1 ≤ 10 := hT.1.2.1
  by_cases c : v < nI 2 ∨ ¬ v ≤ nI 10
  · exact joinPP h (d_reset_no (d := 16) ho c) fun D1 _ => m_reset_no (d := 18) hm c
  · obtain ⟨n, n1, n2, rfl⟩ := rng (by decide) (by decide) c
    exact joinI h (by omega) (d_reset (d := 16) ho h.1 n1 n2) fun D1 h1 => m_reset (d := 18) hm h1 n1 n2
theorem j_setResult (ho : isX10 lay 0) (hm : isX11 lay 51) (h : LS2 D B (T, T', H, s, t)) (v : Int32) (w : Int32) : Same lay mX10_setResult mX11_setResult [.int v, .int w] D B := by
  have hT : okT T := h.1.ok.1
  have hU : okT T' := h.1.ok.2.1
  have h10 : T.1 ≤ 10 := hT.1.2.1
  cases c : isPr T.1 v w with
  | false => exact joinPP h (d_setResult_no (d := 16) ho h.1 c) fun D1 h1 => m_setResult_no (d := 17) hm h1 hT c
  | true =>
    obtain ⟨p, q, hp, hq, hne, rfl, rfl⟩ := isPr_of h10 c
    exact joinI h (by omega) (d_setResult (d := 16) ho h.1 hp hq hne) fun D1 h1 => m_setResult (d := 17) hm h1 hT hp hq hne
theorem j_setWeight (ho : isX10 lay 0) (hm : isX11 lay 51) (h : LS2 D B (T, T', H, s, t)) (v : Int32) (w : Int32) (z : Int32) : Same lay mX10_setWeight mX11_setWeight [.int v, .int w, .int z] D B := by
  have hT : okT T := h.1.ok.1
  have hU : okT T' := h.1.ok.2.1
  have h10 : T.1 ≤ 10 := hT.1.2.1
  cases c : isPr T.1 v w with
  | false => exact joinPP h (d_setWeight_no (d := 16) ho h.1 (Or.inl c)) fun D1 h1 => m_setWeight_no (d := 17) hm h1 hT (Or.inl c)
  | true =>
    by_cases c2 : z < nI 1 ∨ ¬ z ≤ nI 100
    · exact joinPP h (d_setWeight_no (d := 16) ho h.1 (Or.inr c2)) fun D1 h1 => m_setWeight_no (d := 17) hm h1 hT (Or.inr c2)
    · obtain ⟨p, q, hp, hq, hne, rfl, rfl⟩ := isPr_of h10 c
      obtain ⟨n, n1, n2, rfl⟩ := rng (by decide) (by decide) c2
      exact joinI h (by omega) (d_setWeight (d := 16) ho h.1 hp hq hne n1 n2) fun D1 h1 => m_setWeight (d := 17) hm h1 hT hp hq hne n1 n2
theorem j_reverseTriangle (ho : isX10 lay 0) (hm : isX11 lay 51) (h : LS2 D B (T, T', H, s, t)) (u : Int32) (v : Int32) (w : Int32) : Same lay mX10_reverseTriangle mX11_reverseTriangle [.int u, .int v, .int w] D B := by
  have hT : okT T := h.1.ok.1
  have hU : okT T' := h.1.ok.2.1
  have h10 : T.1 ≤ 10 := hT.1.2.1
  by_cases c : isPr T.1 u v = false ∨ isPr T.1 v w = false ∨ isPr T.1 u w = false
  · exact joinPP h (d_reverseTriangle_no (d := 15) ho h.1 c) fun D1 h1 => m_reverseTriangle_no (d := 16) hm h1 hT c
  · have c1 : isPr T.1 u v = true := by
      cases e : isPr T.1 u v with
      | true => rfl
      | false => exact absurd (Or.inl e) c
    have c2 : isPr T.1 v w = true := by
      cases e : isPr T.1 v w with
      | true => rfl
      | false => exact absurd (Or.inr (Or.inl e)) c
    have c3 : isPr T.1 u w = true := by
      cases e : isPr T.1 u w with
      | true => rfl
      | false => exact absurd (Or.inr (Or.inr e)) c
    obtain ⟨x, y, hx, hy, n1, rfl, rfl⟩ := isPr_of h10 c1
    obtain ⟨y2, z, hy2, hz, n2, e1, rfl⟩ := isPr_of h10 c2
    rw [nI_eq (by omega) (by omega)] at e1
    subst e1
    rw [isPr_n h10 (by omega) (by omega)] at c3
    obtain ⟨-, -, n3⟩ := of_decide_eq_true c3
    cases e : tri T.2.1 x y z with
    | false => exact joinPP h (d_reverseTriangle_none (d := 15) ho h.1 hx hy hz n1 n2 n3 e) fun D1 h1 => m_reverseTriangle_none (d := 16) hm h1 hT hx hy hz n1 n2 n3 e
    | true =>
      have hd := d_reverseTriangle (d := 15) ho h.1 hx hy hz n1 n2 n3 e
      rw [triV_trS (flp_trn (flp_trn (flp_trn hT.1 hx hy n1) hy hz n2) hx hz n3)] at hd
      exact joinI h (by omega) hd fun D1 h1 => m_reverseTriangle (d := 16) hm h1 hT hx hy hz n1 n2 n3 e
theorem j_reversePath (ho : isX10 lay 0) (hm : isX11 lay 51) (h : LS2 D B (T, T', H, s, t)) (v : Int32) (w : Int32) : Same lay mX10_reversePath mX11_reversePath [.int v, .int w] D B := by
  have hT : okT T := h.1.ok.1
  have hU : okT T' := h.1.ok.2.1
  have h10 : T.1 ≤ 10 := hT.1.2.1
  cases c : isPr T.1 v w with
  | false => exact joinPP h (d_reversePath_no (d := 15) ho h.1 c) fun D1 h1 => m_reversePath_no (d := 16) hm h1 hT c
  | true =>
    obtain ⟨p, q, hp, hq, hne, rfl, rfl⟩ := isPr_of h10 c
    rcases dst_ex (n := T.1) (be := T.2.1) (p := p) (q := q) with ⟨k, k1, -⟩ | ⟨-, k2⟩
    · obtain ⟨f, f0, hf⟩ := pth_ex hT.1 k p q k1
      subst f0
      exact joinI h (by omega) (d_reversePath (d := 15) ho h.1 hq hp hne hf) fun D1 h1 => m_reversePath (d := 16) hm h1 hT hq hp hne hf
    · have hd := d_reversePath_none (d := 15) ho h.1 hp hq k2
      rw [if_neg hne] at hd
      exact joinP h hd fun D1 h1 => m_reversePath_none (d := 16) hm h1 hT hp hq hne k2
theorem j_reversePlayer (ho : isX10 lay 0) (hm : isX11 lay 51) (h : LS2 D B (T, T', H, s, t)) (v : Int32) : Same lay mX10_reversePlayer mX11_reversePlayer [.int v] D B := by
  have hT : okT T := h.1.ok.1
  have hU : okT T' := h.1.ok.2.1
  have h10 : T.1 ≤ 10 := hT.1.2.1
  cases c : isP T.1 v with
  | false => exact joinPP h (d_no1 (d := 16) ho h.1 c) fun D1 h1 => m_reversePlayer_no (d := 17) hm h1 hT c
  | true =>
    obtain ⟨p, hp, rfl⟩ := isP_of h10 c
    exact joinI h (by omega) (d_reversePlayer (d := 16) ho h.1 hp) fun D1 h1 => m_reversePlayer (d := 17) hm h1 hT hp
theorem j_exchange (ho : isX10 lay 0) (hm : isX11 lay 51) (h : LS2 D B (T, T', H, s, t)) (v : Int32) (w : Int32) : Same lay mX10_exchange mX11_exchange [.int v, .int w] D B := by
  have hT : okT T := h.1.ok.1
  have hU : okT T' := h.1.ok.2.1
  have h10 : T.1 ≤ 10 := hT.1.2.1
  by_cases c : isP T.1 v = false ∨ isP T.1 w = false
  · exact joinPP h (d_exchange_no (d := 15) ho h.1 c) fun D1 h1 => m_exchange_no (d := 17) hm h1 hT c
  · have c1 : isP T.1 v = true := by
      cases e : isP T.1 v with
      | true => rfl
      | false => exact absurd (Or.inl e) c
    have c2 : isP T.1 w = true := by
      cases e : isP T.1 w with
      | true => rfl
      | false => exact absurd (Or.inr e) c
    obtain ⟨p, hp, rfl⟩ := isP_of h10 c1
    obtain ⟨q, hq, rfl⟩ := isP_of h10 c2
    exact joinI h (by omega) (d_exchange (d := 15) ho h.1 hp hq) fun D1 h1 => m_exchange (d := 17) hm h1 hT hp hq
theorem j_construct (ho : isX10 lay 0) (hm : isX11 lay 51) (h : LS2 D B (T, T', H, s, t))  : Same lay mX10_construct mX11_construct [] D B := by
  have hT : okT T := h.1.ok.1
  have hU : okT T' := h.1.ok.2.1
  have h10 : T.1 ≤ 10 := hT.1.2.1
  have h9 : ∀ x ∈ s, x ≤ 9 := h.1.ok.2.2.2.1
  by_cases c : chkSeq s = nI 0
  · have hN : s.length ≤ 10 := h.2.2.2.2.1.1
    exact joinI h (by omega) (d_construct (d := 13) ho h.1 c (run_csOK h9 hN (chk_ok hN c).2)) fun D1 h1 => m_construct (d := 17) hm h1 h9 c
  · exact joinPP h (d_construct_no (d := 13) ho h.1 c) fun D1 h1 => m_construct_no (d := 17) hm h1 h9 c
theorem j_enter (ho : isX10 lay 0) (hm : isX11 lay 51) (h : LS2 D B (T, T', H, s, t))  : Same lay mX10_enter mX11_enter [] D B := by
  have hT : okT T := h.1.ok.1
  have hU : okT T' := h.1.ok.2.1
  have h10 : T.1 ≤ 10 := hT.1.2.1
  have hx : okX t := h.1.ok.2.2.2.2
  by_cases c : fault_ T.1 t = -4
  · exact joinI h (by omega) (d_enter (d := 15) ho h.1 c) fun D1 h1 => m_enter (d := 17) hm h1 hT hx c
  · exact joinPP h (d_enter_no (d := 15) ho h.1 c) fun D1 h1 => m_enter_no (d := 17) hm h1 hT hx c
theorem j_recall (ho : isX10 lay 0) (hm : isX11 lay 51) (h : LS2 D B (T, T', H, s, t))  : Same lay mX10_recall mX11_recall [] D B := by
  have hT : okT T := h.1.ok.1
  have hU : okT T' := h.1.ok.2.1
  have h10 : T.1 ≤ 10 := hT.1.2.1
  exact joinI h (by omega) (d_recall (d := 16) ho h.1) fun D1 h1 => m_recall (d := 19) hm h1
theorem j_undo (ho : isX10 lay 0) (hm : isX11 lay 51) (h : LS2 D B (T, T', H, s, t))  : Same lay mX10_undo mX11_undo [] D B := by
  have hT : okT T := h.1.ok.1
  have hU : okT T' := h.1.ok.2.1
  have h10 : T.1 ≤ 10 := hT.1.2.1
  rcases List.eq_nil_or_concat H with e | ⟨H2, U, e⟩
  · subst e
    exact joinPP h (d_undo_no (d := 16) ho h.1) fun D1 h1 => m_undo_no (d := 20) hm h1
  · rw [List.concat_eq_append] at e
    subst e
    exact joinI h (by omega) (d_undo (d := 16) ho h.1) fun D1 h1 => m_undo (d := 20) hm h1
theorem j_append (ho : isX10 lay 0) (hm : isX11 lay 51) (h : LS2 D B (T, T', H, s, t)) (v : Int32) : Same lay mX10_append mX11_append [.int v] D B := by
  have hT : okT T := h.1.ok.1
  have hU : okT T' := h.1.ok.2.1
  have h10 : T.1 ≤ 10 := hT.1.2.1
  by_cases c : v < nI 0 ∨ ¬ v ≤ nI 9
  · exact joinPP h (d_append_no (d := 19) ho c) fun D1 _ => m_append_no (d := 19) hm c
  · obtain ⟨n, n1, n2, rfl⟩ := rng (by decide) (by decide) c
    have hN : s.length ≤ 10 := h.2.2.2.2.1.1
    by_cases c2 : s.length = 10
    · exact joinPP h (d_append_full (d := 19) ho h.1 c2 n2) fun D1 h1 => m_append_full (d := 19) hm h1 c2 n2
    · exact joinI h (by omega) (d_append (d := 19) ho h.1 (by omega) n2) fun D1 h1 => m_append (d := 19) hm h1 (by omega) n2
theorem j_clearSequence (ho : isX10 lay 0) (hm : isX11 lay 51) (h : LS2 D B (T, T', H, s, t))  : Same lay mX10_clearSequence mX11_clearSequence [] D B := by
  have hT : okT T := h.1.ok.1
  have hU : okT T' := h.1.ok.2.1
  have h10 : T.1 ≤ 10 := hT.1.2.1
  exact joinI h (by omega) (d_clearSequence (d := 19) ho h.1) fun D1 h1 => m_clearSequence (d := 20) hm h1
theorem j_checkSequence (ho : isX10 lay 0) (hm : isX11 lay 51) (h : LS2 D B (T, T', H, s, t))  : Same lay mX10_checkSequence mX11_checkSequence [] D B := by
  have hT : okT T := h.1.ok.1
  have hU : okT T' := h.1.ok.2.1
  have h10 : T.1 ≤ 10 := hT.1.2.1
  exact joinPP h (d_checkSequence (d := 16) ho h.1) fun D1 h1 => m_checkSequence (d := 18) hm h1 h.1.ok.2.2.2.1
theorem j_type (ho : isX10 lay 0) (hm : isX11 lay 51) (h : LS2 D B (T, T', H, s, t)) (v : Int32) : Same lay mX10_type mX11_type [.int v] D B := by
  have hT : okT T := h.1.ok.1
  have hU : okT T' := h.1.ok.2.1
  have h10 : T.1 ≤ 10 := hT.1.2.1
  by_cases c : v < nI 32 ∨ ¬ v ≤ nI 126
  · exact joinPP h (d_type_no (d := 19) ho c) fun D1 _ => m_type_no (d := 19) hm c
  · obtain ⟨n, n1, n2, rfl⟩ := rng (by decide) (by decide) c
    have hN : t.length ≤ 120 := h.2.2.2.2.2.1
    by_cases c2 : t.length = 120
    · exact joinPP h (d_type_full (d := 19) ho h.1 c2 n1 n2) fun D1 h1 => m_type_full (d := 19) hm h1 c2 n1 n2
    · exact joinI h (by omega) (d_type (d := 19) ho h.1 (by omega) n1 n2) fun D1 h1 => m_type (d := 19) hm h1 (by omega) n1 n2
theorem j_clearText (ho : isX10 lay 0) (hm : isX11 lay 51) (h : LS2 D B (T, T', H, s, t))  : Same lay mX10_clearText mX11_clearText [] D B := by
  have hT : okT T := h.1.ok.1
  have hU : okT T' := h.1.ok.2.1
  have h10 : T.1 ≤ 10 := hT.1.2.1
  exact joinI h (by omega) (d_clearText (d := 19) ho h.1) fun D1 h1 => m_clearText (d := 20) hm h1
theorem j_fault (ho : isX10 lay 0) (hm : isX11 lay 51) (h : LS2 D B (T, T', H, s, t))  : Same lay mX10_fault mX11_fault [] D B := by
  have hT : okT T := h.1.ok.1
  have hU : okT T' := h.1.ok.2.1
  have h10 : T.1 ≤ 10 := hT.1.2.1
  exact joinPP h (d_fault (d := 16) ho h.1) fun D1 h1 => m_fault (d := 17) hm h1 hT h.1.ok.2.2.2.2
theorem j_players (ho : isX10 lay 0) (hm : isX11 lay 51) (h : LS2 D B (T, T', H, s, t))  : Same lay mX10_players mX11_players [] D B := by
  have hT : okT T := h.1.ok.1
  have hU : okT T' := h.1.ok.2.1
  have h10 : T.1 ≤ 10 := hT.1.2.1
  exact joinPP h (d_players (d := 19) ho h.1) fun D1 h1 => m_players (d := 19) hm h1
theorem j_beats (ho : isX10 lay 0) (hm : isX11 lay 51) (h : LS2 D B (T, T', H, s, t)) (v : Int32) (w : Int32) : Same lay mX10_beats mX11_beats [.int v, .int w] D B := by
  have hT : okT T := h.1.ok.1
  have hU : okT T' := h.1.ok.2.1
  have h10 : T.1 ≤ 10 := hT.1.2.1
  by_cases c : isP T.1 v = false ∨ isP T.1 w = false
  · exact joinPP h ((d_beats (d := 18) ho h.1 v w).1 c) fun D1 h1 => (m_beats (d := 18) hm h1 hT v w).1 c
  · have c1 : isP T.1 v = true := by
      cases e : isP T.1 v with
      | true => rfl
      | false => exact absurd (Or.inl e) c
    have c2 : isP T.1 w = true := by
      cases e : isP T.1 w with
      | true => rfl
      | false => exact absurd (Or.inr e) c
    obtain ⟨p, hp, rfl⟩ := isP_of h10 c1
    obtain ⟨q, hq, rfl⟩ := isP_of h10 c2
    exact joinPP h ((d_beats (d := 18) ho h.1 _ _).2 p q hp hq rfl rfl) fun D1 h1 => (m_beats (d := 18) hm h1 hT _ _).2 p q hp hq rfl rfl
theorem j_weight (ho : isX10 lay 0) (hm : isX11 lay 51) (h : LS2 D B (T, T', H, s, t)) (v : Int32) (w : Int32) : Same lay mX10_weight mX11_weight [.int v, .int w] D B := by
  have hT : okT T := h.1.ok.1
  have hU : okT T' := h.1.ok.2.1
  have h10 : T.1 ≤ 10 := hT.1.2.1
  cases c : isPr T.1 v w with
  | false => exact joinPP h ((d_weight (d := 18) ho h.1 v w).1 c) fun D1 h1 => (m_weight (d := 17) hm h1 hT v w).1 c
  | true =>
    obtain ⟨p, q, hp, hq, hne, rfl, rfl⟩ := isPr_of h10 c
    exact joinPP h ((d_weight (d := 18) ho h.1 _ _).2 p q hp hq hne rfl rfl) fun D1 h1 => (m_weight (d := 17) hm h1 hT _ _).2 p q hp hq hne rfl rfl
theorem j_score (ho : isX10 lay 0) (hm : isX11 lay 51) (h : LS2 D B (T, T', H, s, t)) (v : Int32) : Same lay mX10_score mX11_score [.int v] D B := by
  have hT : okT T := h.1.ok.1
  have hU : okT T' := h.1.ok.2.1
  have h10 : T.1 ≤ 10 := hT.1.2.1
  cases c : isP T.1 v with
  | false => exact joinPP h ((d_score (d := 18) ho h.1 v).1 c) fun D1 h1 => (m_score (d := 18) hm h1 hT v).1 c
  | true =>
    obtain ⟨p, hp, rfl⟩ := isP_of h10 c
    exact joinPP h ((d_score (d := 18) ho h.1 _).2 p hp rfl) fun D1 h1 => (m_score (d := 18) hm h1 hT _).2 p hp rfl
theorem j_scoreAt (ho : isX10 lay 0) (hm : isX11 lay 51) (h : LS2 D B (T, T', H, s, t)) (v : Int32) : Same lay mX10_scoreAt mX11_scoreAt [.int v] D B := by
  have hT : okT T := h.1.ok.1
  have hU : okT T' := h.1.ok.2.1
  have h10 : T.1 ≤ 10 := hT.1.2.1
  cases c : isP T.1 v with
  | false => exact joinPP h ((d_scoreAt (d := 17) ho h.1 v).1 c) fun D1 h1 => (m_scoreAt (d := 18) hm h1 hT v).1 c
  | true =>
    obtain ⟨p, hp, rfl⟩ := isP_of h10 c
    have hd := (d_scoreAt (d := 17) ho h.1 (nI p)).2 p hp rfl
    rw [← score_same hT.1 hp] at hd
    exact joinPP h hd fun D1 h1 => (m_scoreAt (d := 18) hm h1 hT _).2 p hp rfl
theorem j_triangles (ho : isX10 lay 0) (hm : isX11 lay 51) (h : LS2 D B (T, T', H, s, t))  : Same lay mX10_triangles mX11_triangles [] D B := by
  have hT : okT T := h.1.ok.1
  have hU : okT T' := h.1.ok.2.1
  have h10 : T.1 ≤ 10 := hT.1.2.1
  have hd := d_triangles (d := 17) ho h.1
  rw [triV_trS hT.1] at hd
  exact joinPP h hd fun D1 h1 => m_triangles (d := 17) hm h1 hT
theorem j_distance (ho : isX10 lay 0) (hm : isX11 lay 51) (h : LS2 D B (T, T', H, s, t)) (v : Int32) (w : Int32) : Same lay mX10_distance mX11_distance [.int v, .int w] D B := by
  have hT : okT T := h.1.ok.1
  have hU : okT T' := h.1.ok.2.1
  have h10 : T.1 ≤ 10 := hT.1.2.1
  by_cases c : isP T.1 v = false ∨ isP T.1 w = false
  · exact joinPP h ((d_distance (d := 17) ho h.1 v w).1 c) fun D1 h1 => (m_distance (d := 17) hm h1 hT v w).1 c
  · have c1 : isP T.1 v = true := by
      cases e : isP T.1 v with
      | true => rfl
      | false => exact absurd (Or.inl e) c
    have c2 : isP T.1 w = true := by
      cases e : isP T.1 w with
      | true => rfl
      | false => exact absurd (Or.inr e) c
    obtain ⟨p, hp, rfl⟩ := isP_of h10 c1
    obtain ⟨q, hq, rfl⟩ := isP_of h10 c2
    exact joinP h ((d_distance (d := 17) ho h.1 _ _).2 p q hp hq rfl rfl) fun D1 h1 => (m_distance (d := 17) hm h1 hT _ _).2 p q hp hq rfl rfl
theorem j_components (ho : isX10 lay 0) (hm : isX11 lay 51) (h : LS2 D B (T, T', H, s, t))  : Same lay mX10_components mX11_components [] D B := by
  have hT : okT T := h.1.ok.1
  have hU : okT T' := h.1.ok.2.1
  have h10 : T.1 ≤ 10 := hT.1.2.1
  exact joinP h (d_components (d := 16) ho h.1) fun D1 h1 => m_components (d := 18) hm h1 hT
theorem j_componentOf (ho : isX10 lay 0) (hm : isX11 lay 51) (h : LS2 D B (T, T', H, s, t)) (v : Int32) : Same lay mX10_componentOf mX11_componentOf [.int v] D B := by
  have hT : okT T := h.1.ok.1
  have hU : okT T' := h.1.ok.2.1
  have h10 : T.1 ≤ 10 := hT.1.2.1
  cases c : isP T.1 v with
  | false => exact joinPP h ((d_componentOf (d := 16) ho h.1 v).1 c) fun D1 h1 => (m_componentOf (d := 17) hm h1 hT v).1 c
  | true =>
    obtain ⟨p, hp, rfl⟩ := isP_of h10 c
    exact joinP h ((d_componentOf (d := 16) ho h.1 _).2 p hp rfl) fun D1 h1 => (m_componentOf (d := 17) hm h1 hT _).2 p hp rfl
theorem j_spanningPaths (ho : isX10 lay 0) (hm : isX11 lay 51) (h : LS2 D B (T, T', H, s, t))  : Same lay mX10_spanningPaths mX11_spanningPaths [] D B := by
  have hT : okT T := h.1.ok.1
  have hU : okT T' := h.1.ok.2.1
  have h10 : T.1 ≤ 10 := hT.1.2.1
  exact joinI h (by omega) (d_spanningPaths (d := 15) ho h.1) fun D1 h1 => m_spanningPaths (d := 18) hm h1 hT
theorem j_pathAt (ho : isX10 lay 0) (hm : isX11 lay 51) (h : LS2 D B (T, T', H, s, t)) (v : Int32) : Same lay mX10_pathAt mX11_pathAt [.int v] D B := by
  have hT : okT T := h.1.ok.1
  have hU : okT T' := h.1.ok.2.1
  have h10 : T.1 ≤ 10 := hT.1.2.1
  cases c : isP T.1 v with
  | false => exact joinPP h ((d_pathAt (d := 16) ho h.1 v).1 c) fun D1 h1 => (m_pathAt (d := 17) hm h1 hT v).1 c
  | true =>
    obtain ⟨p, hp, rfl⟩ := isP_of h10 c
    exact joinI h (by omega) ((d_pathAt (d := 16) ho h.1 _).2 p hp rfl) fun D1 h1 => (m_pathAt (d := 17) hm h1 hT _).2 p hp rfl
theorem j_cycleAt (ho : isX10 lay 0) (hm : isX11 lay 51) (h : LS2 D B (T, T', H, s, t)) (v : Int32) (w : Int32) (z : Int32) : Same lay mX10_cycleAt mX11_cycleAt [.int v, .int w, .int z] D B := by
  have hT : okT T := h.1.ok.1
  have hU : okT T' := h.1.ok.2.1
  have h10 : T.1 ≤ 10 := hT.1.2.1
  by_cases c : isP T.1 v = false ∨ w < nI 3 ∨ ¬ w ≤ nI T.1 ∨ z < nI 0 ∨ ¬ z < w
  · exact joinPP h (d_cycleAt_no (d := 5) ho h.1 c) fun D1 h1 => m_cycleAt_no (d := 16) hm h1 hT c
  · have c1 : isP T.1 v = true := by
      cases e : isP T.1 v with
      | true => rfl
      | false => exact absurd (Or.inl e) c
    obtain ⟨p, hp, rfl⟩ := isP_of h10 c1
    have c3 : w ≤ nI T.1 := Classical.byContradiction fun e => c (Or.inr (Or.inr (Or.inl e)))
    have c5 : z < w := Classical.byContradiction fun e => c (Or.inr (Or.inr (Or.inr (Or.inr e))))
    have c2 : ¬ w < nI 3 := fun e => c (Or.inr (Or.inl e))
    obtain ⟨len, hl, rfl⟩ := nI_of (x := w) (fun e => c2 (neg_lt3 e))
    obtain ⟨i, hi, rfl⟩ := nI_of (x := z) (fun e => c (Or.inr (Or.inr (Or.inr (Or.inl e)))))
    rw [nI_ltI hl (by decide)] at c2
    rw [nI_leI hl (by omega)] at c3
    rw [nI_ltI hi hl] at c5
    exact joinI h (by omega) (d_cycleAt (d := 5) ho h.1 hp (by omega) c3 c5 (prt_self hT.1 hp)) fun D1 h1 => m_cycleAt (d := 16) hm h1 hT hp (by omega) c3 c5
theorem j_cycleLengths (ho : isX10 lay 0) (hm : isX11 lay 51) (h : LS2 D B (T, T', H, s, t)) (v : Int32) : Same lay mX10_cycleLengths mX11_cycleLengths [.int v] D B := by
  have hT : okT T := h.1.ok.1
  have hU : okT T' := h.1.ok.2.1
  have h10 : T.1 ≤ 10 := hT.1.2.1
  cases c : isP T.1 v with
  | false => exact joinPP h ((d_cycleLengths (d := 15) ho h.1 v).1 c) fun D1 h1 => (m_cycleLengths (d := 17) hm h1 hT v).1 c
  | true =>
    obtain ⟨p, hp, rfl⟩ := isP_of h10 c
    exact joinP h ((d_cycleLengths (d := 15) ho h.1 _).2 p hp rfl) fun D1 h1 => (m_cycleLengths (d := 17) hm h1 hT _).2 p hp rfl
theorem j_leastCost (ho : isX10 lay 0) (hm : isX11 lay 51) (h : LS2 D B (T, T', H, s, t)) (hB : B < 2 ^ 31)  : Same lay mX10_leastCost mX11_leastCost [] D B := by
  have hT : okT T := h.1.ok.1
  have hU : okT T' := h.1.ok.2.1
  have h10 : T.1 ≤ 10 := hT.1.2.1
  exact joinI h (by omega) (d_leastCost (d := 13) ho h.1 hB) fun D1 h1 => m_leastCost (d := 16) hm h1 hT
theorem j_orderAt (ho : isX10 lay 0) (hm : isX11 lay 51) (h : LS2 D B (T, T', H, s, t)) (hB : B < 2 ^ 31) (v : Int32) : Same lay mX10_orderAt mX11_orderAt [.int v] D B := by
  have hT : okT T := h.1.ok.1
  have hU : okT T' := h.1.ok.2.1
  have h10 : T.1 ≤ 10 := hT.1.2.1
  cases c : isP T.1 v with
  | false => exact joinPP h ((d_orderAt (d := 13) ho h.1 hB v).1 c) fun D1 h1 => (m_orderAt (d := 16) hm h1 hT v).1 c
  | true =>
    obtain ⟨p, hp, rfl⟩ := isP_of h10 c
    exact joinI h (by omega) ((d_orderAt (d := 13) ho h.1 hB _).2 p hp rfl) fun D1 h1 => (m_orderAt (d := 16) hm h1 hT _).2 p hp rfl
theorem j_winners (ho : isX10 lay 0) (hm : isX11 lay 51) (h : LS2 D B (T, T', H, s, t)) (hB : B < 2 ^ 31) (v : Int32) : Same lay mX10_winners mX11_winners [.int v] D B := by
  have hT : okT T := h.1.ok.1
  have hU : okT T' := h.1.ok.2.1
  have h10 : T.1 ≤ 10 := hT.1.2.1
  by_cases c : v < nI 0 ∨ ¬ v ≤ nI 4
  · exact joinPP h (d_winners_no (d := 6) ho c) fun D1 _ => m_winners_no (d := 15) hm c
  · obtain ⟨n, n1, n2, rfl⟩ := rng (by decide) (by decide) c
    exact joinI h (by omega) (d_winners (d := 6) ho h.1 hB (by omega)) fun D1 h1 => m_winners (d := 15) hm h1 hT (by omega)
theorem j_undisputed (ho : isX10 lay 0) (hm : isX11 lay 51) (h : LS2 D B (T, T', H, s, t)) (hB : B < 2 ^ 31)  : Same lay mX10_undisputed mX11_undisputed [] D B := by
  have hT : okT T := h.1.ok.1
  have hU : okT T' := h.1.ok.2.1
  have h10 : T.1 ≤ 10 := hT.1.2.1
  exact joinI h (by omega) (d_undisputed (d := 6) ho h.1 hB) fun D1 h1 => m_undisputed (d := 15) hm h1 hT
theorem j_store (ho : isX10 lay 0) (hm : isX11 lay 51) (h : LS2 D B (T, T', H, s, t))  : Same lay mX10_store mX11_store [] D B := by
  have hT : okT T := h.1.ok.1
  have hU : okT T' := h.1.ok.2.1
  have h10 : T.1 ≤ 10 := hT.1.2.1
  exact joinI h (by omega) (d_store (d := 18) ho h.1) fun D1 h1 => m_store (d := 19) hm h1
theorem j_difference (ho : isX10 lay 0) (hm : isX11 lay 51) (h : LS2 D B (T, T', H, s, t))  : Same lay mX10_difference mX11_difference [] D B := by
  have hT : okT T := h.1.ok.1
  have hU : okT T' := h.1.ok.2.1
  have h10 : T.1 ≤ 10 := hT.1.2.1
  have hd := d_difference (d := 18) ho h.1
  have hx := fun (D1 : am_D) (h1 : RM D1 51 (T, T', H, s, t)) => m_difference (lay := lay) (D := D1) (d := 17) hm h1 hT hU
  by_cases c : T.1 = T'.1
  · have hU2 : trn T.1 T'.2.1 := by rw [c]; exact hU.1
    rw [if_pos c, dif_count hT.1 hU2] at hd
    rw [if_pos c] at hx
    exact joinPP h hd hx
  · rw [if_neg c] at hd hx
    exact joinPP h hd hx
theorem j_isLikeStored (ho : isX10 lay 0) (hm : isX11 lay 51) (h : LS2 D B (T, T', H, s, t))  : Same lay mX10_isLikeStored mX11_isLikeStored [] D B := by
  have hT : okT T := h.1.ok.1
  have hU : okT T' := h.1.ok.2.1
  have h10 : T.1 ≤ 10 := hT.1.2.1
  exact joinI h (by omega) (d_isLikeStored (d := 5) ho h.1) fun D1 h1 => m_isLikeStored (d := 17) hm h1 hT hU
theorem j_towardsStored (ho : isX10 lay 0) (hm : isX11 lay 51) (h : LS2 D B (T, T', H, s, t))  : Same lay mX10_towardsStored mX11_towardsStored [] D B := by
  have hT : okT T := h.1.ok.1
  have hU : okT T' := h.1.ok.2.1
  have h10 : T.1 ≤ 10 := hT.1.2.1
  exact joinPP h (d_towardsStored (d := 15) ho h.1) fun D1 h1 => m_towardsStored (d := 17) hm h1 hT hU
end JNT
