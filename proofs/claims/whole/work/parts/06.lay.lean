/-! layouts; contracts; a walk's pieces -/
def isX0 (lay : List am_L) (o : Nat) : Prop := lay[o]? = some (.inl (0, [none, none, some (o + 1), some (o + 2)])) ∧ lay[o + 1]? = some (.inr (.inl (false, 10))) ∧ lay[o + 2]? = some (.inr (.inl (false, 100)))
def isX1 (lay : List am_L) (o : Nat) : Prop := lay[o]? = some (.inl (1, [some (o + 1)])) ∧ lay[o + 1]? = some (.inr (.inl (false, 10)))
def isX2 (lay : List am_L) (o : Nat) : Prop := lay[o]? = some (.inl (2, [some (o + 1), some (o + 2)])) ∧ lay[o + 1]? = some (.inr (.inl (false, 10))) ∧ lay[o + 2]? = some (.inr (.inl (false, 1024)))
def isX4 (lay : List am_L) (o : Nat) : Prop := lay[o]? = some (.inl (4, [some (o + 1)])) ∧ lay[o + 1]? = some (.inr (.inl (false, 10)))
def isX5 (lay : List am_L) (o : Nat) : Prop := lay[o]? = some (.inl (5, [some (o + 1), some (o + 2), some (o + 3), none])) ∧ lay[o + 1]? = some (.inr (.inl (false, 1024))) ∧ lay[o + 2]? = some (.inr (.inl (false, 320))) ∧ lay[o + 3]? = some (.inr (.inl (false, 320)))
def isX6 (lay : List am_L) (o : Nat) : Prop := lay[o]? = some (.inl (6, [some (o + 1), some (o + 2)])) ∧ lay[o + 1]? = some (.inr (.inl (false, 10))) ∧ lay[o + 2]? = some (.inr (.inl (false, 10240)))
def isX7 (lay : List am_L) (o : Nat) : Prop := lay[o]? = some (.inl (7, [some (o + 1), none])) ∧ lay[o + 1]? = some (.inr (.inl (true, 120)))
def isX8 (lay : List am_L) (o : Nat) : Prop := lay[o]? = some (.inl (8, [some (o + 1), none])) ∧ lay[o + 1]? = some (.inr (.inl (false, 10)))
def isX11 (lay : List am_L) (o : Nat) : Prop := lay[o]? = some (.inl (10, [some (o + 1), some (o + 2), some (o + 3), none, none, some (o + 4), none, some (o + 5), some (o + 6), some (o + 7), some (o + 8), some (o + 9)])) ∧ lay[o + 1]? = some (.inr (.inl (false, 111))) ∧ lay[o + 2]? = some (.inr (.inl (false, 111))) ∧ lay[o + 3]? = some (.inr (.inl (false, 888))) ∧ lay[o + 4]? = some (.inr (.inl (false, 10))) ∧ lay[o + 5]? = some (.inr (.inl (false, 120))) ∧ lay[o + 6]? = some (.inr (.inl (false, 10240))) ∧ lay[o + 7]? = some (.inr (.inl (false, 1024))) ∧ lay[o + 8]? = some (.inr (.inl (false, 10))) ∧ lay[o + 9]? = some (.inr (.inl (false, 10)))
def am_hist (o : Nat) : List Nat := [o + 2, o + 5, o + 8, o + 11, o + 14, o + 17, o + 20, o + 23]
def isX3 (lay : List am_L) (o : Nat) : Prop := lay[o]? = some (.inl (3, [some (o + 1), none, none])) ∧ lay[o + 1]? = some (.inr (.inr (am_hist o))) ∧ ∀ j ∈ am_hist o, isX0 lay j
def isX10 (lay : List am_L) (o : Nat) : Prop := lay[o]? = some (.inl (9, [some (o + 1), some (o + 4), some (o + 7), some (o + 33), some (o + 35), some (o + 37), some (o + 39), some (o + 42), some (o + 45), some (o + 49)])) ∧ isX0 lay (o + 1) ∧ isX0 lay (o + 4) ∧ isX3 lay (o + 7) ∧ isX8 lay (o + 33) ∧ isX7 lay (o + 35) ∧ isX1 lay (o + 37) ∧ isX6 lay (o + 39) ∧ isX2 lay (o + 42) ∧ isX5 lay (o + 45) ∧ isX4 lay (o + 49)
def am_MetP (lay : List am_L) (d : Nat) (M : am_M) (av : List Value) (D : am_D) (v : Int32) : Prop := am_Met lay d M av D (fun r D1 => r = some (.int v) ∧ D1 = D)
def am_MetI (lay : List am_L) (d : Nat) (M : am_M) (av : List Value) (D : am_D) (v : Int32) (D2 : am_D) : Prop := am_Met lay d M av D (fun r D1 => r = some (.int v) ∧ D1 = D2)
def am_MetV (lay : List am_L) (d : Nat) (M : am_M) (av : List Value) (D : am_D) (D2 : am_D) : Prop := am_Met lay d M av D (fun r D1 => r = none ∧ D1 = D2)
def am_MetR (lay : List am_L) (d : Nat) (M : am_M) (av : List Value) (D : am_D) (j : Nat) : Prop := am_Met lay d M av D (fun r D1 => r = some (.ref j) ∧ D1 = D)
theorem am_set {lay : List am_L} {d : Nat} {M : am_M} {pc pc1 : Nat} {L L1 L2 st st1 : List Value} {D : am_D} {Q : Option Value → am_D → Prop} (h : am_AW lay d M pc1 L2 st1 D Q → am_AW lay d M pc L st D Q) (e : L2 = L1) (k : am_AW lay d M pc1 L1 st1 D Q) : am_AW lay d M pc L st D Q := h (by rw [e]; exact k)
def am_nul (ks : List Nat) (L : List Value) : List Value := ks.foldl (fun L k => L.set k .null) L
theorem am_drop {lay : List am_L} {d : Nat} {M : am_M} {pc : Nat} {L L1 st : List Value} {D : am_D} {Q : Option Value → am_D → Prop} (ks : List Nat) (e : am_nul ks L = L1) (k : am_AW lay d M pc L1 st D Q) : am_AW lay d M pc L st D Q := by
  subst e
  induction ks generalizing L with
  | nil => exact k
  | cons a r ih =>
    have h1 := ih k
    intro l X A p e s m args below meth c H locs ls I hl
    refine h1 l X A p e s m args below meth c H locs ls I ⟨hl.1, hl.2.1, fun q hq => hl.2.2 q ?_⟩
    obtain ⟨z, h2, h3, h4⟩ := am_ll_mem.mp hq
    by_cases hk : q.1 = a
    · exfalso
      rw [hk] at h2
      have hz : z = .null := by
        by_cases hlt : a < L.length
        · rw [List.getElem?_set_self hlt] at h2
          exact (Option.some.inj h2).symm
        · rw [List.getElem?_eq_none (by rw [List.length_set]; omega)] at h2
          cases h2
      rw [hz] at h3
      cases h3
    · rw [List.getElem?_set_ne (Ne.symm hk)] at h2
      exact am_ll_mem.mpr ⟨z, h2, h3, h4⟩
theorem am_out4 {x : Int32} (h0 : ¬ x = 0) (h1 : ¬ x = 1) (h2 : ¬ x = 2) (h3 : ¬ x = 3) : x.toInt < 0 ∨ 3 < x.toInt := by
  rcases Int.lt_or_le x.toInt 0 with h | h
  · exact Or.inl h
  · right
    rcases Int.lt_or_le 3 x.toInt with g | g
    · exact g
    · exfalso
      have : x.toInt = 0 ∨ x.toInt = 1 ∨ x.toInt = 2 ∨ x.toInt = 3 := by omega
      rcases this with e | e | e | e
      · exact h0 (Int32.toInt_inj.mp e)
      · exact h1 (Int32.toInt_inj.mp e)
      · exact h2 (Int32.toInt_inj.mp e)
      · exact h3 (Int32.toInt_inj.mp e)
