set_option maxRecDepth 20000 in
theorem eX6_playerAt {lay : List am_L} {d : Nat} {D : am_D} {Q : Option Value → am_D → Prop} {o : Nat} {v1 : Int32} (ho : isX6 lay o) (hT : ((v1 < nI 0 → Q (some (.int (-4))) D) ∧
 (¬ (v1 < nI 0) → (((nI 10) ≤ v1 → Q (some (.int (-4))) D) ∧
 (¬ ((nI 10) ≤ v1) → (vp_in v1 10 ∧ Q (some (.int (D (o + 1) (Int32.toNatClampNeg v1)))) D)))))) : am_Met lay d mX6_playerAt [.ref o, .int v1] D Q := by
  refine am_enter (by decide +kernel) rfl (Nat.le_of_ble_eq_true rfl) ?_
  show am_AW lay d mX6_playerAt 0 [.ref o, .int v1] [] D Q
  refine am_iload_n (x := v1) dX6_playerAt_0 rfl ?_
  refine am_if_lt (tgt := 22) dX6_playerAt_1 (by decide) (fun h => ?_) (fun h => ?_)
  · replace hT := hT.1 h
    refine am_bipush (v := (-4)) dX6_playerAt_22 (by decide) ?_
    exact am_ireturn (ty := .int) dX6_playerAt_24 rfl rfl hT
  · replace hT := hT.2 h
    refine am_iload_n (x := v1) dX6_playerAt_4 rfl ?_
    refine am_aload_n (x := o) dX6_playerAt_5 rfl ?_
    refine am_getR dX6_playerAt_6 fw_X6_9 ho.1 rfl ?_
    refine am_alen (v := nI 10) dX6_playerAt_9 ho.2.1 rfl (by decide) ?_
    refine am_icmp_ge (tgt := 22) dX6_playerAt_10 (by decide) (fun h => ?_) (fun h => ?_)
    · replace hT := hT.1 h
      refine am_bipush (v := (-4)) dX6_playerAt_22 (by decide) ?_
      exact am_ireturn (ty := .int) dX6_playerAt_24 rfl rfl hT
    · replace hT := hT.2 h
      refine am_aload_n (x := o) dX6_playerAt_13 rfl ?_
      refine am_getR dX6_playerAt_14 fw_X6_9 ho.1 rfl ?_
      refine am_iload_n (x := v1) dX6_playerAt_17 rfl ?_
      refine am_iald dX6_playerAt_18 ho.2.1 hT.1 ?_
      replace hT := hT.2
      refine am_goto (tgt := 24) dX6_playerAt_19 (by decide) ?_
      exact am_ireturn (ty := .int) dX6_playerAt_24 rfl rfl hT
set_option maxRecDepth 20000 in
theorem eX6_put {lay : List am_L} {d : Nat} {D : am_D} {Q : Option Value → am_D → Prop} {o : Nat} {v1 : Int32} {v2 : Int32} (ho : isX6 lay o) (hT : ((v1 < nI 0 → Q none D) ∧
 (¬ (v1 < nI 0) → (((nI 10) ≤ v1 → Q none D) ∧
 (¬ ((nI 10) ≤ v1) → (vp_in v1 10 ∧ ∀ D1, D1 = am_up D (o + 1) (Int32.toNatClampNeg v1) v2 →
 Q none D1)))))) : am_Met lay d mX6_put [.ref o, .int v1, .int v2] D Q := by
  refine am_enter (by decide +kernel) rfl (Nat.le_of_ble_eq_true rfl) ?_
  show am_AW lay d mX6_put 0 [.ref o, .int v1, .int v2] [] D Q
  refine am_iload_n (x := v1) dX6_put_0 rfl ?_
  refine am_if_lt (tgt := 20) dX6_put_1 (by decide) (fun h => ?_) (fun h => ?_)
  · replace hT := hT.1 h
    exact am_return dX6_put_20 rfl hT
  · replace hT := hT.2 h
    refine am_iload_n (x := v1) dX6_put_4 rfl ?_
    refine am_aload_n (x := o) dX6_put_5 rfl ?_
    refine am_getR dX6_put_6 fw_X6_9 ho.1 rfl ?_
    refine am_alen (v := nI 10) dX6_put_9 ho.2.1 rfl (by decide) ?_
    refine am_icmp_ge (tgt := 20) dX6_put_10 (by decide) (fun h => ?_) (fun h => ?_)
    · replace hT := hT.1 h
      exact am_return dX6_put_20 rfl hT
    · replace hT := hT.2 h
      refine am_aload_n (x := o) dX6_put_13 rfl ?_
      refine am_getR dX6_put_14 fw_X6_9 ho.1 rfl ?_
      refine am_iload_n (x := v1) dX6_put_17 rfl ?_
      refine am_iload_n (x := v2) dX6_put_18 rfl ?_
      refine am_iast dX6_put_19 ho.2.1 hT.1 ?_
      obtain ⟨D1, hD⟩ : ∃ z, z = am_up D (o + 1) (Int32.toNatClampNeg v1) v2 := ⟨_, rfl⟩
      rw [← hD]
      replace hT := hT.2 D1 hD
      clear hD
      exact am_return dX6_put_20 rfl hT
set_option maxRecDepth 20000 in
theorem eX6_stepsBetween {lay : List am_L} {d : Nat} {D : am_D} {Q : Option Value → am_D → Prop} {v0 : Nat} {v1 : Int32} {v2 : Int32} (h0 : isX0 lay v0) (hT : (∃ x1, am_MetP lay d mX10_only [.int v1] D x1 ∧
 am_AW lay (d + 1) mX6_stepsBetween 8 [.ref v0, .int v1, .int v2, .int x1, .int (nI 0)] [] D Q)) : am_Met lay (d + 1) mX6_stepsBetween [.ref v0, .int v1, .int v2] D Q := by
  refine am_enter (by decide +kernel) rfl (Nat.le_of_ble_eq_true rfl) ?_
  show am_AW lay (d + 1) mX6_stepsBetween 0 [.ref v0, .int v1, .int v2, .null, .null] [] D Q
  refine am_iload_n (x := v1) dX6_stepsBetween_0 rfl ?_
  obtain ⟨x1, hm, hT⟩ := hT
  refine am_callSN (av := [.int v1]) (st := []) cw_X10_only cl_X6_18 ck_X10_only (Nat.le_of_ble_eq_true rfl) dX6_stepsBetween_1 hm (fun r D9 hr => ?_)
  obtain ⟨rfl, e9⟩ := hr
  rw [e9]
  clear e9
  refine am_set (am_istore_n dX6_stepsBetween_4 (by decide)) (L1 := [.ref v0, .int v1, .int v2, .int x1, .null]) rfl ?_
  refine am_iconst (v := (nI 0)) dX6_stepsBetween_5 (by decide) ?_
  refine am_set (am_istore dX6_stepsBetween_6 (by decide)) (L1 := [.ref v0, .int v1, .int v2, .int x1, .int (nI 0)]) rfl ?_
  exact hT
set_option maxRecDepth 20000 in
theorem rX6_stepsBetween_8 {lay : List am_L} {d : Nat} {D : am_D} {Q : Option Value → am_D → Prop} {v0 : Nat} {v1 : Int32} {v2 : Int32} {v3 : Int32} {v4 : Int32} (h0 : isX0 lay v0) (hT : (∃ x1, am_MetP lay d mX0_size [.ref v0] D x1 ∧
 ((x1 ≤ v4 → Q (some (.int (-4))) D) ∧
 (¬ (x1 ≤ v4) → (∃ x2, am_MetP lay d mX10_holds [.int v3, .int v2] D x2 ∧
 ((x2 = nI 0 → (∃ x3, am_MetP lay d mX6_beatenByAny [.ref v0, .int v3] D x3 ∧
 am_AW lay (d + 1) mX6_stepsBetween 8 [.ref v0, .int v1, .int v2, .int (v3 ||| x3), .int (v4 + (nI 1))] [] D Q)) ∧
 (¬ (x2 = nI 0) → Q (some (.int v4)) D))))))) : am_AW lay (d + 1) mX6_stepsBetween 8 [.ref v0, .int v1, .int v2, .int v3, .int v4] [] D Q := by
  refine am_iload (x := v4) dX6_stepsBetween_8 rfl ?_
  refine am_aload_n (x := v0) dX6_stepsBetween_10 rfl ?_
  obtain ⟨x1, hm, hT⟩ := hT
  refine am_callV (av := []) (st := [.int v4]) (b := v0) cw_X0_size cl_X6_22 ck_X0_size cs_X0_size h0.1 rfl rfl (Nat.le_of_ble_eq_true rfl) dX6_stepsBetween_11 hm (fun r D9 hr => ?_)
  obtain ⟨rfl, e9⟩ := hr
  rw [e9]
  clear e9
  refine am_icmp_ge (tgt := 42) dX6_stepsBetween_14 (by decide) (fun h => ?_) (fun h => ?_)
  · replace hT := hT.1 h
    refine am_bipush (v := (-4)) dX6_stepsBetween_42 (by decide) ?_
    exact am_ireturn (ty := .int) dX6_stepsBetween_44 rfl rfl hT
  · replace hT := hT.2 h
    refine am_iload_n (x := v3) dX6_stepsBetween_17 rfl ?_
    refine am_iload_n (x := v2) dX6_stepsBetween_18 rfl ?_
    obtain ⟨x2, hm, hT⟩ := hT
    refine am_callSN (av := [.int v3, .int v2]) (st := []) cw_X10_holds cl_X6_28 ck_X10_holds (Nat.le_of_ble_eq_true rfl) dX6_stepsBetween_19 hm (fun r D9 hr => ?_)
    obtain ⟨rfl, e9⟩ := hr
    rw [e9]
    clear e9
    refine am_if_eq (tgt := 28) dX6_stepsBetween_22 (by decide) (fun h => ?_) (fun h => ?_)
    · replace hT := hT.1 h
      refine am_iload_n (x := v3) dX6_stepsBetween_28 rfl ?_
      refine am_aload_n (x := v0) dX6_stepsBetween_29 rfl ?_
      refine am_iload_n (x := v3) dX6_stepsBetween_30 rfl ?_
      obtain ⟨x3, hm, hT⟩ := hT
      refine am_callS (av := [.ref v0, .int v3]) (st := [.int v3]) cw_X6_beatenByAny cl_X6_32 ck_X6_beatenByAny (Nat.le_of_ble_eq_true rfl) dX6_stepsBetween_31 hm (fun r D9 hr => ?_)
      obtain ⟨rfl, e9⟩ := hr
      rw [e9]
      clear e9
      refine am_ior dX6_stepsBetween_34 ?_
      refine am_set (am_istore_n dX6_stepsBetween_35 (by decide)) (L1 := [.ref v0, .int v1, .int v2, .int (v3 ||| x3), .int v4]) rfl ?_
      refine am_set (am_iinc (x := v4) (c0 := (nI 1)) dX6_stepsBetween_36 (by decide) rfl (by decide)) (L1 := [.ref v0, .int v1, .int v2, .int (v3 ||| x3), .int (v4 + (nI 1))]) rfl ?_
      refine am_goto (tgt := 8) dX6_stepsBetween_39 (by decide) ?_
      exact hT
    · replace hT := hT.2 h
      refine am_iload (x := v4) dX6_stepsBetween_25 rfl ?_
      exact am_ireturn (ty := .int) dX6_stepsBetween_27 rfl rfl hT
set_option maxRecDepth 20000 in
theorem eX6_beatenByAny {lay : List am_L} {d : Nat} {D : am_D} {Q : Option Value → am_D → Prop} {v0 : Nat} {v1 : Int32} (h0 : isX0 lay v0) (hT : am_AW lay (d + 1) mX6_beatenByAny 4 [.ref v0, .int v1, .int (nI 0), .int (nI 0)] [] D Q) : am_Met lay (d + 1) mX6_beatenByAny [.ref v0, .int v1] D Q := by
  refine am_enter (by decide +kernel) rfl (Nat.le_of_ble_eq_true rfl) ?_
  show am_AW lay (d + 1) mX6_beatenByAny 0 [.ref v0, .int v1, .null, .null] [] D Q
  refine am_iconst (v := (nI 0)) dX6_beatenByAny_0 (by decide) ?_
  refine am_set (am_istore_n dX6_beatenByAny_1 (by decide)) (L1 := [.ref v0, .int v1, .int (nI 0), .null]) rfl ?_
  refine am_iconst (v := (nI 0)) dX6_beatenByAny_2 (by decide) ?_
  refine am_set (am_istore_n dX6_beatenByAny_3 (by decide)) (L1 := [.ref v0, .int v1, .int (nI 0), .int (nI 0)]) rfl ?_
  exact hT
set_option maxRecDepth 20000 in
theorem rX6_beatenByAny_4 {lay : List am_L} {d : Nat} {D : am_D} {Q : Option Value → am_D → Prop} {v0 : Nat} {v1 : Int32} {v2 : Int32} {v3 : Int32} (h0 : isX0 lay v0) (hT : (∃ x1, am_MetP lay d mX0_size [.ref v0] D x1 ∧
 ((x1 ≤ v3 → Q (some (.int v2)) D) ∧
 (¬ (x1 ≤ v3) → (∃ x2, am_MetP lay d mX10_holds [.int v1, .int v3] D x2 ∧
 ((x2 = nI 0 → am_AW lay (d + 1) mX6_beatenByAny 4 [.ref v0, .int v1, .int v2, .int (v3 + (nI 1))] [] D Q) ∧
 (¬ (x2 = nI 0) → (∃ x3, am_MetP lay d mX0_beatenBy [.ref v0, .int v3] D x3 ∧
 am_AW lay (d + 1) mX6_beatenByAny 4 [.ref v0, .int v1, .int (v2 ||| x3), .int (v3 + (nI 1))] [] D Q)))))))) : am_AW lay (d + 1) mX6_beatenByAny 4 [.ref v0, .int v1, .int v2, .int v3] [] D Q := by
  refine am_iload_n (x := v3) dX6_beatenByAny_4 rfl ?_
  refine am_aload_n (x := v0) dX6_beatenByAny_5 rfl ?_
  obtain ⟨x1, hm, hT⟩ := hT
  refine am_callV (av := []) (st := [.int v3]) (b := v0) cw_X0_size cl_X6_22 ck_X0_size cs_X0_size h0.1 rfl rfl (Nat.le_of_ble_eq_true rfl) dX6_beatenByAny_6 hm (fun r D9 hr => ?_)
  obtain ⟨rfl, e9⟩ := hr
  rw [e9]
  clear e9
  refine am_icmp_ge (tgt := 34) dX6_beatenByAny_9 (by decide) (fun h => ?_) (fun h => ?_)
  · replace hT := hT.1 h
    refine am_iload_n (x := v2) dX6_beatenByAny_34 rfl ?_
    exact am_ireturn (ty := .int) dX6_beatenByAny_35 rfl rfl hT
  · replace hT := hT.2 h
    refine am_iload_n (x := v1) dX6_beatenByAny_12 rfl ?_
    refine am_iload_n (x := v3) dX6_beatenByAny_13 rfl ?_
    obtain ⟨x2, hm, hT⟩ := hT
    refine am_callSN (av := [.int v1, .int v3]) (st := []) cw_X10_holds cl_X6_28 ck_X10_holds (Nat.le_of_ble_eq_true rfl) dX6_beatenByAny_14 hm (fun r D9 hr => ?_)
    obtain ⟨rfl, e9⟩ := hr
    rw [e9]
    clear e9
    refine am_if_eq (tgt := 28) dX6_beatenByAny_17 (by decide) (fun h => ?_) (fun h => ?_)
    · replace hT := hT.1 h
      refine am_set (am_iinc (x := v3) (c0 := (nI 1)) dX6_beatenByAny_28 (by decide) rfl (by decide)) (L1 := [.ref v0, .int v1, .int v2, .int (v3 + (nI 1))]) rfl ?_
      refine am_goto (tgt := 4) dX6_beatenByAny_31 (by decide) ?_
      exact hT
    · replace hT := hT.2 h
      refine am_iload_n (x := v2) dX6_beatenByAny_20 rfl ?_
      refine am_aload_n (x := v0) dX6_beatenByAny_21 rfl ?_
      refine am_iload_n (x := v3) dX6_beatenByAny_22 rfl ?_
      obtain ⟨x3, hm, hT⟩ := hT
      refine am_callV (av := [.int v3]) (st := [.int v2]) (b := v0) cw_X0_beatenBy cl_X6_36 ck_X0_beatenBy cs_X0_beatenBy h0.1 rfl rfl (Nat.le_of_ble_eq_true rfl) dX6_beatenByAny_23 hm (fun r D9 hr => ?_)
      obtain ⟨rfl, e9⟩ := hr
      rw [e9]
      clear e9
      refine am_ior dX6_beatenByAny_26 ?_
      refine am_set (am_istore_n dX6_beatenByAny_27 (by decide)) (L1 := [.ref v0, .int v1, .int (v2 ||| x3), .int v3]) rfl ?_
      refine am_set (am_iinc (x := v3) (c0 := (nI 1)) dX6_beatenByAny_28 (by decide) rfl (by decide)) (L1 := [.ref v0, .int v1, .int (v2 ||| x3), .int (v3 + (nI 1))]) rfl ?_
      refine am_goto (tgt := 4) dX6_beatenByAny_31 (by decide) ?_
      exact hT
set_option maxRecDepth 20000 in
theorem eX6_findShortest {lay : List am_L} {d : Nat} {D : am_D} {Q : Option Value → am_D → Prop} {o : Nat} {v1 : Nat} {v2 : Int32} {v3 : Int32} (ho : isX6 lay o) (h1 : isX0 lay v1) (hT : (∃ x1, am_MetP lay d mX6_stepsBetween [.ref v1, .int v2, .int v3] D x1 ∧
 (∃ D2, am_MetV lay d mX6_put [.ref o, .int (nI 0), .int v2] D D2 ∧
 am_AW lay (d + 1) mX6_findShortest 17 [.ref o, .ref v1, .int v2, .int v3, .int x1, .int (nI 1)] [] D2 Q))) : am_Met lay (d + 1) mX6_findShortest [.ref o, .ref v1, .int v2, .int v3] D Q := by
  refine am_enter (by decide +kernel) rfl (Nat.le_of_ble_eq_true rfl) ?_
  show am_AW lay (d + 1) mX6_findShortest 0 [.ref o, .ref v1, .int v2, .int v3, .null, .null] [] D Q
  refine am_aload_n (x := v1) dX6_findShortest_0 rfl ?_
  refine am_iload_n (x := v2) dX6_findShortest_1 rfl ?_
  refine am_iload_n (x := v3) dX6_findShortest_2 rfl ?_
  obtain ⟨x1, hm, hT⟩ := hT
  refine am_callS (av := [.ref v1, .int v2, .int v3]) (st := []) cw_X6_stepsBetween cl_X6_39 ck_X6_stepsBetween (Nat.le_of_ble_eq_true rfl) dX6_findShortest_3 hm (fun r D9 hr => ?_)
  obtain ⟨rfl, e9⟩ := hr
  rw [e9]
  clear e9
  refine am_set (am_istore dX6_findShortest_6 (by decide)) (L1 := [.ref o, .ref v1, .int v2, .int v3, .int x1, .null]) rfl ?_
  refine am_aload_n (x := o) dX6_findShortest_8 rfl ?_
  refine am_iconst (v := (nI 0)) dX6_findShortest_9 (by decide) ?_
  refine am_iload_n (x := v2) dX6_findShortest_10 rfl ?_
  obtain ⟨D2, hm, hT⟩ := hT
  refine am_callV (av := [.int (nI 0), .int v2]) (st := []) (b := o) cw_X6_put cl_X6_43 ck_X6_put cs_X6_put ho.1 rfl rfl (Nat.le_of_ble_eq_true rfl) dX6_findShortest_11 hm (fun r D9 hr => ?_)
  obtain ⟨rfl, e9⟩ := hr
  rw [e9]
  clear e9
  refine am_iconst (v := (nI 1)) dX6_findShortest_14 (by decide) ?_
  refine am_set (am_istore dX6_findShortest_15 (by decide)) (L1 := [.ref o, .ref v1, .int v2, .int v3, .int x1, .int (nI 1)]) rfl ?_
  exact hT
set_option maxRecDepth 20000 in
theorem rX6_findShortest_17 {lay : List am_L} {d : Nat} {D : am_D} {Q : Option Value → am_D → Prop} {o : Nat} {v1 : Nat} {v2 : Int32} {v3 : Int32} {v4 : Int32} {v5 : Int32} (ho : isX6 lay o) (h1 : isX0 lay v1) (hT : ((v4 < v5 → Q none D) ∧
 (¬ (v4 < v5) → (((nI 10) ≤ v5 → Q none D) ∧
 (¬ ((nI 10) ≤ v5) → (∃ x1, am_MetP lay d mX6_playerAt [.ref o, .int (v5 - (nI 1))] D x1 ∧
 (∃ x2, am_MetP lay d mX6_nextTowards [.ref v1, .int x1, .int v3, .int (v4 - v5)] D x2 ∧
 (∃ D3, am_MetV lay d mX6_put [.ref o, .int v5, .int x2] D D3 ∧
 am_AW lay (d + 1) mX6_findShortest 17 [.ref o, .ref v1, .int v2, .int v3, .int v4, .int (v5 + (nI 1))] [] D3 Q)))))))) : am_AW lay (d + 1) mX6_findShortest 17 [.ref o, .ref v1, .int v2, .int v3, .int v4, .int v5] [] D Q := by
  refine am_iload (x := v5) dX6_findShortest_17 rfl ?_
  refine am_iload (x := v4) dX6_findShortest_19 rfl ?_
  refine am_icmp_gt (tgt := 61) dX6_findShortest_21 (by decide) (fun h => ?_) (fun h => ?_)
  · replace hT := hT.1 h
    exact am_return dX6_findShortest_61 rfl hT
  · replace hT := hT.2 h
    refine am_iload (x := v5) dX6_findShortest_24 rfl ?_
    refine am_bipush (v := (nI 10)) dX6_findShortest_26 (by decide) ?_
    refine am_icmp_ge (tgt := 61) dX6_findShortest_28 (by decide) (fun h => ?_) (fun h => ?_)
    · replace hT := hT.1 h
      exact am_return dX6_findShortest_61 rfl hT
    · replace hT := hT.2 h
      refine am_aload_n (x := o) dX6_findShortest_31 rfl ?_
      refine am_iload (x := v5) dX6_findShortest_32 rfl ?_
      refine am_aload_n (x := v1) dX6_findShortest_34 rfl ?_
      refine am_aload_n (x := o) dX6_findShortest_35 rfl ?_
      refine am_iload (x := v5) dX6_findShortest_36 rfl ?_
      refine am_iconst (v := (nI 1)) dX6_findShortest_38 (by decide) ?_
      refine am_isub dX6_findShortest_39 ?_
      obtain ⟨x1, hm, hT⟩ := hT
      refine am_callV (av := [.int (v5 - (nI 1))]) (st := [.ref v1, .int v5, .ref o]) (b := o) cw_X6_playerAt cl_X6_47 ck_X6_playerAt cs_X6_playerAt ho.1 rfl rfl (Nat.le_of_ble_eq_true rfl) dX6_findShortest_40 hm (fun r D9 hr => ?_)
      obtain ⟨rfl, e9⟩ := hr
      rw [e9]
      clear e9
      refine am_iload_n (x := v3) dX6_findShortest_43 rfl ?_
      refine am_iload (x := v4) dX6_findShortest_44 rfl ?_
      refine am_iload (x := v5) dX6_findShortest_46 rfl ?_
      refine am_isub dX6_findShortest_48 ?_
      obtain ⟨x2, hm, hT⟩ := hT
      refine am_callS (av := [.ref v1, .int x1, .int v3, .int (v4 - v5)]) (st := [.int v5, .ref o]) cw_X6_nextTowards cl_X6_50 ck_X6_nextTowards (Nat.le_of_ble_eq_true rfl) dX6_findShortest_49 hm (fun r D9 hr => ?_)
      obtain ⟨rfl, e9⟩ := hr
      rw [e9]
      clear e9
      obtain ⟨D3, hm, hT⟩ := hT
      refine am_callV (av := [.int v5, .int x2]) (st := []) (b := o) cw_X6_put cl_X6_43 ck_X6_put cs_X6_put ho.1 rfl rfl (Nat.le_of_ble_eq_true rfl) dX6_findShortest_52 hm (fun r D9 hr => ?_)
      obtain ⟨rfl, e9⟩ := hr
      rw [e9]
      clear e9
      refine am_set (am_iinc (x := v5) (c0 := (nI 1)) dX6_findShortest_55 (by decide) rfl (by decide)) (L1 := [.ref o, .ref v1, .int v2, .int v3, .int v4, .int (v5 + (nI 1))]) rfl ?_
      refine am_goto (tgt := 17) dX6_findShortest_58 (by decide) ?_
      exact hT
set_option maxRecDepth 20000 in
theorem eX6_nextTowards {lay : List am_L} {d : Nat} {D : am_D} {Q : Option Value → am_D → Prop} {v0 : Nat} {v1 : Int32} {v2 : Int32} {v3 : Int32} (h0 : isX0 lay v0) (hT : am_AW lay (d + 1) mX6_nextTowards 3 [.ref v0, .int v1, .int v2, .int v3, .int (nI 0)] [] D Q) : am_Met lay (d + 1) mX6_nextTowards [.ref v0, .int v1, .int v2, .int v3] D Q := by
  refine am_enter (by decide +kernel) rfl (Nat.le_of_ble_eq_true rfl) ?_
  show am_AW lay (d + 1) mX6_nextTowards 0 [.ref v0, .int v1, .int v2, .int v3, .null] [] D Q
  refine am_iconst (v := (nI 0)) dX6_nextTowards_0 (by decide) ?_
  refine am_set (am_istore dX6_nextTowards_1 (by decide)) (L1 := [.ref v0, .int v1, .int v2, .int v3, .int (nI 0)]) rfl ?_
  exact hT
set_option maxRecDepth 20000 in
theorem rX6_nextTowards_3 {lay : List am_L} {d : Nat} {D : am_D} {Q : Option Value → am_D → Prop} {v0 : Nat} {v1 : Int32} {v2 : Int32} {v3 : Int32} {v4 : Int32} (h0 : isX0 lay v0) (hT : (∃ x1, am_MetP lay d mX0_size [.ref v0] D x1 ∧
 ((x1 ≤ v4 → Q (some (.int (-4))) D) ∧
 (¬ (x1 ≤ v4) → (∃ x2, am_MetP lay d mX0_wins [.ref v0, .int v1, .int v4] D x2 ∧
 ((x2 = nI 0 → am_AW lay (d + 1) mX6_nextTowards 3 [.ref v0, .int v1, .int v2, .int v3, .int (v4 + (nI 1))] [] D Q) ∧
 (¬ (x2 = nI 0) → (∃ x3, am_MetP lay d mX6_stepsBetween [.ref v0, .int v4, .int v2] D x3 ∧
 ((¬ x3 = v3 → am_AW lay (d + 1) mX6_nextTowards 3 [.ref v0, .int v1, .int v2, .int v3, .int (v4 + (nI 1))] [] D Q) ∧
 (¬ (¬ x3 = v3) → Q (some (.int v4)) D)))))))))) : am_AW lay (d + 1) mX6_nextTowards 3 [.ref v0, .int v1, .int v2, .int v3, .int v4] [] D Q := by
  refine am_iload (x := v4) dX6_nextTowards_3 rfl ?_
  refine am_aload_n (x := v0) dX6_nextTowards_5 rfl ?_
  obtain ⟨x1, hm, hT⟩ := hT
  refine am_callV (av := []) (st := [.int v4]) (b := v0) cw_X0_size cl_X6_22 ck_X0_size cs_X0_size h0.1 rfl rfl (Nat.le_of_ble_eq_true rfl) dX6_nextTowards_6 hm (fun r D9 hr => ?_)
  obtain ⟨rfl, e9⟩ := hr
  rw [e9]
  clear e9
  refine am_icmp_ge (tgt := 42) dX6_nextTowards_9 (by decide) (fun h => ?_) (fun h => ?_)
  · replace hT := hT.1 h
    refine am_bipush (v := (-4)) dX6_nextTowards_42 (by decide) ?_
    exact am_ireturn (ty := .int) dX6_nextTowards_44 rfl rfl hT
  · replace hT := hT.2 h
    refine am_aload_n (x := v0) dX6_nextTowards_12 rfl ?_
    refine am_iload_n (x := v1) dX6_nextTowards_13 rfl ?_
    refine am_iload (x := v4) dX6_nextTowards_14 rfl ?_
    obtain ⟨x2, hm, hT⟩ := hT
    refine am_callV (av := [.int v1, .int v4]) (st := []) (b := v0) cw_X0_wins cl_X6_54 ck_X0_wins cs_X0_wins h0.1 rfl rfl (Nat.le_of_ble_eq_true rfl) dX6_nextTowards_16 hm (fun r D9 hr => ?_)
    obtain ⟨rfl, e9⟩ := hr
    rw [e9]
    clear e9
    refine am_if_eq (tgt := 36) dX6_nextTowards_19 (by decide) (fun h => ?_) (fun h => ?_)
    · replace hT := hT.1 h
      refine am_set (am_iinc (x := v4) (c0 := (nI 1)) dX6_nextTowards_36 (by decide) rfl (by decide)) (L1 := [.ref v0, .int v1, .int v2, .int v3, .int (v4 + (nI 1))]) rfl ?_
      refine am_goto (tgt := 3) dX6_nextTowards_39 (by decide) ?_
      exact hT
    · replace hT := hT.2 h
      refine am_aload_n (x := v0) dX6_nextTowards_22 rfl ?_
      refine am_iload (x := v4) dX6_nextTowards_23 rfl ?_
      refine am_iload_n (x := v2) dX6_nextTowards_25 rfl ?_
      obtain ⟨x3, hm, hT⟩ := hT
      refine am_callS (av := [.ref v0, .int v4, .int v2]) (st := []) cw_X6_stepsBetween cl_X6_39 ck_X6_stepsBetween (Nat.le_of_ble_eq_true rfl) dX6_nextTowards_26 hm (fun r D9 hr => ?_)
      obtain ⟨rfl, e9⟩ := hr
      rw [e9]
      clear e9
      refine am_iload_n (x := v3) dX6_nextTowards_29 rfl ?_
      refine am_icmp_ne (tgt := 36) dX6_nextTowards_30 (by decide) (fun h => ?_) (fun h => ?_)
      · replace hT := hT.1 h
        refine am_set (am_iinc (x := v4) (c0 := (nI 1)) dX6_nextTowards_36 (by decide) rfl (by decide)) (L1 := [.ref v0, .int v1, .int v2, .int v3, .int (v4 + (nI 1))]) rfl ?_
        refine am_goto (tgt := 3) dX6_nextTowards_39 (by decide) ?_
        exact hT
      · replace hT := hT.2 h
        refine am_iload (x := v4) dX6_nextTowards_33 rfl ?_
        exact am_ireturn (ty := .int) dX6_nextTowards_35 rfl rfl hT
set_option maxRecDepth 20000 in
theorem eX6_findSpanning {lay : List am_L} {d : Nat} {D : am_D} {Q : Option Value → am_D → Prop} {o : Nat} {v1 : Nat} (ho : isX6 lay o) (h1 : isX0 lay v1) (hT : (∃ x1, am_MetP lay d mX0_everyone [.ref v1] D x1 ∧
 am_AW lay (d + 1) mX6_findSpanning 10 [.ref o, .ref v1, .int x1, .int x1, .int (nI 0), .null] [] D Q)) : am_Met lay (d + 1) mX6_findSpanning [.ref o, .ref v1] D Q := by
  refine am_enter (by decide +kernel) rfl (Nat.le_of_ble_eq_true rfl) ?_
  show am_AW lay (d + 1) mX6_findSpanning 0 [.ref o, .ref v1, .null, .null, .null, .null] [] D Q
  refine am_aload_n (x := v1) dX6_findSpanning_0 rfl ?_
  obtain ⟨x1, hm, hT⟩ := hT
  refine am_callV (av := []) (st := []) (b := v1) cw_X0_everyone cl_X6_57 ck_X0_everyone cs_X0_everyone h1.1 rfl rfl (Nat.le_of_ble_eq_true rfl) dX6_findSpanning_1 hm (fun r D9 hr => ?_)
  obtain ⟨rfl, e9⟩ := hr
  rw [e9]
  clear e9
  refine am_set (am_istore_n dX6_findSpanning_4 (by decide)) (L1 := [.ref o, .ref v1, .int x1, .null, .null, .null]) rfl ?_
  refine am_iload_n (x := x1) dX6_findSpanning_5 rfl ?_
  refine am_set (am_istore_n dX6_findSpanning_6 (by decide)) (L1 := [.ref o, .ref v1, .int x1, .int x1, .null, .null]) rfl ?_
  refine am_iconst (v := (nI 0)) dX6_findSpanning_7 (by decide) ?_
  refine am_set (am_istore dX6_findSpanning_8 (by decide)) (L1 := [.ref o, .ref v1, .int x1, .int x1, .int (nI 0), .null]) rfl ?_
  exact hT
set_option maxRecDepth 20000 in
theorem rX6_findSpanning_10 {lay : List am_L} {d : Nat} {D : am_D} {Q : Option Value → am_D → Prop} {o : Nat} {v1 : Nat} {v2 : Int32} {v3 : Int32} {v4 : Int32} (ho : isX6 lay o) (h1 : isX0 lay v1) (hT : (∃ x1, am_MetP lay d mX0_size [.ref v1] D x1 ∧
 ((x1 ≤ v4 → Q none D) ∧
 (¬ (x1 ≤ v4) → (∃ x2, am_MetP lay d mX9_topOf [.ref v1, .int v2] D x2 ∧
 (∃ x3, am_MetP lay d mX10_lowestOf [.int (x2 &&& v3)] D x3 ∧
 (∃ D4, am_MetV lay d mX6_put [.ref o, .int v4, .int x3] D D4 ∧
 (∃ x5, am_MetP lay d mX10_without [.int v2, .int x3] D4 x5 ∧
 (∃ x6, am_MetP lay d mX0_beatenBy [.ref v1, .int x3] D4 x6 ∧
 am_AW lay (d + 1) mX6_findSpanning 10 [.ref o, .ref v1, .int x5, .int x6, .int (v4 + (nI 1)), .null] [] D4 Q))))))))) : am_AW lay (d + 1) mX6_findSpanning 10 [.ref o, .ref v1, .int v2, .int v3, .int v4, .null] [] D Q := by
  refine am_iload (x := v4) dX6_findSpanning_10 rfl ?_
  refine am_aload_n (x := v1) dX6_findSpanning_12 rfl ?_
  obtain ⟨x1, hm, hT⟩ := hT
  refine am_callV (av := []) (st := [.int v4]) (b := v1) cw_X0_size cl_X6_22 ck_X0_size cs_X0_size h1.1 rfl rfl (Nat.le_of_ble_eq_true rfl) dX6_findSpanning_13 hm (fun r D9 hr => ?_)
  obtain ⟨rfl, e9⟩ := hr
  rw [e9]
  clear e9
  refine am_icmp_ge (tgt := 59) dX6_findSpanning_16 (by decide) (fun h => ?_) (fun h => ?_)
  · replace hT := hT.1 h
    exact am_return dX6_findSpanning_59 rfl hT
  · replace hT := hT.2 h
    refine am_aload_n (x := v1) dX6_findSpanning_19 rfl ?_
    refine am_iload_n (x := v2) dX6_findSpanning_20 rfl ?_
    obtain ⟨x2, hm, hT⟩ := hT
    refine am_callS (av := [.ref v1, .int v2]) (st := []) cw_X9_topOf cl_X6_60 ck_X9_topOf (Nat.le_of_ble_eq_true rfl) dX6_findSpanning_21 hm (fun r D9 hr => ?_)
    obtain ⟨rfl, e9⟩ := hr
    rw [e9]
    clear e9
    refine am_iload_n (x := v3) dX6_findSpanning_24 rfl ?_
    refine am_iand dX6_findSpanning_25 ?_
    obtain ⟨x3, hm, hT⟩ := hT
    refine am_callSN (av := [.int (x2 &&& v3)]) (st := []) cw_X10_lowestOf cl_X6_65 ck_X10_lowestOf (Nat.le_of_ble_eq_true rfl) dX6_findSpanning_26 hm (fun r D9 hr => ?_)
    obtain ⟨rfl, e9⟩ := hr
    rw [e9]
    clear e9
    refine am_set (am_istore dX6_findSpanning_29 (by decide)) (L1 := [.ref o, .ref v1, .int v2, .int v3, .int v4, .int x3]) rfl ?_
    refine am_aload_n (x := o) dX6_findSpanning_31 rfl ?_
    refine am_iload (x := v4) dX6_findSpanning_32 rfl ?_
    refine am_iload (x := x3) dX6_findSpanning_34 rfl ?_
    obtain ⟨D4, hm, hT⟩ := hT
    refine am_callV (av := [.int v4, .int x3]) (st := []) (b := o) cw_X6_put cl_X6_43 ck_X6_put cs_X6_put ho.1 rfl rfl (Nat.le_of_ble_eq_true rfl) dX6_findSpanning_36 hm (fun r D9 hr => ?_)
    obtain ⟨rfl, e9⟩ := hr
    rw [e9]
    clear e9
    refine am_iload_n (x := v2) dX6_findSpanning_39 rfl ?_
    refine am_iload (x := x3) dX6_findSpanning_40 rfl ?_
    obtain ⟨x5, hm, hT⟩ := hT
    refine am_callSN (av := [.int v2, .int x3]) (st := []) cw_X10_without cl_X6_68 ck_X10_without (Nat.le_of_ble_eq_true rfl) dX6_findSpanning_42 hm (fun r D9 hr => ?_)
    obtain ⟨rfl, e9⟩ := hr
    rw [e9]
    clear e9
    refine am_set (am_istore_n dX6_findSpanning_45 (by decide)) (L1 := [.ref o, .ref v1, .int x5, .int v3, .int v4, .int x3]) rfl ?_
    refine am_aload_n (x := v1) dX6_findSpanning_46 rfl ?_
    refine am_iload (x := x3) dX6_findSpanning_47 rfl ?_
    obtain ⟨x6, hm, hT⟩ := hT
    refine am_callV (av := [.int x3]) (st := []) (b := v1) cw_X0_beatenBy cl_X6_36 ck_X0_beatenBy cs_X0_beatenBy h1.1 rfl rfl (Nat.le_of_ble_eq_true rfl) dX6_findSpanning_49 hm (fun r D9 hr => ?_)
    obtain ⟨rfl, e9⟩ := hr
    rw [e9]
    clear e9
    refine am_set (am_istore_n dX6_findSpanning_52 (by decide)) (L1 := [.ref o, .ref v1, .int x5, .int x6, .int v4, .int x3]) rfl ?_
    refine am_set (am_iinc (x := v4) (c0 := (nI 1)) dX6_findSpanning_53 (by decide) rfl (by decide)) (L1 := [.ref o, .ref v1, .int x5, .int x6, .int (v4 + (nI 1)), .int x3]) rfl ?_
    refine am_goto (tgt := 10) dX6_findSpanning_56 (by decide) ?_
    refine am_drop [5] (L1 := [.ref o, .ref v1, .int x5, .int x6, .int (v4 + (nI 1)), .null]) rfl ?_
    exact hT
set_option maxRecDepth 20000 in
theorem eX6_countSpanning {lay : List am_L} {d : Nat} {D : am_D} {Q : Option Value → am_D → Prop} {o : Nat} {v1 : Nat} (ho : isX6 lay o) (h1 : isX0 lay v1) (hT : (∃ x1, am_MetP lay d mX0_everyone [.ref v1] D x1 ∧
 am_AW lay (d + 1) mX6_countSpanning 7 [.ref o, .ref v1, .int x1, .int (nI 1), .null] [] D Q)) : am_Met lay (d + 1) mX6_countSpanning [.ref o, .ref v1] D Q := by
  refine am_enter (by decide +kernel) rfl (Nat.le_of_ble_eq_true rfl) ?_
  show am_AW lay (d + 1) mX6_countSpanning 0 [.ref o, .ref v1, .null, .null, .null] [] D Q
  refine am_aload_n (x := v1) dX6_countSpanning_0 rfl ?_
  obtain ⟨x1, hm, hT⟩ := hT
  refine am_callV (av := []) (st := []) (b := v1) cw_X0_everyone cl_X6_57 ck_X0_everyone cs_X0_everyone h1.1 rfl rfl (Nat.le_of_ble_eq_true rfl) dX6_countSpanning_1 hm (fun r D9 hr => ?_)
  obtain ⟨rfl, e9⟩ := hr
  rw [e9]
  clear e9
  refine am_set (am_istore_n dX6_countSpanning_4 (by decide)) (L1 := [.ref o, .ref v1, .int x1, .null, .null]) rfl ?_
  refine am_iconst (v := (nI 1)) dX6_countSpanning_5 (by decide) ?_
  refine am_set (am_istore_n dX6_countSpanning_6 (by decide)) (L1 := [.ref o, .ref v1, .int x1, .int (nI 1), .null]) rfl ?_
  exact hT
set_option maxRecDepth 20000 in
theorem rX6_countSpanning_7 {lay : List am_L} {d : Nat} {D : am_D} {Q : Option Value → am_D → Prop} {o : Nat} {v1 : Nat} {v2 : Int32} {v3 : Int32} (ho : isX6 lay o) (h1 : isX0 lay v1) (hT : ((v2 < v3 → (∃ x1, am_MetP lay d mX6_sumOfCounts [.ref o, .int v2, .int v2] D x1 ∧
 Q (some (.int x1)) D)) ∧
 (¬ (v2 < v3) → am_AW lay (d + 1) mX6_countSpanning 15 [.ref o, .ref v1, .int v2, .int v3, .int (nI 0)] [] D Q))) : am_AW lay (d + 1) mX6_countSpanning 7 [.ref o, .ref v1, .int v2, .int v3, .null] [] D Q := by
  refine am_iload_n (x := v3) dX6_countSpanning_7 rfl ?_
  refine am_iload_n (x := v2) dX6_countSpanning_8 rfl ?_
  refine am_icmp_gt (tgt := 65) dX6_countSpanning_9 (by decide) (fun h => ?_) (fun h => ?_)
  · replace hT := hT.1 h
    refine am_aload_n (x := o) dX6_countSpanning_65 rfl ?_
    refine am_iload_n (x := v2) dX6_countSpanning_66 rfl ?_
    refine am_iload_n (x := v2) dX6_countSpanning_67 rfl ?_
    obtain ⟨x1, hm, hT⟩ := hT
    refine am_callV (av := [.int v2, .int v2]) (st := []) (b := o) cw_X6_sumOfCounts cl_X6_79 ck_X6_sumOfCounts cs_X6_sumOfCounts ho.1 rfl rfl (Nat.le_of_ble_eq_true rfl) dX6_countSpanning_68 hm (fun r D9 hr => ?_)
    obtain ⟨rfl, e9⟩ := hr
    rw [e9]
    clear e9
    exact am_ireturn (ty := .int) dX6_countSpanning_71 rfl rfl hT
  · replace hT := hT.2 h
    refine am_iconst (v := (nI 0)) dX6_countSpanning_12 (by decide) ?_
    refine am_set (am_istore dX6_countSpanning_13 (by decide)) (L1 := [.ref o, .ref v1, .int v2, .int v3, .int (nI 0)]) rfl ?_
    exact hT
set_option maxRecDepth 20000 in
theorem rX6_countSpanning_15 {lay : List am_L} {d : Nat} {D : am_D} {Q : Option Value → am_D → Prop} {o : Nat} {v1 : Nat} {v2 : Int32} {v3 : Int32} {v4 : Int32} (ho : isX6 lay o) (h1 : isX0 lay v1) (hT : (∃ x1, am_MetP lay d mX0_size [.ref v1] D x1 ∧
 ((x1 ≤ v4 → am_AW lay (d + 1) mX6_countSpanning 7 [.ref o, .ref v1, .int v2, .int (v3 + (nI 1)), .null] [] D Q) ∧
 (¬ (x1 ≤ v4) → (∃ x2, am_MetP lay d mX10_holds [.int v3, .int v4] D x2 ∧
 ((x2 = nI 0 → am_AW lay (d + 1) mX6_countSpanning 15 [.ref o, .ref v1, .int v2, .int v3, .int (v4 + (nI 1))] [] D Q) ∧
 (¬ (x2 = nI 0) → (∃ x3, am_MetP lay d mX10_without [.int v3, .int v4] D x3 ∧
 (∃ x4, am_MetP lay d mX6_countEnding [.ref o, .ref v1, .int x3, .int v4] D x4 ∧
 (∃ D5, am_MetV lay d mX6_putCount [.ref o, .int v3, .int v4, .int x4] D D5 ∧
 am_AW lay (d + 1) mX6_countSpanning 15 [.ref o, .ref v1, .int v2, .int v3, .int (v4 + (nI 1))] [] D5 Q)))))))))) : am_AW lay (d + 1) mX6_countSpanning 15 [.ref o, .ref v1, .int v2, .int v3, .int v4] [] D Q := by
  refine am_iload (x := v4) dX6_countSpanning_15 rfl ?_
  refine am_aload_n (x := v1) dX6_countSpanning_17 rfl ?_
  obtain ⟨x1, hm, hT⟩ := hT
  refine am_callV (av := []) (st := [.int v4]) (b := v1) cw_X0_size cl_X6_22 ck_X0_size cs_X0_size h1.1 rfl rfl (Nat.le_of_ble_eq_true rfl) dX6_countSpanning_18 hm (fun r D9 hr => ?_)
  obtain ⟨rfl, e9⟩ := hr
  rw [e9]
  clear e9
  refine am_icmp_ge (tgt := 59) dX6_countSpanning_21 (by decide) (fun h => ?_) (fun h => ?_)
  · replace hT := hT.1 h
    refine am_set (am_iinc (x := v3) (c0 := (nI 1)) dX6_countSpanning_59 (by decide) rfl (by decide)) (L1 := [.ref o, .ref v1, .int v2, .int (v3 + (nI 1)), .int v4]) rfl ?_
    refine am_goto (tgt := 7) dX6_countSpanning_62 (by decide) ?_
    refine am_drop [4] (L1 := [.ref o, .ref v1, .int v2, .int (v3 + (nI 1)), .null]) rfl ?_
    exact hT
  · replace hT := hT.2 h
    refine am_iload_n (x := v3) dX6_countSpanning_24 rfl ?_
    refine am_iload (x := v4) dX6_countSpanning_25 rfl ?_
    obtain ⟨x2, hm, hT⟩ := hT
    refine am_callSN (av := [.int v3, .int v4]) (st := []) cw_X10_holds cl_X6_28 ck_X10_holds (Nat.le_of_ble_eq_true rfl) dX6_countSpanning_27 hm (fun r D9 hr => ?_)
    obtain ⟨rfl, e9⟩ := hr
    rw [e9]
    clear e9
    refine am_if_eq (tgt := 53) dX6_countSpanning_30 (by decide) (fun h => ?_) (fun h => ?_)
    · replace hT := hT.1 h
      refine am_set (am_iinc (x := v4) (c0 := (nI 1)) dX6_countSpanning_53 (by decide) rfl (by decide)) (L1 := [.ref o, .ref v1, .int v2, .int v3, .int (v4 + (nI 1))]) rfl ?_
      refine am_goto (tgt := 15) dX6_countSpanning_56 (by decide) ?_
      exact hT
    · replace hT := hT.2 h
      refine am_aload_n (x := o) dX6_countSpanning_33 rfl ?_
      refine am_iload_n (x := v3) dX6_countSpanning_34 rfl ?_
      refine am_iload (x := v4) dX6_countSpanning_35 rfl ?_
      refine am_aload_n (x := o) dX6_countSpanning_37 rfl ?_
      refine am_aload_n (x := v1) dX6_countSpanning_38 rfl ?_
      refine am_iload_n (x := v3) dX6_countSpanning_39 rfl ?_
      refine am_iload (x := v4) dX6_countSpanning_40 rfl ?_
      obtain ⟨x3, hm, hT⟩ := hT
      refine am_callSN (av := [.int v3, .int v4]) (st := [.ref v1, .ref o, .int v4, .int v3, .ref o]) cw_X10_without cl_X6_68 ck_X10_without (Nat.le_of_ble_eq_true rfl) dX6_countSpanning_42 hm (fun r D9 hr => ?_)
      obtain ⟨rfl, e9⟩ := hr
      rw [e9]
      clear e9
      refine am_iload (x := v4) dX6_countSpanning_45 rfl ?_
      obtain ⟨x4, hm, hT⟩ := hT
      refine am_callV (av := [.ref v1, .int x3, .int v4]) (st := [.int v4, .int v3, .ref o]) (b := o) cw_X6_countEnding cl_X6_72 ck_X6_countEnding cs_X6_countEnding ho.1 rfl rfl (Nat.le_of_ble_eq_true rfl) dX6_countSpanning_47 hm (fun r D9 hr => ?_)
      obtain ⟨rfl, e9⟩ := hr
      rw [e9]
      clear e9
      obtain ⟨D5, hm, hT⟩ := hT
      refine am_callV (av := [.int v3, .int v4, .int x4]) (st := []) (b := o) cw_X6_putCount cl_X6_75 ck_X6_putCount cs_X6_putCount ho.1 rfl rfl (Nat.le_of_ble_eq_true rfl) dX6_countSpanning_50 hm (fun r D9 hr => ?_)
      obtain ⟨rfl, e9⟩ := hr
      rw [e9]
      clear e9
      refine am_set (am_iinc (x := v4) (c0 := (nI 1)) dX6_countSpanning_53 (by decide) rfl (by decide)) (L1 := [.ref o, .ref v1, .int v2, .int v3, .int (v4 + (nI 1))]) rfl ?_
      refine am_goto (tgt := 15) dX6_countSpanning_56 (by decide) ?_
      exact hT
set_option maxRecDepth 20000 in
theorem eX6_countEnding {lay : List am_L} {d : Nat} {D : am_D} {Q : Option Value → am_D → Prop} {o : Nat} {v1 : Nat} {v2 : Int32} {v3 : Int32} (ho : isX6 lay o) (h1 : isX0 lay v1) (hT : ((¬ v2 = nI 0 → (∃ x1, am_MetP lay d mX0_beatenBy [.ref v1, .int v3] D x1 ∧
 (∃ x2, am_MetP lay d mX6_sumOfCounts [.ref o, .int v2, .int (v2 &&& (x1 ^^^ (-1)))] D x2 ∧
 Q (some (.int x2)) D))) ∧
 (¬ (¬ v2 = nI 0) → Q (some (.int (nI 1))) D))) : am_Met lay (d + 1) mX6_countEnding [.ref o, .ref v1, .int v2, .int v3] D Q := by
  refine am_enter (by decide +kernel) rfl (Nat.le_of_ble_eq_true rfl) ?_
  show am_AW lay (d + 1) mX6_countEnding 0 [.ref o, .ref v1, .int v2, .int v3] [] D Q
  refine am_iload_n (x := v2) dX6_countEnding_0 rfl ?_
  refine am_if_ne (tgt := 8) dX6_countEnding_1 (by decide) (fun h => ?_) (fun h => ?_)
  · replace hT := hT.1 h
    refine am_aload_n (x := o) dX6_countEnding_8 rfl ?_
    refine am_iload_n (x := v2) dX6_countEnding_9 rfl ?_
    refine am_iload_n (x := v2) dX6_countEnding_10 rfl ?_
    refine am_aload_n (x := v1) dX6_countEnding_11 rfl ?_
    refine am_iload_n (x := v3) dX6_countEnding_12 rfl ?_
    obtain ⟨x1, hm, hT⟩ := hT
    refine am_callV (av := [.int v3]) (st := [.int v2, .int v2, .ref o]) (b := v1) cw_X0_beatenBy cl_X6_36 ck_X0_beatenBy cs_X0_beatenBy h1.1 rfl rfl (Nat.le_of_ble_eq_true rfl) dX6_countEnding_13 hm (fun r D9 hr => ?_)
    obtain ⟨rfl, e9⟩ := hr
    rw [e9]
    clear e9
    refine am_iconst (v := (-1)) dX6_countEnding_16 (by decide) ?_
    refine am_ixor dX6_countEnding_17 ?_
    refine am_iand dX6_countEnding_18 ?_
    obtain ⟨x2, hm, hT⟩ := hT
    refine am_callV (av := [.int v2, .int (v2 &&& (x1 ^^^ (-1)))]) (st := []) (b := o) cw_X6_sumOfCounts cl_X6_79 ck_X6_sumOfCounts cs_X6_sumOfCounts ho.1 rfl rfl (Nat.le_of_ble_eq_true rfl) dX6_countEnding_19 hm (fun r D9 hr => ?_)
    obtain ⟨rfl, e9⟩ := hr
    rw [e9]
    clear e9
    exact am_ireturn (ty := .int) dX6_countEnding_22 rfl rfl hT
  · replace hT := hT.2 h
    refine am_iconst (v := (nI 1)) dX6_countEnding_4 (by decide) ?_
    refine am_goto (tgt := 22) dX6_countEnding_5 (by decide) ?_
    exact am_ireturn (ty := .int) dX6_countEnding_22 rfl rfl hT
set_option maxRecDepth 20000 in
theorem eX6_sumOfCounts {lay : List am_L} {d : Nat} {D : am_D} {Q : Option Value → am_D → Prop} {o : Nat} {v1 : Int32} {v2 : Int32} (ho : isX6 lay o) (hT : am_AW lay (d + 1) mX6_sumOfCounts 8 [.ref o, .int v1, .int v2, .int v2, .int (nI 0), .int (nI 0), .null] [] D Q) : am_Met lay (d + 1) mX6_sumOfCounts [.ref o, .int v1, .int v2] D Q := by
  refine am_enter (by decide +kernel) rfl (Nat.le_of_ble_eq_true rfl) ?_
  show am_AW lay (d + 1) mX6_sumOfCounts 0 [.ref o, .int v1, .int v2, .null, .null, .null, .null] [] D Q
  refine am_iload_n (x := v2) dX6_sumOfCounts_0 rfl ?_
  refine am_set (am_istore_n dX6_sumOfCounts_1 (by decide)) (L1 := [.ref o, .int v1, .int v2, .int v2, .null, .null, .null]) rfl ?_
  refine am_iconst (v := (nI 0)) dX6_sumOfCounts_2 (by decide) ?_
  refine am_set (am_istore dX6_sumOfCounts_3 (by decide)) (L1 := [.ref o, .int v1, .int v2, .int v2, .int (nI 0), .null, .null]) rfl ?_
  refine am_iconst (v := (nI 0)) dX6_sumOfCounts_5 (by decide) ?_
  refine am_set (am_istore dX6_sumOfCounts_6 (by decide)) (L1 := [.ref o, .int v1, .int v2, .int v2, .int (nI 0), .int (nI 0), .null]) rfl ?_
  exact hT
set_option maxRecDepth 20000 in
theorem rX6_sumOfCounts_8 {lay : List am_L} {d : Nat} {D : am_D} {Q : Option Value → am_D → Prop} {o : Nat} {v1 : Int32} {v2 : Int32} {v3 : Int32} {v4 : Int32} {v5 : Int32} (ho : isX6 lay o) (hT : (((nI 10) ≤ v5 → Q (some (.int v4)) D) ∧
 (¬ ((nI 10) ≤ v5) → ((v3 = nI 0 → Q (some (.int v4)) D) ∧
 (¬ (v3 = nI 0) → (∃ x1, am_MetP lay d mX10_lowestOf [.int v3] D x1 ∧
 ((((v1 * (nI 10)) + x1) < nI 0 → am_AW lay (d + 1) mX6_sumOfCounts 8 [.ref o, .int v1, .int v2, .int (v3 &&& (v3 - (nI 1))), .int (v4 + (nI 0)), .int (v5 + (nI 1)), .null] [] D Q) ∧
 (¬ (((v1 * (nI 10)) + x1) < nI 0) → (((nI 10240) ≤ ((v1 * (nI 10)) + x1) → am_AW lay (d + 1) mX6_sumOfCounts 8 [.ref o, .int v1, .int v2, .int (v3 &&& (v3 - (nI 1))), .int (v4 + (nI 0)), .int (v5 + (nI 1)), .null] [] D Q) ∧
 (¬ ((nI 10240) ≤ ((v1 * (nI 10)) + x1)) → (vp_in ((v1 * (nI 10)) + x1) 10240 ∧ am_AW lay (d + 1) mX6_sumOfCounts 8 [.ref o, .int v1, .int v2, .int (v3 &&& (v3 - (nI 1))), .int (v4 + (D (o + 2) (Int32.toNatClampNeg ((v1 * (nI 10)) + x1)))), .int (v5 + (nI 1)), .null] [] D Q))))))))))) : am_AW lay (d + 1) mX6_sumOfCounts 8 [.ref o, .int v1, .int v2, .int v3, .int v4, .int v5, .null] [] D Q := by
  refine am_iload (x := v5) dX6_sumOfCounts_8 rfl ?_
  refine am_bipush (v := (nI 10)) dX6_sumOfCounts_10 (by decide) ?_
  refine am_icmp_ge (tgt := 73) dX6_sumOfCounts_12 (by decide) (fun h => ?_) (fun h => ?_)
  · replace hT := hT.1 h
    refine am_iload (x := v4) dX6_sumOfCounts_73 rfl ?_
    exact am_ireturn (ty := .int) dX6_sumOfCounts_75 rfl rfl hT
  · replace hT := hT.2 h
    refine am_iload_n (x := v3) dX6_sumOfCounts_15 rfl ?_
    refine am_if_eq (tgt := 73) dX6_sumOfCounts_16 (by decide) (fun h => ?_) (fun h => ?_)
    · replace hT := hT.1 h
      refine am_iload (x := v4) dX6_sumOfCounts_73 rfl ?_
      exact am_ireturn (ty := .int) dX6_sumOfCounts_75 rfl rfl hT
    · replace hT := hT.2 h
      refine am_iload_n (x := v1) dX6_sumOfCounts_19 rfl ?_
      refine am_bipush (v := (nI 10)) dX6_sumOfCounts_20 (by decide) ?_
      refine am_imul dX6_sumOfCounts_22 ?_
      refine am_iload_n (x := v3) dX6_sumOfCounts_23 rfl ?_
      obtain ⟨x1, hm, hT⟩ := hT
      refine am_callSN (av := [.int v3]) (st := [.int (v1 * (nI 10))]) cw_X10_lowestOf cl_X6_65 ck_X10_lowestOf (Nat.le_of_ble_eq_true rfl) dX6_sumOfCounts_24 hm (fun r D9 hr => ?_)
      obtain ⟨rfl, e9⟩ := hr
      rw [e9]
      clear e9
      refine am_iadd dX6_sumOfCounts_27 ?_
      refine am_set (am_istore dX6_sumOfCounts_28 (by decide)) (L1 := [.ref o, .int v1, .int v2, .int v3, .int v4, .int v5, .int ((v1 * (nI 10)) + x1)]) rfl ?_
      refine am_iload (x := v4) dX6_sumOfCounts_30 rfl ?_
      refine am_iload (x := ((v1 * (nI 10)) + x1)) dX6_sumOfCounts_32 rfl ?_
      refine am_if_lt (tgt := 57) dX6_sumOfCounts_34 (by decide) (fun h => ?_) (fun h => ?_)
      · replace hT := hT.1 h
        refine am_iconst (v := (nI 0)) dX6_sumOfCounts_57 (by decide) ?_
        refine am_iadd dX6_sumOfCounts_58 ?_
        refine am_set (am_istore dX6_sumOfCounts_59 (by decide)) (L1 := [.ref o, .int v1, .int v2, .int v3, .int (v4 + (nI 0)), .int v5, .int ((v1 * (nI 10)) + x1)]) rfl ?_
        refine am_iload_n (x := v3) dX6_sumOfCounts_61 rfl ?_
        refine am_iload_n (x := v3) dX6_sumOfCounts_62 rfl ?_
        refine am_iconst (v := (nI 1)) dX6_sumOfCounts_63 (by decide) ?_
        refine am_isub dX6_sumOfCounts_64 ?_
        refine am_iand dX6_sumOfCounts_65 ?_
        refine am_set (am_istore_n dX6_sumOfCounts_66 (by decide)) (L1 := [.ref o, .int v1, .int v2, .int (v3 &&& (v3 - (nI 1))), .int (v4 + (nI 0)), .int v5, .int ((v1 * (nI 10)) + x1)]) rfl ?_
        refine am_set (am_iinc (x := v5) (c0 := (nI 1)) dX6_sumOfCounts_67 (by decide) rfl (by decide)) (L1 := [.ref o, .int v1, .int v2, .int (v3 &&& (v3 - (nI 1))), .int (v4 + (nI 0)), .int (v5 + (nI 1)), .int ((v1 * (nI 10)) + x1)]) rfl ?_
        refine am_goto (tgt := 8) dX6_sumOfCounts_70 (by decide) ?_
        refine am_drop [6] (L1 := [.ref o, .int v1, .int v2, .int (v3 &&& (v3 - (nI 1))), .int (v4 + (nI 0)), .int (v5 + (nI 1)), .null]) rfl ?_
        exact hT
      · replace hT := hT.2 h
        refine am_iload (x := ((v1 * (nI 10)) + x1)) dX6_sumOfCounts_37 rfl ?_
        refine am_aload_n (x := o) dX6_sumOfCounts_39 rfl ?_
        refine am_getR dX6_sumOfCounts_40 fw_X6_15 ho.1 rfl ?_
        refine am_alen (v := nI 10240) dX6_sumOfCounts_43 ho.2.2 rfl (by decide) ?_
        refine am_icmp_ge (tgt := 57) dX6_sumOfCounts_44 (by decide) (fun h => ?_) (fun h => ?_)
        · replace hT := hT.1 h
          refine am_iconst (v := (nI 0)) dX6_sumOfCounts_57 (by decide) ?_
          refine am_iadd dX6_sumOfCounts_58 ?_
          refine am_set (am_istore dX6_sumOfCounts_59 (by decide)) (L1 := [.ref o, .int v1, .int v2, .int v3, .int (v4 + (nI 0)), .int v5, .int ((v1 * (nI 10)) + x1)]) rfl ?_
          refine am_iload_n (x := v3) dX6_sumOfCounts_61 rfl ?_
          refine am_iload_n (x := v3) dX6_sumOfCounts_62 rfl ?_
          refine am_iconst (v := (nI 1)) dX6_sumOfCounts_63 (by decide) ?_
          refine am_isub dX6_sumOfCounts_64 ?_
          refine am_iand dX6_sumOfCounts_65 ?_
          refine am_set (am_istore_n dX6_sumOfCounts_66 (by decide)) (L1 := [.ref o, .int v1, .int v2, .int (v3 &&& (v3 - (nI 1))), .int (v4 + (nI 0)), .int v5, .int ((v1 * (nI 10)) + x1)]) rfl ?_
          refine am_set (am_iinc (x := v5) (c0 := (nI 1)) dX6_sumOfCounts_67 (by decide) rfl (by decide)) (L1 := [.ref o, .int v1, .int v2, .int (v3 &&& (v3 - (nI 1))), .int (v4 + (nI 0)), .int (v5 + (nI 1)), .int ((v1 * (nI 10)) + x1)]) rfl ?_
          refine am_goto (tgt := 8) dX6_sumOfCounts_70 (by decide) ?_
          refine am_drop [6] (L1 := [.ref o, .int v1, .int v2, .int (v3 &&& (v3 - (nI 1))), .int (v4 + (nI 0)), .int (v5 + (nI 1)), .null]) rfl ?_
          exact hT
        · replace hT := hT.2 h
          refine am_aload_n (x := o) dX6_sumOfCounts_47 rfl ?_
          refine am_getR dX6_sumOfCounts_48 fw_X6_15 ho.1 rfl ?_
          refine am_iload (x := ((v1 * (nI 10)) + x1)) dX6_sumOfCounts_51 rfl ?_
          refine am_iald dX6_sumOfCounts_53 ho.2.2 hT.1 ?_
          replace hT := hT.2
          refine am_goto (tgt := 58) dX6_sumOfCounts_54 (by decide) ?_
          refine am_iadd dX6_sumOfCounts_58 ?_
          refine am_set (am_istore dX6_sumOfCounts_59 (by decide)) (L1 := [.ref o, .int v1, .int v2, .int v3, .int (v4 + (D (o + 2) (Int32.toNatClampNeg ((v1 * (nI 10)) + x1)))), .int v5, .int ((v1 * (nI 10)) + x1)]) rfl ?_
          refine am_iload_n (x := v3) dX6_sumOfCounts_61 rfl ?_
          refine am_iload_n (x := v3) dX6_sumOfCounts_62 rfl ?_
          refine am_iconst (v := (nI 1)) dX6_sumOfCounts_63 (by decide) ?_
          refine am_isub dX6_sumOfCounts_64 ?_
          refine am_iand dX6_sumOfCounts_65 ?_
          refine am_set (am_istore_n dX6_sumOfCounts_66 (by decide)) (L1 := [.ref o, .int v1, .int v2, .int (v3 &&& (v3 - (nI 1))), .int (v4 + (D (o + 2) (Int32.toNatClampNeg ((v1 * (nI 10)) + x1)))), .int v5, .int ((v1 * (nI 10)) + x1)]) rfl ?_
          refine am_set (am_iinc (x := v5) (c0 := (nI 1)) dX6_sumOfCounts_67 (by decide) rfl (by decide)) (L1 := [.ref o, .int v1, .int v2, .int (v3 &&& (v3 - (nI 1))), .int (v4 + (D (o + 2) (Int32.toNatClampNeg ((v1 * (nI 10)) + x1)))), .int (v5 + (nI 1)), .int ((v1 * (nI 10)) + x1)]) rfl ?_
          refine am_goto (tgt := 8) dX6_sumOfCounts_70 (by decide) ?_
          refine am_drop [6] (L1 := [.ref o, .int v1, .int v2, .int (v3 &&& (v3 - (nI 1))), .int (v4 + (D (o + 2) (Int32.toNatClampNeg ((v1 * (nI 10)) + x1)))), .int (v5 + (nI 1)), .null]) rfl ?_
          exact hT
set_option maxRecDepth 20000 in
theorem eX6_putCount {lay : List am_L} {d : Nat} {D : am_D} {Q : Option Value → am_D → Prop} {o : Nat} {v1 : Int32} {v2 : Int32} {v3 : Int32} (ho : isX6 lay o) (hT : ((((v1 * (nI 10)) + v2) < nI 0 → Q none D) ∧
 (¬ (((v1 * (nI 10)) + v2) < nI 0) → (((nI 10240) ≤ ((v1 * (nI 10)) + v2) → Q none D) ∧
 (¬ ((nI 10240) ≤ ((v1 * (nI 10)) + v2)) → (vp_in ((v1 * (nI 10)) + v2) 10240 ∧ ∀ D1, D1 = am_up D (o + 2) (Int32.toNatClampNeg ((v1 * (nI 10)) + v2)) v3 →
 Q none D1)))))) : am_Met lay d mX6_putCount [.ref o, .int v1, .int v2, .int v3] D Q := by
  refine am_enter (by decide +kernel) rfl (Nat.le_of_ble_eq_true rfl) ?_
  show am_AW lay d mX6_putCount 0 [.ref o, .int v1, .int v2, .int v3, .null] [] D Q
  refine am_iload_n (x := v1) dX6_putCount_0 rfl ?_
  refine am_bipush (v := (nI 10)) dX6_putCount_1 (by decide) ?_
  refine am_imul dX6_putCount_3 ?_
  refine am_iload_n (x := v2) dX6_putCount_4 rfl ?_
  refine am_iadd dX6_putCount_5 ?_
  refine am_set (am_istore dX6_putCount_6 (by decide)) (L1 := [.ref o, .int v1, .int v2, .int v3, .int ((v1 * (nI 10)) + v2)]) rfl ?_
  refine am_iload (x := ((v1 * (nI 10)) + v2)) dX6_putCount_8 rfl ?_
  refine am_if_lt (tgt := 31) dX6_putCount_10 (by decide) (fun h => ?_) (fun h => ?_)
  · replace hT := hT.1 h
    exact am_return dX6_putCount_31 rfl hT
  · replace hT := hT.2 h
    refine am_iload (x := ((v1 * (nI 10)) + v2)) dX6_putCount_13 rfl ?_
    refine am_aload_n (x := o) dX6_putCount_15 rfl ?_
    refine am_getR dX6_putCount_16 fw_X6_15 ho.1 rfl ?_
    refine am_alen (v := nI 10240) dX6_putCount_19 ho.2.2 rfl (by decide) ?_
    refine am_icmp_ge (tgt := 31) dX6_putCount_20 (by decide) (fun h => ?_) (fun h => ?_)
    · replace hT := hT.1 h
      exact am_return dX6_putCount_31 rfl hT
    · replace hT := hT.2 h
      refine am_aload_n (x := o) dX6_putCount_23 rfl ?_
      refine am_getR dX6_putCount_24 fw_X6_15 ho.1 rfl ?_
      refine am_iload (x := ((v1 * (nI 10)) + v2)) dX6_putCount_27 rfl ?_
      refine am_iload_n (x := v3) dX6_putCount_29 rfl ?_
      refine am_iast dX6_putCount_30 ho.2.2 hT.1 ?_
      obtain ⟨D1, hD⟩ : ∃ z, z = am_up D (o + 2) (Int32.toNatClampNeg ((v1 * (nI 10)) + v2)) v3 := ⟨_, rfl⟩
      rw [← hD]
      replace hT := hT.2 D1 hD
      clear hD
      exact am_return dX6_putCount_31 rfl hT
