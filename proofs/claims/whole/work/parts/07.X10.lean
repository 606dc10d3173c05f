set_option maxRecDepth 20000 in
theorem eX10_reset {lay : List am_L} {d : Nat} {D : am_D} {Q : Option Value → am_D → Prop} {o : Nat} {v1 : Int32} (ho : isX10 lay o) (hT : ((v1 < (nI 2) → Q (some (.int (-1))) D) ∧
 (¬ (v1 < (nI 2)) → ((v1 ≤ (nI 10) → (∃ x1, am_MetP lay d mX0_size [.ref (o + 1)] D x1 ∧
 (∃ D2, am_MetV lay d mX3_record [.ref (o + 7), .ref (o + 1)] D D2 ∧
 (∃ D3, am_MetV lay d mX0_start [.ref (o + 1), .int v1] D2 D3 ∧
 Q (some (.int x1)) D3)))) ∧
 (¬ (v1 ≤ (nI 10)) → Q (some (.int (-1))) D))))) : am_Met lay (d + 1) mX10_reset [.ref o, .int v1] D Q := by
  refine am_enter (by decide +kernel) rfl (Nat.le_of_ble_eq_true rfl) ?_
  show am_AW lay (d + 1) mX10_reset 0 [.ref o, .int v1, .null] [] D Q
  refine am_iload_n (x := v1) dX10_reset_0 rfl ?_
  refine am_iconst (v := (nI 2)) dX10_reset_1 (by decide) ?_
  refine am_icmp_lt (tgt := 11) dX10_reset_2 (by decide) (fun h => ?_) (fun h => ?_)
  · replace hT := hT.1 h
    refine am_iconst (v := (-1)) dX10_reset_11 (by decide) ?_
    exact am_ireturn (ty := .int) dX10_reset_12 rfl rfl hT
  · replace hT := hT.2 h
    refine am_iload_n (x := v1) dX10_reset_5 rfl ?_
    refine am_bipush (v := (nI 10)) dX10_reset_6 (by decide) ?_
    refine am_icmp_le (tgt := 13) dX10_reset_8 (by decide) (fun h => ?_) (fun h => ?_)
    · replace hT := hT.1 h
      refine am_aload_n (x := o) dX10_reset_13 rfl ?_
      refine am_getR dX10_reset_14 fw_X10_10 ho.1 rfl ?_
      obtain ⟨x1, hm, hT⟩ := hT
      refine am_callV (av := []) (st := []) (b := (o + 1)) cw_X0_size cl_X10_75 ck_X0_size cs_X0_size ho.2.1.1 rfl rfl (Nat.le_of_ble_eq_true rfl) dX10_reset_17 hm (fun r D9 hr => ?_)
      obtain ⟨rfl, e9⟩ := hr
      rw [e9]
      clear e9
      refine am_set (am_istore_n dX10_reset_20 (by decide)) (L1 := [.ref o, .int v1, .int x1]) rfl ?_
      refine am_aload_n (x := o) dX10_reset_21 rfl ?_
      refine am_getR dX10_reset_22 fw_X10_22 ho.1 rfl ?_
      refine am_aload_n (x := o) dX10_reset_25 rfl ?_
      refine am_getR dX10_reset_26 fw_X10_10 ho.1 rfl ?_
      obtain ⟨D2, hm, hT⟩ := hT
      refine am_callV (av := [.ref (o + 1)]) (st := []) (b := (o + 7)) cw_X3_record cl_X10_79 ck_X3_record cs_X3_record ho.2.2.2.1.1 rfl rfl (Nat.le_of_ble_eq_true rfl) dX10_reset_29 hm (fun r D9 hr => ?_)
      obtain ⟨rfl, e9⟩ := hr
      rw [e9]
      clear e9
      refine am_aload_n (x := o) dX10_reset_32 rfl ?_
      refine am_getR dX10_reset_33 fw_X10_10 ho.1 rfl ?_
      refine am_iload_n (x := v1) dX10_reset_36 rfl ?_
      obtain ⟨D3, hm, hT⟩ := hT
      refine am_callV (av := [.int v1]) (st := []) (b := (o + 1)) cw_X0_start cl_X10_83 ck_X0_start cs_X0_start ho.2.1.1 rfl rfl (Nat.le_of_ble_eq_true rfl) dX10_reset_37 hm (fun r D9 hr => ?_)
      obtain ⟨rfl, e9⟩ := hr
      rw [e9]
      clear e9
      refine am_iload_n (x := x1) dX10_reset_40 rfl ?_
      exact am_ireturn (ty := .int) dX10_reset_41 rfl rfl hT
    · replace hT := hT.2 h
      refine am_iconst (v := (-1)) dX10_reset_11 (by decide) ?_
      exact am_ireturn (ty := .int) dX10_reset_12 rfl rfl hT
set_option maxRecDepth 20000 in
theorem eX10_setResult {lay : List am_L} {d : Nat} {D : am_D} {Q : Option Value → am_D → Prop} {o : Nat} {v1 : Int32} {v2 : Int32} (ho : isX10 lay o) (hT : (∃ x1, am_MetP lay d mX0_hasPair [.ref (o + 1), .int v1, .int v2] D x1 ∧
 ((¬ x1 = nI 0 → (∃ x2, am_MetP lay d mX0_wins [.ref (o + 1), .int v1, .int v2] D x2 ∧
 (∃ D3, am_MetV lay d mX3_record [.ref (o + 7), .ref (o + 1)] D D3 ∧
 (∃ D4, am_MetV lay d mX0_setWinner [.ref (o + 1), .int v1, .int v2] D3 D4 ∧
 ((x2 = nI 0 → Q (some (.int (nI 0))) D4) ∧
 (¬ (x2 = nI 0) → Q (some (.int (nI 1))) D4)))))) ∧
 (¬ (¬ x1 = nI 0) → Q (some (.int (-1))) D)))) : am_Met lay (d + 1) mX10_setResult [.ref o, .int v1, .int v2] D Q := by
  refine am_enter (by decide +kernel) rfl (Nat.le_of_ble_eq_true rfl) ?_
  show am_AW lay (d + 1) mX10_setResult 0 [.ref o, .int v1, .int v2, .null] [] D Q
  refine am_aload_n (x := o) dX10_setResult_0 rfl ?_
  refine am_getR dX10_setResult_1 fw_X10_10 ho.1 rfl ?_
  refine am_iload_n (x := v1) dX10_setResult_4 rfl ?_
  refine am_iload_n (x := v2) dX10_setResult_5 rfl ?_
  obtain ⟨x1, hm, hT⟩ := hT
  refine am_callV (av := [.int v1, .int v2]) (st := []) (b := (o + 1)) cw_X0_hasPair cl_X10_87 ck_X0_hasPair cs_X0_hasPair ho.2.1.1 rfl rfl (Nat.le_of_ble_eq_true rfl) dX10_setResult_6 hm (fun r D9 hr => ?_)
  obtain ⟨rfl, e9⟩ := hr
  rw [e9]
  clear e9
  refine am_if_ne (tgt := 14) dX10_setResult_9 (by decide) (fun h => ?_) (fun h => ?_)
  · replace hT := hT.1 h
    refine am_aload_n (x := o) dX10_setResult_14 rfl ?_
    refine am_getR dX10_setResult_15 fw_X10_10 ho.1 rfl ?_
    refine am_iload_n (x := v1) dX10_setResult_18 rfl ?_
    refine am_iload_n (x := v2) dX10_setResult_19 rfl ?_
    obtain ⟨x2, hm, hT⟩ := hT
    refine am_callV (av := [.int v1, .int v2]) (st := []) (b := (o + 1)) cw_X0_wins cl_X10_91 ck_X0_wins cs_X0_wins ho.2.1.1 rfl rfl (Nat.le_of_ble_eq_true rfl) dX10_setResult_20 hm (fun r D9 hr => ?_)
    obtain ⟨rfl, e9⟩ := hr
    rw [e9]
    clear e9
    refine am_set (am_istore_n dX10_setResult_23 (by decide)) (L1 := [.ref o, .int v1, .int v2, .int x2]) rfl ?_
    refine am_aload_n (x := o) dX10_setResult_24 rfl ?_
    refine am_getR dX10_setResult_25 fw_X10_22 ho.1 rfl ?_
    refine am_aload_n (x := o) dX10_setResult_28 rfl ?_
    refine am_getR dX10_setResult_29 fw_X10_10 ho.1 rfl ?_
    obtain ⟨D3, hm, hT⟩ := hT
    refine am_callV (av := [.ref (o + 1)]) (st := []) (b := (o + 7)) cw_X3_record cl_X10_79 ck_X3_record cs_X3_record ho.2.2.2.1.1 rfl rfl (Nat.le_of_ble_eq_true rfl) dX10_setResult_32 hm (fun r D9 hr => ?_)
    obtain ⟨rfl, e9⟩ := hr
    rw [e9]
    clear e9
    refine am_aload_n (x := o) dX10_setResult_35 rfl ?_
    refine am_getR dX10_setResult_36 fw_X10_10 ho.1 rfl ?_
    refine am_iload_n (x := v1) dX10_setResult_39 rfl ?_
    refine am_iload_n (x := v2) dX10_setResult_40 rfl ?_
    obtain ⟨D4, hm, hT⟩ := hT
    refine am_callV (av := [.int v1, .int v2]) (st := []) (b := (o + 1)) cw_X0_setWinner cl_X10_94 ck_X0_setWinner cs_X0_setWinner ho.2.1.1 rfl rfl (Nat.le_of_ble_eq_true rfl) dX10_setResult_41 hm (fun r D9 hr => ?_)
    obtain ⟨rfl, e9⟩ := hr
    rw [e9]
    clear e9
    refine am_iload_n (x := x2) dX10_setResult_44 rfl ?_
    refine am_if_eq (tgt := 52) dX10_setResult_45 (by decide) (fun h => ?_) (fun h => ?_)
    · replace hT := hT.1 h
      refine am_iconst (v := (nI 0)) dX10_setResult_52 (by decide) ?_
      exact am_ireturn (ty := .int) dX10_setResult_53 rfl rfl hT
    · replace hT := hT.2 h
      refine am_iconst (v := (nI 1)) dX10_setResult_48 (by decide) ?_
      refine am_goto (tgt := 53) dX10_setResult_49 (by decide) ?_
      exact am_ireturn (ty := .int) dX10_setResult_53 rfl rfl hT
  · replace hT := hT.2 h
    refine am_iconst (v := (-1)) dX10_setResult_12 (by decide) ?_
    exact am_ireturn (ty := .int) dX10_setResult_13 rfl rfl hT
set_option maxRecDepth 20000 in
theorem eX10_setWeight {lay : List am_L} {d : Nat} {D : am_D} {Q : Option Value → am_D → Prop} {o : Nat} {v1 : Int32} {v2 : Int32} {v3 : Int32} (ho : isX10 lay o) (hT : (∃ x1, am_MetP lay d mX0_hasPair [.ref (o + 1), .int v1, .int v2] D x1 ∧
 ((x1 = nI 0 → Q (some (.int (-1))) D) ∧
 (¬ (x1 = nI 0) → ((v3 < (nI 1) → Q (some (.int (-1))) D) ∧
 (¬ (v3 < (nI 1)) → ((v3 ≤ (nI 100) → (∃ x2, am_MetP lay d mX0_weightOf [.ref (o + 1), .int v1, .int v2] D x2 ∧
 (∃ D3, am_MetV lay d mX3_record [.ref (o + 7), .ref (o + 1)] D D3 ∧
 (∃ D4, am_MetV lay d mX0_putWeight [.ref (o + 1), .int v1, .int v2, .int v3] D3 D4 ∧
 Q (some (.int x2)) D4)))) ∧
 (¬ (v3 ≤ (nI 100)) → Q (some (.int (-1))) D)))))))) : am_Met lay (d + 1) mX10_setWeight [.ref o, .int v1, .int v2, .int v3] D Q := by
  refine am_enter (by decide +kernel) rfl (Nat.le_of_ble_eq_true rfl) ?_
  show am_AW lay (d + 1) mX10_setWeight 0 [.ref o, .int v1, .int v2, .int v3, .null] [] D Q
  refine am_aload_n (x := o) dX10_setWeight_0 rfl ?_
  refine am_getR dX10_setWeight_1 fw_X10_10 ho.1 rfl ?_
  refine am_iload_n (x := v1) dX10_setWeight_4 rfl ?_
  refine am_iload_n (x := v2) dX10_setWeight_5 rfl ?_
  obtain ⟨x1, hm, hT⟩ := hT
  refine am_callV (av := [.int v1, .int v2]) (st := []) (b := (o + 1)) cw_X0_hasPair cl_X10_87 ck_X0_hasPair cs_X0_hasPair ho.2.1.1 rfl rfl (Nat.le_of_ble_eq_true rfl) dX10_setWeight_6 hm (fun r D9 hr => ?_)
  obtain ⟨rfl, e9⟩ := hr
  rw [e9]
  clear e9
  refine am_if_eq (tgt := 23) dX10_setWeight_9 (by decide) (fun h => ?_) (fun h => ?_)
  · replace hT := hT.1 h
    refine am_iconst (v := (-1)) dX10_setWeight_23 (by decide) ?_
    exact am_ireturn (ty := .int) dX10_setWeight_24 rfl rfl hT
  · replace hT := hT.2 h
    refine am_iload_n (x := v3) dX10_setWeight_12 rfl ?_
    refine am_iconst (v := (nI 1)) dX10_setWeight_13 (by decide) ?_
    refine am_icmp_lt (tgt := 23) dX10_setWeight_14 (by decide) (fun h => ?_) (fun h => ?_)
    · replace hT := hT.1 h
      refine am_iconst (v := (-1)) dX10_setWeight_23 (by decide) ?_
      exact am_ireturn (ty := .int) dX10_setWeight_24 rfl rfl hT
    · replace hT := hT.2 h
      refine am_iload_n (x := v3) dX10_setWeight_17 rfl ?_
      refine am_bipush (v := (nI 100)) dX10_setWeight_18 (by decide) ?_
      refine am_icmp_le (tgt := 25) dX10_setWeight_20 (by decide) (fun h => ?_) (fun h => ?_)
      · replace hT := hT.1 h
        refine am_aload_n (x := o) dX10_setWeight_25 rfl ?_
        refine am_getR dX10_setWeight_26 fw_X10_10 ho.1 rfl ?_
        refine am_iload_n (x := v1) dX10_setWeight_29 rfl ?_
        refine am_iload_n (x := v2) dX10_setWeight_30 rfl ?_
        obtain ⟨x2, hm, hT⟩ := hT
        refine am_callV (av := [.int v1, .int v2]) (st := []) (b := (o + 1)) cw_X0_weightOf cl_X10_98 ck_X0_weightOf cs_X0_weightOf ho.2.1.1 rfl rfl (Nat.le_of_ble_eq_true rfl) dX10_setWeight_31 hm (fun r D9 hr => ?_)
        obtain ⟨rfl, e9⟩ := hr
        rw [e9]
        clear e9
        refine am_set (am_istore dX10_setWeight_34 (by decide)) (L1 := [.ref o, .int v1, .int v2, .int v3, .int x2]) rfl ?_
        refine am_aload_n (x := o) dX10_setWeight_36 rfl ?_
        refine am_getR dX10_setWeight_37 fw_X10_22 ho.1 rfl ?_
        refine am_aload_n (x := o) dX10_setWeight_40 rfl ?_
        refine am_getR dX10_setWeight_41 fw_X10_10 ho.1 rfl ?_
        obtain ⟨D3, hm, hT⟩ := hT
        refine am_callV (av := [.ref (o + 1)]) (st := []) (b := (o + 7)) cw_X3_record cl_X10_79 ck_X3_record cs_X3_record ho.2.2.2.1.1 rfl rfl (Nat.le_of_ble_eq_true rfl) dX10_setWeight_44 hm (fun r D9 hr => ?_)
        obtain ⟨rfl, e9⟩ := hr
        rw [e9]
        clear e9
        refine am_aload_n (x := o) dX10_setWeight_47 rfl ?_
        refine am_getR dX10_setWeight_48 fw_X10_10 ho.1 rfl ?_
        refine am_iload_n (x := v1) dX10_setWeight_51 rfl ?_
        refine am_iload_n (x := v2) dX10_setWeight_52 rfl ?_
        refine am_iload_n (x := v3) dX10_setWeight_53 rfl ?_
        obtain ⟨D4, hm, hT⟩ := hT
        refine am_callV (av := [.int v1, .int v2, .int v3]) (st := []) (b := (o + 1)) cw_X0_putWeight cl_X10_102 ck_X0_putWeight cs_X0_putWeight ho.2.1.1 rfl rfl (Nat.le_of_ble_eq_true rfl) dX10_setWeight_54 hm (fun r D9 hr => ?_)
        obtain ⟨rfl, e9⟩ := hr
        rw [e9]
        clear e9
        refine am_iload (x := x2) dX10_setWeight_57 rfl ?_
        exact am_ireturn (ty := .int) dX10_setWeight_59 rfl rfl hT
      · replace hT := hT.2 h
        refine am_iconst (v := (-1)) dX10_setWeight_23 (by decide) ?_
        exact am_ireturn (ty := .int) dX10_setWeight_24 rfl rfl hT
set_option maxRecDepth 20000 in
theorem eX10_reverseTriangle {lay : List am_L} {d : Nat} {D : am_D} {Q : Option Value → am_D → Prop} {o : Nat} {v1 : Int32} {v2 : Int32} {v3 : Int32} (ho : isX10 lay o) (hT : (∃ x1, am_MetP lay d mX0_hasPair [.ref (o + 1), .int v1, .int v2] D x1 ∧
 ((x1 = nI 0 → Q (some (.int (-1))) D) ∧
 (¬ (x1 = nI 0) → (∃ x2, am_MetP lay d mX0_hasPair [.ref (o + 1), .int v2, .int v3] D x2 ∧
 ((x2 = nI 0 → Q (some (.int (-1))) D) ∧
 (¬ (x2 = nI 0) → (∃ x3, am_MetP lay d mX0_hasPair [.ref (o + 1), .int v1, .int v3] D x3 ∧
 ((¬ x3 = nI 0 → (∃ x4, am_MetP lay d mX0_isTriangle [.ref (o + 1), .int v1, .int v2, .int v3] D x4 ∧
 ((¬ x4 = nI 0 → (∃ D5, am_MetV lay d mX3_record [.ref (o + 7), .ref (o + 1)] D D5 ∧
 (∃ D6, am_MetV lay d mX0_turn [.ref (o + 1), .int v1, .int v2] D5 D6 ∧
 (∃ D7, am_MetV lay d mX0_turn [.ref (o + 1), .int v2, .int v3] D6 D7 ∧
 (∃ D8, am_MetV lay d mX0_turn [.ref (o + 1), .int v1, .int v3] D7 D8 ∧
 (∃ x9, am_MetP lay d mX0_countTriangles [.ref (o + 1)] D8 x9 ∧
 Q (some (.int x9)) D8)))))) ∧
 (¬ (¬ x4 = nI 0) → Q (some (.int (-2))) D)))) ∧
 (¬ (¬ x3 = nI 0) → Q (some (.int (-1))) D)))))))))) : am_Met lay (d + 1) mX10_reverseTriangle [.ref o, .int v1, .int v2, .int v3] D Q := by
  refine am_enter (by decide +kernel) rfl (Nat.le_of_ble_eq_true rfl) ?_
  show am_AW lay (d + 1) mX10_reverseTriangle 0 [.ref o, .int v1, .int v2, .int v3] [] D Q
  refine am_aload_n (x := o) dX10_reverseTriangle_0 rfl ?_
  refine am_getR dX10_reverseTriangle_1 fw_X10_10 ho.1 rfl ?_
  refine am_iload_n (x := v1) dX10_reverseTriangle_4 rfl ?_
  refine am_iload_n (x := v2) dX10_reverseTriangle_5 rfl ?_
  obtain ⟨x1, hm, hT⟩ := hT
  refine am_callV (av := [.int v1, .int v2]) (st := []) (b := (o + 1)) cw_X0_hasPair cl_X10_87 ck_X0_hasPair cs_X0_hasPair ho.2.1.1 rfl rfl (Nat.le_of_ble_eq_true rfl) dX10_reverseTriangle_6 hm (fun r D9 hr => ?_)
  obtain ⟨rfl, e9⟩ := hr
  rw [e9]
  clear e9
  refine am_if_eq (tgt := 36) dX10_reverseTriangle_9 (by decide) (fun h => ?_) (fun h => ?_)
  · replace hT := hT.1 h
    refine am_iconst (v := (-1)) dX10_reverseTriangle_36 (by decide) ?_
    exact am_ireturn (ty := .int) dX10_reverseTriangle_37 rfl rfl hT
  · replace hT := hT.2 h
    refine am_aload_n (x := o) dX10_reverseTriangle_12 rfl ?_
    refine am_getR dX10_reverseTriangle_13 fw_X10_10 ho.1 rfl ?_
    refine am_iload_n (x := v2) dX10_reverseTriangle_16 rfl ?_
    refine am_iload_n (x := v3) dX10_reverseTriangle_17 rfl ?_
    obtain ⟨x2, hm, hT⟩ := hT
    refine am_callV (av := [.int v2, .int v3]) (st := []) (b := (o + 1)) cw_X0_hasPair cl_X10_87 ck_X0_hasPair cs_X0_hasPair ho.2.1.1 rfl rfl (Nat.le_of_ble_eq_true rfl) dX10_reverseTriangle_18 hm (fun r D9 hr => ?_)
    obtain ⟨rfl, e9⟩ := hr
    rw [e9]
    clear e9
    refine am_if_eq (tgt := 36) dX10_reverseTriangle_21 (by decide) (fun h => ?_) (fun h => ?_)
    · replace hT := hT.1 h
      refine am_iconst (v := (-1)) dX10_reverseTriangle_36 (by decide) ?_
      exact am_ireturn (ty := .int) dX10_reverseTriangle_37 rfl rfl hT
    · replace hT := hT.2 h
      refine am_aload_n (x := o) dX10_reverseTriangle_24 rfl ?_
      refine am_getR dX10_reverseTriangle_25 fw_X10_10 ho.1 rfl ?_
      refine am_iload_n (x := v1) dX10_reverseTriangle_28 rfl ?_
      refine am_iload_n (x := v3) dX10_reverseTriangle_29 rfl ?_
      obtain ⟨x3, hm, hT⟩ := hT
      refine am_callV (av := [.int v1, .int v3]) (st := []) (b := (o + 1)) cw_X0_hasPair cl_X10_87 ck_X0_hasPair cs_X0_hasPair ho.2.1.1 rfl rfl (Nat.le_of_ble_eq_true rfl) dX10_reverseTriangle_30 hm (fun r D9 hr => ?_)
      obtain ⟨rfl, e9⟩ := hr
      rw [e9]
      clear e9
      refine am_if_ne (tgt := 38) dX10_reverseTriangle_33 (by decide) (fun h => ?_) (fun h => ?_)
      · replace hT := hT.1 h
        refine am_aload_n (x := o) dX10_reverseTriangle_38 rfl ?_
        refine am_getR dX10_reverseTriangle_39 fw_X10_10 ho.1 rfl ?_
        refine am_iload_n (x := v1) dX10_reverseTriangle_42 rfl ?_
        refine am_iload_n (x := v2) dX10_reverseTriangle_43 rfl ?_
        refine am_iload_n (x := v3) dX10_reverseTriangle_44 rfl ?_
        obtain ⟨x4, hm, hT⟩ := hT
        refine am_callV (av := [.int v1, .int v2, .int v3]) (st := []) (b := (o + 1)) cw_X0_isTriangle cl_X10_106 ck_X0_isTriangle cs_X0_isTriangle ho.2.1.1 rfl rfl (Nat.le_of_ble_eq_true rfl) dX10_reverseTriangle_45 hm (fun r D9 hr => ?_)
        obtain ⟨rfl, e9⟩ := hr
        rw [e9]
        clear e9
        refine am_if_ne (tgt := 54) dX10_reverseTriangle_48 (by decide) (fun h => ?_) (fun h => ?_)
        · replace hT := hT.1 h
          refine am_aload_n (x := o) dX10_reverseTriangle_54 rfl ?_
          refine am_getR dX10_reverseTriangle_55 fw_X10_22 ho.1 rfl ?_
          refine am_aload_n (x := o) dX10_reverseTriangle_58 rfl ?_
          refine am_getR dX10_reverseTriangle_59 fw_X10_10 ho.1 rfl ?_
          obtain ⟨D5, hm, hT⟩ := hT
          refine am_callV (av := [.ref (o + 1)]) (st := []) (b := (o + 7)) cw_X3_record cl_X10_79 ck_X3_record cs_X3_record ho.2.2.2.1.1 rfl rfl (Nat.le_of_ble_eq_true rfl) dX10_reverseTriangle_62 hm (fun r D9 hr => ?_)
          obtain ⟨rfl, e9⟩ := hr
          rw [e9]
          clear e9
          refine am_aload_n (x := o) dX10_reverseTriangle_65 rfl ?_
          refine am_getR dX10_reverseTriangle_66 fw_X10_10 ho.1 rfl ?_
          refine am_iload_n (x := v1) dX10_reverseTriangle_69 rfl ?_
          refine am_iload_n (x := v2) dX10_reverseTriangle_70 rfl ?_
          obtain ⟨D6, hm, hT⟩ := hT
          refine am_callV (av := [.int v1, .int v2]) (st := []) (b := (o + 1)) cw_X0_turn cl_X10_110 ck_X0_turn cs_X0_turn ho.2.1.1 rfl rfl (Nat.le_of_ble_eq_true rfl) dX10_reverseTriangle_71 hm (fun r D9 hr => ?_)
          obtain ⟨rfl, e9⟩ := hr
          rw [e9]
          clear e9
          refine am_aload_n (x := o) dX10_reverseTriangle_74 rfl ?_
          refine am_getR dX10_reverseTriangle_75 fw_X10_10 ho.1 rfl ?_
          refine am_iload_n (x := v2) dX10_reverseTriangle_78 rfl ?_
          refine am_iload_n (x := v3) dX10_reverseTriangle_79 rfl ?_
          obtain ⟨D7, hm, hT⟩ := hT
          refine am_callV (av := [.int v2, .int v3]) (st := []) (b := (o + 1)) cw_X0_turn cl_X10_110 ck_X0_turn cs_X0_turn ho.2.1.1 rfl rfl (Nat.le_of_ble_eq_true rfl) dX10_reverseTriangle_80 hm (fun r D9 hr => ?_)
          obtain ⟨rfl, e9⟩ := hr
          rw [e9]
          clear e9
          refine am_aload_n (x := o) dX10_reverseTriangle_83 rfl ?_
          refine am_getR dX10_reverseTriangle_84 fw_X10_10 ho.1 rfl ?_
          refine am_iload_n (x := v1) dX10_reverseTriangle_87 rfl ?_
          refine am_iload_n (x := v3) dX10_reverseTriangle_88 rfl ?_
          obtain ⟨D8, hm, hT⟩ := hT
          refine am_callV (av := [.int v1, .int v3]) (st := []) (b := (o + 1)) cw_X0_turn cl_X10_110 ck_X0_turn cs_X0_turn ho.2.1.1 rfl rfl (Nat.le_of_ble_eq_true rfl) dX10_reverseTriangle_89 hm (fun r D9 hr => ?_)
          obtain ⟨rfl, e9⟩ := hr
          rw [e9]
          clear e9
          refine am_aload_n (x := o) dX10_reverseTriangle_92 rfl ?_
          refine am_getR dX10_reverseTriangle_93 fw_X10_10 ho.1 rfl ?_
          obtain ⟨x9, hm, hT⟩ := hT
          refine am_callV (av := []) (st := []) (b := (o + 1)) cw_X0_countTriangles cl_X10_113 ck_X0_countTriangles cs_X0_countTriangles ho.2.1.1 rfl rfl (Nat.le_of_ble_eq_true rfl) dX10_reverseTriangle_96 hm (fun r D9 hr => ?_)
          obtain ⟨rfl, e9⟩ := hr
          rw [e9]
          clear e9
          exact am_ireturn (ty := .int) dX10_reverseTriangle_99 rfl rfl hT
        · replace hT := hT.2 h
          refine am_bipush (v := (-2)) dX10_reverseTriangle_51 (by decide) ?_
          exact am_ireturn (ty := .int) dX10_reverseTriangle_53 rfl rfl hT
      · replace hT := hT.2 h
        refine am_iconst (v := (-1)) dX10_reverseTriangle_36 (by decide) ?_
        exact am_ireturn (ty := .int) dX10_reverseTriangle_37 rfl rfl hT
set_option maxRecDepth 20000 in
theorem eX10_reversePath {lay : List am_L} {d : Nat} {D : am_D} {Q : Option Value → am_D → Prop} {o : Nat} {v1 : Int32} {v2 : Int32} (ho : isX10 lay o) (hT : (∃ x1, am_MetP lay d mX0_hasPair [.ref (o + 1), .int v1, .int v2] D x1 ∧
 ((¬ x1 = nI 0 → (∃ x2, am_MetP lay d mX6_stepsBetween [.ref (o + 1), .int v1, .int v2] D x2 ∧
 ((¬ x2 = (-4) → (∃ D3, am_MetV lay d mX3_record [.ref (o + 7), .ref (o + 1)] D D3 ∧
 (∃ D4, am_MetV lay d mX6_findShortest [.ref (o + 39), .ref (o + 1), .int v1, .int v2] D3 D4 ∧
 am_AW lay (d + 1) mX10_reversePath 60 [.ref o, .int v1, .int v2, .int x2, .int (nI 0)] [] D4 Q))) ∧
 (¬ (¬ x2 = (-4)) → Q (some (.int (-2))) D)))) ∧
 (¬ (¬ x1 = nI 0) → Q (some (.int (-1))) D)))) : am_Met lay (d + 1) mX10_reversePath [.ref o, .int v1, .int v2] D Q := by
  refine am_enter (by decide +kernel) rfl (Nat.le_of_ble_eq_true rfl) ?_
  show am_AW lay (d + 1) mX10_reversePath 0 [.ref o, .int v1, .int v2, .null, .null] [] D Q
  refine am_aload_n (x := o) dX10_reversePath_0 rfl ?_
  refine am_getR dX10_reversePath_1 fw_X10_10 ho.1 rfl ?_
  refine am_iload_n (x := v1) dX10_reversePath_4 rfl ?_
  refine am_iload_n (x := v2) dX10_reversePath_5 rfl ?_
  obtain ⟨x1, hm, hT⟩ := hT
  refine am_callV (av := [.int v1, .int v2]) (st := []) (b := (o + 1)) cw_X0_hasPair cl_X10_87 ck_X0_hasPair cs_X0_hasPair ho.2.1.1 rfl rfl (Nat.le_of_ble_eq_true rfl) dX10_reversePath_6 hm (fun r D9 hr => ?_)
  obtain ⟨rfl, e9⟩ := hr
  rw [e9]
  clear e9
  refine am_if_ne (tgt := 14) dX10_reversePath_9 (by decide) (fun h => ?_) (fun h => ?_)
  · replace hT := hT.1 h
    refine am_aload_n (x := o) dX10_reversePath_14 rfl ?_
    refine am_getR dX10_reversePath_15 fw_X10_10 ho.1 rfl ?_
    refine am_iload_n (x := v1) dX10_reversePath_18 rfl ?_
    refine am_iload_n (x := v2) dX10_reversePath_19 rfl ?_
    obtain ⟨x2, hm, hT⟩ := hT
    refine am_callS (av := [.ref (o + 1), .int v1, .int v2]) (st := []) cw_X6_stepsBetween cl_X10_116 ck_X6_stepsBetween (Nat.le_of_ble_eq_true rfl) dX10_reversePath_20 hm (fun r D9 hr => ?_)
    obtain ⟨rfl, e9⟩ := hr
    rw [e9]
    clear e9
    refine am_set (am_istore_n dX10_reversePath_23 (by decide)) (L1 := [.ref o, .int v1, .int v2, .int x2, .null]) rfl ?_
    refine am_iload_n (x := x2) dX10_reversePath_24 rfl ?_
    refine am_bipush (v := (-4)) dX10_reversePath_25 (by decide) ?_
    refine am_icmp_ne (tgt := 33) dX10_reversePath_27 (by decide) (fun h => ?_) (fun h => ?_)
    · replace hT := hT.1 h
      refine am_aload_n (x := o) dX10_reversePath_33 rfl ?_
      refine am_getR dX10_reversePath_34 fw_X10_22 ho.1 rfl ?_
      refine am_aload_n (x := o) dX10_reversePath_37 rfl ?_
      refine am_getR dX10_reversePath_38 fw_X10_10 ho.1 rfl ?_
      obtain ⟨D3, hm, hT⟩ := hT
      refine am_callV (av := [.ref (o + 1)]) (st := []) (b := (o + 7)) cw_X3_record cl_X10_79 ck_X3_record cs_X3_record ho.2.2.2.1.1 rfl rfl (Nat.le_of_ble_eq_true rfl) dX10_reversePath_41 hm (fun r D9 hr => ?_)
      obtain ⟨rfl, e9⟩ := hr
      rw [e9]
      clear e9
      refine am_aload_n (x := o) dX10_reversePath_44 rfl ?_
      refine am_getR dX10_reversePath_45 fw_X10_50 ho.1 rfl ?_
      refine am_aload_n (x := o) dX10_reversePath_48 rfl ?_
      refine am_getR dX10_reversePath_49 fw_X10_10 ho.1 rfl ?_
      refine am_iload_n (x := v1) dX10_reversePath_52 rfl ?_
      refine am_iload_n (x := v2) dX10_reversePath_53 rfl ?_
      obtain ⟨D4, hm, hT⟩ := hT
      refine am_callV (av := [.ref (o + 1), .int v1, .int v2]) (st := []) (b := (o + 39)) cw_X6_findShortest cl_X10_120 ck_X6_findShortest cs_X6_findShortest ho.2.2.2.2.2.2.2.1.1 rfl rfl (Nat.le_of_ble_eq_true rfl) dX10_reversePath_54 hm (fun r D9 hr => ?_)
      obtain ⟨rfl, e9⟩ := hr
      rw [e9]
      clear e9
      refine am_iconst (v := (nI 0)) dX10_reversePath_57 (by decide) ?_
      refine am_set (am_istore dX10_reversePath_58 (by decide)) (L1 := [.ref o, .int v1, .int v2, .int x2, .int (nI 0)]) rfl ?_
      exact hT
    · replace hT := hT.2 h
      refine am_bipush (v := (-2)) dX10_reversePath_30 (by decide) ?_
      exact am_ireturn (ty := .int) dX10_reversePath_32 rfl rfl hT
  · replace hT := hT.2 h
    refine am_iconst (v := (-1)) dX10_reversePath_12 (by decide) ?_
    exact am_ireturn (ty := .int) dX10_reversePath_13 rfl rfl hT
set_option maxRecDepth 20000 in
theorem rX10_reversePath_60 {lay : List am_L} {d : Nat} {D : am_D} {Q : Option Value → am_D → Prop} {o : Nat} {v1 : Int32} {v2 : Int32} {v3 : Int32} {v4 : Int32} (ho : isX10 lay o) (hT : ((v3 ≤ v4 → Q (some (.int v3)) D) ∧
 (¬ (v3 ≤ v4) → (((nI 10) ≤ v4 → Q (some (.int v3)) D) ∧
 (¬ ((nI 10) ≤ v4) → (∃ x1, am_MetP lay d mX6_playerAt [.ref (o + 39), .int v4] D x1 ∧
 (∃ x2, am_MetP lay d mX6_playerAt [.ref (o + 39), .int (v4 + (nI 1))] D x2 ∧
 (∃ D3, am_MetV lay d mX0_turn [.ref (o + 1), .int x1, .int x2] D D3 ∧
 am_AW lay (d + 1) mX10_reversePath 60 [.ref o, .int v1, .int v2, .int v3, .int (v4 + (nI 1))] [] D3 Q)))))))) : am_AW lay (d + 1) mX10_reversePath 60 [.ref o, .int v1, .int v2, .int v3, .int v4] [] D Q := by
  refine am_iload (x := v4) dX10_reversePath_60 rfl ?_
  refine am_iload_n (x := v3) dX10_reversePath_62 rfl ?_
  refine am_icmp_ge (tgt := 106) dX10_reversePath_63 (by decide) (fun h => ?_) (fun h => ?_)
  · replace hT := hT.1 h
    refine am_iload_n (x := v3) dX10_reversePath_106 rfl ?_
    exact am_ireturn (ty := .int) dX10_reversePath_107 rfl rfl hT
  · replace hT := hT.2 h
    refine am_iload (x := v4) dX10_reversePath_66 rfl ?_
    refine am_bipush (v := (nI 10)) dX10_reversePath_68 (by decide) ?_
    refine am_icmp_ge (tgt := 106) dX10_reversePath_70 (by decide) (fun h => ?_) (fun h => ?_)
    · replace hT := hT.1 h
      refine am_iload_n (x := v3) dX10_reversePath_106 rfl ?_
      exact am_ireturn (ty := .int) dX10_reversePath_107 rfl rfl hT
    · replace hT := hT.2 h
      refine am_aload_n (x := o) dX10_reversePath_73 rfl ?_
      refine am_getR dX10_reversePath_74 fw_X10_10 ho.1 rfl ?_
      refine am_aload_n (x := o) dX10_reversePath_77 rfl ?_
      refine am_getR dX10_reversePath_78 fw_X10_50 ho.1 rfl ?_
      refine am_iload (x := v4) dX10_reversePath_81 rfl ?_
      obtain ⟨x1, hm, hT⟩ := hT
      refine am_callV (av := [.int v4]) (st := [.ref (o + 1)]) (b := (o + 39)) cw_X6_playerAt cl_X10_124 ck_X6_playerAt cs_X6_playerAt ho.2.2.2.2.2.2.2.1.1 rfl rfl (Nat.le_of_ble_eq_true rfl) dX10_reversePath_83 hm (fun r D9 hr => ?_)
      obtain ⟨rfl, e9⟩ := hr
      rw [e9]
      clear e9
      refine am_aload_n (x := o) dX10_reversePath_86 rfl ?_
      refine am_getR dX10_reversePath_87 fw_X10_50 ho.1 rfl ?_
      refine am_iload (x := v4) dX10_reversePath_90 rfl ?_
      refine am_iconst (v := (nI 1)) dX10_reversePath_92 (by decide) ?_
      refine am_iadd dX10_reversePath_93 ?_
      obtain ⟨x2, hm, hT⟩ := hT
      refine am_callV (av := [.int (v4 + (nI 1))]) (st := [.int x1, .ref (o + 1)]) (b := (o + 39)) cw_X6_playerAt cl_X10_124 ck_X6_playerAt cs_X6_playerAt ho.2.2.2.2.2.2.2.1.1 rfl rfl (Nat.le_of_ble_eq_true rfl) dX10_reversePath_94 hm (fun r D9 hr => ?_)
      obtain ⟨rfl, e9⟩ := hr
      rw [e9]
      clear e9
      obtain ⟨D3, hm, hT⟩ := hT
      refine am_callV (av := [.int x1, .int x2]) (st := []) (b := (o + 1)) cw_X0_turn cl_X10_110 ck_X0_turn cs_X0_turn ho.2.1.1 rfl rfl (Nat.le_of_ble_eq_true rfl) dX10_reversePath_97 hm (fun r D9 hr => ?_)
      obtain ⟨rfl, e9⟩ := hr
      rw [e9]
      clear e9
      refine am_set (am_iinc (x := v4) (c0 := (nI 1)) dX10_reversePath_100 (by decide) rfl (by decide)) (L1 := [.ref o, .int v1, .int v2, .int v3, .int (v4 + (nI 1))]) rfl ?_
      refine am_goto (tgt := 60) dX10_reversePath_103 (by decide) ?_
      exact hT
set_option maxRecDepth 20000 in
theorem eX10_reversePlayer {lay : List am_L} {d : Nat} {D : am_D} {Q : Option Value → am_D → Prop} {o : Nat} {v1 : Int32} (ho : isX10 lay o) (hT : (∃ x1, am_MetP lay d mX0_has [.ref (o + 1), .int v1] D x1 ∧
 ((¬ x1 = nI 0 → (∃ D2, am_MetV lay d mX3_record [.ref (o + 7), .ref (o + 1)] D D2 ∧
 am_AW lay (d + 1) mX10_reversePlayer 26 [.ref o, .int v1, .int (nI 0)] [] D2 Q)) ∧
 (¬ (¬ x1 = nI 0) → Q (some (.int (-1))) D)))) : am_Met lay (d + 1) mX10_reversePlayer [.ref o, .int v1] D Q := by
  refine am_enter (by decide +kernel) rfl (Nat.le_of_ble_eq_true rfl) ?_
  show am_AW lay (d + 1) mX10_reversePlayer 0 [.ref o, .int v1, .null] [] D Q
  refine am_aload_n (x := o) dX10_reversePlayer_0 rfl ?_
  refine am_getR dX10_reversePlayer_1 fw_X10_10 ho.1 rfl ?_
  refine am_iload_n (x := v1) dX10_reversePlayer_4 rfl ?_
  obtain ⟨x1, hm, hT⟩ := hT
  refine am_callV (av := [.int v1]) (st := []) (b := (o + 1)) cw_X0_has cl_X10_128 ck_X0_has cs_X0_has ho.2.1.1 rfl rfl (Nat.le_of_ble_eq_true rfl) dX10_reversePlayer_5 hm (fun r D9 hr => ?_)
  obtain ⟨rfl, e9⟩ := hr
  rw [e9]
  clear e9
  refine am_if_ne (tgt := 13) dX10_reversePlayer_8 (by decide) (fun h => ?_) (fun h => ?_)
  · replace hT := hT.1 h
    refine am_aload_n (x := o) dX10_reversePlayer_13 rfl ?_
    refine am_getR dX10_reversePlayer_14 fw_X10_22 ho.1 rfl ?_
    refine am_aload_n (x := o) dX10_reversePlayer_17 rfl ?_
    refine am_getR dX10_reversePlayer_18 fw_X10_10 ho.1 rfl ?_
    obtain ⟨D2, hm, hT⟩ := hT
    refine am_callV (av := [.ref (o + 1)]) (st := []) (b := (o + 7)) cw_X3_record cl_X10_79 ck_X3_record cs_X3_record ho.2.2.2.1.1 rfl rfl (Nat.le_of_ble_eq_true rfl) dX10_reversePlayer_21 hm (fun r D9 hr => ?_)
    obtain ⟨rfl, e9⟩ := hr
    rw [e9]
    clear e9
    refine am_iconst (v := (nI 0)) dX10_reversePlayer_24 (by decide) ?_
    refine am_set (am_istore_n dX10_reversePlayer_25 (by decide)) (L1 := [.ref o, .int v1, .int (nI 0)]) rfl ?_
    exact hT
  · replace hT := hT.2 h
    refine am_iconst (v := (-1)) dX10_reversePlayer_11 (by decide) ?_
    exact am_ireturn (ty := .int) dX10_reversePlayer_12 rfl rfl hT
set_option maxRecDepth 20000 in
theorem rX10_reversePlayer_26 {lay : List am_L} {d : Nat} {D : am_D} {Q : Option Value → am_D → Prop} {o : Nat} {v1 : Int32} {v2 : Int32} (ho : isX10 lay o) (hT : (∃ x1, am_MetP lay d mX0_size [.ref (o + 1)] D x1 ∧
 ((x1 ≤ v2 → (∃ x2, am_MetP lay d mX0_winsOf [.ref (o + 1), .int v1] D x2 ∧
 Q (some (.int x2)) D)) ∧
 (¬ (x1 ≤ v2) → (∃ D3, am_MetV lay d mX0_turn [.ref (o + 1), .int v1, .int v2] D D3 ∧
 am_AW lay (d + 1) mX10_reversePlayer 26 [.ref o, .int v1, .int (v2 + (nI 1))] [] D3 Q))))) : am_AW lay (d + 1) mX10_reversePlayer 26 [.ref o, .int v1, .int v2] [] D Q := by
  refine am_iload_n (x := v2) dX10_reversePlayer_26 rfl ?_
  refine am_aload_n (x := o) dX10_reversePlayer_27 rfl ?_
  refine am_getR dX10_reversePlayer_28 fw_X10_10 ho.1 rfl ?_
  obtain ⟨x1, hm, hT⟩ := hT
  refine am_callV (av := []) (st := [.int v2]) (b := (o + 1)) cw_X0_size cl_X10_75 ck_X0_size cs_X0_size ho.2.1.1 rfl rfl (Nat.le_of_ble_eq_true rfl) dX10_reversePlayer_31 hm (fun r D9 hr => ?_)
  obtain ⟨rfl, e9⟩ := hr
  rw [e9]
  clear e9
  refine am_icmp_ge (tgt := 52) dX10_reversePlayer_34 (by decide) (fun h => ?_) (fun h => ?_)
  · replace hT := hT.1 h
    refine am_aload_n (x := o) dX10_reversePlayer_52 rfl ?_
    refine am_getR dX10_reversePlayer_53 fw_X10_10 ho.1 rfl ?_
    refine am_iload_n (x := v1) dX10_reversePlayer_56 rfl ?_
    obtain ⟨x2, hm, hT⟩ := hT
    refine am_callV (av := [.int v1]) (st := []) (b := (o + 1)) cw_X0_winsOf cl_X10_132 ck_X0_winsOf cs_X0_winsOf ho.2.1.1 rfl rfl (Nat.le_of_ble_eq_true rfl) dX10_reversePlayer_57 hm (fun r D9 hr => ?_)
    obtain ⟨rfl, e9⟩ := hr
    rw [e9]
    clear e9
    exact am_ireturn (ty := .int) dX10_reversePlayer_60 rfl rfl hT
  · replace hT := hT.2 h
    refine am_aload_n (x := o) dX10_reversePlayer_37 rfl ?_
    refine am_getR dX10_reversePlayer_38 fw_X10_10 ho.1 rfl ?_
    refine am_iload_n (x := v1) dX10_reversePlayer_41 rfl ?_
    refine am_iload_n (x := v2) dX10_reversePlayer_42 rfl ?_
    obtain ⟨D3, hm, hT⟩ := hT
    refine am_callV (av := [.int v1, .int v2]) (st := []) (b := (o + 1)) cw_X0_turn cl_X10_110 ck_X0_turn cs_X0_turn ho.2.1.1 rfl rfl (Nat.le_of_ble_eq_true rfl) dX10_reversePlayer_43 hm (fun r D9 hr => ?_)
    obtain ⟨rfl, e9⟩ := hr
    rw [e9]
    clear e9
    refine am_set (am_iinc (x := v2) (c0 := (nI 1)) dX10_reversePlayer_46 (by decide) rfl (by decide)) (L1 := [.ref o, .int v1, .int (v2 + (nI 1))]) rfl ?_
    refine am_goto (tgt := 26) dX10_reversePlayer_49 (by decide) ?_
    exact hT
set_option maxRecDepth 20000 in
theorem eX10_exchange {lay : List am_L} {d : Nat} {D : am_D} {Q : Option Value → am_D → Prop} {o : Nat} {v1 : Int32} {v2 : Int32} (ho : isX10 lay o) (hT : (∃ x1, am_MetP lay d mX0_has [.ref (o + 1), .int v1] D x1 ∧
 ((x1 = nI 0 → Q (some (.int (-1))) D) ∧
 (¬ (x1 = nI 0) → (∃ x2, am_MetP lay d mX0_has [.ref (o + 1), .int v2] D x2 ∧
 ((¬ x2 = nI 0 → (∃ D3, am_MetV lay d mX3_record [.ref (o + 7), .ref (o + 1)] D D3 ∧
 (∃ D4, am_MetV lay d mX0_swap [.ref (o + 1), .int v1, .int v2] D3 D4 ∧
 (∃ x5, am_MetP lay d mX0_winsOf [.ref (o + 1), .int v1] D4 x5 ∧
 Q (some (.int x5)) D4)))) ∧
 (¬ (¬ x2 = nI 0) → Q (some (.int (-1))) D))))))) : am_Met lay (d + 1) mX10_exchange [.ref o, .int v1, .int v2] D Q := by
  refine am_enter (by decide +kernel) rfl (Nat.le_of_ble_eq_true rfl) ?_
  show am_AW lay (d + 1) mX10_exchange 0 [.ref o, .int v1, .int v2] [] D Q
  refine am_aload_n (x := o) dX10_exchange_0 rfl ?_
  refine am_getR dX10_exchange_1 fw_X10_10 ho.1 rfl ?_
  refine am_iload_n (x := v1) dX10_exchange_4 rfl ?_
  obtain ⟨x1, hm, hT⟩ := hT
  refine am_callV (av := [.int v1]) (st := []) (b := (o + 1)) cw_X0_has cl_X10_128 ck_X0_has cs_X0_has ho.2.1.1 rfl rfl (Nat.le_of_ble_eq_true rfl) dX10_exchange_5 hm (fun r D9 hr => ?_)
  obtain ⟨rfl, e9⟩ := hr
  rw [e9]
  clear e9
  refine am_if_eq (tgt := 22) dX10_exchange_8 (by decide) (fun h => ?_) (fun h => ?_)
  · replace hT := hT.1 h
    refine am_iconst (v := (-1)) dX10_exchange_22 (by decide) ?_
    exact am_ireturn (ty := .int) dX10_exchange_23 rfl rfl hT
  · replace hT := hT.2 h
    refine am_aload_n (x := o) dX10_exchange_11 rfl ?_
    refine am_getR dX10_exchange_12 fw_X10_10 ho.1 rfl ?_
    refine am_iload_n (x := v2) dX10_exchange_15 rfl ?_
    obtain ⟨x2, hm, hT⟩ := hT
    refine am_callV (av := [.int v2]) (st := []) (b := (o + 1)) cw_X0_has cl_X10_128 ck_X0_has cs_X0_has ho.2.1.1 rfl rfl (Nat.le_of_ble_eq_true rfl) dX10_exchange_16 hm (fun r D9 hr => ?_)
    obtain ⟨rfl, e9⟩ := hr
    rw [e9]
    clear e9
    refine am_if_ne (tgt := 24) dX10_exchange_19 (by decide) (fun h => ?_) (fun h => ?_)
    · replace hT := hT.1 h
      refine am_aload_n (x := o) dX10_exchange_24 rfl ?_
      refine am_getR dX10_exchange_25 fw_X10_22 ho.1 rfl ?_
      refine am_aload_n (x := o) dX10_exchange_28 rfl ?_
      refine am_getR dX10_exchange_29 fw_X10_10 ho.1 rfl ?_
      obtain ⟨D3, hm, hT⟩ := hT
      refine am_callV (av := [.ref (o + 1)]) (st := []) (b := (o + 7)) cw_X3_record cl_X10_79 ck_X3_record cs_X3_record ho.2.2.2.1.1 rfl rfl (Nat.le_of_ble_eq_true rfl) dX10_exchange_32 hm (fun r D9 hr => ?_)
      obtain ⟨rfl, e9⟩ := hr
      rw [e9]
      clear e9
      refine am_aload_n (x := o) dX10_exchange_35 rfl ?_
      refine am_getR dX10_exchange_36 fw_X10_10 ho.1 rfl ?_
      refine am_iload_n (x := v1) dX10_exchange_39 rfl ?_
      refine am_iload_n (x := v2) dX10_exchange_40 rfl ?_
      obtain ⟨D4, hm, hT⟩ := hT
      refine am_callV (av := [.int v1, .int v2]) (st := []) (b := (o + 1)) cw_X0_swap cl_X10_135 ck_X0_swap cs_X0_swap ho.2.1.1 rfl rfl (Nat.le_of_ble_eq_true rfl) dX10_exchange_41 hm (fun r D9 hr => ?_)
      obtain ⟨rfl, e9⟩ := hr
      rw [e9]
      clear e9
      refine am_aload_n (x := o) dX10_exchange_44 rfl ?_
      refine am_getR dX10_exchange_45 fw_X10_10 ho.1 rfl ?_
      refine am_iload_n (x := v1) dX10_exchange_48 rfl ?_
      obtain ⟨x5, hm, hT⟩ := hT
      refine am_callV (av := [.int v1]) (st := []) (b := (o + 1)) cw_X0_winsOf cl_X10_132 ck_X0_winsOf cs_X0_winsOf ho.2.1.1 rfl rfl (Nat.le_of_ble_eq_true rfl) dX10_exchange_49 hm (fun r D9 hr => ?_)
      obtain ⟨rfl, e9⟩ := hr
      rw [e9]
      clear e9
      exact am_ireturn (ty := .int) dX10_exchange_52 rfl rfl hT
    · replace hT := hT.2 h
      refine am_iconst (v := (-1)) dX10_exchange_22 (by decide) ?_
      exact am_ireturn (ty := .int) dX10_exchange_23 rfl rfl hT
set_option maxRecDepth 20000 in
theorem eX10_construct {lay : List am_L} {d : Nat} {D : am_D} {Q : Option Value → am_D → Prop} {o : Nat} (ho : isX10 lay o) (hT : (∃ x1, am_MetP lay d mX8_failingCount [.ref (o + 33)] D x1 ∧
 ((x1 = nI 0 → (∃ D2, am_MetV lay d mX3_record [.ref (o + 7), .ref (o + 1)] D D2 ∧
 (∃ D3, am_MetV lay d mX1_build [.ref (o + 37), .ref (o + 33), .ref (o + 1)] D2 D3 ∧
 (∃ x4, am_MetP lay d mX0_size [.ref (o + 1)] D3 x4 ∧
 Q (some (.int x4)) D3)))) ∧
 (¬ (x1 = nI 0) → Q (some (.int (-2))) D)))) : am_Met lay (d + 1) mX10_construct [.ref o] D Q := by
  refine am_enter (by decide +kernel) rfl (Nat.le_of_ble_eq_true rfl) ?_
  show am_AW lay (d + 1) mX10_construct 0 [.ref o] [] D Q
  refine am_aload_n (x := o) dX10_construct_0 rfl ?_
  refine am_getR dX10_construct_1 fw_X10_29 ho.1 rfl ?_
  obtain ⟨x1, hm, hT⟩ := hT
  refine am_callV (av := []) (st := []) (b := (o + 33)) cw_X8_failingCount cl_X10_138 ck_X8_failingCount cs_X8_failingCount ho.2.2.2.2.1.1 rfl rfl (Nat.le_of_ble_eq_true rfl) dX10_construct_4 hm (fun r D9 hr => ?_)
  obtain ⟨rfl, e9⟩ := hr
  rw [e9]
  clear e9
  refine am_if_eq (tgt := 13) dX10_construct_7 (by decide) (fun h => ?_) (fun h => ?_)
  · replace hT := hT.1 h
    refine am_aload_n (x := o) dX10_construct_13 rfl ?_
    refine am_getR dX10_construct_14 fw_X10_22 ho.1 rfl ?_
    refine am_aload_n (x := o) dX10_construct_17 rfl ?_
    refine am_getR dX10_construct_18 fw_X10_10 ho.1 rfl ?_
    obtain ⟨D2, hm, hT⟩ := hT
    refine am_callV (av := [.ref (o + 1)]) (st := []) (b := (o + 7)) cw_X3_record cl_X10_79 ck_X3_record cs_X3_record ho.2.2.2.1.1 rfl rfl (Nat.le_of_ble_eq_true rfl) dX10_construct_21 hm (fun r D9 hr => ?_)
    obtain ⟨rfl, e9⟩ := hr
    rw [e9]
    clear e9
    refine am_aload_n (x := o) dX10_construct_24 rfl ?_
    refine am_getR dX10_construct_25 fw_X10_43 ho.1 rfl ?_
    refine am_aload_n (x := o) dX10_construct_28 rfl ?_
    refine am_getR dX10_construct_29 fw_X10_29 ho.1 rfl ?_
    refine am_aload_n (x := o) dX10_construct_32 rfl ?_
    refine am_getR dX10_construct_33 fw_X10_10 ho.1 rfl ?_
    obtain ⟨D3, hm, hT⟩ := hT
    refine am_callV (av := [.ref (o + 33), .ref (o + 1)]) (st := []) (b := (o + 37)) cw_X1_build cl_X10_141 ck_X1_build cs_X1_build ho.2.2.2.2.2.2.1.1 rfl rfl (Nat.le_of_ble_eq_true rfl) dX10_construct_36 hm (fun r D9 hr => ?_)
    obtain ⟨rfl, e9⟩ := hr
    rw [e9]
    clear e9
    refine am_aload_n (x := o) dX10_construct_39 rfl ?_
    refine am_getR dX10_construct_40 fw_X10_10 ho.1 rfl ?_
    obtain ⟨x4, hm, hT⟩ := hT
    refine am_callV (av := []) (st := []) (b := (o + 1)) cw_X0_size cl_X10_75 ck_X0_size cs_X0_size ho.2.1.1 rfl rfl (Nat.le_of_ble_eq_true rfl) dX10_construct_43 hm (fun r D9 hr => ?_)
    obtain ⟨rfl, e9⟩ := hr
    rw [e9]
    clear e9
    exact am_ireturn (ty := .int) dX10_construct_46 rfl rfl hT
  · replace hT := hT.2 h
    refine am_bipush (v := (-2)) dX10_construct_10 (by decide) ?_
    exact am_ireturn (ty := .int) dX10_construct_12 rfl rfl hT
set_option maxRecDepth 20000 in
theorem eX10_enter {lay : List am_L} {d : Nat} {D : am_D} {Q : Option Value → am_D → Prop} {o : Nat} (ho : isX10 lay o) (hT : (∃ x1, am_MetP lay d mX7_faultFor [.ref (o + 35), .ref (o + 1)] D x1 ∧
 ((x1 = (-4) → (∃ D2, am_MetV lay d mX3_record [.ref (o + 7), .ref (o + 1)] D D2 ∧
 (∃ x3 D4, am_MetI lay d mX7_enterInto [.ref (o + 35), .ref (o + 1)] D2 x3 D4 ∧
 Q (some (.int x3)) D4))) ∧
 (¬ (x1 = (-4)) → Q (some (.int (-2))) D)))) : am_Met lay (d + 1) mX10_enter [.ref o] D Q := by
  refine am_enter (by decide +kernel) rfl (Nat.le_of_ble_eq_true rfl) ?_
  show am_AW lay (d + 1) mX10_enter 0 [.ref o] [] D Q
  refine am_aload_n (x := o) dX10_enter_0 rfl ?_
  refine am_getR dX10_enter_1 fw_X10_36 ho.1 rfl ?_
  refine am_aload_n (x := o) dX10_enter_4 rfl ?_
  refine am_getR dX10_enter_5 fw_X10_10 ho.1 rfl ?_
  obtain ⟨x1, hm, hT⟩ := hT
  refine am_callV (av := [.ref (o + 1)]) (st := []) (b := (o + 35)) cw_X7_faultFor cl_X10_145 ck_X7_faultFor cs_X7_faultFor ho.2.2.2.2.2.1.1 rfl rfl (Nat.le_of_ble_eq_true rfl) dX10_enter_8 hm (fun r D9 hr => ?_)
  obtain ⟨rfl, e9⟩ := hr
  rw [e9]
  clear e9
  refine am_bipush (v := (-4)) dX10_enter_11 (by decide) ?_
  refine am_icmp_eq (tgt := 19) dX10_enter_13 (by decide) (fun h => ?_) (fun h => ?_)
  · replace hT := hT.1 h
    refine am_aload_n (x := o) dX10_enter_19 rfl ?_
    refine am_getR dX10_enter_20 fw_X10_22 ho.1 rfl ?_
    refine am_aload_n (x := o) dX10_enter_23 rfl ?_
    refine am_getR dX10_enter_24 fw_X10_10 ho.1 rfl ?_
    obtain ⟨D2, hm, hT⟩ := hT
    refine am_callV (av := [.ref (o + 1)]) (st := []) (b := (o + 7)) cw_X3_record cl_X10_79 ck_X3_record cs_X3_record ho.2.2.2.1.1 rfl rfl (Nat.le_of_ble_eq_true rfl) dX10_enter_27 hm (fun r D9 hr => ?_)
    obtain ⟨rfl, e9⟩ := hr
    rw [e9]
    clear e9
    refine am_aload_n (x := o) dX10_enter_30 rfl ?_
    refine am_getR dX10_enter_31 fw_X10_36 ho.1 rfl ?_
    refine am_aload_n (x := o) dX10_enter_34 rfl ?_
    refine am_getR dX10_enter_35 fw_X10_10 ho.1 rfl ?_
    obtain ⟨x3, D4, hm, hT⟩ := hT
    refine am_callV (av := [.ref (o + 1)]) (st := []) (b := (o + 35)) cw_X7_enterInto cl_X10_149 ck_X7_enterInto cs_X7_enterInto ho.2.2.2.2.2.1.1 rfl rfl (Nat.le_of_ble_eq_true rfl) dX10_enter_38 hm (fun r D9 hr => ?_)
    obtain ⟨rfl, e9⟩ := hr
    rw [e9]
    clear e9
    exact am_ireturn (ty := .int) dX10_enter_41 rfl rfl hT
  · replace hT := hT.2 h
    refine am_bipush (v := (-2)) dX10_enter_16 (by decide) ?_
    exact am_ireturn (ty := .int) dX10_enter_18 rfl rfl hT
set_option maxRecDepth 20000 in
theorem eX10_recall {lay : List am_L} {d : Nat} {D : am_D} {Q : Option Value → am_D → Prop} {o : Nat} (ho : isX10 lay o) (hT : (∃ D1, am_MetV lay d mX3_record [.ref (o + 7), .ref (o + 1)] D D1 ∧
 (∃ D2, am_MetV lay d mX0_copyFrom [.ref (o + 1), .ref (o + 4)] D1 D2 ∧
 (∃ x3, am_MetP lay d mX0_size [.ref (o + 1)] D2 x3 ∧
 Q (some (.int x3)) D2)))) : am_Met lay (d + 1) mX10_recall [.ref o] D Q := by
  refine am_enter (by decide +kernel) rfl (Nat.le_of_ble_eq_true rfl) ?_
  show am_AW lay (d + 1) mX10_recall 0 [.ref o] [] D Q
  refine am_aload_n (x := o) dX10_recall_0 rfl ?_
  refine am_getR dX10_recall_1 fw_X10_22 ho.1 rfl ?_
  refine am_aload_n (x := o) dX10_recall_4 rfl ?_
  refine am_getR dX10_recall_5 fw_X10_10 ho.1 rfl ?_
  obtain ⟨D1, hm, hT⟩ := hT
  refine am_callV (av := [.ref (o + 1)]) (st := []) (b := (o + 7)) cw_X3_record cl_X10_79 ck_X3_record cs_X3_record ho.2.2.2.1.1 rfl rfl (Nat.le_of_ble_eq_true rfl) dX10_recall_8 hm (fun r D9 hr => ?_)
  obtain ⟨rfl, e9⟩ := hr
  rw [e9]
  clear e9
  refine am_aload_n (x := o) dX10_recall_11 rfl ?_
  refine am_getR dX10_recall_12 fw_X10_10 ho.1 rfl ?_
  refine am_aload_n (x := o) dX10_recall_15 rfl ?_
  refine am_getR dX10_recall_16 fw_X10_16 ho.1 rfl ?_
  obtain ⟨D2, hm, hT⟩ := hT
  refine am_callV (av := [.ref (o + 4)]) (st := []) (b := (o + 1)) cw_X0_copyFrom cl_X10_152 ck_X0_copyFrom cs_X0_copyFrom ho.2.1.1 rfl rfl (Nat.le_of_ble_eq_true rfl) dX10_recall_19 hm (fun r D9 hr => ?_)
  obtain ⟨rfl, e9⟩ := hr
  rw [e9]
  clear e9
  refine am_aload_n (x := o) dX10_recall_22 rfl ?_
  refine am_getR dX10_recall_23 fw_X10_10 ho.1 rfl ?_
  obtain ⟨x3, hm, hT⟩ := hT
  refine am_callV (av := []) (st := []) (b := (o + 1)) cw_X0_size cl_X10_75 ck_X0_size cs_X0_size ho.2.1.1 rfl rfl (Nat.le_of_ble_eq_true rfl) dX10_recall_26 hm (fun r D9 hr => ?_)
  obtain ⟨rfl, e9⟩ := hr
  rw [e9]
  clear e9
  exact am_ireturn (ty := .int) dX10_recall_29 rfl rfl hT
set_option maxRecDepth 20000 in
theorem eX10_undo {lay : List am_L} {d : Nat} {D : am_D} {Q : Option Value → am_D → Prop} {o : Nat} (ho : isX10 lay o) (hT : (∃ x1, am_MetP lay d mX3_isEmpty [.ref (o + 7)] D x1 ∧
 ((x1 = nI 0 → (∃ D2, am_MetV lay d mX3_takeLatest [.ref (o + 7), .ref (o + 1)] D D2 ∧
 (∃ x3, am_MetP lay d mX3_size [.ref (o + 7)] D2 x3 ∧
 Q (some (.int x3)) D2))) ∧
 (¬ (x1 = nI 0) → Q (some (.int (-2))) D)))) : am_Met lay (d + 1) mX10_undo [.ref o] D Q := by
  refine am_enter (by decide +kernel) rfl (Nat.le_of_ble_eq_true rfl) ?_
  show am_AW lay (d + 1) mX10_undo 0 [.ref o] [] D Q
  refine am_aload_n (x := o) dX10_undo_0 rfl ?_
  refine am_getR dX10_undo_1 fw_X10_22 ho.1 rfl ?_
  obtain ⟨x1, hm, hT⟩ := hT
  refine am_callV (av := []) (st := []) (b := (o + 7)) cw_X3_isEmpty cl_X10_155 ck_X3_isEmpty cs_X3_isEmpty ho.2.2.2.1.1 rfl rfl (Nat.le_of_ble_eq_true rfl) dX10_undo_4 hm (fun r D9 hr => ?_)
  obtain ⟨rfl, e9⟩ := hr
  rw [e9]
  clear e9
  refine am_if_eq (tgt := 13) dX10_undo_7 (by decide) (fun h => ?_) (fun h => ?_)
  · replace hT := hT.1 h
    refine am_aload_n (x := o) dX10_undo_13 rfl ?_
    refine am_getR dX10_undo_14 fw_X10_22 ho.1 rfl ?_
    refine am_aload_n (x := o) dX10_undo_17 rfl ?_
    refine am_getR dX10_undo_18 fw_X10_10 ho.1 rfl ?_
    obtain ⟨D2, hm, hT⟩ := hT
    refine am_callV (av := [.ref (o + 1)]) (st := []) (b := (o + 7)) cw_X3_takeLatest cl_X10_159 ck_X3_takeLatest cs_X3_takeLatest ho.2.2.2.1.1 rfl rfl (Nat.le_of_ble_eq_true rfl) dX10_undo_21 hm (fun r D9 hr => ?_)
    obtain ⟨rfl, e9⟩ := hr
    rw [e9]
    clear e9
    refine am_aload_n (x := o) dX10_undo_24 rfl ?_
    refine am_getR dX10_undo_25 fw_X10_22 ho.1 rfl ?_
    obtain ⟨x3, hm, hT⟩ := hT
    refine am_callV (av := []) (st := []) (b := (o + 7)) cw_X3_size cl_X10_162 ck_X3_size cs_X3_size ho.2.2.2.1.1 rfl rfl (Nat.le_of_ble_eq_true rfl) dX10_undo_28 hm (fun r D9 hr => ?_)
    obtain ⟨rfl, e9⟩ := hr
    rw [e9]
    clear e9
    exact am_ireturn (ty := .int) dX10_undo_31 rfl rfl hT
  · replace hT := hT.2 h
    refine am_bipush (v := (-2)) dX10_undo_10 (by decide) ?_
    exact am_ireturn (ty := .int) dX10_undo_12 rfl rfl hT
set_option maxRecDepth 20000 in
theorem eX10_append {lay : List am_L} {d : Nat} {D : am_D} {Q : Option Value → am_D → Prop} {o : Nat} {v1 : Int32} (ho : isX10 lay o) (hT : ((v1 < nI 0 → Q (some (.int (-1))) D) ∧
 (¬ (v1 < nI 0) → ((v1 ≤ (nI 9) → (∃ x1 D2, am_MetI lay d mX8_add [.ref (o + 33), .int v1] D x1 D2 ∧
 ((x1 = nI 0 → Q (some (.int (-3))) D2) ∧
 (¬ (x1 = nI 0) → (∃ x3, am_MetP lay d mX8_size [.ref (o + 33)] D2 x3 ∧
 Q (some (.int x3)) D2))))) ∧
 (¬ (v1 ≤ (nI 9)) → Q (some (.int (-1))) D))))) : am_Met lay (d + 1) mX10_append [.ref o, .int v1] D Q := by
  refine am_enter (by decide +kernel) rfl (Nat.le_of_ble_eq_true rfl) ?_
  show am_AW lay (d + 1) mX10_append 0 [.ref o, .int v1] [] D Q
  refine am_iload_n (x := v1) dX10_append_0 rfl ?_
  refine am_if_lt (tgt := 10) dX10_append_1 (by decide) (fun h => ?_) (fun h => ?_)
  · replace hT := hT.1 h
    refine am_iconst (v := (-1)) dX10_append_10 (by decide) ?_
    exact am_ireturn (ty := .int) dX10_append_11 rfl rfl hT
  · replace hT := hT.2 h
    refine am_iload_n (x := v1) dX10_append_4 rfl ?_
    refine am_bipush (v := (nI 9)) dX10_append_5 (by decide) ?_
    refine am_icmp_le (tgt := 12) dX10_append_7 (by decide) (fun h => ?_) (fun h => ?_)
    · replace hT := hT.1 h
      refine am_aload_n (x := o) dX10_append_12 rfl ?_
      refine am_getR dX10_append_13 fw_X10_29 ho.1 rfl ?_
      refine am_iload_n (x := v1) dX10_append_16 rfl ?_
      obtain ⟨x1, D2, hm, hT⟩ := hT
      refine am_callV (av := [.int v1]) (st := []) (b := (o + 33)) cw_X8_add cl_X10_163 ck_X8_add cs_X8_add ho.2.2.2.2.1.1 rfl rfl (Nat.le_of_ble_eq_true rfl) dX10_append_17 hm (fun r D9 hr => ?_)
      obtain ⟨rfl, e9⟩ := hr
      rw [e9]
      clear e9
      refine am_if_eq (tgt := 33) dX10_append_20 (by decide) (fun h => ?_) (fun h => ?_)
      · replace hT := hT.1 h
        refine am_bipush (v := (-3)) dX10_append_33 (by decide) ?_
        exact am_ireturn (ty := .int) dX10_append_35 rfl rfl hT
      · replace hT := hT.2 h
        refine am_aload_n (x := o) dX10_append_23 rfl ?_
        refine am_getR dX10_append_24 fw_X10_29 ho.1 rfl ?_
        obtain ⟨x3, hm, hT⟩ := hT
        refine am_callV (av := []) (st := []) (b := (o + 33)) cw_X8_size cl_X10_166 ck_X8_size cs_X8_size ho.2.2.2.2.1.1 rfl rfl (Nat.le_of_ble_eq_true rfl) dX10_append_27 hm (fun r D9 hr => ?_)
        obtain ⟨rfl, e9⟩ := hr
        rw [e9]
        clear e9
        refine am_goto (tgt := 35) dX10_append_30 (by decide) ?_
        exact am_ireturn (ty := .int) dX10_append_35 rfl rfl hT
    · replace hT := hT.2 h
      refine am_iconst (v := (-1)) dX10_append_10 (by decide) ?_
      exact am_ireturn (ty := .int) dX10_append_11 rfl rfl hT
set_option maxRecDepth 20000 in
theorem eX10_clearSequence {lay : List am_L} {d : Nat} {D : am_D} {Q : Option Value → am_D → Prop} {o : Nat} (ho : isX10 lay o) (hT : (∃ x1, am_MetP lay d mX8_size [.ref (o + 33)] D x1 ∧
 (∃ D2, am_MetV lay d mX8_empty [.ref (o + 33)] D D2 ∧
 Q (some (.int x1)) D2))) : am_Met lay (d + 1) mX10_clearSequence [.ref o] D Q := by
  refine am_enter (by decide +kernel) rfl (Nat.le_of_ble_eq_true rfl) ?_
  show am_AW lay (d + 1) mX10_clearSequence 0 [.ref o, .null] [] D Q
  refine am_aload_n (x := o) dX10_clearSequence_0 rfl ?_
  refine am_getR dX10_clearSequence_1 fw_X10_29 ho.1 rfl ?_
  obtain ⟨x1, hm, hT⟩ := hT
  refine am_callV (av := []) (st := []) (b := (o + 33)) cw_X8_size cl_X10_166 ck_X8_size cs_X8_size ho.2.2.2.2.1.1 rfl rfl (Nat.le_of_ble_eq_true rfl) dX10_clearSequence_4 hm (fun r D9 hr => ?_)
  obtain ⟨rfl, e9⟩ := hr
  rw [e9]
  clear e9
  refine am_set (am_istore_n dX10_clearSequence_7 (by decide)) (L1 := [.ref o, .int x1]) rfl ?_
  refine am_aload_n (x := o) dX10_clearSequence_8 rfl ?_
  refine am_getR dX10_clearSequence_9 fw_X10_29 ho.1 rfl ?_
  obtain ⟨D2, hm, hT⟩ := hT
  refine am_callV (av := []) (st := []) (b := (o + 33)) cw_X8_empty cl_X10_167 ck_X8_empty cs_X8_empty ho.2.2.2.2.1.1 rfl rfl (Nat.le_of_ble_eq_true rfl) dX10_clearSequence_12 hm (fun r D9 hr => ?_)
  obtain ⟨rfl, e9⟩ := hr
  rw [e9]
  clear e9
  refine am_iload_n (x := x1) dX10_clearSequence_15 rfl ?_
  exact am_ireturn (ty := .int) dX10_clearSequence_16 rfl rfl hT
set_option maxRecDepth 20000 in
theorem eX10_checkSequence {lay : List am_L} {d : Nat} {D : am_D} {Q : Option Value → am_D → Prop} {o : Nat} (ho : isX10 lay o) (hT : (∃ x1, am_MetP lay d mX8_failingCount [.ref (o + 33)] D x1 ∧
 Q (some (.int x1)) D)) : am_Met lay (d + 1) mX10_checkSequence [.ref o] D Q := by
  refine am_enter (by decide +kernel) rfl (Nat.le_of_ble_eq_true rfl) ?_
  show am_AW lay (d + 1) mX10_checkSequence 0 [.ref o] [] D Q
  refine am_aload_n (x := o) dX10_checkSequence_0 rfl ?_
  refine am_getR dX10_checkSequence_1 fw_X10_29 ho.1 rfl ?_
  obtain ⟨x1, hm, hT⟩ := hT
  refine am_callV (av := []) (st := []) (b := (o + 33)) cw_X8_failingCount cl_X10_138 ck_X8_failingCount cs_X8_failingCount ho.2.2.2.2.1.1 rfl rfl (Nat.le_of_ble_eq_true rfl) dX10_checkSequence_4 hm (fun r D9 hr => ?_)
  obtain ⟨rfl, e9⟩ := hr
  rw [e9]
  clear e9
  exact am_ireturn (ty := .int) dX10_checkSequence_7 rfl rfl hT
set_option maxRecDepth 20000 in
theorem eX10_type {lay : List am_L} {d : Nat} {D : am_D} {Q : Option Value → am_D → Prop} {o : Nat} {v1 : Int32} (ho : isX10 lay o) (hT : ((v1 < (nI 32) → Q (some (.int (-1))) D) ∧
 (¬ (v1 < (nI 32)) → ((v1 ≤ (nI 126) → (∃ x1 D2, am_MetI lay d mX7_add [.ref (o + 35), .int (v1.toUInt32 % 65536).toInt32] D x1 D2 ∧
 ((x1 = nI 0 → Q (some (.int (-3))) D2) ∧
 (¬ (x1 = nI 0) → (∃ x3, am_MetP lay d mX7_size [.ref (o + 35)] D2 x3 ∧
 Q (some (.int x3)) D2))))) ∧
 (¬ (v1 ≤ (nI 126)) → Q (some (.int (-1))) D))))) : am_Met lay (d + 1) mX10_type [.ref o, .int v1] D Q := by
  refine am_enter (by decide +kernel) rfl (Nat.le_of_ble_eq_true rfl) ?_
  show am_AW lay (d + 1) mX10_type 0 [.ref o, .int v1] [] D Q
  refine am_iload_n (x := v1) dX10_type_0 rfl ?_
  refine am_bipush (v := (nI 32)) dX10_type_1 (by decide) ?_
  refine am_icmp_lt (tgt := 12) dX10_type_3 (by decide) (fun h => ?_) (fun h => ?_)
  · replace hT := hT.1 h
    refine am_iconst (v := (-1)) dX10_type_12 (by decide) ?_
    exact am_ireturn (ty := .int) dX10_type_13 rfl rfl hT
  · replace hT := hT.2 h
    refine am_iload_n (x := v1) dX10_type_6 rfl ?_
    refine am_bipush (v := (nI 126)) dX10_type_7 (by decide) ?_
    refine am_icmp_le (tgt := 14) dX10_type_9 (by decide) (fun h => ?_) (fun h => ?_)
    · replace hT := hT.1 h
      refine am_aload_n (x := o) dX10_type_14 rfl ?_
      refine am_getR dX10_type_15 fw_X10_36 ho.1 rfl ?_
      refine am_iload_n (x := v1) dX10_type_18 rfl ?_
      refine am_i2c dX10_type_19 ?_
      obtain ⟨x1, D2, hm, hT⟩ := hT
      refine am_callV (av := [.int (v1.toUInt32 % 65536).toInt32]) (st := []) (b := (o + 35)) cw_X7_add cl_X10_170 ck_X7_add cs_X7_add ho.2.2.2.2.2.1.1 rfl rfl (Nat.le_of_ble_eq_true rfl) dX10_type_20 hm (fun r D9 hr => ?_)
      obtain ⟨rfl, e9⟩ := hr
      rw [e9]
      clear e9
      refine am_if_eq (tgt := 36) dX10_type_23 (by decide) (fun h => ?_) (fun h => ?_)
      · replace hT := hT.1 h
        refine am_bipush (v := (-3)) dX10_type_36 (by decide) ?_
        exact am_ireturn (ty := .int) dX10_type_38 rfl rfl hT
      · replace hT := hT.2 h
        refine am_aload_n (x := o) dX10_type_26 rfl ?_
        refine am_getR dX10_type_27 fw_X10_36 ho.1 rfl ?_
        obtain ⟨x3, hm, hT⟩ := hT
        refine am_callV (av := []) (st := []) (b := (o + 35)) cw_X7_size cl_X10_173 ck_X7_size cs_X7_size ho.2.2.2.2.2.1.1 rfl rfl (Nat.le_of_ble_eq_true rfl) dX10_type_30 hm (fun r D9 hr => ?_)
        obtain ⟨rfl, e9⟩ := hr
        rw [e9]
        clear e9
        refine am_goto (tgt := 38) dX10_type_33 (by decide) ?_
        exact am_ireturn (ty := .int) dX10_type_38 rfl rfl hT
    · replace hT := hT.2 h
      refine am_iconst (v := (-1)) dX10_type_12 (by decide) ?_
      exact am_ireturn (ty := .int) dX10_type_13 rfl rfl hT
set_option maxRecDepth 20000 in
theorem eX10_clearText {lay : List am_L} {d : Nat} {D : am_D} {Q : Option Value → am_D → Prop} {o : Nat} (ho : isX10 lay o) (hT : (∃ x1, am_MetP lay d mX7_size [.ref (o + 35)] D x1 ∧
 (∃ D2, am_MetV lay d mX7_empty [.ref (o + 35)] D D2 ∧
 Q (some (.int x1)) D2))) : am_Met lay (d + 1) mX10_clearText [.ref o] D Q := by
  refine am_enter (by decide +kernel) rfl (Nat.le_of_ble_eq_true rfl) ?_
  show am_AW lay (d + 1) mX10_clearText 0 [.ref o, .null] [] D Q
  refine am_aload_n (x := o) dX10_clearText_0 rfl ?_
  refine am_getR dX10_clearText_1 fw_X10_36 ho.1 rfl ?_
  obtain ⟨x1, hm, hT⟩ := hT
  refine am_callV (av := []) (st := []) (b := (o + 35)) cw_X7_size cl_X10_173 ck_X7_size cs_X7_size ho.2.2.2.2.2.1.1 rfl rfl (Nat.le_of_ble_eq_true rfl) dX10_clearText_4 hm (fun r D9 hr => ?_)
  obtain ⟨rfl, e9⟩ := hr
  rw [e9]
  clear e9
  refine am_set (am_istore_n dX10_clearText_7 (by decide)) (L1 := [.ref o, .int x1]) rfl ?_
  refine am_aload_n (x := o) dX10_clearText_8 rfl ?_
  refine am_getR dX10_clearText_9 fw_X10_36 ho.1 rfl ?_
  obtain ⟨D2, hm, hT⟩ := hT
  refine am_callV (av := []) (st := []) (b := (o + 35)) cw_X7_empty cl_X10_174 ck_X7_empty cs_X7_empty ho.2.2.2.2.2.1.1 rfl rfl (Nat.le_of_ble_eq_true rfl) dX10_clearText_12 hm (fun r D9 hr => ?_)
  obtain ⟨rfl, e9⟩ := hr
  rw [e9]
  clear e9
  refine am_iload_n (x := x1) dX10_clearText_15 rfl ?_
  exact am_ireturn (ty := .int) dX10_clearText_16 rfl rfl hT
set_option maxRecDepth 20000 in
theorem eX10_fault {lay : List am_L} {d : Nat} {D : am_D} {Q : Option Value → am_D → Prop} {o : Nat} (ho : isX10 lay o) (hT : (∃ x1, am_MetP lay d mX7_faultFor [.ref (o + 35), .ref (o + 1)] D x1 ∧
 Q (some (.int x1)) D)) : am_Met lay (d + 1) mX10_fault [.ref o] D Q := by
  refine am_enter (by decide +kernel) rfl (Nat.le_of_ble_eq_true rfl) ?_
  show am_AW lay (d + 1) mX10_fault 0 [.ref o] [] D Q
  refine am_aload_n (x := o) dX10_fault_0 rfl ?_
  refine am_getR dX10_fault_1 fw_X10_36 ho.1 rfl ?_
  refine am_aload_n (x := o) dX10_fault_4 rfl ?_
  refine am_getR dX10_fault_5 fw_X10_10 ho.1 rfl ?_
  obtain ⟨x1, hm, hT⟩ := hT
  refine am_callV (av := [.ref (o + 1)]) (st := []) (b := (o + 35)) cw_X7_faultFor cl_X10_145 ck_X7_faultFor cs_X7_faultFor ho.2.2.2.2.2.1.1 rfl rfl (Nat.le_of_ble_eq_true rfl) dX10_fault_8 hm (fun r D9 hr => ?_)
  obtain ⟨rfl, e9⟩ := hr
  rw [e9]
  clear e9
  exact am_ireturn (ty := .int) dX10_fault_11 rfl rfl hT
set_option maxRecDepth 20000 in
theorem eX10_players {lay : List am_L} {d : Nat} {D : am_D} {Q : Option Value → am_D → Prop} {o : Nat} (ho : isX10 lay o) (hT : (∃ x1, am_MetP lay d mX0_size [.ref (o + 1)] D x1 ∧
 Q (some (.int x1)) D)) : am_Met lay (d + 1) mX10_players [.ref o] D Q := by
  refine am_enter (by decide +kernel) rfl (Nat.le_of_ble_eq_true rfl) ?_
  show am_AW lay (d + 1) mX10_players 0 [.ref o] [] D Q
  refine am_aload_n (x := o) dX10_players_0 rfl ?_
  refine am_getR dX10_players_1 fw_X10_10 ho.1 rfl ?_
  obtain ⟨x1, hm, hT⟩ := hT
  refine am_callV (av := []) (st := []) (b := (o + 1)) cw_X0_size cl_X10_75 ck_X0_size cs_X0_size ho.2.1.1 rfl rfl (Nat.le_of_ble_eq_true rfl) dX10_players_4 hm (fun r D9 hr => ?_)
  obtain ⟨rfl, e9⟩ := hr
  rw [e9]
  clear e9
  exact am_ireturn (ty := .int) dX10_players_7 rfl rfl hT
set_option maxRecDepth 20000 in
theorem eX10_beats {lay : List am_L} {d : Nat} {D : am_D} {Q : Option Value → am_D → Prop} {o : Nat} {v1 : Int32} {v2 : Int32} (ho : isX10 lay o) (hT : (∃ x1, am_MetP lay d mX0_has [.ref (o + 1), .int v1] D x1 ∧
 ((x1 = nI 0 → Q (some (.int (-1))) D) ∧
 (¬ (x1 = nI 0) → (∃ x2, am_MetP lay d mX0_has [.ref (o + 1), .int v2] D x2 ∧
 ((¬ x2 = nI 0 → (∃ x3, am_MetP lay d mX0_wins [.ref (o + 1), .int v1, .int v2] D x3 ∧
 ((x3 = nI 0 → Q (some (.int (nI 0))) D) ∧
 (¬ (x3 = nI 0) → Q (some (.int (nI 1))) D)))) ∧
 (¬ (¬ x2 = nI 0) → Q (some (.int (-1))) D))))))) : am_Met lay (d + 1) mX10_beats [.ref o, .int v1, .int v2] D Q := by
  refine am_enter (by decide +kernel) rfl (Nat.le_of_ble_eq_true rfl) ?_
  show am_AW lay (d + 1) mX10_beats 0 [.ref o, .int v1, .int v2] [] D Q
  refine am_aload_n (x := o) dX10_beats_0 rfl ?_
  refine am_getR dX10_beats_1 fw_X10_10 ho.1 rfl ?_
  refine am_iload_n (x := v1) dX10_beats_4 rfl ?_
  obtain ⟨x1, hm, hT⟩ := hT
  refine am_callV (av := [.int v1]) (st := []) (b := (o + 1)) cw_X0_has cl_X10_128 ck_X0_has cs_X0_has ho.2.1.1 rfl rfl (Nat.le_of_ble_eq_true rfl) dX10_beats_5 hm (fun r D9 hr => ?_)
  obtain ⟨rfl, e9⟩ := hr
  rw [e9]
  clear e9
  refine am_if_eq (tgt := 22) dX10_beats_8 (by decide) (fun h => ?_) (fun h => ?_)
  · replace hT := hT.1 h
    refine am_iconst (v := (-1)) dX10_beats_22 (by decide) ?_
    exact am_ireturn (ty := .int) dX10_beats_23 rfl rfl hT
  · replace hT := hT.2 h
    refine am_aload_n (x := o) dX10_beats_11 rfl ?_
    refine am_getR dX10_beats_12 fw_X10_10 ho.1 rfl ?_
    refine am_iload_n (x := v2) dX10_beats_15 rfl ?_
    obtain ⟨x2, hm, hT⟩ := hT
    refine am_callV (av := [.int v2]) (st := []) (b := (o + 1)) cw_X0_has cl_X10_128 ck_X0_has cs_X0_has ho.2.1.1 rfl rfl (Nat.le_of_ble_eq_true rfl) dX10_beats_16 hm (fun r D9 hr => ?_)
    obtain ⟨rfl, e9⟩ := hr
    rw [e9]
    clear e9
    refine am_if_ne (tgt := 24) dX10_beats_19 (by decide) (fun h => ?_) (fun h => ?_)
    · replace hT := hT.1 h
      refine am_aload_n (x := o) dX10_beats_24 rfl ?_
      refine am_getR dX10_beats_25 fw_X10_10 ho.1 rfl ?_
      refine am_iload_n (x := v1) dX10_beats_28 rfl ?_
      refine am_iload_n (x := v2) dX10_beats_29 rfl ?_
      obtain ⟨x3, hm, hT⟩ := hT
      refine am_callV (av := [.int v1, .int v2]) (st := []) (b := (o + 1)) cw_X0_wins cl_X10_91 ck_X0_wins cs_X0_wins ho.2.1.1 rfl rfl (Nat.le_of_ble_eq_true rfl) dX10_beats_30 hm (fun r D9 hr => ?_)
      obtain ⟨rfl, e9⟩ := hr
      rw [e9]
      clear e9
      refine am_if_eq (tgt := 40) dX10_beats_33 (by decide) (fun h => ?_) (fun h => ?_)
      · replace hT := hT.1 h
        refine am_iconst (v := (nI 0)) dX10_beats_40 (by decide) ?_
        exact am_ireturn (ty := .int) dX10_beats_41 rfl rfl hT
      · replace hT := hT.2 h
        refine am_iconst (v := (nI 1)) dX10_beats_36 (by decide) ?_
        refine am_goto (tgt := 41) dX10_beats_37 (by decide) ?_
        exact am_ireturn (ty := .int) dX10_beats_41 rfl rfl hT
    · replace hT := hT.2 h
      refine am_iconst (v := (-1)) dX10_beats_22 (by decide) ?_
      exact am_ireturn (ty := .int) dX10_beats_23 rfl rfl hT
set_option maxRecDepth 20000 in
theorem eX10_weight {lay : List am_L} {d : Nat} {D : am_D} {Q : Option Value → am_D → Prop} {o : Nat} {v1 : Int32} {v2 : Int32} (ho : isX10 lay o) (hT : (∃ x1, am_MetP lay d mX0_hasPair [.ref (o + 1), .int v1, .int v2] D x1 ∧
 ((x1 = nI 0 → Q (some (.int (-1))) D) ∧
 (¬ (x1 = nI 0) → (∃ x2, am_MetP lay d mX0_weightOf [.ref (o + 1), .int v1, .int v2] D x2 ∧
 Q (some (.int x2)) D))))) : am_Met lay (d + 1) mX10_weight [.ref o, .int v1, .int v2] D Q := by
  refine am_enter (by decide +kernel) rfl (Nat.le_of_ble_eq_true rfl) ?_
  show am_AW lay (d + 1) mX10_weight 0 [.ref o, .int v1, .int v2] [] D Q
  refine am_aload_n (x := o) dX10_weight_0 rfl ?_
  refine am_getR dX10_weight_1 fw_X10_10 ho.1 rfl ?_
  refine am_iload_n (x := v1) dX10_weight_4 rfl ?_
  refine am_iload_n (x := v2) dX10_weight_5 rfl ?_
  obtain ⟨x1, hm, hT⟩ := hT
  refine am_callV (av := [.int v1, .int v2]) (st := []) (b := (o + 1)) cw_X0_hasPair cl_X10_87 ck_X0_hasPair cs_X0_hasPair ho.2.1.1 rfl rfl (Nat.le_of_ble_eq_true rfl) dX10_weight_6 hm (fun r D9 hr => ?_)
  obtain ⟨rfl, e9⟩ := hr
  rw [e9]
  clear e9
  refine am_if_eq (tgt := 24) dX10_weight_9 (by decide) (fun h => ?_) (fun h => ?_)
  · replace hT := hT.1 h
    refine am_iconst (v := (-1)) dX10_weight_24 (by decide) ?_
    exact am_ireturn (ty := .int) dX10_weight_25 rfl rfl hT
  · replace hT := hT.2 h
    refine am_aload_n (x := o) dX10_weight_12 rfl ?_
    refine am_getR dX10_weight_13 fw_X10_10 ho.1 rfl ?_
    refine am_iload_n (x := v1) dX10_weight_16 rfl ?_
    refine am_iload_n (x := v2) dX10_weight_17 rfl ?_
    obtain ⟨x2, hm, hT⟩ := hT
    refine am_callV (av := [.int v1, .int v2]) (st := []) (b := (o + 1)) cw_X0_weightOf cl_X10_98 ck_X0_weightOf cs_X0_weightOf ho.2.1.1 rfl rfl (Nat.le_of_ble_eq_true rfl) dX10_weight_18 hm (fun r D9 hr => ?_)
    obtain ⟨rfl, e9⟩ := hr
    rw [e9]
    clear e9
    refine am_goto (tgt := 25) dX10_weight_21 (by decide) ?_
    exact am_ireturn (ty := .int) dX10_weight_25 rfl rfl hT
set_option maxRecDepth 20000 in
theorem eX10_score {lay : List am_L} {d : Nat} {D : am_D} {Q : Option Value → am_D → Prop} {o : Nat} {v1 : Int32} (ho : isX10 lay o) (hT : (∃ x1, am_MetP lay d mX0_has [.ref (o + 1), .int v1] D x1 ∧
 ((x1 = nI 0 → Q (some (.int (-1))) D) ∧
 (¬ (x1 = nI 0) → (∃ x2, am_MetP lay d mX0_winsOf [.ref (o + 1), .int v1] D x2 ∧
 Q (some (.int x2)) D))))) : am_Met lay (d + 1) mX10_score [.ref o, .int v1] D Q := by
  refine am_enter (by decide +kernel) rfl (Nat.le_of_ble_eq_true rfl) ?_
  show am_AW lay (d + 1) mX10_score 0 [.ref o, .int v1] [] D Q
  refine am_aload_n (x := o) dX10_score_0 rfl ?_
  refine am_getR dX10_score_1 fw_X10_10 ho.1 rfl ?_
  refine am_iload_n (x := v1) dX10_score_4 rfl ?_
  obtain ⟨x1, hm, hT⟩ := hT
  refine am_callV (av := [.int v1]) (st := []) (b := (o + 1)) cw_X0_has cl_X10_128 ck_X0_has cs_X0_has ho.2.1.1 rfl rfl (Nat.le_of_ble_eq_true rfl) dX10_score_5 hm (fun r D9 hr => ?_)
  obtain ⟨rfl, e9⟩ := hr
  rw [e9]
  clear e9
  refine am_if_eq (tgt := 22) dX10_score_8 (by decide) (fun h => ?_) (fun h => ?_)
  · replace hT := hT.1 h
    refine am_iconst (v := (-1)) dX10_score_22 (by decide) ?_
    exact am_ireturn (ty := .int) dX10_score_23 rfl rfl hT
  · replace hT := hT.2 h
    refine am_aload_n (x := o) dX10_score_11 rfl ?_
    refine am_getR dX10_score_12 fw_X10_10 ho.1 rfl ?_
    refine am_iload_n (x := v1) dX10_score_15 rfl ?_
    obtain ⟨x2, hm, hT⟩ := hT
    refine am_callV (av := [.int v1]) (st := []) (b := (o + 1)) cw_X0_winsOf cl_X10_132 ck_X0_winsOf cs_X0_winsOf ho.2.1.1 rfl rfl (Nat.le_of_ble_eq_true rfl) dX10_score_16 hm (fun r D9 hr => ?_)
    obtain ⟨rfl, e9⟩ := hr
    rw [e9]
    clear e9
    refine am_goto (tgt := 23) dX10_score_19 (by decide) ?_
    exact am_ireturn (ty := .int) dX10_score_23 rfl rfl hT
set_option maxRecDepth 20000 in
theorem eX10_scoreAt {lay : List am_L} {d : Nat} {D : am_D} {Q : Option Value → am_D → Prop} {o : Nat} {v1 : Int32} (ho : isX10 lay o) (hT : (∃ x1, am_MetP lay d mX0_has [.ref (o + 1), .int v1] D x1 ∧
 ((x1 = nI 0 → Q (some (.int (-1))) D) ∧
 (¬ (x1 = nI 0) → (∃ x2, am_MetP lay d mX0_winsAtPlace [.ref (o + 1), .int v1] D x2 ∧
 Q (some (.int x2)) D))))) : am_Met lay (d + 1) mX10_scoreAt [.ref o, .int v1] D Q := by
  refine am_enter (by decide +kernel) rfl (Nat.le_of_ble_eq_true rfl) ?_
  show am_AW lay (d + 1) mX10_scoreAt 0 [.ref o, .int v1] [] D Q
  refine am_aload_n (x := o) dX10_scoreAt_0 rfl ?_
  refine am_getR dX10_scoreAt_1 fw_X10_10 ho.1 rfl ?_
  refine am_iload_n (x := v1) dX10_scoreAt_4 rfl ?_
  obtain ⟨x1, hm, hT⟩ := hT
  refine am_callV (av := [.int v1]) (st := []) (b := (o + 1)) cw_X0_has cl_X10_128 ck_X0_has cs_X0_has ho.2.1.1 rfl rfl (Nat.le_of_ble_eq_true rfl) dX10_scoreAt_5 hm (fun r D9 hr => ?_)
  obtain ⟨rfl, e9⟩ := hr
  rw [e9]
  clear e9
  refine am_if_eq (tgt := 22) dX10_scoreAt_8 (by decide) (fun h => ?_) (fun h => ?_)
  · replace hT := hT.1 h
    refine am_iconst (v := (-1)) dX10_scoreAt_22 (by decide) ?_
    exact am_ireturn (ty := .int) dX10_scoreAt_23 rfl rfl hT
  · replace hT := hT.2 h
    refine am_aload_n (x := o) dX10_scoreAt_11 rfl ?_
    refine am_getR dX10_scoreAt_12 fw_X10_10 ho.1 rfl ?_
    refine am_iload_n (x := v1) dX10_scoreAt_15 rfl ?_
    obtain ⟨x2, hm, hT⟩ := hT
    refine am_callV (av := [.int v1]) (st := []) (b := (o + 1)) cw_X0_winsAtPlace cl_X10_175 ck_X0_winsAtPlace cs_X0_winsAtPlace ho.2.1.1 rfl rfl (Nat.le_of_ble_eq_true rfl) dX10_scoreAt_16 hm (fun r D9 hr => ?_)
    obtain ⟨rfl, e9⟩ := hr
    rw [e9]
    clear e9
    refine am_goto (tgt := 23) dX10_scoreAt_19 (by decide) ?_
    exact am_ireturn (ty := .int) dX10_scoreAt_23 rfl rfl hT
set_option maxRecDepth 20000 in
theorem eX10_triangles {lay : List am_L} {d : Nat} {D : am_D} {Q : Option Value → am_D → Prop} {o : Nat} (ho : isX10 lay o) (hT : (∃ x1, am_MetP lay d mX0_countTriangles [.ref (o + 1)] D x1 ∧
 Q (some (.int x1)) D)) : am_Met lay (d + 1) mX10_triangles [.ref o] D Q := by
  refine am_enter (by decide +kernel) rfl (Nat.le_of_ble_eq_true rfl) ?_
  show am_AW lay (d + 1) mX10_triangles 0 [.ref o] [] D Q
  refine am_aload_n (x := o) dX10_triangles_0 rfl ?_
  refine am_getR dX10_triangles_1 fw_X10_10 ho.1 rfl ?_
  obtain ⟨x1, hm, hT⟩ := hT
  refine am_callV (av := []) (st := []) (b := (o + 1)) cw_X0_countTriangles cl_X10_113 ck_X0_countTriangles cs_X0_countTriangles ho.2.1.1 rfl rfl (Nat.le_of_ble_eq_true rfl) dX10_triangles_4 hm (fun r D9 hr => ?_)
  obtain ⟨rfl, e9⟩ := hr
  rw [e9]
  clear e9
  exact am_ireturn (ty := .int) dX10_triangles_7 rfl rfl hT
set_option maxRecDepth 20000 in
theorem eX10_distance {lay : List am_L} {d : Nat} {D : am_D} {Q : Option Value → am_D → Prop} {o : Nat} {v1 : Int32} {v2 : Int32} (ho : isX10 lay o) (hT : (∃ x1, am_MetP lay d mX0_has [.ref (o + 1), .int v1] D x1 ∧
 ((x1 = nI 0 → Q (some (.int (-1))) D) ∧
 (¬ (x1 = nI 0) → (∃ x2, am_MetP lay d mX0_has [.ref (o + 1), .int v2] D x2 ∧
 ((¬ x2 = nI 0 → (∃ x3, am_MetP lay d mX6_stepsBetween [.ref (o + 1), .int v1, .int v2] D x3 ∧
 Q (some (.int x3)) D)) ∧
 (¬ (¬ x2 = nI 0) → Q (some (.int (-1))) D))))))) : am_Met lay (d + 1) mX10_distance [.ref o, .int v1, .int v2] D Q := by
  refine am_enter (by decide +kernel) rfl (Nat.le_of_ble_eq_true rfl) ?_
  show am_AW lay (d + 1) mX10_distance 0 [.ref o, .int v1, .int v2] [] D Q
  refine am_aload_n (x := o) dX10_distance_0 rfl ?_
  refine am_getR dX10_distance_1 fw_X10_10 ho.1 rfl ?_
  refine am_iload_n (x := v1) dX10_distance_4 rfl ?_
  obtain ⟨x1, hm, hT⟩ := hT
  refine am_callV (av := [.int v1]) (st := []) (b := (o + 1)) cw_X0_has cl_X10_128 ck_X0_has cs_X0_has ho.2.1.1 rfl rfl (Nat.le_of_ble_eq_true rfl) dX10_distance_5 hm (fun r D9 hr => ?_)
  obtain ⟨rfl, e9⟩ := hr
  rw [e9]
  clear e9
  refine am_if_eq (tgt := 22) dX10_distance_8 (by decide) (fun h => ?_) (fun h => ?_)
  · replace hT := hT.1 h
    refine am_iconst (v := (-1)) dX10_distance_22 (by decide) ?_
    exact am_ireturn (ty := .int) dX10_distance_23 rfl rfl hT
  · replace hT := hT.2 h
    refine am_aload_n (x := o) dX10_distance_11 rfl ?_
    refine am_getR dX10_distance_12 fw_X10_10 ho.1 rfl ?_
    refine am_iload_n (x := v2) dX10_distance_15 rfl ?_
    obtain ⟨x2, hm, hT⟩ := hT
    refine am_callV (av := [.int v2]) (st := []) (b := (o + 1)) cw_X0_has cl_X10_128 ck_X0_has cs_X0_has ho.2.1.1 rfl rfl (Nat.le_of_ble_eq_true rfl) dX10_distance_16 hm (fun r D9 hr => ?_)
    obtain ⟨rfl, e9⟩ := hr
    rw [e9]
    clear e9
    refine am_if_ne (tgt := 24) dX10_distance_19 (by decide) (fun h => ?_) (fun h => ?_)
    · replace hT := hT.1 h
      refine am_aload_n (x := o) dX10_distance_24 rfl ?_
      refine am_getR dX10_distance_25 fw_X10_10 ho.1 rfl ?_
      refine am_iload_n (x := v1) dX10_distance_28 rfl ?_
      refine am_iload_n (x := v2) dX10_distance_29 rfl ?_
      obtain ⟨x3, hm, hT⟩ := hT
      refine am_callS (av := [.ref (o + 1), .int v1, .int v2]) (st := []) cw_X6_stepsBetween cl_X10_116 ck_X6_stepsBetween (Nat.le_of_ble_eq_true rfl) dX10_distance_30 hm (fun r D9 hr => ?_)
      obtain ⟨rfl, e9⟩ := hr
      rw [e9]
      clear e9
      exact am_ireturn (ty := .int) dX10_distance_33 rfl rfl hT
    · replace hT := hT.2 h
      refine am_iconst (v := (-1)) dX10_distance_22 (by decide) ?_
      exact am_ireturn (ty := .int) dX10_distance_23 rfl rfl hT
set_option maxRecDepth 20000 in
theorem eX10_components {lay : List am_L} {d : Nat} {D : am_D} {Q : Option Value → am_D → Prop} {o : Nat} (ho : isX10 lay o) (hT : (∃ x1, am_MetP lay d mX9_countParts [.ref (o + 1)] D x1 ∧
 Q (some (.int x1)) D)) : am_Met lay (d + 1) mX10_components [.ref o] D Q := by
  refine am_enter (by decide +kernel) rfl (Nat.le_of_ble_eq_true rfl) ?_
  show am_AW lay (d + 1) mX10_components 0 [.ref o] [] D Q
  refine am_aload_n (x := o) dX10_components_0 rfl ?_
  refine am_getR dX10_components_1 fw_X10_10 ho.1 rfl ?_
  obtain ⟨x1, hm, hT⟩ := hT
  refine am_callS (av := [.ref (o + 1)]) (st := []) cw_X9_countParts cl_X10_178 ck_X9_countParts (Nat.le_of_ble_eq_true rfl) dX10_components_4 hm (fun r D9 hr => ?_)
  obtain ⟨rfl, e9⟩ := hr
  rw [e9]
  clear e9
  exact am_ireturn (ty := .int) dX10_components_7 rfl rfl hT
set_option maxRecDepth 20000 in
theorem eX10_componentOf {lay : List am_L} {d : Nat} {D : am_D} {Q : Option Value → am_D → Prop} {o : Nat} {v1 : Int32} (ho : isX10 lay o) (hT : (∃ x1, am_MetP lay d mX0_has [.ref (o + 1), .int v1] D x1 ∧
 ((x1 = nI 0 → Q (some (.int (-1))) D) ∧
 (¬ (x1 = nI 0) → (∃ x2, am_MetP lay d mX9_partNumber [.ref (o + 1), .int v1] D x2 ∧
 Q (some (.int x2)) D))))) : am_Met lay (d + 1) mX10_componentOf [.ref o, .int v1] D Q := by
  refine am_enter (by decide +kernel) rfl (Nat.le_of_ble_eq_true rfl) ?_
  show am_AW lay (d + 1) mX10_componentOf 0 [.ref o, .int v1] [] D Q
  refine am_aload_n (x := o) dX10_componentOf_0 rfl ?_
  refine am_getR dX10_componentOf_1 fw_X10_10 ho.1 rfl ?_
  refine am_iload_n (x := v1) dX10_componentOf_4 rfl ?_
  obtain ⟨x1, hm, hT⟩ := hT
  refine am_callV (av := [.int v1]) (st := []) (b := (o + 1)) cw_X0_has cl_X10_128 ck_X0_has cs_X0_has ho.2.1.1 rfl rfl (Nat.le_of_ble_eq_true rfl) dX10_componentOf_5 hm (fun r D9 hr => ?_)
  obtain ⟨rfl, e9⟩ := hr
  rw [e9]
  clear e9
  refine am_if_eq (tgt := 22) dX10_componentOf_8 (by decide) (fun h => ?_) (fun h => ?_)
  · replace hT := hT.1 h
    refine am_iconst (v := (-1)) dX10_componentOf_22 (by decide) ?_
    exact am_ireturn (ty := .int) dX10_componentOf_23 rfl rfl hT
  · replace hT := hT.2 h
    refine am_aload_n (x := o) dX10_componentOf_11 rfl ?_
    refine am_getR dX10_componentOf_12 fw_X10_10 ho.1 rfl ?_
    refine am_iload_n (x := v1) dX10_componentOf_15 rfl ?_
    obtain ⟨x2, hm, hT⟩ := hT
    refine am_callS (av := [.ref (o + 1), .int v1]) (st := []) cw_X9_partNumber cl_X10_183 ck_X9_partNumber (Nat.le_of_ble_eq_true rfl) dX10_componentOf_16 hm (fun r D9 hr => ?_)
    obtain ⟨rfl, e9⟩ := hr
    rw [e9]
    clear e9
    refine am_goto (tgt := 23) dX10_componentOf_19 (by decide) ?_
    exact am_ireturn (ty := .int) dX10_componentOf_23 rfl rfl hT
set_option maxRecDepth 20000 in
theorem eX10_spanningPaths {lay : List am_L} {d : Nat} {D : am_D} {Q : Option Value → am_D → Prop} {o : Nat} (ho : isX10 lay o) (hT : (∃ x1 D2, am_MetI lay d mX6_countSpanning [.ref (o + 39), .ref (o + 1)] D x1 D2 ∧
 Q (some (.int x1)) D2)) : am_Met lay (d + 1) mX10_spanningPaths [.ref o] D Q := by
  refine am_enter (by decide +kernel) rfl (Nat.le_of_ble_eq_true rfl) ?_
  show am_AW lay (d + 1) mX10_spanningPaths 0 [.ref o] [] D Q
  refine am_aload_n (x := o) dX10_spanningPaths_0 rfl ?_
  refine am_getR dX10_spanningPaths_1 fw_X10_50 ho.1 rfl ?_
  refine am_aload_n (x := o) dX10_spanningPaths_4 rfl ?_
  refine am_getR dX10_spanningPaths_5 fw_X10_10 ho.1 rfl ?_
  obtain ⟨x1, D2, hm, hT⟩ := hT
  refine am_callV (av := [.ref (o + 1)]) (st := []) (b := (o + 39)) cw_X6_countSpanning cl_X10_187 ck_X6_countSpanning cs_X6_countSpanning ho.2.2.2.2.2.2.2.1.1 rfl rfl (Nat.le_of_ble_eq_true rfl) dX10_spanningPaths_8 hm (fun r D9 hr => ?_)
  obtain ⟨rfl, e9⟩ := hr
  rw [e9]
  clear e9
  exact am_ireturn (ty := .int) dX10_spanningPaths_11 rfl rfl hT
set_option maxRecDepth 20000 in
theorem eX10_pathAt {lay : List am_L} {d : Nat} {D : am_D} {Q : Option Value → am_D → Prop} {o : Nat} {v1 : Int32} (ho : isX10 lay o) (hT : (∃ x1, am_MetP lay d mX0_has [.ref (o + 1), .int v1] D x1 ∧
 ((¬ x1 = nI 0 → (∃ D2, am_MetV lay d mX6_findSpanning [.ref (o + 39), .ref (o + 1)] D D2 ∧
 (∃ x3, am_MetP lay d mX6_playerAt [.ref (o + 39), .int v1] D2 x3 ∧
 Q (some (.int x3)) D2))) ∧
 (¬ (¬ x1 = nI 0) → Q (some (.int (-1))) D)))) : am_Met lay (d + 1) mX10_pathAt [.ref o, .int v1] D Q := by
  refine am_enter (by decide +kernel) rfl (Nat.le_of_ble_eq_true rfl) ?_
  show am_AW lay (d + 1) mX10_pathAt 0 [.ref o, .int v1] [] D Q
  refine am_aload_n (x := o) dX10_pathAt_0 rfl ?_
  refine am_getR dX10_pathAt_1 fw_X10_10 ho.1 rfl ?_
  refine am_iload_n (x := v1) dX10_pathAt_4 rfl ?_
  obtain ⟨x1, hm, hT⟩ := hT
  refine am_callV (av := [.int v1]) (st := []) (b := (o + 1)) cw_X0_has cl_X10_128 ck_X0_has cs_X0_has ho.2.1.1 rfl rfl (Nat.le_of_ble_eq_true rfl) dX10_pathAt_5 hm (fun r D9 hr => ?_)
  obtain ⟨rfl, e9⟩ := hr
  rw [e9]
  clear e9
  refine am_if_ne (tgt := 13) dX10_pathAt_8 (by decide) (fun h => ?_) (fun h => ?_)
  · replace hT := hT.1 h
    refine am_aload_n (x := o) dX10_pathAt_13 rfl ?_
    refine am_getR dX10_pathAt_14 fw_X10_50 ho.1 rfl ?_
    refine am_aload_n (x := o) dX10_pathAt_17 rfl ?_
    refine am_getR dX10_pathAt_18 fw_X10_10 ho.1 rfl ?_
    obtain ⟨D2, hm, hT⟩ := hT
    refine am_callV (av := [.ref (o + 1)]) (st := []) (b := (o + 39)) cw_X6_findSpanning cl_X10_190 ck_X6_findSpanning cs_X6_findSpanning ho.2.2.2.2.2.2.2.1.1 rfl rfl (Nat.le_of_ble_eq_true rfl) dX10_pathAt_21 hm (fun r D9 hr => ?_)
    obtain ⟨rfl, e9⟩ := hr
    rw [e9]
    clear e9
    refine am_aload_n (x := o) dX10_pathAt_24 rfl ?_
    refine am_getR dX10_pathAt_25 fw_X10_50 ho.1 rfl ?_
    refine am_iload_n (x := v1) dX10_pathAt_28 rfl ?_
    obtain ⟨x3, hm, hT⟩ := hT
    refine am_callV (av := [.int v1]) (st := []) (b := (o + 39)) cw_X6_playerAt cl_X10_124 ck_X6_playerAt cs_X6_playerAt ho.2.2.2.2.2.2.2.1.1 rfl rfl (Nat.le_of_ble_eq_true rfl) dX10_pathAt_29 hm (fun r D9 hr => ?_)
    obtain ⟨rfl, e9⟩ := hr
    rw [e9]
    clear e9
    exact am_ireturn (ty := .int) dX10_pathAt_32 rfl rfl hT
  · replace hT := hT.2 h
    refine am_iconst (v := (-1)) dX10_pathAt_11 (by decide) ?_
    exact am_ireturn (ty := .int) dX10_pathAt_12 rfl rfl hT
set_option maxRecDepth 20000 in
theorem eX10_cycleAt {lay : List am_L} {d : Nat} {D : am_D} {Q : Option Value → am_D → Prop} {o : Nat} {v1 : Int32} {v2 : Int32} {v3 : Int32} (ho : isX10 lay o) (hT : (∃ x1, am_MetP lay d mX0_has [.ref (o + 1), .int v1] D x1 ∧
 ((x1 = nI 0 → Q (some (.int (-1))) D) ∧
 (¬ (x1 = nI 0) → ((v2 < (nI 3) → Q (some (.int (-1))) D) ∧
 (¬ (v2 < (nI 3)) → (∃ x2, am_MetP lay d mX0_size [.ref (o + 1)] D x2 ∧
 ((v2 ≤ x2 → ((v3 < nI 0 → Q (some (.int (-1))) D) ∧
 (¬ (v3 < nI 0) → ((v3 < v2 → (∃ x3 D4, am_MetI lay d mX2_find [.ref (o + 42), .ref (o + 1), .int v1, .int v2] D x3 D4 ∧
 ((x3 = nI 0 → Q (some (.int (-4))) D4) ∧
 (¬ (x3 = nI 0) → (∃ x5, am_MetP lay d mX2_playerAt [.ref (o + 42), .int v3] D4 x5 ∧
 Q (some (.int x5)) D4))))) ∧
 (¬ (v3 < v2) → Q (some (.int (-1))) D))))) ∧
 (¬ (v2 ≤ x2) → Q (some (.int (-1))) D))))))))) : am_Met lay (d + 1) mX10_cycleAt [.ref o, .int v1, .int v2, .int v3] D Q := by
  refine am_enter (by decide +kernel) rfl (Nat.le_of_ble_eq_true rfl) ?_
  show am_AW lay (d + 1) mX10_cycleAt 0 [.ref o, .int v1, .int v2, .int v3] [] D Q
  refine am_aload_n (x := o) dX10_cycleAt_0 rfl ?_
  refine am_getR dX10_cycleAt_1 fw_X10_10 ho.1 rfl ?_
  refine am_iload_n (x := v1) dX10_cycleAt_4 rfl ?_
  obtain ⟨x1, hm, hT⟩ := hT
  refine am_callV (av := [.int v1]) (st := []) (b := (o + 1)) cw_X0_has cl_X10_128 ck_X0_has cs_X0_has ho.2.1.1 rfl rfl (Nat.le_of_ble_eq_true rfl) dX10_cycleAt_5 hm (fun r D9 hr => ?_)
  obtain ⟨rfl, e9⟩ := hr
  rw [e9]
  clear e9
  refine am_if_eq (tgt := 27) dX10_cycleAt_8 (by decide) (fun h => ?_) (fun h => ?_)
  · replace hT := hT.1 h
    refine am_iconst (v := (-1)) dX10_cycleAt_27 (by decide) ?_
    exact am_ireturn (ty := .int) dX10_cycleAt_28 rfl rfl hT
  · replace hT := hT.2 h
    refine am_iload_n (x := v2) dX10_cycleAt_11 rfl ?_
    refine am_iconst (v := (nI 3)) dX10_cycleAt_12 (by decide) ?_
    refine am_icmp_lt (tgt := 27) dX10_cycleAt_13 (by decide) (fun h => ?_) (fun h => ?_)
    · replace hT := hT.1 h
      refine am_iconst (v := (-1)) dX10_cycleAt_27 (by decide) ?_
      exact am_ireturn (ty := .int) dX10_cycleAt_28 rfl rfl hT
    · replace hT := hT.2 h
      refine am_iload_n (x := v2) dX10_cycleAt_16 rfl ?_
      refine am_aload_n (x := o) dX10_cycleAt_17 rfl ?_
      refine am_getR dX10_cycleAt_18 fw_X10_10 ho.1 rfl ?_
      obtain ⟨x2, hm, hT⟩ := hT
      refine am_callV (av := []) (st := [.int v2]) (b := (o + 1)) cw_X0_size cl_X10_75 ck_X0_size cs_X0_size ho.2.1.1 rfl rfl (Nat.le_of_ble_eq_true rfl) dX10_cycleAt_21 hm (fun r D9 hr => ?_)
      obtain ⟨rfl, e9⟩ := hr
      rw [e9]
      clear e9
      refine am_icmp_le (tgt := 29) dX10_cycleAt_24 (by decide) (fun h => ?_) (fun h => ?_)
      · replace hT := hT.1 h
        refine am_iload_n (x := v3) dX10_cycleAt_29 rfl ?_
        refine am_if_lt (tgt := 38) dX10_cycleAt_30 (by decide) (fun h => ?_) (fun h => ?_)
        · replace hT := hT.1 h
          refine am_iconst (v := (-1)) dX10_cycleAt_38 (by decide) ?_
          exact am_ireturn (ty := .int) dX10_cycleAt_39 rfl rfl hT
        · replace hT := hT.2 h
          refine am_iload_n (x := v3) dX10_cycleAt_33 rfl ?_
          refine am_iload_n (x := v2) dX10_cycleAt_34 rfl ?_
          refine am_icmp_lt (tgt := 40) dX10_cycleAt_35 (by decide) (fun h => ?_) (fun h => ?_)
          · replace hT := hT.1 h
            refine am_aload_n (x := o) dX10_cycleAt_40 rfl ?_
            refine am_getR dX10_cycleAt_41 fw_X10_57 ho.1 rfl ?_
            refine am_aload_n (x := o) dX10_cycleAt_44 rfl ?_
            refine am_getR dX10_cycleAt_45 fw_X10_10 ho.1 rfl ?_
            refine am_iload_n (x := v1) dX10_cycleAt_48 rfl ?_
            refine am_iload_n (x := v2) dX10_cycleAt_49 rfl ?_
            obtain ⟨x3, D4, hm, hT⟩ := hT
            refine am_callV (av := [.ref (o + 1), .int v1, .int v2]) (st := []) (b := (o + 42)) cw_X2_find cl_X10_193 ck_X2_find cs_X2_find ho.2.2.2.2.2.2.2.2.1.1 rfl rfl (Nat.le_of_ble_eq_true rfl) dX10_cycleAt_50 hm (fun r D9 hr => ?_)
            obtain ⟨rfl, e9⟩ := hr
            rw [e9]
            clear e9
            refine am_if_eq (tgt := 67) dX10_cycleAt_53 (by decide) (fun h => ?_) (fun h => ?_)
            · replace hT := hT.1 h
              refine am_bipush (v := (-4)) dX10_cycleAt_67 (by decide) ?_
              exact am_ireturn (ty := .int) dX10_cycleAt_69 rfl rfl hT
            · replace hT := hT.2 h
              refine am_aload_n (x := o) dX10_cycleAt_56 rfl ?_
              refine am_getR dX10_cycleAt_57 fw_X10_57 ho.1 rfl ?_
              refine am_iload_n (x := v3) dX10_cycleAt_60 rfl ?_
              obtain ⟨x5, hm, hT⟩ := hT
              refine am_callV (av := [.int v3]) (st := []) (b := (o + 42)) cw_X2_playerAt cl_X10_197 ck_X2_playerAt cs_X2_playerAt ho.2.2.2.2.2.2.2.2.1.1 rfl rfl (Nat.le_of_ble_eq_true rfl) dX10_cycleAt_61 hm (fun r D9 hr => ?_)
              obtain ⟨rfl, e9⟩ := hr
              rw [e9]
              clear e9
              refine am_goto (tgt := 69) dX10_cycleAt_64 (by decide) ?_
              exact am_ireturn (ty := .int) dX10_cycleAt_69 rfl rfl hT
          · replace hT := hT.2 h
            refine am_iconst (v := (-1)) dX10_cycleAt_38 (by decide) ?_
            exact am_ireturn (ty := .int) dX10_cycleAt_39 rfl rfl hT
      · replace hT := hT.2 h
        refine am_iconst (v := (-1)) dX10_cycleAt_27 (by decide) ?_
        exact am_ireturn (ty := .int) dX10_cycleAt_28 rfl rfl hT
set_option maxRecDepth 20000 in
theorem eX10_cycleLengths {lay : List am_L} {d : Nat} {D : am_D} {Q : Option Value → am_D → Prop} {o : Nat} {v1 : Int32} (ho : isX10 lay o) (hT : (∃ x1, am_MetP lay d mX0_has [.ref (o + 1), .int v1] D x1 ∧
 ((x1 = nI 0 → Q (some (.int (-1))) D) ∧
 (¬ (x1 = nI 0) → (∃ x2, am_MetP lay d mX2_countLengths [.ref (o + 1), .int v1] D x2 ∧
 Q (some (.int x2)) D))))) : am_Met lay (d + 1) mX10_cycleLengths [.ref o, .int v1] D Q := by
  refine am_enter (by decide +kernel) rfl (Nat.le_of_ble_eq_true rfl) ?_
  show am_AW lay (d + 1) mX10_cycleLengths 0 [.ref o, .int v1] [] D Q
  refine am_aload_n (x := o) dX10_cycleLengths_0 rfl ?_
  refine am_getR dX10_cycleLengths_1 fw_X10_10 ho.1 rfl ?_
  refine am_iload_n (x := v1) dX10_cycleLengths_4 rfl ?_
  obtain ⟨x1, hm, hT⟩ := hT
  refine am_callV (av := [.int v1]) (st := []) (b := (o + 1)) cw_X0_has cl_X10_128 ck_X0_has cs_X0_has ho.2.1.1 rfl rfl (Nat.le_of_ble_eq_true rfl) dX10_cycleLengths_5 hm (fun r D9 hr => ?_)
  obtain ⟨rfl, e9⟩ := hr
  rw [e9]
  clear e9
  refine am_if_eq (tgt := 22) dX10_cycleLengths_8 (by decide) (fun h => ?_) (fun h => ?_)
  · replace hT := hT.1 h
    refine am_iconst (v := (-1)) dX10_cycleLengths_22 (by decide) ?_
    exact am_ireturn (ty := .int) dX10_cycleLengths_23 rfl rfl hT
  · replace hT := hT.2 h
    refine am_aload_n (x := o) dX10_cycleLengths_11 rfl ?_
    refine am_getR dX10_cycleLengths_12 fw_X10_10 ho.1 rfl ?_
    refine am_iload_n (x := v1) dX10_cycleLengths_15 rfl ?_
    obtain ⟨x2, hm, hT⟩ := hT
    refine am_callS (av := [.ref (o + 1), .int v1]) (st := []) cw_X2_countLengths cl_X10_198 ck_X2_countLengths (Nat.le_of_ble_eq_true rfl) dX10_cycleLengths_16 hm (fun r D9 hr => ?_)
    obtain ⟨rfl, e9⟩ := hr
    rw [e9]
    clear e9
    refine am_goto (tgt := 23) dX10_cycleLengths_19 (by decide) ?_
    exact am_ireturn (ty := .int) dX10_cycleLengths_23 rfl rfl hT
set_option maxRecDepth 20000 in
theorem eX10_leastCost {lay : List am_L} {d : Nat} {D : am_D} {Q : Option Value → am_D → Prop} {o : Nat} (ho : isX10 lay o) (hT : (∃ x1 D2, am_MetI lay d mX5_leastCostOf [.ref (o + 45), .ref (o + 1)] D x1 D2 ∧
 Q (some (.int x1)) D2)) : am_Met lay (d + 1) mX10_leastCost [.ref o] D Q := by
  refine am_enter (by decide +kernel) rfl (Nat.le_of_ble_eq_true rfl) ?_
  show am_AW lay (d + 1) mX10_leastCost 0 [.ref o] [] D Q
  refine am_aload_n (x := o) dX10_leastCost_0 rfl ?_
  refine am_getR dX10_leastCost_1 fw_X10_64 ho.1 rfl ?_
  refine am_aload_n (x := o) dX10_leastCost_4 rfl ?_
  refine am_getR dX10_leastCost_5 fw_X10_10 ho.1 rfl ?_
  obtain ⟨x1, D2, hm, hT⟩ := hT
  refine am_callV (av := [.ref (o + 1)]) (st := []) (b := (o + 45)) cw_X5_leastCostOf cl_X10_201 ck_X5_leastCostOf cs_X5_leastCostOf ho.2.2.2.2.2.2.2.2.2.1.1 rfl rfl (Nat.le_of_ble_eq_true rfl) dX10_leastCost_8 hm (fun r D9 hr => ?_)
  obtain ⟨rfl, e9⟩ := hr
  rw [e9]
  clear e9
  exact am_ireturn (ty := .int) dX10_leastCost_11 rfl rfl hT
set_option maxRecDepth 20000 in
theorem eX10_orderAt {lay : List am_L} {d : Nat} {D : am_D} {Q : Option Value → am_D → Prop} {o : Nat} {v1 : Int32} (ho : isX10 lay o) (hT : (∃ x1, am_MetP lay d mX0_has [.ref (o + 1), .int v1] D x1 ∧
 ((x1 = nI 0 → Q (some (.int (-1))) D) ∧
 (¬ (x1 = nI 0) → (∃ x2 D3, am_MetI lay d mX5_playerAt [.ref (o + 45), .ref (o + 1), .int v1] D x2 D3 ∧
 Q (some (.int x2)) D3))))) : am_Met lay (d + 1) mX10_orderAt [.ref o, .int v1] D Q := by
  refine am_enter (by decide +kernel) rfl (Nat.le_of_ble_eq_true rfl) ?_
  show am_AW lay (d + 1) mX10_orderAt 0 [.ref o, .int v1] [] D Q
  refine am_aload_n (x := o) dX10_orderAt_0 rfl ?_
  refine am_getR dX10_orderAt_1 fw_X10_10 ho.1 rfl ?_
  refine am_iload_n (x := v1) dX10_orderAt_4 rfl ?_
  obtain ⟨x1, hm, hT⟩ := hT
  refine am_callV (av := [.int v1]) (st := []) (b := (o + 1)) cw_X0_has cl_X10_128 ck_X0_has cs_X0_has ho.2.1.1 rfl rfl (Nat.le_of_ble_eq_true rfl) dX10_orderAt_5 hm (fun r D9 hr => ?_)
  obtain ⟨rfl, e9⟩ := hr
  rw [e9]
  clear e9
  refine am_if_eq (tgt := 26) dX10_orderAt_8 (by decide) (fun h => ?_) (fun h => ?_)
  · replace hT := hT.1 h
    refine am_iconst (v := (-1)) dX10_orderAt_26 (by decide) ?_
    exact am_ireturn (ty := .int) dX10_orderAt_27 rfl rfl hT
  · replace hT := hT.2 h
    refine am_aload_n (x := o) dX10_orderAt_11 rfl ?_
    refine am_getR dX10_orderAt_12 fw_X10_64 ho.1 rfl ?_
    refine am_aload_n (x := o) dX10_orderAt_15 rfl ?_
    refine am_getR dX10_orderAt_16 fw_X10_10 ho.1 rfl ?_
    refine am_iload_n (x := v1) dX10_orderAt_19 rfl ?_
    obtain ⟨x2, D3, hm, hT⟩ := hT
    refine am_callV (av := [.ref (o + 1), .int v1]) (st := []) (b := (o + 45)) cw_X5_playerAt cl_X10_204 ck_X5_playerAt cs_X5_playerAt ho.2.2.2.2.2.2.2.2.2.1.1 rfl rfl (Nat.le_of_ble_eq_true rfl) dX10_orderAt_20 hm (fun r D9 hr => ?_)
    obtain ⟨rfl, e9⟩ := hr
    rw [e9]
    clear e9
    refine am_goto (tgt := 27) dX10_orderAt_23 (by decide) ?_
    exact am_ireturn (ty := .int) dX10_orderAt_27 rfl rfl hT
set_option maxRecDepth 20000 in
theorem eX10_winners {lay : List am_L} {d : Nat} {D : am_D} {Q : Option Value → am_D → Prop} {o : Nat} {v1 : Int32} (ho : isX10 lay o) (hT : ((v1 < nI 0 → Q (some (.int (-1))) D) ∧
 (¬ (v1 < nI 0) → ((v1 ≤ (nI 4) → (∃ x1 D2, am_MetI lay d mX10_winnersBy [.ref o, .int v1] D x1 D2 ∧
 Q (some (.int x1)) D2)) ∧
 (¬ (v1 ≤ (nI 4)) → Q (some (.int (-1))) D))))) : am_Met lay (d + 1) mX10_winners [.ref o, .int v1] D Q := by
  refine am_enter (by decide +kernel) rfl (Nat.le_of_ble_eq_true rfl) ?_
  show am_AW lay (d + 1) mX10_winners 0 [.ref o, .int v1] [] D Q
  refine am_iload_n (x := v1) dX10_winners_0 rfl ?_
  refine am_if_lt (tgt := 9) dX10_winners_1 (by decide) (fun h => ?_) (fun h => ?_)
  · replace hT := hT.1 h
    refine am_iconst (v := (-1)) dX10_winners_9 (by decide) ?_
    refine am_goto (tgt := 18) dX10_winners_10 (by decide) ?_
    exact am_ireturn (ty := .int) dX10_winners_18 rfl rfl hT
  · replace hT := hT.2 h
    refine am_iload_n (x := v1) dX10_winners_4 rfl ?_
    refine am_iconst (v := (nI 4)) dX10_winners_5 (by decide) ?_
    refine am_icmp_le (tgt := 13) dX10_winners_6 (by decide) (fun h => ?_) (fun h => ?_)
    · replace hT := hT.1 h
      refine am_aload_n (x := o) dX10_winners_13 rfl ?_
      refine am_iload_n (x := v1) dX10_winners_14 rfl ?_
      obtain ⟨x1, D2, hm, hT⟩ := hT
      refine am_callV (av := [.int v1]) (st := []) (b := o) cw_X10_winnersBy cl_X10_206 ck_X10_winnersBy cs_X10_winnersBy ho.1 rfl rfl (Nat.le_of_ble_eq_true rfl) dX10_winners_15 hm (fun r D9 hr => ?_)
      obtain ⟨rfl, e9⟩ := hr
      rw [e9]
      clear e9
      exact am_ireturn (ty := .int) dX10_winners_18 rfl rfl hT
    · replace hT := hT.2 h
      refine am_iconst (v := (-1)) dX10_winners_9 (by decide) ?_
      refine am_goto (tgt := 18) dX10_winners_10 (by decide) ?_
      exact am_ireturn (ty := .int) dX10_winners_18 rfl rfl hT
set_option maxRecDepth 20000 in
theorem eX10_undisputed {lay : List am_L} {d : Nat} {D : am_D} {Q : Option Value → am_D → Prop} {o : Nat} (ho : isX10 lay o) (hT : (∃ x1, am_MetP lay d mX0_everyone [.ref (o + 1)] D x1 ∧
 am_AW lay (d + 1) mX10_undisputed 10 [.ref o, .int x1, .int (nI 0)] [] D Q)) : am_Met lay (d + 1) mX10_undisputed [.ref o] D Q := by
  refine am_enter (by decide +kernel) rfl (Nat.le_of_ble_eq_true rfl) ?_
  show am_AW lay (d + 1) mX10_undisputed 0 [.ref o, .null, .null] [] D Q
  refine am_aload_n (x := o) dX10_undisputed_0 rfl ?_
  refine am_getR dX10_undisputed_1 fw_X10_10 ho.1 rfl ?_
  obtain ⟨x1, hm, hT⟩ := hT
  refine am_callV (av := []) (st := []) (b := (o + 1)) cw_X0_everyone cl_X10_209 ck_X0_everyone cs_X0_everyone ho.2.1.1 rfl rfl (Nat.le_of_ble_eq_true rfl) dX10_undisputed_4 hm (fun r D9 hr => ?_)
  obtain ⟨rfl, e9⟩ := hr
  rw [e9]
  clear e9
  refine am_set (am_istore_n dX10_undisputed_7 (by decide)) (L1 := [.ref o, .int x1, .null]) rfl ?_
  refine am_iconst (v := (nI 0)) dX10_undisputed_8 (by decide) ?_
  refine am_set (am_istore_n dX10_undisputed_9 (by decide)) (L1 := [.ref o, .int x1, .int (nI 0)]) rfl ?_
  exact hT
set_option maxRecDepth 20000 in
theorem rX10_undisputed_10 {lay : List am_L} {d : Nat} {D : am_D} {Q : Option Value → am_D → Prop} {o : Nat} {v1 : Int32} {v2 : Int32} (ho : isX10 lay o) (hT : (((nI 4) < v2 → (∃ x1, am_MetP lay d mJ6_bitCount_0f7a4 [.int v1] D x1 ∧
 Q (some (.int x1)) D)) ∧
 (¬ ((nI 4) < v2) → (∃ x2 D3, am_MetI lay d mX10_winnersBy [.ref o, .int v2] D x2 D3 ∧
 am_AW lay (d + 1) mX10_undisputed 10 [.ref o, .int (v1 &&& x2), .int (v2 + (nI 1))] [] D3 Q)))) : am_AW lay (d + 1) mX10_undisputed 10 [.ref o, .int v1, .int v2] [] D Q := by
  refine am_iload_n (x := v2) dX10_undisputed_10 rfl ?_
  refine am_iconst (v := (nI 4)) dX10_undisputed_11 (by decide) ?_
  refine am_icmp_gt (tgt := 29) dX10_undisputed_12 (by decide) (fun h => ?_) (fun h => ?_)
  · replace hT := hT.1 h
    refine am_iload_n (x := v1) dX10_undisputed_29 rfl ?_
    obtain ⟨x1, hm, hT⟩ := hT
    refine am_callS (av := [.int v1]) (st := []) cw_J6_bitCount_0f7a4 cl_X10_212 ck_J6_bitCount_0f7a4 (Nat.le_of_ble_eq_true rfl) dX10_undisputed_30 hm (fun r D9 hr => ?_)
    obtain ⟨rfl, e9⟩ := hr
    rw [e9]
    clear e9
    exact am_ireturn (ty := .int) dX10_undisputed_33 rfl rfl hT
  · replace hT := hT.2 h
    refine am_iload_n (x := v1) dX10_undisputed_15 rfl ?_
    refine am_aload_n (x := o) dX10_undisputed_16 rfl ?_
    refine am_iload_n (x := v2) dX10_undisputed_17 rfl ?_
    obtain ⟨x2, D3, hm, hT⟩ := hT
    refine am_callV (av := [.int v2]) (st := [.int v1]) (b := o) cw_X10_winnersBy cl_X10_206 ck_X10_winnersBy cs_X10_winnersBy ho.1 rfl rfl (Nat.le_of_ble_eq_true rfl) dX10_undisputed_18 hm (fun r D9 hr => ?_)
    obtain ⟨rfl, e9⟩ := hr
    rw [e9]
    clear e9
    refine am_iand dX10_undisputed_21 ?_
    refine am_set (am_istore_n dX10_undisputed_22 (by decide)) (L1 := [.ref o, .int (v1 &&& x2), .int v2]) rfl ?_
    refine am_set (am_iinc (x := v2) (c0 := (nI 1)) dX10_undisputed_23 (by decide) rfl (by decide)) (L1 := [.ref o, .int (v1 &&& x2), .int (v2 + (nI 1))]) rfl ?_
    refine am_goto (tgt := 10) dX10_undisputed_26 (by decide) ?_
    exact hT
set_option maxRecDepth 20000 in
theorem eX10_winnersBy {lay : List am_L} {d : Nat} {D : am_D} {Q : Option Value → am_D → Prop} {o : Nat} {v1 : Int32} (ho : isX10 lay o) (hT : ((v1 = nI 0 → (∃ x1, am_MetP lay d mX0_everyone [.ref (o + 1)] D x1 ∧
 (∃ x2, am_MetP lay d mX9_topOf [.ref (o + 1), .int x1] D x2 ∧
 Q (some (.int x2)) D))) ∧
 (v1 = nI 1 → (∃ x3, am_MetP lay d mX9_kingsOf [.ref (o + 1)] D x3 ∧
 Q (some (.int x3)) D)) ∧
 (v1 = nI 2 → (∃ x4, am_MetP lay d mX0_everyone [.ref (o + 1)] D x4 ∧
 (∃ x5, am_MetP lay d mX9_leadersOf [.ref (o + 1), .int x4] D x5 ∧
 Q (some (.int x5)) D))) ∧
 (v1 = nI 3 → (∃ x6, am_MetP lay d mX9_chainTopsOf [.ref (o + 1)] D x6 ∧
 Q (some (.int x6)) D)) ∧
 (¬ v1 = nI 0 ∧ ¬ v1 = nI 1 ∧ ¬ v1 = nI 2 ∧ ¬ v1 = nI 3 → (∃ x7 D8, am_MetI lay d mX5_firstOnes [.ref (o + 45), .ref (o + 1)] D x7 D8 ∧
 Q (some (.int x7)) D8)))) : am_Met lay (d + 1) mX10_winnersBy [.ref o, .int v1] D Q := by
  refine am_enter (by decide +kernel) rfl (Nat.le_of_ble_eq_true rfl) ?_
  show am_AW lay (d + 1) mX10_winnersBy 0 [.ref o, .int v1] [] D Q
  refine am_iload_n (x := v1) dX10_winnersBy_0 rfl ?_
  by_cases h0 : v1 = nI 0
  · replace hT := hT.1 h0
    subst h0
    refine am_tableIn (off := 31) (tgt := 32) dX10_winnersBy_1 (by decide) (by decide) rfl (by decide) ?_
    refine am_aload_n (x := o) dX10_winnersBy_32 rfl ?_
    refine am_getR dX10_winnersBy_33 fw_X10_10 ho.1 rfl ?_
    refine am_aload_n (x := o) dX10_winnersBy_36 rfl ?_
    refine am_getR dX10_winnersBy_37 fw_X10_10 ho.1 rfl ?_
    obtain ⟨x1, hm, hT⟩ := hT
    refine am_callV (av := []) (st := [.ref (o + 1)]) (b := (o + 1)) cw_X0_everyone cl_X10_209 ck_X0_everyone cs_X0_everyone ho.2.1.1 rfl rfl (Nat.le_of_ble_eq_true rfl) dX10_winnersBy_40 hm (fun r D9 hr => ?_)
    obtain ⟨rfl, e9⟩ := hr
    rw [e9]
    clear e9
    obtain ⟨x2, hm, hT⟩ := hT
    refine am_callS (av := [.ref (o + 1), .int x1]) (st := []) cw_X9_topOf cl_X10_217 ck_X9_topOf (Nat.le_of_ble_eq_true rfl) dX10_winnersBy_43 hm (fun r D9 hr => ?_)
    obtain ⟨rfl, e9⟩ := hr
    rw [e9]
    clear e9
    exact am_ireturn (ty := .int) dX10_winnersBy_46 rfl rfl hT
  by_cases h1 : v1 = nI 1
  · replace hT := hT.2.1 h1
    subst h1
    refine am_tableIn (off := 46) (tgt := 47) dX10_winnersBy_1 (by decide) (by decide) rfl (by decide) ?_
    refine am_aload_n (x := o) dX10_winnersBy_47 rfl ?_
    refine am_getR dX10_winnersBy_48 fw_X10_10 ho.1 rfl ?_
    obtain ⟨x3, hm, hT⟩ := hT
    refine am_callS (av := [.ref (o + 1)]) (st := []) cw_X9_kingsOf cl_X10_220 ck_X9_kingsOf (Nat.le_of_ble_eq_true rfl) dX10_winnersBy_51 hm (fun r D9 hr => ?_)
    obtain ⟨rfl, e9⟩ := hr
    rw [e9]
    clear e9
    exact am_ireturn (ty := .int) dX10_winnersBy_54 rfl rfl hT
  by_cases h2 : v1 = nI 2
  · replace hT := hT.2.2.1 h2
    subst h2
    refine am_tableIn (off := 54) (tgt := 55) dX10_winnersBy_1 (by decide) (by decide) rfl (by decide) ?_
    refine am_aload_n (x := o) dX10_winnersBy_55 rfl ?_
    refine am_getR dX10_winnersBy_56 fw_X10_10 ho.1 rfl ?_
    refine am_aload_n (x := o) dX10_winnersBy_59 rfl ?_
    refine am_getR dX10_winnersBy_60 fw_X10_10 ho.1 rfl ?_
    obtain ⟨x4, hm, hT⟩ := hT
    refine am_callV (av := []) (st := [.ref (o + 1)]) (b := (o + 1)) cw_X0_everyone cl_X10_209 ck_X0_everyone cs_X0_everyone ho.2.1.1 rfl rfl (Nat.le_of_ble_eq_true rfl) dX10_winnersBy_63 hm (fun r D9 hr => ?_)
    obtain ⟨rfl, e9⟩ := hr
    rw [e9]
    clear e9
    obtain ⟨x5, hm, hT⟩ := hT
    refine am_callS (av := [.ref (o + 1), .int x4]) (st := []) cw_X9_leadersOf cl_X10_223 ck_X9_leadersOf (Nat.le_of_ble_eq_true rfl) dX10_winnersBy_66 hm (fun r D9 hr => ?_)
    obtain ⟨rfl, e9⟩ := hr
    rw [e9]
    clear e9
    exact am_ireturn (ty := .int) dX10_winnersBy_69 rfl rfl hT
  by_cases h3 : v1 = nI 3
  · replace hT := hT.2.2.2.1 h3
    subst h3
    refine am_tableIn (off := 69) (tgt := 70) dX10_winnersBy_1 (by decide) (by decide) rfl (by decide) ?_
    refine am_aload_n (x := o) dX10_winnersBy_70 rfl ?_
    refine am_getR dX10_winnersBy_71 fw_X10_10 ho.1 rfl ?_
    obtain ⟨x6, hm, hT⟩ := hT
    refine am_callS (av := [.ref (o + 1)]) (st := []) cw_X9_chainTopsOf cl_X10_226 ck_X9_chainTopsOf (Nat.le_of_ble_eq_true rfl) dX10_winnersBy_74 hm (fun r D9 hr => ?_)
    obtain ⟨rfl, e9⟩ := hr
    rw [e9]
    clear e9
    exact am_ireturn (ty := .int) dX10_winnersBy_77 rfl rfl hT
  replace hT := hT.2.2.2.2 ⟨h0, h1, h2, h3⟩
  refine am_tableOut (tgt := 78) dX10_winnersBy_1 (am_out4 h0 h1 h2 h3) (by decide) ?_
  refine am_aload_n (x := o) dX10_winnersBy_78 rfl ?_
  refine am_getR dX10_winnersBy_79 fw_X10_64 ho.1 rfl ?_
  refine am_aload_n (x := o) dX10_winnersBy_82 rfl ?_
  refine am_getR dX10_winnersBy_83 fw_X10_10 ho.1 rfl ?_
  obtain ⟨x7, D8, hm, hT⟩ := hT
  refine am_callV (av := [.ref (o + 1)]) (st := []) (b := (o + 45)) cw_X5_firstOnes cl_X10_229 ck_X5_firstOnes cs_X5_firstOnes ho.2.2.2.2.2.2.2.2.2.1.1 rfl rfl (Nat.le_of_ble_eq_true rfl) dX10_winnersBy_86 hm (fun r D9 hr => ?_)
  obtain ⟨rfl, e9⟩ := hr
  rw [e9]
  clear e9
  exact am_ireturn (ty := .int) dX10_winnersBy_89 rfl rfl hT
set_option maxRecDepth 20000 in
theorem eX10_store {lay : List am_L} {d : Nat} {D : am_D} {Q : Option Value → am_D → Prop} {o : Nat} (ho : isX10 lay o) (hT : (∃ D1, am_MetV lay d mX0_copyFrom [.ref (o + 4), .ref (o + 1)] D D1 ∧
 (∃ x2, am_MetP lay d mX0_size [.ref (o + 4)] D1 x2 ∧
 Q (some (.int x2)) D1))) : am_Met lay (d + 1) mX10_store [.ref o] D Q := by
  refine am_enter (by decide +kernel) rfl (Nat.le_of_ble_eq_true rfl) ?_
  show am_AW lay (d + 1) mX10_store 0 [.ref o] [] D Q
  refine am_aload_n (x := o) dX10_store_0 rfl ?_
  refine am_getR dX10_store_1 fw_X10_16 ho.1 rfl ?_
  refine am_aload_n (x := o) dX10_store_4 rfl ?_
  refine am_getR dX10_store_5 fw_X10_10 ho.1 rfl ?_
  obtain ⟨D1, hm, hT⟩ := hT
  refine am_callV (av := [.ref (o + 1)]) (st := []) (b := (o + 4)) cw_X0_copyFrom cl_X10_152 ck_X0_copyFrom cs_X0_copyFrom ho.2.2.1.1 rfl rfl (Nat.le_of_ble_eq_true rfl) dX10_store_8 hm (fun r D9 hr => ?_)
  obtain ⟨rfl, e9⟩ := hr
  rw [e9]
  clear e9
  refine am_aload_n (x := o) dX10_store_11 rfl ?_
  refine am_getR dX10_store_12 fw_X10_16 ho.1 rfl ?_
  obtain ⟨x2, hm, hT⟩ := hT
  refine am_callV (av := []) (st := []) (b := (o + 4)) cw_X0_size cl_X10_75 ck_X0_size cs_X0_size ho.2.2.1.1 rfl rfl (Nat.le_of_ble_eq_true rfl) dX10_store_15 hm (fun r D9 hr => ?_)
  obtain ⟨rfl, e9⟩ := hr
  rw [e9]
  clear e9
  exact am_ireturn (ty := .int) dX10_store_18 rfl rfl hT
set_option maxRecDepth 20000 in
theorem eX10_difference {lay : List am_L} {d : Nat} {D : am_D} {Q : Option Value → am_D → Prop} {o : Nat} (ho : isX10 lay o) (hT : (∃ x1, am_MetP lay d mX0_size [.ref (o + 1)] D x1 ∧
 (∃ x2, am_MetP lay d mX0_size [.ref (o + 4)] D x2 ∧
 ((¬ x1 = x2 → Q (some (.int (-2))) D) ∧
 (¬ (¬ x1 = x2) → (∃ x3, am_MetP lay d mX4_countDiffering [.ref (o + 1), .ref (o + 4)] D x3 ∧
 Q (some (.int x3)) D)))))) : am_Met lay (d + 1) mX10_difference [.ref o] D Q := by
  refine am_enter (by decide +kernel) rfl (Nat.le_of_ble_eq_true rfl) ?_
  show am_AW lay (d + 1) mX10_difference 0 [.ref o] [] D Q
  refine am_aload_n (x := o) dX10_difference_0 rfl ?_
  refine am_getR dX10_difference_1 fw_X10_10 ho.1 rfl ?_
  obtain ⟨x1, hm, hT⟩ := hT
  refine am_callV (av := []) (st := []) (b := (o + 1)) cw_X0_size cl_X10_75 ck_X0_size cs_X0_size ho.2.1.1 rfl rfl (Nat.le_of_ble_eq_true rfl) dX10_difference_4 hm (fun r D9 hr => ?_)
  obtain ⟨rfl, e9⟩ := hr
  rw [e9]
  clear e9
  refine am_aload_n (x := o) dX10_difference_7 rfl ?_
  refine am_getR dX10_difference_8 fw_X10_16 ho.1 rfl ?_
  obtain ⟨x2, hm, hT⟩ := hT
  refine am_callV (av := []) (st := [.int x1]) (b := (o + 4)) cw_X0_size cl_X10_75 ck_X0_size cs_X0_size ho.2.2.1.1 rfl rfl (Nat.le_of_ble_eq_true rfl) dX10_difference_11 hm (fun r D9 hr => ?_)
  obtain ⟨rfl, e9⟩ := hr
  rw [e9]
  clear e9
  refine am_icmp_ne (tgt := 31) dX10_difference_14 (by decide) (fun h => ?_) (fun h => ?_)
  · replace hT := hT.1 h
    refine am_bipush (v := (-2)) dX10_difference_31 (by decide) ?_
    exact am_ireturn (ty := .int) dX10_difference_33 rfl rfl hT
  · replace hT := hT.2 h
    refine am_aload_n (x := o) dX10_difference_17 rfl ?_
    refine am_getR dX10_difference_18 fw_X10_10 ho.1 rfl ?_
    refine am_aload_n (x := o) dX10_difference_21 rfl ?_
    refine am_getR dX10_difference_22 fw_X10_16 ho.1 rfl ?_
    obtain ⟨x3, hm, hT⟩ := hT
    refine am_callS (av := [.ref (o + 1), .ref (o + 4)]) (st := []) cw_X4_countDiffering cl_X10_232 ck_X4_countDiffering (Nat.le_of_ble_eq_true rfl) dX10_difference_25 hm (fun r D9 hr => ?_)
    obtain ⟨rfl, e9⟩ := hr
    rw [e9]
    clear e9
    refine am_goto (tgt := 33) dX10_difference_28 (by decide) ?_
    exact am_ireturn (ty := .int) dX10_difference_33 rfl rfl hT
set_option maxRecDepth 20000 in
theorem eX10_isLikeStored {lay : List am_L} {d : Nat} {D : am_D} {Q : Option Value → am_D → Prop} {o : Nat} (ho : isX10 lay o) (hT : (∃ x1 D2, am_MetI lay d mX4_areAlike [.ref (o + 49), .ref (o + 1), .ref (o + 4)] D x1 D2 ∧
 ((x1 = nI 0 → Q (some (.int (nI 0))) D2) ∧
 (¬ (x1 = nI 0) → Q (some (.int (nI 1))) D2)))) : am_Met lay (d + 1) mX10_isLikeStored [.ref o] D Q := by
  refine am_enter (by decide +kernel) rfl (Nat.le_of_ble_eq_true rfl) ?_
  show am_AW lay (d + 1) mX10_isLikeStored 0 [.ref o] [] D Q
  refine am_aload_n (x := o) dX10_isLikeStored_0 rfl ?_
  refine am_getR dX10_isLikeStored_1 fw_X10_71 ho.1 rfl ?_
  refine am_aload_n (x := o) dX10_isLikeStored_4 rfl ?_
  refine am_getR dX10_isLikeStored_5 fw_X10_10 ho.1 rfl ?_
  refine am_aload_n (x := o) dX10_isLikeStored_8 rfl ?_
  refine am_getR dX10_isLikeStored_9 fw_X10_16 ho.1 rfl ?_
  obtain ⟨x1, D2, hm, hT⟩ := hT
  refine am_callV (av := [.ref (o + 1), .ref (o + 4)]) (st := []) (b := (o + 49)) cw_X4_areAlike cl_X10_236 ck_X4_areAlike cs_X4_areAlike ho.2.2.2.2.2.2.2.2.2.2.1 rfl rfl (Nat.le_of_ble_eq_true rfl) dX10_isLikeStored_12 hm (fun r D9 hr => ?_)
  obtain ⟨rfl, e9⟩ := hr
  rw [e9]
  clear e9
  refine am_if_eq (tgt := 22) dX10_isLikeStored_15 (by decide) (fun h => ?_) (fun h => ?_)
  · replace hT := hT.1 h
    refine am_iconst (v := (nI 0)) dX10_isLikeStored_22 (by decide) ?_
    exact am_ireturn (ty := .int) dX10_isLikeStored_23 rfl rfl hT
  · replace hT := hT.2 h
    refine am_iconst (v := (nI 1)) dX10_isLikeStored_18 (by decide) ?_
    refine am_goto (tgt := 23) dX10_isLikeStored_19 (by decide) ?_
    exact am_ireturn (ty := .int) dX10_isLikeStored_23 rfl rfl hT
set_option maxRecDepth 20000 in
theorem eX10_towardsStored {lay : List am_L} {d : Nat} {D : am_D} {Q : Option Value → am_D → Prop} {o : Nat} (ho : isX10 lay o) (hT : (∃ x1, am_MetP lay d mX0_size [.ref (o + 1)] D x1 ∧
 (∃ x2, am_MetP lay d mX0_size [.ref (o + 4)] D x2 ∧
 ((¬ x1 = x2 → Q (some (.int (-2))) D) ∧
 (¬ (¬ x1 = x2) → (∃ x3, am_MetP lay d mX4_helpfulTriangle [.ref (o + 1), .ref (o + 4)] D x3 ∧
 Q (some (.int x3)) D)))))) : am_Met lay (d + 1) mX10_towardsStored [.ref o] D Q := by
  refine am_enter (by decide +kernel) rfl (Nat.le_of_ble_eq_true rfl) ?_
  show am_AW lay (d + 1) mX10_towardsStored 0 [.ref o] [] D Q
  refine am_aload_n (x := o) dX10_towardsStored_0 rfl ?_
  refine am_getR dX10_towardsStored_1 fw_X10_10 ho.1 rfl ?_
  obtain ⟨x1, hm, hT⟩ := hT
  refine am_callV (av := []) (st := []) (b := (o + 1)) cw_X0_size cl_X10_75 ck_X0_size cs_X0_size ho.2.1.1 rfl rfl (Nat.le_of_ble_eq_true rfl) dX10_towardsStored_4 hm (fun r D9 hr => ?_)
  obtain ⟨rfl, e9⟩ := hr
  rw [e9]
  clear e9
  refine am_aload_n (x := o) dX10_towardsStored_7 rfl ?_
  refine am_getR dX10_towardsStored_8 fw_X10_16 ho.1 rfl ?_
  obtain ⟨x2, hm, hT⟩ := hT
  refine am_callV (av := []) (st := [.int x1]) (b := (o + 4)) cw_X0_size cl_X10_75 ck_X0_size cs_X0_size ho.2.2.1.1 rfl rfl (Nat.le_of_ble_eq_true rfl) dX10_towardsStored_11 hm (fun r D9 hr => ?_)
  obtain ⟨rfl, e9⟩ := hr
  rw [e9]
  clear e9
  refine am_icmp_ne (tgt := 31) dX10_towardsStored_14 (by decide) (fun h => ?_) (fun h => ?_)
  · replace hT := hT.1 h
    refine am_bipush (v := (-2)) dX10_towardsStored_31 (by decide) ?_
    exact am_ireturn (ty := .int) dX10_towardsStored_33 rfl rfl hT
  · replace hT := hT.2 h
    refine am_aload_n (x := o) dX10_towardsStored_17 rfl ?_
    refine am_getR dX10_towardsStored_18 fw_X10_10 ho.1 rfl ?_
    refine am_aload_n (x := o) dX10_towardsStored_21 rfl ?_
    refine am_getR dX10_towardsStored_22 fw_X10_16 ho.1 rfl ?_
    obtain ⟨x3, hm, hT⟩ := hT
    refine am_callS (av := [.ref (o + 1), .ref (o + 4)]) (st := []) cw_X4_helpfulTriangle cl_X10_240 ck_X4_helpfulTriangle (Nat.le_of_ble_eq_true rfl) dX10_towardsStored_25 hm (fun r D9 hr => ?_)
    obtain ⟨rfl, e9⟩ := hr
    rw [e9]
    clear e9
    refine am_goto (tgt := 33) dX10_towardsStored_28 (by decide) ?_
    exact am_ireturn (ty := .int) dX10_towardsStored_33 rfl rfl hT
set_option maxRecDepth 20000 in
theorem eX10_holds {lay : List am_L} {d : Nat} {D : am_D} {Q : Option Value → am_D → Prop} {v0 : Int32} {v1 : Int32}  (hT : ((v1 < nI 0 → Q (some (.int (nI 0))) D) ∧
 (¬ (v1 < nI 0) → (((nI 10) ≤ v1 → Q (some (.int (nI 0))) D) ∧
 (¬ ((nI 10) ≤ v1) → ((((v0 >>> (v1 &&& 31)) &&& (nI 1)) = nI 0 → Q (some (.int (nI 0))) D) ∧
 (¬ (((v0 >>> (v1 &&& 31)) &&& (nI 1)) = nI 0) → Q (some (.int (nI 1))) D))))))) : am_Met lay d mX10_holds [.int v0, .int v1] D Q := by
  refine am_enter (by decide +kernel) rfl (Nat.le_of_ble_eq_true rfl) ?_
  show am_AW lay d mX10_holds 0 [.int v0, .int v1] [] D Q
  refine am_iload_n (x := v1) dX10_holds_0 rfl ?_
  refine am_if_lt (tgt := 22) dX10_holds_1 (by decide) (fun h => ?_) (fun h => ?_)
  · replace hT := hT.1 h
    refine am_iconst (v := (nI 0)) dX10_holds_22 (by decide) ?_
    exact am_ireturn (ty := .boolean) dX10_holds_23 rfl (by decide) hT
  · replace hT := hT.2 h
    refine am_iload_n (x := v1) dX10_holds_4 rfl ?_
    refine am_bipush (v := (nI 10)) dX10_holds_5 (by decide) ?_
    refine am_icmp_ge (tgt := 22) dX10_holds_7 (by decide) (fun h => ?_) (fun h => ?_)
    · replace hT := hT.1 h
      refine am_iconst (v := (nI 0)) dX10_holds_22 (by decide) ?_
      exact am_ireturn (ty := .boolean) dX10_holds_23 rfl (by decide) hT
    · replace hT := hT.2 h
      refine am_iload_n (x := v0) dX10_holds_10 rfl ?_
      refine am_iload_n (x := v1) dX10_holds_11 rfl ?_
      refine am_ishr dX10_holds_12 ?_
      refine am_iconst (v := (nI 1)) dX10_holds_13 (by decide) ?_
      refine am_iand dX10_holds_14 ?_
      refine am_if_eq (tgt := 22) dX10_holds_15 (by decide) (fun h => ?_) (fun h => ?_)
      · replace hT := hT.1 h
        refine am_iconst (v := (nI 0)) dX10_holds_22 (by decide) ?_
        exact am_ireturn (ty := .boolean) dX10_holds_23 rfl (by decide) hT
      · replace hT := hT.2 h
        refine am_iconst (v := (nI 1)) dX10_holds_18 (by decide) ?_
        refine am_goto (tgt := 23) dX10_holds_19 (by decide) ?_
        exact am_ireturn (ty := .boolean) dX10_holds_23 rfl (by decide) hT
set_option maxRecDepth 20000 in
theorem eX10_only {lay : List am_L} {d : Nat} {D : am_D} {Q : Option Value → am_D → Prop} {v0 : Int32}  (hT : ((v0 < nI 0 → Q (some (.int (nI 0))) D) ∧
 (¬ (v0 < nI 0) → (((nI 10) ≤ v0 → Q (some (.int (nI 0))) D) ∧
 (¬ ((nI 10) ≤ v0) → Q (some (.int ((nI 1) <<< (v0 &&& 31)))) D))))) : am_Met lay d mX10_only [.int v0] D Q := by
  refine am_enter (by decide +kernel) rfl (Nat.le_of_ble_eq_true rfl) ?_
  show am_AW lay d mX10_only 0 [.int v0] [] D Q
  refine am_iload_n (x := v0) dX10_only_0 rfl ?_
  refine am_if_lt (tgt := 16) dX10_only_1 (by decide) (fun h => ?_) (fun h => ?_)
  · replace hT := hT.1 h
    refine am_iconst (v := (nI 0)) dX10_only_16 (by decide) ?_
    exact am_ireturn (ty := .int) dX10_only_17 rfl rfl hT
  · replace hT := hT.2 h
    refine am_iload_n (x := v0) dX10_only_4 rfl ?_
    refine am_bipush (v := (nI 10)) dX10_only_5 (by decide) ?_
    refine am_icmp_ge (tgt := 16) dX10_only_7 (by decide) (fun h => ?_) (fun h => ?_)
    · replace hT := hT.1 h
      refine am_iconst (v := (nI 0)) dX10_only_16 (by decide) ?_
      exact am_ireturn (ty := .int) dX10_only_17 rfl rfl hT
    · replace hT := hT.2 h
      refine am_iconst (v := (nI 1)) dX10_only_10 (by decide) ?_
      refine am_iload_n (x := v0) dX10_only_11 rfl ?_
      refine am_ishl dX10_only_12 ?_
      refine am_goto (tgt := 17) dX10_only_13 (by decide) ?_
      exact am_ireturn (ty := .int) dX10_only_17 rfl rfl hT
set_option maxRecDepth 20000 in
theorem eX10_without {lay : List am_L} {d : Nat} {D : am_D} {Q : Option Value → am_D → Prop} {v0 : Int32} {v1 : Int32}  (hT : (∃ x1, am_MetP lay d mX10_only [.int v1] D x1 ∧
 Q (some (.int (v0 &&& (x1 ^^^ (-1))))) D)) : am_Met lay (d + 1) mX10_without [.int v0, .int v1] D Q := by
  refine am_enter (by decide +kernel) rfl (Nat.le_of_ble_eq_true rfl) ?_
  show am_AW lay (d + 1) mX10_without 0 [.int v0, .int v1] [] D Q
  refine am_iload_n (x := v0) dX10_without_0 rfl ?_
  refine am_iload_n (x := v1) dX10_without_1 rfl ?_
  obtain ⟨x1, hm, hT⟩ := hT
  refine am_callS (av := [.int v1]) (st := [.int v0]) cw_X10_only cl_X10_243 ck_X10_only (Nat.le_of_ble_eq_true rfl) dX10_without_2 hm (fun r D9 hr => ?_)
  obtain ⟨rfl, e9⟩ := hr
  rw [e9]
  clear e9
  refine am_iconst (v := (-1)) dX10_without_5 (by decide) ?_
  refine am_ixor dX10_without_6 ?_
  refine am_iand dX10_without_7 ?_
  exact am_ireturn (ty := .int) dX10_without_8 rfl rfl hT
set_option maxRecDepth 20000 in
theorem eX10_lowestOf {lay : List am_L} {d : Nat} {D : am_D} {Q : Option Value → am_D → Prop} {v0 : Int32}  (hT : (∃ x1, am_MetP lay d mJ6_bitCount_0f7a4 [.int ((v0 &&& (-v0)) - (nI 1))] D x1 ∧
 Q (some (.int x1)) D)) : am_Met lay (d + 1) mX10_lowestOf [.int v0] D Q := by
  refine am_enter (by decide +kernel) rfl (Nat.le_of_ble_eq_true rfl) ?_
  show am_AW lay (d + 1) mX10_lowestOf 0 [.int v0] [] D Q
  refine am_iload_n (x := v0) dX10_lowestOf_0 rfl ?_
  refine am_iload_n (x := v0) dX10_lowestOf_1 rfl ?_
  refine am_ineg dX10_lowestOf_2 ?_
  refine am_iand dX10_lowestOf_3 ?_
  refine am_iconst (v := (nI 1)) dX10_lowestOf_4 (by decide) ?_
  refine am_isub dX10_lowestOf_5 ?_
  obtain ⟨x1, hm, hT⟩ := hT
  refine am_callS (av := [.int ((v0 &&& (-v0)) - (nI 1))]) (st := []) cw_J6_bitCount_0f7a4 cl_X10_212 ck_J6_bitCount_0f7a4 (Nat.le_of_ble_eq_true rfl) dX10_lowestOf_6 hm (fun r D9 hr => ?_)
  obtain ⟨rfl, e9⟩ := hr
  rw [e9]
  clear e9
  exact am_ireturn (ty := .int) dX10_lowestOf_9 rfl rfl hT
