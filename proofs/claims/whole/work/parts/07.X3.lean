set_option maxRecDepth 20000 in
theorem eX3_size {lay : List am_L} {d : Nat} {D : am_D} {Q : Option Value → am_D → Prop} {o : Nat} (ho : isX3 lay o) (hT : Q (some (.int (D o 2))) D) : am_Met lay d mX3_size [.ref o] D Q := by
  refine am_enter (by decide +kernel) rfl (Nat.le_of_ble_eq_true rfl) ?_
  show am_AW lay d mX3_size 0 [.ref o] [] D Q
  refine am_aload_n (x := o) dX3_size_0 rfl ?_
  refine am_getI dX3_size_1 fw_X3_18 ho.1 rfl ?_
  exact am_ireturn (ty := .int) dX3_size_4 rfl rfl hT
set_option maxRecDepth 20000 in
theorem eX3_isEmpty {lay : List am_L} {d : Nat} {D : am_D} {Q : Option Value → am_D → Prop} {o : Nat} (ho : isX3 lay o) (hT : ((¬ (D o 2) = nI 0 → Q (some (.int (nI 0))) D) ∧
 (¬ (¬ (D o 2) = nI 0) → Q (some (.int (nI 1))) D))) : am_Met lay d mX3_isEmpty [.ref o] D Q := by
  refine am_enter (by decide +kernel) rfl (Nat.le_of_ble_eq_true rfl) ?_
  show am_AW lay d mX3_isEmpty 0 [.ref o] [] D Q
  refine am_aload_n (x := o) dX3_isEmpty_0 rfl ?_
  refine am_getI dX3_isEmpty_1 fw_X3_18 ho.1 rfl ?_
  refine am_if_ne (tgt := 11) dX3_isEmpty_4 (by decide) (fun h => ?_) (fun h => ?_)
  · replace hT := hT.1 h
    refine am_iconst (v := (nI 0)) dX3_isEmpty_11 (by decide) ?_
    exact am_ireturn (ty := .boolean) dX3_isEmpty_12 rfl (by decide) hT
  · replace hT := hT.2 h
    refine am_iconst (v := (nI 1)) dX3_isEmpty_7 (by decide) ?_
    refine am_goto (tgt := 12) dX3_isEmpty_8 (by decide) ?_
    exact am_ireturn (ty := .boolean) dX3_isEmpty_12 rfl (by decide) hT
set_option maxRecDepth 20000 in
theorem eX3_stateAt {lay : List am_L} {d : Nat} {D : am_D} {Q : Option Value → am_D → Prop} {o : Nat} {v1 : Int32} (ho : isX3 lay o) (hT : (∃ x1, am_MetP lay d mJ9_floorMod_7cf53 [.int ((D o 1) + v1), .int (nI 8)] D x1 ∧
 ((x1 < nI 0 → False) ∧
 (¬ (x1 < nI 0) → (((nI 8) ≤ x1 → False) ∧
 (¬ ((nI 8) ≤ x1) → (vp_in x1 8 ∧ ∃ j2, (am_hist o)[Int32.toNatClampNeg x1]? = some j2 ∧ Q (some (.ref j2)) D))))))) : am_Met lay (d + 1) mX3_stateAt [.ref o, .int v1] D Q := by
  refine am_enter (by decide +kernel) rfl (Nat.le_of_ble_eq_true rfl) ?_
  show am_AW lay (d + 1) mX3_stateAt 0 [.ref o, .int v1, .null] [] D Q
  refine am_aload_n (x := o) dX3_stateAt_0 rfl ?_
  refine am_getI dX3_stateAt_1 fw_X3_22 ho.1 rfl ?_
  refine am_iload_n (x := v1) dX3_stateAt_4 rfl ?_
  refine am_iadd dX3_stateAt_5 ?_
  refine am_bipush (v := (nI 8)) dX3_stateAt_6 (by decide) ?_
  obtain ⟨x1, hm, hT⟩ := hT
  refine am_callS (av := [.int ((D o 1) + v1), .int (nI 8)]) (st := []) cw_J9_floorMod_7cf53 cl_X3_25 ck_J9_floorMod_7cf53 (Nat.le_of_ble_eq_true rfl) dX3_stateAt_8 hm (fun r D9 hr => ?_)
  obtain ⟨rfl, e9⟩ := hr
  rw [e9]
  clear e9
  refine am_set (am_istore_n dX3_stateAt_11 (by decide)) (L1 := [.ref o, .int v1, .int x1]) rfl ?_
  refine am_iload_n (x := x1) dX3_stateAt_12 rfl ?_
  refine am_if_lt (tgt := 34) dX3_stateAt_13 (by decide) (fun h => ?_) (fun h => ?_)
  · replace hT := hT.1 h
    exact hT.elim
  · replace hT := hT.2 h
    refine am_iload_n (x := x1) dX3_stateAt_16 rfl ?_
    refine am_aload_n (x := o) dX3_stateAt_17 rfl ?_
    refine am_getR dX3_stateAt_18 fw_X3_11 ho.1 rfl ?_
    refine am_alen (v := nI 8) (n := 8) (j := 2) dX3_stateAt_21 ho.2.1 rfl (by decide) ?_
    refine am_icmp_ge (tgt := 34) dX3_stateAt_22 (by decide) (fun h => ?_) (fun h => ?_)
    · replace hT := hT.1 h
      exact hT.elim
    · replace hT := hT.2 h
      refine am_aload_n (x := o) dX3_stateAt_25 rfl ?_
      refine am_getR dX3_stateAt_26 fw_X3_11 ho.1 rfl ?_
      refine am_iload_n (x := x1) dX3_stateAt_29 rfl ?_
      obtain ⟨hi, j2, j2_h, hT⟩ := hT
      refine am_aald dX3_stateAt_30 ho.2.1 hi j2_h ?_
      refine am_goto (tgt := 35) dX3_stateAt_31 (by decide) ?_
      exact am_areturn dX3_stateAt_35 rfl (Or.inl ⟨_, rfl⟩) hT
set_option maxRecDepth 20000 in
theorem eX3_record {lay : List am_L} {d : Nat} {D : am_D} {Q : Option Value → am_D → Prop} {o : Nat} {v1 : Nat} (ho : isX3 lay o) (h1 : isX0 lay v1) (hT : ((¬ (D o 2) = (nI 8) → (∃ j1, am_MetR lay d mX3_stateAt [.ref o, .int (D o 2)] D j1 ∧ isX0 lay j1 ∧
 (∃ D2, am_MetV lay d mX0_copyFrom [.ref j1, .ref v1] D D2 ∧
 (∀ D3, D3 = am_up D2 o 2 ((D2 o 2) + (nI 1)) →
 Q none D3)))) ∧
 (¬ (¬ (D o 2) = (nI 8)) → (∃ x4, am_MetP lay d mJ9_floorMod_7cf53 [.int ((D o 1) + (nI 1)), .int (nI 8)] D x4 ∧
 (∀ D5, D5 = am_up D o 1 x4 →
 (∀ D6, D6 = am_up D5 o 2 ((D5 o 2) - (nI 1)) →
 (∃ j7, am_MetR lay d mX3_stateAt [.ref o, .int (D6 o 2)] D6 j7 ∧ isX0 lay j7 ∧
 (∃ D8, am_MetV lay d mX0_copyFrom [.ref j7, .ref v1] D6 D8 ∧
 (∀ D9, D9 = am_up D8 o 2 ((D8 o 2) + (nI 1)) →
 Q none D9))))))))) : am_Met lay (d + 1) mX3_record [.ref o, .ref v1] D Q := by
  refine am_enter (by decide +kernel) rfl (Nat.le_of_ble_eq_true rfl) ?_
  show am_AW lay (d + 1) mX3_record 0 [.ref o, .ref v1, .null] [] D Q
  refine am_aload_n (x := o) dX3_record_0 rfl ?_
  refine am_getI dX3_record_1 fw_X3_18 ho.1 rfl ?_
  refine am_bipush (v := (nI 8)) dX3_record_4 (by decide) ?_
  refine am_icmp_ne (tgt := 34) dX3_record_6 (by decide) (fun h => ?_) (fun h => ?_)
  · replace hT := hT.1 h
    refine am_aload_n (x := o) dX3_record_34 rfl ?_
    refine am_aload_n (x := o) dX3_record_35 rfl ?_
    refine am_getI dX3_record_36 fw_X3_18 ho.1 rfl ?_
    obtain ⟨j1, hm, j1_h, hT⟩ := hT
    refine am_callV (av := [.int (D o 2)]) (st := []) (b := o) cw_X3_stateAt cl_X3_31 ck_X3_stateAt cs_X3_stateAt ho.1 rfl rfl (Nat.le_of_ble_eq_true rfl) dX3_record_39 hm (fun r D9 hr => ?_)
    obtain ⟨rfl, e9⟩ := hr
    rw [e9]
    clear e9
    refine am_set (am_astore_n dX3_record_42 (by decide)) (L1 := [.ref o, .ref v1, .ref j1]) rfl ?_
    refine am_aload_n (x := j1) dX3_record_43 rfl ?_
    refine am_ifnull dX3_record_44 ?_
    refine am_aload_n (x := j1) dX3_record_47 rfl ?_
    refine am_aload_n (x := v1) dX3_record_48 rfl ?_
    obtain ⟨D2, hm, hT⟩ := hT
    refine am_callV (av := [.ref v1]) (st := []) (b := j1) cw_X0_copyFrom cl_X3_35 ck_X0_copyFrom cs_X0_copyFrom j1_h.1 rfl rfl (Nat.le_of_ble_eq_true rfl) dX3_record_49 hm (fun r D9 hr => ?_)
    obtain ⟨rfl, e9⟩ := hr
    rw [e9]
    clear e9
    refine am_aload_n (x := o) dX3_record_52 rfl ?_
    refine am_dup dX3_record_53 rfl ?_
    refine am_getI dX3_record_54 fw_X3_18 ho.1 rfl ?_
    refine am_iconst (v := (nI 1)) dX3_record_57 (by decide) ?_
    refine am_iadd dX3_record_58 ?_
    refine am_putI dX3_record_59 fw_X3_18 fp_X3_2 ho.1 rfl ?_
    obtain ⟨D3, hD⟩ : ∃ z, z = am_up D2 o 2 ((D2 o 2) + (nI 1)) := ⟨_, rfl⟩
    rw [← hD]
    replace hT := hT D3 hD
    clear hD
    exact am_return dX3_record_62 rfl hT
  · replace hT := hT.2 h
    refine am_aload_n (x := o) dX3_record_9 rfl ?_
    refine am_aload_n (x := o) dX3_record_10 rfl ?_
    refine am_getI dX3_record_11 fw_X3_22 ho.1 rfl ?_
    refine am_iconst (v := (nI 1)) dX3_record_14 (by decide) ?_
    refine am_iadd dX3_record_15 ?_
    refine am_bipush (v := (nI 8)) dX3_record_16 (by decide) ?_
    obtain ⟨x4, hm, hT⟩ := hT
    refine am_callS (av := [.int ((D o 1) + (nI 1)), .int (nI 8)]) (st := [.ref o]) cw_J9_floorMod_7cf53 cl_X3_25 ck_J9_floorMod_7cf53 (Nat.le_of_ble_eq_true rfl) dX3_record_18 hm (fun r D9 hr => ?_)
    obtain ⟨rfl, e9⟩ := hr
    rw [e9]
    clear e9
    refine am_putI dX3_record_21 fw_X3_22 fp_X3_1 ho.1 rfl ?_
    obtain ⟨D5, hD⟩ : ∃ z, z = am_up D o 1 x4 := ⟨_, rfl⟩
    rw [← hD]
    replace hT := hT D5 hD
    clear hD
    refine am_aload_n (x := o) dX3_record_24 rfl ?_
    refine am_dup dX3_record_25 rfl ?_
    refine am_getI dX3_record_26 fw_X3_18 ho.1 rfl ?_
    refine am_iconst (v := (nI 1)) dX3_record_29 (by decide) ?_
    refine am_isub dX3_record_30 ?_
    refine am_putI dX3_record_31 fw_X3_18 fp_X3_2 ho.1 rfl ?_
    obtain ⟨D6, hD⟩ : ∃ z, z = am_up D5 o 2 ((D5 o 2) - (nI 1)) := ⟨_, rfl⟩
    rw [← hD]
    replace hT := hT D6 hD
    clear hD
    refine am_aload_n (x := o) dX3_record_34 rfl ?_
    refine am_aload_n (x := o) dX3_record_35 rfl ?_
    refine am_getI dX3_record_36 fw_X3_18 ho.1 rfl ?_
    obtain ⟨j7, hm, j7_h, hT⟩ := hT
    refine am_callV (av := [.int (D6 o 2)]) (st := []) (b := o) cw_X3_stateAt cl_X3_31 ck_X3_stateAt cs_X3_stateAt ho.1 rfl rfl (Nat.le_of_ble_eq_true rfl) dX3_record_39 hm (fun r D9 hr => ?_)
    obtain ⟨rfl, e9⟩ := hr
    rw [e9]
    clear e9
    refine am_set (am_astore_n dX3_record_42 (by decide)) (L1 := [.ref o, .ref v1, .ref j7]) rfl ?_
    refine am_aload_n (x := j7) dX3_record_43 rfl ?_
    refine am_ifnull dX3_record_44 ?_
    refine am_aload_n (x := j7) dX3_record_47 rfl ?_
    refine am_aload_n (x := v1) dX3_record_48 rfl ?_
    obtain ⟨D8, hm, hT⟩ := hT
    refine am_callV (av := [.ref v1]) (st := []) (b := j7) cw_X0_copyFrom cl_X3_35 ck_X0_copyFrom cs_X0_copyFrom j7_h.1 rfl rfl (Nat.le_of_ble_eq_true rfl) dX3_record_49 hm (fun r D9 hr => ?_)
    obtain ⟨rfl, e9⟩ := hr
    rw [e9]
    clear e9
    refine am_aload_n (x := o) dX3_record_52 rfl ?_
    refine am_dup dX3_record_53 rfl ?_
    refine am_getI dX3_record_54 fw_X3_18 ho.1 rfl ?_
    refine am_iconst (v := (nI 1)) dX3_record_57 (by decide) ?_
    refine am_iadd dX3_record_58 ?_
    refine am_putI dX3_record_59 fw_X3_18 fp_X3_2 ho.1 rfl ?_
    obtain ⟨D9, hD⟩ : ∃ z, z = am_up D8 o 2 ((D8 o 2) + (nI 1)) := ⟨_, rfl⟩
    rw [← hD]
    replace hT := hT D9 hD
    clear hD
    exact am_return dX3_record_62 rfl hT
set_option maxRecDepth 20000 in
theorem eX3_takeLatest {lay : List am_L} {d : Nat} {D : am_D} {Q : Option Value → am_D → Prop} {o : Nat} {v1 : Nat} (ho : isX3 lay o) (h1 : isX0 lay v1) (hT : (∃ j1, am_MetR lay d mX3_stateAt [.ref o, .int ((D o 2) - (nI 1))] D j1 ∧ isX0 lay j1 ∧
 (((D o 2) ≤ nI 0 → Q none D) ∧
 (¬ ((D o 2) ≤ nI 0) → (∃ D2, am_MetV lay d mX0_copyFrom [.ref v1, .ref j1] D D2 ∧
 (∀ D3, D3 = am_up D2 o 2 ((D2 o 2) - (nI 1)) →
 Q none D3)))))) : am_Met lay (d + 1) mX3_takeLatest [.ref o, .ref v1] D Q := by
  refine am_enter (by decide +kernel) rfl (Nat.le_of_ble_eq_true rfl) ?_
  show am_AW lay (d + 1) mX3_takeLatest 0 [.ref o, .ref v1, .null] [] D Q
  refine am_aload_n (x := o) dX3_takeLatest_0 rfl ?_
  refine am_aload_n (x := o) dX3_takeLatest_1 rfl ?_
  refine am_getI dX3_takeLatest_2 fw_X3_18 ho.1 rfl ?_
  refine am_iconst (v := (nI 1)) dX3_takeLatest_5 (by decide) ?_
  refine am_isub dX3_takeLatest_6 ?_
  obtain ⟨j1, hm, j1_h, hT⟩ := hT
  refine am_callV (av := [.int ((D o 2) - (nI 1))]) (st := []) (b := o) cw_X3_stateAt cl_X3_31 ck_X3_stateAt cs_X3_stateAt ho.1 rfl rfl (Nat.le_of_ble_eq_true rfl) dX3_takeLatest_7 hm (fun r D9 hr => ?_)
  obtain ⟨rfl, e9⟩ := hr
  rw [e9]
  clear e9
  refine am_set (am_astore_n dX3_takeLatest_10 (by decide)) (L1 := [.ref o, .ref v1, .ref j1]) rfl ?_
  refine am_aload_n (x := o) dX3_takeLatest_11 rfl ?_
  refine am_getI dX3_takeLatest_12 fw_X3_18 ho.1 rfl ?_
  refine am_if_le (tgt := 37) dX3_takeLatest_15 (by decide) (fun h => ?_) (fun h => ?_)
  · replace hT := hT.1 h
    exact am_return dX3_takeLatest_37 rfl hT
  · replace hT := hT.2 h
    refine am_aload_n (x := j1) dX3_takeLatest_18 rfl ?_
    refine am_ifnull dX3_takeLatest_19 ?_
    refine am_aload_n (x := v1) dX3_takeLatest_22 rfl ?_
    refine am_aload_n (x := j1) dX3_takeLatest_23 rfl ?_
    obtain ⟨D2, hm, hT⟩ := hT
    refine am_callV (av := [.ref j1]) (st := []) (b := v1) cw_X0_copyFrom cl_X3_35 ck_X0_copyFrom cs_X0_copyFrom h1.1 rfl rfl (Nat.le_of_ble_eq_true rfl) dX3_takeLatest_24 hm (fun r D9 hr => ?_)
    obtain ⟨rfl, e9⟩ := hr
    rw [e9]
    clear e9
    refine am_aload_n (x := o) dX3_takeLatest_27 rfl ?_
    refine am_dup dX3_takeLatest_28 rfl ?_
    refine am_getI dX3_takeLatest_29 fw_X3_18 ho.1 rfl ?_
    refine am_iconst (v := (nI 1)) dX3_takeLatest_32 (by decide) ?_
    refine am_isub dX3_takeLatest_33 ?_
    refine am_putI dX3_takeLatest_34 fw_X3_18 fp_X3_2 ho.1 rfl ?_
    obtain ⟨D3, hD⟩ : ∃ z, z = am_up D2 o 2 ((D2 o 2) - (nI 1)) := ⟨_, rfl⟩
    rw [← hD]
    replace hT := hT D3 hD
    clear hD
    exact am_return dX3_takeLatest_37 rfl hT
