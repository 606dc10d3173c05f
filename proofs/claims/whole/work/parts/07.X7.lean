set_option maxRecDepth 20000 in
theorem eX7_size {lay : List am_L} {d : Nat} {D : am_D} {Q : Option Value → am_D → Prop} {o : Nat} (ho : isX7 lay o) (hT : Q (some (.int (D o 1))) D) : am_Met lay d mX7_size [.ref o] D Q := by
  refine am_enter (by decide +kernel) rfl (Nat.le_of_ble_eq_true rfl) ?_
  show am_AW lay d mX7_size 0 [.ref o] [] D Q
  refine am_aload_n (x := o) dX7_size_0 rfl ?_
  refine am_getI dX7_size_1 fw_X7_15 ho.1 rfl ?_
  exact am_ireturn (ty := .int) dX7_size_4 rfl rfl hT
set_option maxRecDepth 20000 in
theorem eX7_empty {lay : List am_L} {d : Nat} {D : am_D} {Q : Option Value → am_D → Prop} {o : Nat} (ho : isX7 lay o) (hT : (∀ D1, D1 = am_up D o 1 (nI 0) →
 Q none D1)) : am_Met lay d mX7_empty [.ref o] D Q := by
  refine am_enter (by decide +kernel) rfl (Nat.le_of_ble_eq_true rfl) ?_
  show am_AW lay d mX7_empty 0 [.ref o] [] D Q
  refine am_aload_n (x := o) dX7_empty_0 rfl ?_
  refine am_iconst (v := (nI 0)) dX7_empty_1 (by decide) ?_
  refine am_putI dX7_empty_2 fw_X7_15 fp_X7_1 ho.1 rfl ?_
  obtain ⟨D1, hD⟩ : ∃ z, z = am_up D o 1 (nI 0) := ⟨_, rfl⟩
  rw [← hD]
  replace hT := hT D1 hD
  clear hD
  exact am_return dX7_empty_5 rfl hT
set_option maxRecDepth 20000 in
theorem eX7_add {lay : List am_L} {d : Nat} {D : am_D} {Q : Option Value → am_D → Prop} {o : Nat} {v1 : Int32} (ho : isX7 lay o) (hT : (((D o 1) < nI 0 → Q (some (.int (nI 0))) D) ∧
 (¬ ((D o 1) < nI 0) → (((D o 1) < (nI 120) → (vp_in (D o 1) 120 ∧ ∀ D1, D1 = am_up D (o + 1) (Int32.toNatClampNeg (D o 1)) (vp_nar .char v1) →
 (∀ D2, D2 = am_up D1 o 1 ((D1 o 1) + (nI 1)) →
 Q (some (.int (nI 1))) D2))) ∧
 (¬ ((D o 1) < (nI 120)) → Q (some (.int (nI 0))) D))))) : am_Met lay d mX7_add [.ref o, .int v1] D Q := by
  refine am_enter (by decide +kernel) rfl (Nat.le_of_ble_eq_true rfl) ?_
  show am_AW lay d mX7_add 0 [.ref o, .int v1] [] D Q
  refine am_aload_n (x := o) dX7_add_0 rfl ?_
  refine am_getI dX7_add_1 fw_X7_15 ho.1 rfl ?_
  refine am_if_lt (tgt := 19) dX7_add_4 (by decide) (fun h => ?_) (fun h => ?_)
  · replace hT := hT.1 h
    refine am_iconst (v := (nI 0)) dX7_add_19 (by decide) ?_
    exact am_ireturn (ty := .boolean) dX7_add_20 rfl (by decide) hT
  · replace hT := hT.2 h
    refine am_aload_n (x := o) dX7_add_7 rfl ?_
    refine am_getI dX7_add_8 fw_X7_15 ho.1 rfl ?_
    refine am_aload_n (x := o) dX7_add_11 rfl ?_
    refine am_getR dX7_add_12 fw_X7_9 ho.1 rfl ?_
    refine am_alen (v := nI 120) dX7_add_15 ho.2 rfl (by decide) ?_
    refine am_icmp_lt (tgt := 21) dX7_add_16 (by decide) (fun h => ?_) (fun h => ?_)
    · replace hT := hT.1 h
      refine am_aload_n (x := o) dX7_add_21 rfl ?_
      refine am_getR dX7_add_22 fw_X7_9 ho.1 rfl ?_
      refine am_aload_n (x := o) dX7_add_25 rfl ?_
      refine am_getI dX7_add_26 fw_X7_15 ho.1 rfl ?_
      refine am_iload_n (x := v1) dX7_add_29 rfl ?_
      refine am_cast dX7_add_30 ho.2 hT.1 ?_
      obtain ⟨D1, hD⟩ : ∃ z, z = am_up D (o + 1) (Int32.toNatClampNeg (D o 1)) (vp_nar .char v1) := ⟨_, rfl⟩
      rw [← hD]
      replace hT := hT.2 D1 hD
      clear hD
      refine am_aload_n (x := o) dX7_add_31 rfl ?_
      refine am_dup dX7_add_32 rfl ?_
      refine am_getI dX7_add_33 fw_X7_15 ho.1 rfl ?_
      refine am_iconst (v := (nI 1)) dX7_add_36 (by decide) ?_
      refine am_iadd dX7_add_37 ?_
      refine am_putI dX7_add_38 fw_X7_15 fp_X7_1 ho.1 rfl ?_
      obtain ⟨D2, hD⟩ : ∃ z, z = am_up D1 o 1 ((D1 o 1) + (nI 1)) := ⟨_, rfl⟩
      rw [← hD]
      replace hT := hT D2 hD
      clear hD
      refine am_iconst (v := (nI 1)) dX7_add_41 (by decide) ?_
      exact am_ireturn (ty := .boolean) dX7_add_42 rfl (by decide) hT
    · replace hT := hT.2 h
      refine am_iconst (v := (nI 0)) dX7_add_19 (by decide) ?_
      exact am_ireturn (ty := .boolean) dX7_add_20 rfl (by decide) hT
set_option maxRecDepth 20000 in
theorem eX7_at {lay : List am_L} {d : Nat} {D : am_D} {Q : Option Value → am_D → Prop} {o : Nat} {v1 : Int32} (ho : isX7 lay o) (hT : ((v1 < nI 0 → Q (some (.int (nI 32))) D) ∧
 (¬ (v1 < nI 0) → (((D o 1) ≤ v1 → Q (some (.int (nI 32))) D) ∧
 (¬ ((D o 1) ≤ v1) → (((nI 120) ≤ v1 → Q (some (.int (nI 32))) D) ∧
 (¬ ((nI 120) ≤ v1) → (vp_in v1 120 ∧ (narrow .char (.int (D (o + 1) (Int32.toNatClampNeg v1))) = .int (D (o + 1) (Int32.toNatClampNeg v1)) ∧ Q (some (.int (D (o + 1) (Int32.toNatClampNeg v1)))) D))))))))) : am_Met lay d mX7_at [.ref o, .int v1] D Q := by
  refine am_enter (by decide +kernel) rfl (Nat.le_of_ble_eq_true rfl) ?_
  show am_AW lay d mX7_at 0 [.ref o, .int v1] [] D Q
  refine am_iload_n (x := v1) dX7_at_0 rfl ?_
  refine am_if_lt (tgt := 30) dX7_at_1 (by decide) (fun h => ?_) (fun h => ?_)
  · replace hT := hT.1 h
    refine am_bipush (v := (nI 32)) dX7_at_30 (by decide) ?_
    exact am_ireturn (ty := .char) dX7_at_32 rfl (by decide) hT
  · replace hT := hT.2 h
    refine am_iload_n (x := v1) dX7_at_4 rfl ?_
    refine am_aload_n (x := o) dX7_at_5 rfl ?_
    refine am_getI dX7_at_6 fw_X7_15 ho.1 rfl ?_
    refine am_icmp_ge (tgt := 30) dX7_at_9 (by decide) (fun h => ?_) (fun h => ?_)
    · replace hT := hT.1 h
      refine am_bipush (v := (nI 32)) dX7_at_30 (by decide) ?_
      exact am_ireturn (ty := .char) dX7_at_32 rfl (by decide) hT
    · replace hT := hT.2 h
      refine am_iload_n (x := v1) dX7_at_12 rfl ?_
      refine am_aload_n (x := o) dX7_at_13 rfl ?_
      refine am_getR dX7_at_14 fw_X7_9 ho.1 rfl ?_
      refine am_alen (v := nI 120) dX7_at_17 ho.2 rfl (by decide) ?_
      refine am_icmp_ge (tgt := 30) dX7_at_18 (by decide) (fun h => ?_) (fun h => ?_)
      · replace hT := hT.1 h
        refine am_bipush (v := (nI 32)) dX7_at_30 (by decide) ?_
        exact am_ireturn (ty := .char) dX7_at_32 rfl (by decide) hT
      · replace hT := hT.2 h
        refine am_aload_n (x := o) dX7_at_21 rfl ?_
        refine am_getR dX7_at_22 fw_X7_9 ho.1 rfl ?_
        refine am_iload_n (x := v1) dX7_at_25 rfl ?_
        refine am_cald dX7_at_26 ho.2 hT.1 ?_
        replace hT := hT.2
        refine am_goto (tgt := 32) dX7_at_27 (by decide) ?_
        exact am_ireturn (ty := .char) dX7_at_32 rfl hT.1 hT.2
set_option maxRecDepth 20000 in
theorem eX7_faultFor {lay : List am_L} {d : Nat} {D : am_D} {Q : Option Value → am_D → Prop} {o : Nat} {v1 : Nat} (ho : isX7 lay o) (h1 : isX0 lay v1) (hT : am_AW lay (d + 1) mX7_faultFor 2 [.ref o, .ref v1, .int (nI 0)] [] D Q) : am_Met lay (d + 1) mX7_faultFor [.ref o, .ref v1] D Q := by
  refine am_enter (by decide +kernel) rfl (Nat.le_of_ble_eq_true rfl) ?_
  show am_AW lay (d + 1) mX7_faultFor 0 [.ref o, .ref v1, .null] [] D Q
  refine am_iconst (v := (nI 0)) dX7_faultFor_0 (by decide) ?_
  refine am_set (am_istore_n dX7_faultFor_1 (by decide)) (L1 := [.ref o, .ref v1, .int (nI 0)]) rfl ?_
  exact hT
set_option maxRecDepth 20000 in
theorem rX7_faultFor_2 {lay : List am_L} {d : Nat} {D : am_D} {Q : Option Value → am_D → Prop} {o : Nat} {v1 : Nat} {v2 : Int32} (ho : isX7 lay o) (h1 : isX0 lay v1) (hT : (((D o 1) ≤ v2 → Q (some (.int (-4))) D) ∧
 (¬ ((D o 1) ≤ v2) → (∃ x1, am_MetP lay d mX7_isResult [.ref o, .ref v1, .int v2] D x1 ∧
 ((¬ x1 = nI 0 → am_AW lay (d + 1) mX7_faultFor 2 [.ref o, .ref v1, .int (v2 + (nI 4))] [] D Q) ∧
 (¬ (¬ x1 = nI 0) → Q (some (.int v2)) D)))))) : am_AW lay (d + 1) mX7_faultFor 2 [.ref o, .ref v1, .int v2] [] D Q := by
  refine am_iload_n (x := v2) dX7_faultFor_2 rfl ?_
  refine am_aload_n (x := o) dX7_faultFor_3 rfl ?_
  refine am_getI dX7_faultFor_4 fw_X7_15 ho.1 rfl ?_
  refine am_icmp_ge (tgt := 27) dX7_faultFor_7 (by decide) (fun h => ?_) (fun h => ?_)
  · replace hT := hT.1 h
    refine am_bipush (v := (-4)) dX7_faultFor_27 (by decide) ?_
    exact am_ireturn (ty := .int) dX7_faultFor_29 rfl rfl hT
  · replace hT := hT.2 h
    refine am_aload_n (x := o) dX7_faultFor_10 rfl ?_
    refine am_aload_n (x := v1) dX7_faultFor_11 rfl ?_
    refine am_iload_n (x := v2) dX7_faultFor_12 rfl ?_
    obtain ⟨x1, hm, hT⟩ := hT
    refine am_callV (av := [.ref v1, .int v2]) (st := []) (b := o) cw_X7_isResult cl_X7_19 ck_X7_isResult cs_X7_isResult ho.1 rfl rfl (Nat.le_of_ble_eq_true rfl) dX7_faultFor_13 hm (fun r D9 hr => ?_)
    obtain ⟨rfl, e9⟩ := hr
    rw [e9]
    clear e9
    refine am_if_ne (tgt := 21) dX7_faultFor_16 (by decide) (fun h => ?_) (fun h => ?_)
    · replace hT := hT.1 h
      refine am_set (am_iinc (x := v2) (c0 := (nI 4)) dX7_faultFor_21 (by decide) rfl (by decide)) (L1 := [.ref o, .ref v1, .int (v2 + (nI 4))]) rfl ?_
      refine am_goto (tgt := 2) dX7_faultFor_24 (by decide) ?_
      exact hT
    · replace hT := hT.2 h
      refine am_iload_n (x := v2) dX7_faultFor_19 rfl ?_
      exact am_ireturn (ty := .int) dX7_faultFor_20 rfl rfl hT
set_option maxRecDepth 20000 in
theorem eX7_isResult {lay : List am_L} {d : Nat} {D : am_D} {Q : Option Value → am_D → Prop} {o : Nat} {v1 : Nat} {v2 : Int32} (ho : isX7 lay o) (h1 : isX0 lay v1) (hT : (∃ x1, am_MetP lay d mX7_at [.ref o, .int (v2 + (nI 1))] D x1 ∧
 (∃ x2, am_MetP lay d mX7_at [.ref o, .int v2] D x2 ∧
 (∃ x3, am_MetP lay d mX7_at [.ref o, .int (v2 + (nI 2))] D x3 ∧
 (∃ x4, am_MetP lay d mX0_hasPair [.ref v1, .int (x2 - (nI 48)), .int (x3 - (nI 48))] D x4 ∧
 ((x4 = nI 0 → Q (some (.int (nI 0))) D) ∧
 (¬ (x4 = nI 0) → ((x1 = (nI 62) → (∃ x5, am_MetP lay d mX7_at [.ref o, .int (v2 + (nI 3))] D x5 ∧
 ((¬ x5 = (nI 59) → Q (some (.int (nI 0))) D) ∧
 (¬ (¬ x5 = (nI 59)) → Q (some (.int (nI 1))) D)))) ∧
 (¬ (x1 = (nI 62)) → ((¬ x1 = (nI 60) → Q (some (.int (nI 0))) D) ∧
 (¬ (¬ x1 = (nI 60)) → (∃ x6, am_MetP lay d mX7_at [.ref o, .int (v2 + (nI 3))] D x6 ∧
 ((¬ x6 = (nI 59) → Q (some (.int (nI 0))) D) ∧
 (¬ (¬ x6 = (nI 59)) → Q (some (.int (nI 1))) D)))))))))))))) : am_Met lay (d + 1) mX7_isResult [.ref o, .ref v1, .int v2] D Q := by
  refine am_enter (by decide +kernel) rfl (Nat.le_of_ble_eq_true rfl) ?_
  show am_AW lay (d + 1) mX7_isResult 0 [.ref o, .ref v1, .int v2, .null] [] D Q
  refine am_aload_n (x := o) dX7_isResult_0 rfl ?_
  refine am_iload_n (x := v2) dX7_isResult_1 rfl ?_
  refine am_iconst (v := (nI 1)) dX7_isResult_2 (by decide) ?_
  refine am_iadd dX7_isResult_3 ?_
  obtain ⟨x1, hm, hT⟩ := hT
  refine am_callV (av := [.int (v2 + (nI 1))]) (st := []) (b := o) cw_X7_at cl_X7_23 ck_X7_at cs_X7_at ho.1 rfl rfl (Nat.le_of_ble_eq_true rfl) dX7_isResult_4 hm (fun r D9 hr => ?_)
  obtain ⟨rfl, e9⟩ := hr
  rw [e9]
  clear e9
  refine am_set (am_istore_n dX7_isResult_7 (by decide)) (L1 := [.ref o, .ref v1, .int v2, .int x1]) rfl ?_
  refine am_aload_n (x := v1) dX7_isResult_8 rfl ?_
  refine am_aload_n (x := o) dX7_isResult_9 rfl ?_
  refine am_iload_n (x := v2) dX7_isResult_10 rfl ?_
  obtain ⟨x2, hm, hT⟩ := hT
  refine am_callV (av := [.int v2]) (st := [.ref v1]) (b := o) cw_X7_at cl_X7_23 ck_X7_at cs_X7_at ho.1 rfl rfl (Nat.le_of_ble_eq_true rfl) dX7_isResult_11 hm (fun r D9 hr => ?_)
  obtain ⟨rfl, e9⟩ := hr
  rw [e9]
  clear e9
  refine am_bipush (v := (nI 48)) dX7_isResult_14 (by decide) ?_
  refine am_isub dX7_isResult_16 ?_
  refine am_aload_n (x := o) dX7_isResult_17 rfl ?_
  refine am_iload_n (x := v2) dX7_isResult_18 rfl ?_
  refine am_iconst (v := (nI 2)) dX7_isResult_19 (by decide) ?_
  refine am_iadd dX7_isResult_20 ?_
  obtain ⟨x3, hm, hT⟩ := hT
  refine am_callV (av := [.int (v2 + (nI 2))]) (st := [.int (x2 - (nI 48)), .ref v1]) (b := o) cw_X7_at cl_X7_23 ck_X7_at cs_X7_at ho.1 rfl rfl (Nat.le_of_ble_eq_true rfl) dX7_isResult_21 hm (fun r D9 hr => ?_)
  obtain ⟨rfl, e9⟩ := hr
  rw [e9]
  clear e9
  refine am_bipush (v := (nI 48)) dX7_isResult_24 (by decide) ?_
  refine am_isub dX7_isResult_26 ?_
  obtain ⟨x4, hm, hT⟩ := hT
  refine am_callV (av := [.int (x2 - (nI 48)), .int (x3 - (nI 48))]) (st := []) (b := v1) cw_X0_hasPair cl_X7_27 ck_X0_hasPair cs_X0_hasPair h1.1 rfl rfl (Nat.le_of_ble_eq_true rfl) dX7_isResult_27 hm (fun r D9 hr => ?_)
  obtain ⟨rfl, e9⟩ := hr
  rw [e9]
  clear e9
  refine am_if_eq (tgt := 61) dX7_isResult_30 (by decide) (fun h => ?_) (fun h => ?_)
  · replace hT := hT.1 h
    refine am_iconst (v := (nI 0)) dX7_isResult_61 (by decide) ?_
    exact am_ireturn (ty := .boolean) dX7_isResult_62 rfl (by decide) hT
  · replace hT := hT.2 h
    refine am_iload_n (x := x1) dX7_isResult_33 rfl ?_
    refine am_bipush (v := (nI 62)) dX7_isResult_34 (by decide) ?_
    refine am_icmp_eq (tgt := 45) dX7_isResult_36 (by decide) (fun h => ?_) (fun h => ?_)
    · replace hT := hT.1 h
      refine am_aload_n (x := o) dX7_isResult_45 rfl ?_
      refine am_iload_n (x := v2) dX7_isResult_46 rfl ?_
      refine am_iconst (v := (nI 3)) dX7_isResult_47 (by decide) ?_
      refine am_iadd dX7_isResult_48 ?_
      obtain ⟨x5, hm, hT⟩ := hT
      refine am_callV (av := [.int (v2 + (nI 3))]) (st := []) (b := o) cw_X7_at cl_X7_23 ck_X7_at cs_X7_at ho.1 rfl rfl (Nat.le_of_ble_eq_true rfl) dX7_isResult_49 hm (fun r D9 hr => ?_)
      obtain ⟨rfl, e9⟩ := hr
      rw [e9]
      clear e9
      refine am_bipush (v := (nI 59)) dX7_isResult_52 (by decide) ?_
      refine am_icmp_ne (tgt := 61) dX7_isResult_54 (by decide) (fun h => ?_) (fun h => ?_)
      · replace hT := hT.1 h
        refine am_iconst (v := (nI 0)) dX7_isResult_61 (by decide) ?_
        exact am_ireturn (ty := .boolean) dX7_isResult_62 rfl (by decide) hT
      · replace hT := hT.2 h
        refine am_iconst (v := (nI 1)) dX7_isResult_57 (by decide) ?_
        refine am_goto (tgt := 62) dX7_isResult_58 (by decide) ?_
        exact am_ireturn (ty := .boolean) dX7_isResult_62 rfl (by decide) hT
    · replace hT := hT.2 h
      refine am_iload_n (x := x1) dX7_isResult_39 rfl ?_
      refine am_bipush (v := (nI 60)) dX7_isResult_40 (by decide) ?_
      refine am_icmp_ne (tgt := 61) dX7_isResult_42 (by decide) (fun h => ?_) (fun h => ?_)
      · replace hT := hT.1 h
        refine am_iconst (v := (nI 0)) dX7_isResult_61 (by decide) ?_
        exact am_ireturn (ty := .boolean) dX7_isResult_62 rfl (by decide) hT
      · replace hT := hT.2 h
        refine am_aload_n (x := o) dX7_isResult_45 rfl ?_
        refine am_iload_n (x := v2) dX7_isResult_46 rfl ?_
        refine am_iconst (v := (nI 3)) dX7_isResult_47 (by decide) ?_
        refine am_iadd dX7_isResult_48 ?_
        obtain ⟨x6, hm, hT⟩ := hT
        refine am_callV (av := [.int (v2 + (nI 3))]) (st := []) (b := o) cw_X7_at cl_X7_23 ck_X7_at cs_X7_at ho.1 rfl rfl (Nat.le_of_ble_eq_true rfl) dX7_isResult_49 hm (fun r D9 hr => ?_)
        obtain ⟨rfl, e9⟩ := hr
        rw [e9]
        clear e9
        refine am_bipush (v := (nI 59)) dX7_isResult_52 (by decide) ?_
        refine am_icmp_ne (tgt := 61) dX7_isResult_54 (by decide) (fun h => ?_) (fun h => ?_)
        · replace hT := hT.1 h
          refine am_iconst (v := (nI 0)) dX7_isResult_61 (by decide) ?_
          exact am_ireturn (ty := .boolean) dX7_isResult_62 rfl (by decide) hT
        · replace hT := hT.2 h
          refine am_iconst (v := (nI 1)) dX7_isResult_57 (by decide) ?_
          refine am_goto (tgt := 62) dX7_isResult_58 (by decide) ?_
          exact am_ireturn (ty := .boolean) dX7_isResult_62 rfl (by decide) hT
set_option maxRecDepth 20000 in
theorem eX7_enterInto {lay : List am_L} {d : Nat} {D : am_D} {Q : Option Value → am_D → Prop} {o : Nat} {v1 : Nat} (ho : isX7 lay o) (h1 : isX0 lay v1) (hT : am_AW lay (d + 1) mX7_enterInto 4 [.ref o, .ref v1, .int (nI 0), .int (nI 0), .null, .null, .null] [] D Q) : am_Met lay (d + 1) mX7_enterInto [.ref o, .ref v1] D Q := by
  refine am_enter (by decide +kernel) rfl (Nat.le_of_ble_eq_true rfl) ?_
  show am_AW lay (d + 1) mX7_enterInto 0 [.ref o, .ref v1, .null, .null, .null, .null, .null] [] D Q
  refine am_iconst (v := (nI 0)) dX7_enterInto_0 (by decide) ?_
  refine am_set (am_istore_n dX7_enterInto_1 (by decide)) (L1 := [.ref o, .ref v1, .int (nI 0), .null, .null, .null, .null]) rfl ?_
  refine am_iconst (v := (nI 0)) dX7_enterInto_2 (by decide) ?_
  refine am_set (am_istore_n dX7_enterInto_3 (by decide)) (L1 := [.ref o, .ref v1, .int (nI 0), .int (nI 0), .null, .null, .null]) rfl ?_
  exact hT
set_option maxRecDepth 20000 in
theorem rX7_enterInto_4 {lay : List am_L} {d : Nat} {D : am_D} {Q : Option Value → am_D → Prop} {o : Nat} {v1 : Nat} {v2 : Int32} {v3 : Int32} (ho : isX7 lay o) (h1 : isX0 lay v1) (hT : (((D o 1) ≤ v3 → Q (some (.int v2)) D) ∧
 (¬ ((D o 1) ≤ v3) → (∃ x1, am_MetP lay d mX7_at [.ref o, .int v3] D x1 ∧
 (∃ x2, am_MetP lay d mX7_at [.ref o, .int (v3 + (nI 2))] D x2 ∧
 (∃ x3, am_MetP lay d mX7_at [.ref o, .int (v3 + (nI 1))] D x3 ∧
 ((¬ x3 = (nI 62) → (((nI 0) = nI 0 → (((nI 0) = nI 0 → (∃ D4, am_MetV lay d mX0_setWinner [.ref v1, .int (x2 - (nI 48)), .int (x1 - (nI 48))] D D4 ∧
 am_AW lay (d + 1) mX7_enterInto 4 [.ref o, .ref v1, .int (v2 + (nI 1)), .int (v3 + (nI 4)), .null, .null, .null] [] D4 Q)) ∧
 (¬ ((nI 0) = nI 0) → (∃ D5, am_MetV lay d mX0_setWinner [.ref v1, .int (x2 - (nI 48)), .int (x2 - (nI 48))] D D5 ∧
 am_AW lay (d + 1) mX7_enterInto 4 [.ref o, .ref v1, .int (v2 + (nI 1)), .int (v3 + (nI 4)), .null, .null, .null] [] D5 Q)))) ∧
 (¬ ((nI 0) = nI 0) → (((nI 0) = nI 0 → (∃ D6, am_MetV lay d mX0_setWinner [.ref v1, .int (x1 - (nI 48)), .int (x1 - (nI 48))] D D6 ∧
 am_AW lay (d + 1) mX7_enterInto 4 [.ref o, .ref v1, .int (v2 + (nI 1)), .int (v3 + (nI 4)), .null, .null, .null] [] D6 Q)) ∧
 (¬ ((nI 0) = nI 0) → (∃ D7, am_MetV lay d mX0_setWinner [.ref v1, .int (x1 - (nI 48)), .int (x2 - (nI 48))] D D7 ∧
 am_AW lay (d + 1) mX7_enterInto 4 [.ref o, .ref v1, .int (v2 + (nI 1)), .int (v3 + (nI 4)), .null, .null, .null] [] D7 Q)))))) ∧
 (¬ (¬ x3 = (nI 62)) → (((nI 1) = nI 0 → (((nI 1) = nI 0 → (∃ D8, am_MetV lay d mX0_setWinner [.ref v1, .int (x2 - (nI 48)), .int (x1 - (nI 48))] D D8 ∧
 am_AW lay (d + 1) mX7_enterInto 4 [.ref o, .ref v1, .int (v2 + (nI 1)), .int (v3 + (nI 4)), .null, .null, .null] [] D8 Q)) ∧
 (¬ ((nI 1) = nI 0) → (∃ D9, am_MetV lay d mX0_setWinner [.ref v1, .int (x2 - (nI 48)), .int (x2 - (nI 48))] D D9 ∧
 am_AW lay (d + 1) mX7_enterInto 4 [.ref o, .ref v1, .int (v2 + (nI 1)), .int (v3 + (nI 4)), .null, .null, .null] [] D9 Q)))) ∧
 (¬ ((nI 1) = nI 0) → (((nI 1) = nI 0 → (∃ D10, am_MetV lay d mX0_setWinner [.ref v1, .int (x1 - (nI 48)), .int (x1 - (nI 48))] D D10 ∧
 am_AW lay (d + 1) mX7_enterInto 4 [.ref o, .ref v1, .int (v2 + (nI 1)), .int (v3 + (nI 4)), .null, .null, .null] [] D10 Q)) ∧
 (¬ ((nI 1) = nI 0) → (∃ D11, am_MetV lay d mX0_setWinner [.ref v1, .int (x1 - (nI 48)), .int (x2 - (nI 48))] D D11 ∧
 am_AW lay (d + 1) mX7_enterInto 4 [.ref o, .ref v1, .int (v2 + (nI 1)), .int (v3 + (nI 4)), .null, .null, .null] [] D11 Q))))))))))))) : am_AW lay (d + 1) mX7_enterInto 4 [.ref o, .ref v1, .int v2, .int v3, .null, .null, .null] [] D Q := by
  refine am_iload_n (x := v3) dX7_enterInto_4 rfl ?_
  refine am_aload_n (x := o) dX7_enterInto_5 rfl ?_
  refine am_getI dX7_enterInto_6 fw_X7_15 ho.1 rfl ?_
  refine am_icmp_ge (tgt := 90) dX7_enterInto_9 (by decide) (fun h => ?_) (fun h => ?_)
  · replace hT := hT.1 h
    refine am_iload_n (x := v2) dX7_enterInto_90 rfl ?_
    exact am_ireturn (ty := .int) dX7_enterInto_91 rfl rfl hT
  · replace hT := hT.2 h
    refine am_aload_n (x := o) dX7_enterInto_12 rfl ?_
    refine am_iload_n (x := v3) dX7_enterInto_13 rfl ?_
    obtain ⟨x1, hm, hT⟩ := hT
    refine am_callV (av := [.int v3]) (st := []) (b := o) cw_X7_at cl_X7_23 ck_X7_at cs_X7_at ho.1 rfl rfl (Nat.le_of_ble_eq_true rfl) dX7_enterInto_14 hm (fun r D9 hr => ?_)
    obtain ⟨rfl, e9⟩ := hr
    rw [e9]
    clear e9
    refine am_bipush (v := (nI 48)) dX7_enterInto_17 (by decide) ?_
    refine am_isub dX7_enterInto_19 ?_
    refine am_set (am_istore dX7_enterInto_20 (by decide)) (L1 := [.ref o, .ref v1, .int v2, .int v3, .int (x1 - (nI 48)), .null, .null]) rfl ?_
    refine am_aload_n (x := o) dX7_enterInto_22 rfl ?_
    refine am_iload_n (x := v3) dX7_enterInto_23 rfl ?_
    refine am_iconst (v := (nI 2)) dX7_enterInto_24 (by decide) ?_
    refine am_iadd dX7_enterInto_25 ?_
    obtain ⟨x2, hm, hT⟩ := hT
    refine am_callV (av := [.int (v3 + (nI 2))]) (st := []) (b := o) cw_X7_at cl_X7_23 ck_X7_at cs_X7_at ho.1 rfl rfl (Nat.le_of_ble_eq_true rfl) dX7_enterInto_26 hm (fun r D9 hr => ?_)
    obtain ⟨rfl, e9⟩ := hr
    rw [e9]
    clear e9
    refine am_bipush (v := (nI 48)) dX7_enterInto_29 (by decide) ?_
    refine am_isub dX7_enterInto_31 ?_
    refine am_set (am_istore dX7_enterInto_32 (by decide)) (L1 := [.ref o, .ref v1, .int v2, .int v3, .int (x1 - (nI 48)), .int (x2 - (nI 48)), .null]) rfl ?_
    refine am_aload_n (x := o) dX7_enterInto_34 rfl ?_
    refine am_iload_n (x := v3) dX7_enterInto_35 rfl ?_
    refine am_iconst (v := (nI 1)) dX7_enterInto_36 (by decide) ?_
    refine am_iadd dX7_enterInto_37 ?_
    obtain ⟨x3, hm, hT⟩ := hT
    refine am_callV (av := [.int (v3 + (nI 1))]) (st := []) (b := o) cw_X7_at cl_X7_23 ck_X7_at cs_X7_at ho.1 rfl rfl (Nat.le_of_ble_eq_true rfl) dX7_enterInto_38 hm (fun r D9 hr => ?_)
    obtain ⟨rfl, e9⟩ := hr
    rw [e9]
    clear e9
    refine am_bipush (v := (nI 62)) dX7_enterInto_41 (by decide) ?_
    refine am_icmp_ne (tgt := 50) dX7_enterInto_43 (by decide) (fun h => ?_) (fun h => ?_)
    · replace hT := hT.1 h
      refine am_iconst (v := (nI 0)) dX7_enterInto_50 (by decide) ?_
      refine am_set (am_istore dX7_enterInto_51 (by decide)) (L1 := [.ref o, .ref v1, .int v2, .int v3, .int (x1 - (nI 48)), .int (x2 - (nI 48)), .int (nI 0)]) rfl ?_
      refine am_aload_n (x := v1) dX7_enterInto_53 rfl ?_
      refine am_iload (x := (nI 0)) dX7_enterInto_54 rfl ?_
      refine am_if_eq (tgt := 64) dX7_enterInto_56 (by decide) (fun h => ?_) (fun h => ?_)
      · replace hT := hT.1 h
        refine am_iload (x := (x2 - (nI 48))) dX7_enterInto_64 rfl ?_
        refine am_iload (x := (nI 0)) dX7_enterInto_66 rfl ?_
        refine am_if_eq (tgt := 76) dX7_enterInto_68 (by decide) (fun h => ?_) (fun h => ?_)
        · replace hT := hT.1 h
          refine am_iload (x := (x1 - (nI 48))) dX7_enterInto_76 rfl ?_
          obtain ⟨D4, hm, hT⟩ := hT
          refine am_callV (av := [.int (x2 - (nI 48)), .int (x1 - (nI 48))]) (st := []) (b := v1) cw_X0_setWinner cl_X7_33 ck_X0_setWinner cs_X0_setWinner h1.1 rfl rfl (Nat.le_of_ble_eq_true rfl) dX7_enterInto_78 hm (fun r D9 hr => ?_)
          obtain ⟨rfl, e9⟩ := hr
          rw [e9]
          clear e9
          refine am_set (am_iinc (x := v2) (c0 := (nI 1)) dX7_enterInto_81 (by decide) rfl (by decide)) (L1 := [.ref o, .ref v1, .int (v2 + (nI 1)), .int v3, .int (x1 - (nI 48)), .int (x2 - (nI 48)), .int (nI 0)]) rfl ?_
          refine am_set (am_iinc (x := v3) (c0 := (nI 4)) dX7_enterInto_84 (by decide) rfl (by decide)) (L1 := [.ref o, .ref v1, .int (v2 + (nI 1)), .int (v3 + (nI 4)), .int (x1 - (nI 48)), .int (x2 - (nI 48)), .int (nI 0)]) rfl ?_
          refine am_goto (tgt := 4) dX7_enterInto_87 (by decide) ?_
          refine am_drop [4, 5, 6] (L1 := [.ref o, .ref v1, .int (v2 + (nI 1)), .int (v3 + (nI 4)), .null, .null, .null]) rfl ?_
          exact hT
        · replace hT := hT.2 h
          refine am_iload (x := (x2 - (nI 48))) dX7_enterInto_71 rfl ?_
          refine am_goto (tgt := 78) dX7_enterInto_73 (by decide) ?_
          obtain ⟨D5, hm, hT⟩ := hT
          refine am_callV (av := [.int (x2 - (nI 48)), .int (x2 - (nI 48))]) (st := []) (b := v1) cw_X0_setWinner cl_X7_33 ck_X0_setWinner cs_X0_setWinner h1.1 rfl rfl (Nat.le_of_ble_eq_true rfl) dX7_enterInto_78 hm (fun r D9 hr => ?_)
          obtain ⟨rfl, e9⟩ := hr
          rw [e9]
          clear e9
          refine am_set (am_iinc (x := v2) (c0 := (nI 1)) dX7_enterInto_81 (by decide) rfl (by decide)) (L1 := [.ref o, .ref v1, .int (v2 + (nI 1)), .int v3, .int (x1 - (nI 48)), .int (x2 - (nI 48)), .int (nI 0)]) rfl ?_
          refine am_set (am_iinc (x := v3) (c0 := (nI 4)) dX7_enterInto_84 (by decide) rfl (by decide)) (L1 := [.ref o, .ref v1, .int (v2 + (nI 1)), .int (v3 + (nI 4)), .int (x1 - (nI 48)), .int (x2 - (nI 48)), .int (nI 0)]) rfl ?_
          refine am_goto (tgt := 4) dX7_enterInto_87 (by decide) ?_
          refine am_drop [4, 5, 6] (L1 := [.ref o, .ref v1, .int (v2 + (nI 1)), .int (v3 + (nI 4)), .null, .null, .null]) rfl ?_
          exact hT
      · replace hT := hT.2 h
        refine am_iload (x := (x1 - (nI 48))) dX7_enterInto_59 rfl ?_
        refine am_goto (tgt := 66) dX7_enterInto_61 (by decide) ?_
        refine am_iload (x := (nI 0)) dX7_enterInto_66 rfl ?_
        refine am_if_eq (tgt := 76) dX7_enterInto_68 (by decide) (fun h => ?_) (fun h => ?_)
        · replace hT := hT.1 h
          refine am_iload (x := (x1 - (nI 48))) dX7_enterInto_76 rfl ?_
          obtain ⟨D6, hm, hT⟩ := hT
          refine am_callV (av := [.int (x1 - (nI 48)), .int (x1 - (nI 48))]) (st := []) (b := v1) cw_X0_setWinner cl_X7_33 ck_X0_setWinner cs_X0_setWinner h1.1 rfl rfl (Nat.le_of_ble_eq_true rfl) dX7_enterInto_78 hm (fun r D9 hr => ?_)
          obtain ⟨rfl, e9⟩ := hr
          rw [e9]
          clear e9
          refine am_set (am_iinc (x := v2) (c0 := (nI 1)) dX7_enterInto_81 (by decide) rfl (by decide)) (L1 := [.ref o, .ref v1, .int (v2 + (nI 1)), .int v3, .int (x1 - (nI 48)), .int (x2 - (nI 48)), .int (nI 0)]) rfl ?_
          refine am_set (am_iinc (x := v3) (c0 := (nI 4)) dX7_enterInto_84 (by decide) rfl (by decide)) (L1 := [.ref o, .ref v1, .int (v2 + (nI 1)), .int (v3 + (nI 4)), .int (x1 - (nI 48)), .int (x2 - (nI 48)), .int (nI 0)]) rfl ?_
          refine am_goto (tgt := 4) dX7_enterInto_87 (by decide) ?_
          refine am_drop [4, 5, 6] (L1 := [.ref o, .ref v1, .int (v2 + (nI 1)), .int (v3 + (nI 4)), .null, .null, .null]) rfl ?_
          exact hT
        · replace hT := hT.2 h
          refine am_iload (x := (x2 - (nI 48))) dX7_enterInto_71 rfl ?_
          refine am_goto (tgt := 78) dX7_enterInto_73 (by decide) ?_
          obtain ⟨D7, hm, hT⟩ := hT
          refine am_callV (av := [.int (x1 - (nI 48)), .int (x2 - (nI 48))]) (st := []) (b := v1) cw_X0_setWinner cl_X7_33 ck_X0_setWinner cs_X0_setWinner h1.1 rfl rfl (Nat.le_of_ble_eq_true rfl) dX7_enterInto_78 hm (fun r D9 hr => ?_)
          obtain ⟨rfl, e9⟩ := hr
          rw [e9]
          clear e9
          refine am_set (am_iinc (x := v2) (c0 := (nI 1)) dX7_enterInto_81 (by decide) rfl (by decide)) (L1 := [.ref o, .ref v1, .int (v2 + (nI 1)), .int v3, .int (x1 - (nI 48)), .int (x2 - (nI 48)), .int (nI 0)]) rfl ?_
          refine am_set (am_iinc (x := v3) (c0 := (nI 4)) dX7_enterInto_84 (by decide) rfl (by decide)) (L1 := [.ref o, .ref v1, .int (v2 + (nI 1)), .int (v3 + (nI 4)), .int (x1 - (nI 48)), .int (x2 - (nI 48)), .int (nI 0)]) rfl ?_
          refine am_goto (tgt := 4) dX7_enterInto_87 (by decide) ?_
          refine am_drop [4, 5, 6] (L1 := [.ref o, .ref v1, .int (v2 + (nI 1)), .int (v3 + (nI 4)), .null, .null, .null]) rfl ?_
          exact hT
    · replace hT := hT.2 h
      refine am_iconst (v := (nI 1)) dX7_enterInto_46 (by decide) ?_
      refine am_goto (tgt := 51) dX7_enterInto_47 (by decide) ?_
      refine am_set (am_istore dX7_enterInto_51 (by decide)) (L1 := [.ref o, .ref v1, .int v2, .int v3, .int (x1 - (nI 48)), .int (x2 - (nI 48)), .int (nI 1)]) rfl ?_
      refine am_aload_n (x := v1) dX7_enterInto_53 rfl ?_
      refine am_iload (x := (nI 1)) dX7_enterInto_54 rfl ?_
      refine am_if_eq (tgt := 64) dX7_enterInto_56 (by decide) (fun h => ?_) (fun h => ?_)
      · replace hT := hT.1 h
        refine am_iload (x := (x2 - (nI 48))) dX7_enterInto_64 rfl ?_
        refine am_iload (x := (nI 1)) dX7_enterInto_66 rfl ?_
        refine am_if_eq (tgt := 76) dX7_enterInto_68 (by decide) (fun h => ?_) (fun h => ?_)
        · replace hT := hT.1 h
          refine am_iload (x := (x1 - (nI 48))) dX7_enterInto_76 rfl ?_
          obtain ⟨D8, hm, hT⟩ := hT
          refine am_callV (av := [.int (x2 - (nI 48)), .int (x1 - (nI 48))]) (st := []) (b := v1) cw_X0_setWinner cl_X7_33 ck_X0_setWinner cs_X0_setWinner h1.1 rfl rfl (Nat.le_of_ble_eq_true rfl) dX7_enterInto_78 hm (fun r D9 hr => ?_)
          obtain ⟨rfl, e9⟩ := hr
          rw [e9]
          clear e9
          refine am_set (am_iinc (x := v2) (c0 := (nI 1)) dX7_enterInto_81 (by decide) rfl (by decide)) (L1 := [.ref o, .ref v1, .int (v2 + (nI 1)), .int v3, .int (x1 - (nI 48)), .int (x2 - (nI 48)), .int (nI 1)]) rfl ?_
          refine am_set (am_iinc (x := v3) (c0 := (nI 4)) dX7_enterInto_84 (by decide) rfl (by decide)) (L1 := [.ref o, .ref v1, .int (v2 + (nI 1)), .int (v3 + (nI 4)), .int (x1 - (nI 48)), .int (x2 - (nI 48)), .int (nI 1)]) rfl ?_
          refine am_goto (tgt := 4) dX7_enterInto_87 (by decide) ?_
          refine am_drop [4, 5, 6] (L1 := [.ref o, .ref v1, .int (v2 + (nI 1)), .int (v3 + (nI 4)), .null, .null, .null]) rfl ?_
          exact hT
        · replace hT := hT.2 h
          refine am_iload (x := (x2 - (nI 48))) dX7_enterInto_71 rfl ?_
          refine am_goto (tgt := 78) dX7_enterInto_73 (by decide) ?_
          obtain ⟨D9, hm, hT⟩ := hT
          refine am_callV (av := [.int (x2 - (nI 48)), .int (x2 - (nI 48))]) (st := []) (b := v1) cw_X0_setWinner cl_X7_33 ck_X0_setWinner cs_X0_setWinner h1.1 rfl rfl (Nat.le_of_ble_eq_true rfl) dX7_enterInto_78 hm (fun r D9 hr => ?_)
          obtain ⟨rfl, e9⟩ := hr
          rw [e9]
          clear e9
          refine am_set (am_iinc (x := v2) (c0 := (nI 1)) dX7_enterInto_81 (by decide) rfl (by decide)) (L1 := [.ref o, .ref v1, .int (v2 + (nI 1)), .int v3, .int (x1 - (nI 48)), .int (x2 - (nI 48)), .int (nI 1)]) rfl ?_
          refine am_set (am_iinc (x := v3) (c0 := (nI 4)) dX7_enterInto_84 (by decide) rfl (by decide)) (L1 := [.ref o, .ref v1, .int (v2 + (nI 1)), .int (v3 + (nI 4)), .int (x1 - (nI 48)), .int (x2 - (nI 48)), .int (nI 1)]) rfl ?_
          refine am_goto (tgt := 4) dX7_enterInto_87 (by decide) ?_
          refine am_drop [4, 5, 6] (L1 := [.ref o, .ref v1, .int (v2 + (nI 1)), .int (v3 + (nI 4)), .null, .null, .null]) rfl ?_
          exact hT
      · replace hT := hT.2 h
        refine am_iload (x := (x1 - (nI 48))) dX7_enterInto_59 rfl ?_
        refine am_goto (tgt := 66) dX7_enterInto_61 (by decide) ?_
        refine am_iload (x := (nI 1)) dX7_enterInto_66 rfl ?_
        refine am_if_eq (tgt := 76) dX7_enterInto_68 (by decide) (fun h => ?_) (fun h => ?_)
        · replace hT := hT.1 h
          refine am_iload (x := (x1 - (nI 48))) dX7_enterInto_76 rfl ?_
          obtain ⟨D10, hm, hT⟩ := hT
          refine am_callV (av := [.int (x1 - (nI 48)), .int (x1 - (nI 48))]) (st := []) (b := v1) cw_X0_setWinner cl_X7_33 ck_X0_setWinner cs_X0_setWinner h1.1 rfl rfl (Nat.le_of_ble_eq_true rfl) dX7_enterInto_78 hm (fun r D9 hr => ?_)
          obtain ⟨rfl, e9⟩ := hr
          rw [e9]
          clear e9
          refine am_set (am_iinc (x := v2) (c0 := (nI 1)) dX7_enterInto_81 (by decide) rfl (by decide)) (L1 := [.ref o, .ref v1, .int (v2 + (nI 1)), .int v3, .int (x1 - (nI 48)), .int (x2 - (nI 48)), .int (nI 1)]) rfl ?_
          refine am_set (am_iinc (x := v3) (c0 := (nI 4)) dX7_enterInto_84 (by decide) rfl (by decide)) (L1 := [.ref o, .ref v1, .int (v2 + (nI 1)), .int (v3 + (nI 4)), .int (x1 - (nI 48)), .int (x2 - (nI 48)), .int (nI 1)]) rfl ?_
          refine am_goto (tgt := 4) dX7_enterInto_87 (by decide) ?_
          refine am_drop [4, 5, 6] (L1 := [.ref o, .ref v1, .int (v2 + (nI 1)), .int (v3 + (nI 4)), .null, .null, .null]) rfl ?_
          exact hT
        · replace hT := hT.2 h
          refine am_iload (x := (x2 - (nI 48))) dX7_enterInto_71 rfl ?_
          refine am_goto (tgt := 78) dX7_enterInto_73 (by decide) ?_
          obtain ⟨D11, hm, hT⟩ := hT
          refine am_callV (av := [.int (x1 - (nI 48)), .int (x2 - (nI 48))]) (st := []) (b := v1) cw_X0_setWinner cl_X7_33 ck_X0_setWinner cs_X0_setWinner h1.1 rfl rfl (Nat.le_of_ble_eq_true rfl) dX7_enterInto_78 hm (fun r D9 hr => ?_)
          obtain ⟨rfl, e9⟩ := hr
          rw [e9]
          clear e9
          refine am_set (am_iinc (x := v2) (c0 := (nI 1)) dX7_enterInto_81 (by decide) rfl (by decide)) (L1 := [.ref o, .ref v1, .int (v2 + (nI 1)), .int v3, .int (x1 - (nI 48)), .int (x2 - (nI 48)), .int (nI 1)]) rfl ?_
          refine am_set (am_iinc (x := v3) (c0 := (nI 4)) dX7_enterInto_84 (by decide) rfl (by decide)) (L1 := [.ref o, .ref v1, .int (v2 + (nI 1)), .int (v3 + (nI 4)), .int (x1 - (nI 48)), .int (x2 - (nI 48)), .int (nI 1)]) rfl ?_
          refine am_goto (tgt := 4) dX7_enterInto_87 (by decide) ?_
          refine am_drop [4, 5, 6] (L1 := [.ref o, .ref v1, .int (v2 + (nI 1)), .int (v3 + (nI 4)), .null, .null, .null]) rfl ?_
          exact hT
