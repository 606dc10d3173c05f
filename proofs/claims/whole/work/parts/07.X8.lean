set_option maxRecDepth 20000 in
theorem eX8_size {lay : List am_L} {d : Nat} {D : am_D} {Q : Option Value → am_D → Prop} {o : Nat} (ho : isX8 lay o) (hT : Q (some (.int (D o 1))) D) : am_Met lay d mX8_size [.ref o] D Q := by
  refine am_enter (by decide +kernel) rfl (Nat.le_of_ble_eq_true rfl) ?_
  show am_AW lay d mX8_size 0 [.ref o] [] D Q
  refine am_aload_n (x := o) dX8_size_0 rfl ?_
  refine am_getI dX8_size_1 fw_X8_15 ho.1 rfl ?_
  exact am_ireturn (ty := .int) dX8_size_4 rfl rfl hT
set_option maxRecDepth 20000 in
theorem eX8_empty {lay : List am_L} {d : Nat} {D : am_D} {Q : Option Value → am_D → Prop} {o : Nat} (ho : isX8 lay o) (hT : (∀ D1, D1 = am_up D o 1 (nI 0) →
 Q none D1)) : am_Met lay d mX8_empty [.ref o] D Q := by
  refine am_enter (by decide +kernel) rfl (Nat.le_of_ble_eq_true rfl) ?_
  show am_AW lay d mX8_empty 0 [.ref o] [] D Q
  refine am_aload_n (x := o) dX8_empty_0 rfl ?_
  refine am_iconst (v := (nI 0)) dX8_empty_1 (by decide) ?_
  refine am_putI dX8_empty_2 fw_X8_15 fp_X8_1 ho.1 rfl ?_
  obtain ⟨D1, hD⟩ : ∃ z, z = am_up D o 1 (nI 0) := ⟨_, rfl⟩
  rw [← hD]
  replace hT := hT D1 hD
  clear hD
  exact am_return dX8_empty_5 rfl hT
set_option maxRecDepth 20000 in
theorem eX8_add {lay : List am_L} {d : Nat} {D : am_D} {Q : Option Value → am_D → Prop} {o : Nat} {v1 : Int32} (ho : isX8 lay o) (hT : (((D o 1) < nI 0 → Q (some (.int (nI 0))) D) ∧
 (¬ ((D o 1) < nI 0) → (((D o 1) < (nI 10) → (vp_in (D o 1) 10 ∧ ∀ D1, D1 = am_up D (o + 1) (Int32.toNatClampNeg (D o 1)) v1 →
 (∀ D2, D2 = am_up D1 o 1 ((D1 o 1) + (nI 1)) →
 Q (some (.int (nI 1))) D2))) ∧
 (¬ ((D o 1) < (nI 10)) → Q (some (.int (nI 0))) D))))) : am_Met lay d mX8_add [.ref o, .int v1] D Q := by
  refine am_enter (by decide +kernel) rfl (Nat.le_of_ble_eq_true rfl) ?_
  show am_AW lay d mX8_add 0 [.ref o, .int v1] [] D Q
  refine am_aload_n (x := o) dX8_add_0 rfl ?_
  refine am_getI dX8_add_1 fw_X8_15 ho.1 rfl ?_
  refine am_if_lt (tgt := 19) dX8_add_4 (by decide) (fun h => ?_) (fun h => ?_)
  · replace hT := hT.1 h
    refine am_iconst (v := (nI 0)) dX8_add_19 (by decide) ?_
    exact am_ireturn (ty := .boolean) dX8_add_20 rfl (by decide) hT
  · replace hT := hT.2 h
    refine am_aload_n (x := o) dX8_add_7 rfl ?_
    refine am_getI dX8_add_8 fw_X8_15 ho.1 rfl ?_
    refine am_aload_n (x := o) dX8_add_11 rfl ?_
    refine am_getR dX8_add_12 fw_X8_9 ho.1 rfl ?_
    refine am_alen (v := nI 10) dX8_add_15 ho.2 rfl (by decide) ?_
    refine am_icmp_lt (tgt := 21) dX8_add_16 (by decide) (fun h => ?_) (fun h => ?_)
    · replace hT := hT.1 h
      refine am_aload_n (x := o) dX8_add_21 rfl ?_
      refine am_getR dX8_add_22 fw_X8_9 ho.1 rfl ?_
      refine am_aload_n (x := o) dX8_add_25 rfl ?_
      refine am_getI dX8_add_26 fw_X8_15 ho.1 rfl ?_
      refine am_iload_n (x := v1) dX8_add_29 rfl ?_
      refine am_iast dX8_add_30 ho.2 hT.1 ?_
      obtain ⟨D1, hD⟩ : ∃ z, z = am_up D (o + 1) (Int32.toNatClampNeg (D o 1)) v1 := ⟨_, rfl⟩
      rw [← hD]
      replace hT := hT.2 D1 hD
      clear hD
      refine am_aload_n (x := o) dX8_add_31 rfl ?_
      refine am_dup dX8_add_32 rfl ?_
      refine am_getI dX8_add_33 fw_X8_15 ho.1 rfl ?_
      refine am_iconst (v := (nI 1)) dX8_add_36 (by decide) ?_
      refine am_iadd dX8_add_37 ?_
      refine am_putI dX8_add_38 fw_X8_15 fp_X8_1 ho.1 rfl ?_
      obtain ⟨D2, hD⟩ : ∃ z, z = am_up D1 o 1 ((D1 o 1) + (nI 1)) := ⟨_, rfl⟩
      rw [← hD]
      replace hT := hT D2 hD
      clear hD
      refine am_iconst (v := (nI 1)) dX8_add_41 (by decide) ?_
      exact am_ireturn (ty := .boolean) dX8_add_42 rfl (by decide) hT
    · replace hT := hT.2 h
      refine am_iconst (v := (nI 0)) dX8_add_19 (by decide) ?_
      exact am_ireturn (ty := .boolean) dX8_add_20 rfl (by decide) hT
set_option maxRecDepth 20000 in
theorem eX8_numberAt {lay : List am_L} {d : Nat} {D : am_D} {Q : Option Value → am_D → Prop} {o : Nat} {v1 : Int32} (ho : isX8 lay o) (hT : ((v1 < nI 0 → Q (some (.int (nI 0))) D) ∧
 (¬ (v1 < nI 0) → (((D o 1) ≤ v1 → Q (some (.int (nI 0))) D) ∧
 (¬ ((D o 1) ≤ v1) → (((nI 10) ≤ v1 → Q (some (.int (nI 0))) D) ∧
 (¬ ((nI 10) ≤ v1) → (vp_in v1 10 ∧ Q (some (.int (D (o + 1) (Int32.toNatClampNeg v1)))) D)))))))) : am_Met lay d mX8_numberAt [.ref o, .int v1] D Q := by
  refine am_enter (by decide +kernel) rfl (Nat.le_of_ble_eq_true rfl) ?_
  show am_AW lay d mX8_numberAt 0 [.ref o, .int v1] [] D Q
  refine am_iload_n (x := v1) dX8_numberAt_0 rfl ?_
  refine am_if_lt (tgt := 30) dX8_numberAt_1 (by decide) (fun h => ?_) (fun h => ?_)
  · replace hT := hT.1 h
    refine am_iconst (v := (nI 0)) dX8_numberAt_30 (by decide) ?_
    exact am_ireturn (ty := .int) dX8_numberAt_31 rfl rfl hT
  · replace hT := hT.2 h
    refine am_iload_n (x := v1) dX8_numberAt_4 rfl ?_
    refine am_aload_n (x := o) dX8_numberAt_5 rfl ?_
    refine am_getI dX8_numberAt_6 fw_X8_15 ho.1 rfl ?_
    refine am_icmp_ge (tgt := 30) dX8_numberAt_9 (by decide) (fun h => ?_) (fun h => ?_)
    · replace hT := hT.1 h
      refine am_iconst (v := (nI 0)) dX8_numberAt_30 (by decide) ?_
      exact am_ireturn (ty := .int) dX8_numberAt_31 rfl rfl hT
    · replace hT := hT.2 h
      refine am_iload_n (x := v1) dX8_numberAt_12 rfl ?_
      refine am_aload_n (x := o) dX8_numberAt_13 rfl ?_
      refine am_getR dX8_numberAt_14 fw_X8_9 ho.1 rfl ?_
      refine am_alen (v := nI 10) dX8_numberAt_17 ho.2 rfl (by decide) ?_
      refine am_icmp_ge (tgt := 30) dX8_numberAt_18 (by decide) (fun h => ?_) (fun h => ?_)
      · replace hT := hT.1 h
        refine am_iconst (v := (nI 0)) dX8_numberAt_30 (by decide) ?_
        exact am_ireturn (ty := .int) dX8_numberAt_31 rfl rfl hT
      · replace hT := hT.2 h
        refine am_aload_n (x := o) dX8_numberAt_21 rfl ?_
        refine am_getR dX8_numberAt_22 fw_X8_9 ho.1 rfl ?_
        refine am_iload_n (x := v1) dX8_numberAt_25 rfl ?_
        refine am_iald dX8_numberAt_26 ho.2 hT.1 ?_
        replace hT := hT.2
        refine am_goto (tgt := 31) dX8_numberAt_27 (by decide) ?_
        exact am_ireturn (ty := .int) dX8_numberAt_31 rfl rfl hT
set_option maxRecDepth 20000 in
theorem eX8_failingCount {lay : List am_L} {d : Nat} {D : am_D} {Q : Option Value → am_D → Prop} {o : Nat} (ho : isX8 lay o) (hT : (((nI 2) ≤ (D o 1) → am_AW lay (d + 1) mX8_failingCount 13 [.ref o, .int (nI 1), .null, .null] [] D Q) ∧
 (¬ ((nI 2) ≤ (D o 1)) → Q (some (.int (-2))) D))) : am_Met lay (d + 1) mX8_failingCount [.ref o] D Q := by
  refine am_enter (by decide +kernel) rfl (Nat.le_of_ble_eq_true rfl) ?_
  show am_AW lay (d + 1) mX8_failingCount 0 [.ref o, .null, .null, .null] [] D Q
  refine am_aload_n (x := o) dX8_failingCount_0 rfl ?_
  refine am_getI dX8_failingCount_1 fw_X8_15 ho.1 rfl ?_
  refine am_iconst (v := (nI 2)) dX8_failingCount_4 (by decide) ?_
  refine am_icmp_ge (tgt := 11) dX8_failingCount_5 (by decide) (fun h => ?_) (fun h => ?_)
  · replace hT := hT.1 h
    refine am_iconst (v := (nI 1)) dX8_failingCount_11 (by decide) ?_
    refine am_set (am_istore_n dX8_failingCount_12 (by decide)) (L1 := [.ref o, .int (nI 1), .null, .null]) rfl ?_
    exact hT
  · replace hT := hT.2 h
    refine am_bipush (v := (-2)) dX8_failingCount_8 (by decide) ?_
    exact am_ireturn (ty := .int) dX8_failingCount_10 rfl rfl hT
set_option maxRecDepth 20000 in
theorem rX8_failingCount_13 {lay : List am_L} {d : Nat} {D : am_D} {Q : Option Value → am_D → Prop} {o : Nat} {v1 : Int32} (ho : isX8 lay o) (hT : (((D o 1) < v1 → Q (some (.int (nI 0))) D) ∧
 (¬ ((D o 1) < v1) → (∃ x1, am_MetP lay d mX8_sumOfSmallest [.ref o, .int v1] D x1 ∧
 ((x1 < ((v1 * (v1 - (nI 1))) / (nI 2)) → Q (some (.int v1)) D) ∧
 (¬ (x1 < ((v1 * (v1 - (nI 1))) / (nI 2))) → ((¬ v1 = (D o 1) → am_AW lay (d + 1) mX8_failingCount 13 [.ref o, .int (v1 + (nI 1)), .null, .null] [] D Q) ∧
 (¬ (¬ v1 = (D o 1)) → ((x1 ≤ ((v1 * (v1 - (nI 1))) / (nI 2)) → am_AW lay (d + 1) mX8_failingCount 13 [.ref o, .int (v1 + (nI 1)), .null, .null] [] D Q) ∧
 (¬ (x1 ≤ ((v1 * (v1 - (nI 1))) / (nI 2))) → Q (some (.int v1)) D)))))))))) : am_AW lay (d + 1) mX8_failingCount 13 [.ref o, .int v1, .null, .null] [] D Q := by
  refine am_iload_n (x := v1) dX8_failingCount_13 rfl ?_
  refine am_aload_n (x := o) dX8_failingCount_14 rfl ?_
  refine am_getI dX8_failingCount_15 fw_X8_15 ho.1 rfl ?_
  refine am_icmp_gt (tgt := 61) dX8_failingCount_18 (by decide) (fun h => ?_) (fun h => ?_)
  · replace hT := hT.1 h
    refine am_iconst (v := (nI 0)) dX8_failingCount_61 (by decide) ?_
    exact am_ireturn (ty := .int) dX8_failingCount_62 rfl rfl hT
  · replace hT := hT.2 h
    refine am_aload_n (x := o) dX8_failingCount_21 rfl ?_
    refine am_iload_n (x := v1) dX8_failingCount_22 rfl ?_
    obtain ⟨x1, hm, hT⟩ := hT
    refine am_callV (av := [.int v1]) (st := []) (b := o) cw_X8_sumOfSmallest cl_X8_19 ck_X8_sumOfSmallest cs_X8_sumOfSmallest ho.1 rfl rfl (Nat.le_of_ble_eq_true rfl) dX8_failingCount_23 hm (fun r D9 hr => ?_)
    obtain ⟨rfl, e9⟩ := hr
    rw [e9]
    clear e9
    refine am_set (am_istore_n dX8_failingCount_26 (by decide)) (L1 := [.ref o, .int v1, .int x1, .null]) rfl ?_
    refine am_iload_n (x := v1) dX8_failingCount_27 rfl ?_
    refine am_iload_n (x := v1) dX8_failingCount_28 rfl ?_
    refine am_iconst (v := (nI 1)) dX8_failingCount_29 (by decide) ?_
    refine am_isub dX8_failingCount_30 ?_
    refine am_imul dX8_failingCount_31 ?_
    refine am_iconst (v := (nI 2)) dX8_failingCount_32 (by decide) ?_
    refine am_idiv dX8_failingCount_33 (by decide) ?_
    refine am_set (am_istore_n dX8_failingCount_34 (by decide)) (L1 := [.ref o, .int v1, .int x1, .int ((v1 * (v1 - (nI 1))) / (nI 2))]) rfl ?_
    refine am_iload_n (x := x1) dX8_failingCount_35 rfl ?_
    refine am_iload_n (x := ((v1 * (v1 - (nI 1))) / (nI 2))) dX8_failingCount_36 rfl ?_
    refine am_icmp_lt (tgt := 53) dX8_failingCount_37 (by decide) (fun h => ?_) (fun h => ?_)
    · replace hT := hT.1 h
      refine am_iload_n (x := v1) dX8_failingCount_53 rfl ?_
      exact am_ireturn (ty := .int) dX8_failingCount_54 rfl rfl hT
    · replace hT := hT.2 h
      refine am_iload_n (x := v1) dX8_failingCount_40 rfl ?_
      refine am_aload_n (x := o) dX8_failingCount_41 rfl ?_
      refine am_getI dX8_failingCount_42 fw_X8_15 ho.1 rfl ?_
      refine am_icmp_ne (tgt := 55) dX8_failingCount_45 (by decide) (fun h => ?_) (fun h => ?_)
      · replace hT := hT.1 h
        refine am_set (am_iinc (x := v1) (c0 := (nI 1)) dX8_failingCount_55 (by decide) rfl (by decide)) (L1 := [.ref o, .int (v1 + (nI 1)), .int x1, .int ((v1 * (v1 - (nI 1))) / (nI 2))]) rfl ?_
        refine am_goto (tgt := 13) dX8_failingCount_58 (by decide) ?_
        refine am_drop [2, 3] (L1 := [.ref o, .int (v1 + (nI 1)), .null, .null]) rfl ?_
        exact hT
      · replace hT := hT.2 h
        refine am_iload_n (x := x1) dX8_failingCount_48 rfl ?_
        refine am_iload_n (x := ((v1 * (v1 - (nI 1))) / (nI 2))) dX8_failingCount_49 rfl ?_
        refine am_icmp_le (tgt := 55) dX8_failingCount_50 (by decide) (fun h => ?_) (fun h => ?_)
        · replace hT := hT.1 h
          refine am_set (am_iinc (x := v1) (c0 := (nI 1)) dX8_failingCount_55 (by decide) rfl (by decide)) (L1 := [.ref o, .int (v1 + (nI 1)), .int x1, .int ((v1 * (v1 - (nI 1))) / (nI 2))]) rfl ?_
          refine am_goto (tgt := 13) dX8_failingCount_58 (by decide) ?_
          refine am_drop [2, 3] (L1 := [.ref o, .int (v1 + (nI 1)), .null, .null]) rfl ?_
          exact hT
        · replace hT := hT.2 h
          refine am_iload_n (x := v1) dX8_failingCount_53 rfl ?_
          exact am_ireturn (ty := .int) dX8_failingCount_54 rfl rfl hT
set_option maxRecDepth 20000 in
theorem eX8_sumOfSmallest {lay : List am_L} {d : Nat} {D : am_D} {Q : Option Value → am_D → Prop} {o : Nat} {v1 : Int32} (ho : isX8 lay o) (hT : am_AW lay (d + 1) mX8_sumOfSmallest 7 [.ref o, .int v1, .int (nI 0), .int v1, .int (nI 0), .null] [] D Q) : am_Met lay (d + 1) mX8_sumOfSmallest [.ref o, .int v1] D Q := by
  refine am_enter (by decide +kernel) rfl (Nat.le_of_ble_eq_true rfl) ?_
  show am_AW lay (d + 1) mX8_sumOfSmallest 0 [.ref o, .int v1, .null, .null, .null, .null] [] D Q
  refine am_iconst (v := (nI 0)) dX8_sumOfSmallest_0 (by decide) ?_
  refine am_set (am_istore_n dX8_sumOfSmallest_1 (by decide)) (L1 := [.ref o, .int v1, .int (nI 0), .null, .null, .null]) rfl ?_
  refine am_iload_n (x := v1) dX8_sumOfSmallest_2 rfl ?_
  refine am_set (am_istore_n dX8_sumOfSmallest_3 (by decide)) (L1 := [.ref o, .int v1, .int (nI 0), .int v1, .null, .null]) rfl ?_
  refine am_iconst (v := (nI 0)) dX8_sumOfSmallest_4 (by decide) ?_
  refine am_set (am_istore dX8_sumOfSmallest_5 (by decide)) (L1 := [.ref o, .int v1, .int (nI 0), .int v1, .int (nI 0), .null]) rfl ?_
  exact hT
set_option maxRecDepth 20000 in
theorem rX8_sumOfSmallest_7 {lay : List am_L} {d : Nat} {D : am_D} {Q : Option Value → am_D → Prop} {o : Nat} {v1 : Int32} {v2 : Int32} {v3 : Int32} {v4 : Int32} (ho : isX8 lay o) (hT : (((nI 9) < v4 → Q (some (.int v2)) D) ∧
 (¬ ((nI 9) < v4) → (∃ x1, am_MetP lay d mX8_timesOf [.ref o, .int v4] D x1 ∧
 am_AW lay (d + 1) mX8_sumOfSmallest 7 [.ref o, .int v1, .int (v2 + ((if x1 < v3 then x1 else v3) * v4)), .int (v3 - (if x1 < v3 then x1 else v3)), .int (v4 + (nI 1)), .null] [] D Q)))) : am_AW lay (d + 1) mX8_sumOfSmallest 7 [.ref o, .int v1, .int v2, .int v3, .int v4, .null] [] D Q := by
  refine am_iload (x := v4) dX8_sumOfSmallest_7 rfl ?_
  refine am_bipush (v := (nI 9)) dX8_sumOfSmallest_9 (by decide) ?_
  refine am_icmp_gt (tgt := 45) dX8_sumOfSmallest_11 (by decide) (fun h => ?_) (fun h => ?_)
  · replace hT := hT.1 h
    refine am_iload_n (x := v2) dX8_sumOfSmallest_45 rfl ?_
    exact am_ireturn (ty := .int) dX8_sumOfSmallest_46 rfl rfl hT
  · replace hT := hT.2 h
    refine am_iload_n (x := v3) dX8_sumOfSmallest_14 rfl ?_
    refine am_aload_n (x := o) dX8_sumOfSmallest_15 rfl ?_
    refine am_iload (x := v4) dX8_sumOfSmallest_16 rfl ?_
    obtain ⟨x1, hm, hT⟩ := hT
    refine am_callV (av := [.int v4]) (st := [.int v3]) (b := o) cw_X8_timesOf cl_X8_23 ck_X8_timesOf cs_X8_timesOf ho.1 rfl rfl (Nat.le_of_ble_eq_true rfl) dX8_sumOfSmallest_18 hm (fun r D9 hr => ?_)
    obtain ⟨rfl, e9⟩ := hr
    rw [e9]
    clear e9
    refine am_min dX8_sumOfSmallest_21 cl_X8_26 (Nat.le_of_ble_eq_true rfl) ?_
    refine am_set (am_istore dX8_sumOfSmallest_24 (by decide)) (L1 := [.ref o, .int v1, .int v2, .int v3, .int v4, .int (if x1 < v3 then x1 else v3)]) rfl ?_
    refine am_iload_n (x := v2) dX8_sumOfSmallest_26 rfl ?_
    refine am_iload (x := (if x1 < v3 then x1 else v3)) dX8_sumOfSmallest_27 rfl ?_
    refine am_iload (x := v4) dX8_sumOfSmallest_29 rfl ?_
    refine am_imul dX8_sumOfSmallest_31 ?_
    refine am_iadd dX8_sumOfSmallest_32 ?_
    refine am_set (am_istore_n dX8_sumOfSmallest_33 (by decide)) (L1 := [.ref o, .int v1, .int (v2 + ((if x1 < v3 then x1 else v3) * v4)), .int v3, .int v4, .int (if x1 < v3 then x1 else v3)]) rfl ?_
    refine am_iload_n (x := v3) dX8_sumOfSmallest_34 rfl ?_
    refine am_iload (x := (if x1 < v3 then x1 else v3)) dX8_sumOfSmallest_35 rfl ?_
    refine am_isub dX8_sumOfSmallest_37 ?_
    refine am_set (am_istore_n dX8_sumOfSmallest_38 (by decide)) (L1 := [.ref o, .int v1, .int (v2 + ((if x1 < v3 then x1 else v3) * v4)), .int (v3 - (if x1 < v3 then x1 else v3)), .int v4, .int (if x1 < v3 then x1 else v3)]) rfl ?_
    refine am_set (am_iinc (x := v4) (c0 := (nI 1)) dX8_sumOfSmallest_39 (by decide) rfl (by decide)) (L1 := [.ref o, .int v1, .int (v2 + ((if x1 < v3 then x1 else v3) * v4)), .int (v3 - (if x1 < v3 then x1 else v3)), .int (v4 + (nI 1)), .int (if x1 < v3 then x1 else v3)]) rfl ?_
    refine am_goto (tgt := 7) dX8_sumOfSmallest_42 (by decide) ?_
    refine am_drop [5] (L1 := [.ref o, .int v1, .int (v2 + ((if x1 < v3 then x1 else v3) * v4)), .int (v3 - (if x1 < v3 then x1 else v3)), .int (v4 + (nI 1)), .null]) rfl ?_
    exact hT
set_option maxRecDepth 20000 in
theorem eX8_timesOf {lay : List am_L} {d : Nat} {D : am_D} {Q : Option Value → am_D → Prop} {o : Nat} {v1 : Int32} (ho : isX8 lay o) (hT : am_AW lay (d + 1) mX8_timesOf 4 [.ref o, .int v1, .int (nI 0), .int (nI 0)] [] D Q) : am_Met lay (d + 1) mX8_timesOf [.ref o, .int v1] D Q := by
  refine am_enter (by decide +kernel) rfl (Nat.le_of_ble_eq_true rfl) ?_
  show am_AW lay (d + 1) mX8_timesOf 0 [.ref o, .int v1, .null, .null] [] D Q
  refine am_iconst (v := (nI 0)) dX8_timesOf_0 (by decide) ?_
  refine am_set (am_istore_n dX8_timesOf_1 (by decide)) (L1 := [.ref o, .int v1, .int (nI 0), .null]) rfl ?_
  refine am_iconst (v := (nI 0)) dX8_timesOf_2 (by decide) ?_
  refine am_set (am_istore_n dX8_timesOf_3 (by decide)) (L1 := [.ref o, .int v1, .int (nI 0), .int (nI 0)]) rfl ?_
  exact hT
set_option maxRecDepth 20000 in
theorem rX8_timesOf_4 {lay : List am_L} {d : Nat} {D : am_D} {Q : Option Value → am_D → Prop} {o : Nat} {v1 : Int32} {v2 : Int32} {v3 : Int32} (ho : isX8 lay o) (hT : (((D o 1) ≤ v3 → Q (some (.int v2)) D) ∧
 (¬ ((D o 1) ≤ v3) → (∃ x1, am_MetP lay d mX8_numberAt [.ref o, .int v3] D x1 ∧
 ((¬ x1 = v1 → am_AW lay (d + 1) mX8_timesOf 4 [.ref o, .int v1, .int (v2 + (nI 0)), .int (v3 + (nI 1))] [] D Q) ∧
 (¬ (¬ x1 = v1) → am_AW lay (d + 1) mX8_timesOf 4 [.ref o, .int v1, .int (v2 + (nI 1)), .int (v3 + (nI 1))] [] D Q)))))) : am_AW lay (d + 1) mX8_timesOf 4 [.ref o, .int v1, .int v2, .int v3] [] D Q := by
  refine am_iload_n (x := v3) dX8_timesOf_4 rfl ?_
  refine am_aload_n (x := o) dX8_timesOf_5 rfl ?_
  refine am_getI dX8_timesOf_6 fw_X8_15 ho.1 rfl ?_
  refine am_icmp_ge (tgt := 35) dX8_timesOf_9 (by decide) (fun h => ?_) (fun h => ?_)
  · replace hT := hT.1 h
    refine am_iload_n (x := v2) dX8_timesOf_35 rfl ?_
    exact am_ireturn (ty := .int) dX8_timesOf_36 rfl rfl hT
  · replace hT := hT.2 h
    refine am_iload_n (x := v2) dX8_timesOf_12 rfl ?_
    refine am_aload_n (x := o) dX8_timesOf_13 rfl ?_
    refine am_iload_n (x := v3) dX8_timesOf_14 rfl ?_
    obtain ⟨x1, hm, hT⟩ := hT
    refine am_callV (av := [.int v3]) (st := [.int v2]) (b := o) cw_X8_numberAt cl_X8_32 ck_X8_numberAt cs_X8_numberAt ho.1 rfl rfl (Nat.le_of_ble_eq_true rfl) dX8_timesOf_15 hm (fun r D9 hr => ?_)
    obtain ⟨rfl, e9⟩ := hr
    rw [e9]
    clear e9
    refine am_iload_n (x := v1) dX8_timesOf_18 rfl ?_
    refine am_icmp_ne (tgt := 26) dX8_timesOf_19 (by decide) (fun h => ?_) (fun h => ?_)
    · replace hT := hT.1 h
      refine am_iconst (v := (nI 0)) dX8_timesOf_26 (by decide) ?_
      refine am_iadd dX8_timesOf_27 ?_
      refine am_set (am_istore_n dX8_timesOf_28 (by decide)) (L1 := [.ref o, .int v1, .int (v2 + (nI 0)), .int v3]) rfl ?_
      refine am_set (am_iinc (x := v3) (c0 := (nI 1)) dX8_timesOf_29 (by decide) rfl (by decide)) (L1 := [.ref o, .int v1, .int (v2 + (nI 0)), .int (v3 + (nI 1))]) rfl ?_
      refine am_goto (tgt := 4) dX8_timesOf_32 (by decide) ?_
      exact hT
    · replace hT := hT.2 h
      refine am_iconst (v := (nI 1)) dX8_timesOf_22 (by decide) ?_
      refine am_goto (tgt := 27) dX8_timesOf_23 (by decide) ?_
      refine am_iadd dX8_timesOf_27 ?_
      refine am_set (am_istore_n dX8_timesOf_28 (by decide)) (L1 := [.ref o, .int v1, .int (v2 + (nI 1)), .int v3]) rfl ?_
      refine am_set (am_iinc (x := v3) (c0 := (nI 1)) dX8_timesOf_29 (by decide) rfl (by decide)) (L1 := [.ref o, .int v1, .int (v2 + (nI 1)), .int (v3 + (nI 1))]) rfl ?_
      refine am_goto (tgt := 4) dX8_timesOf_32 (by decide) ?_
      exact hT
