set_option maxRecDepth 20000 in
theorem eX0_start {lay : List am_L} {d : Nat} {D : am_D} {Q : Option Value → am_D → Prop} {o : Nat} {v1 : Int32} (ho : isX0 lay o) (hT : (∀ D1, D1 = am_up D o 1 ((D o 1) + (nI 1)) →
 (∀ D2, D2 = am_up D1 o 0 (if (nI 2) < (if (nI 10) < v1 then (nI 10) else v1) then (if (nI 10) < v1 then (nI 10) else v1) else (nI 2)) →
 am_AW lay (d + 1) mX0_start 26 [.ref o, .int v1, .int (nI 0)] [] D2 Q))) : am_Met lay (d + 1) mX0_start [.ref o, .int v1] D Q := by
  refine am_enter (by decide +kernel) rfl (Nat.le_of_ble_eq_true rfl) ?_
  show am_AW lay (d + 1) mX0_start 0 [.ref o, .int v1, .null] [] D Q
  refine am_aload_n (x := o) dX0_start_0 rfl ?_
  refine am_dup dX0_start_1 rfl ?_
  refine am_getI dX0_start_2 fw_X0_22 ho.1 rfl ?_
  refine am_iconst (v := (nI 1)) dX0_start_5 (by decide) ?_
  refine am_iadd dX0_start_6 ?_
  refine am_putI dX0_start_7 fw_X0_22 fp_X0_1 ho.1 rfl ?_
  obtain ⟨D1, hD⟩ : ∃ z, z = am_up D o 1 ((D o 1) + (nI 1)) := ⟨_, rfl⟩
  rw [← hD]
  replace hT := hT D1 hD
  clear hD
  refine am_aload_n (x := o) dX0_start_10 rfl ?_
  refine am_iconst (v := (nI 2)) dX0_start_11 (by decide) ?_
  refine am_iload_n (x := v1) dX0_start_12 rfl ?_
  refine am_bipush (v := (nI 10)) dX0_start_13 (by decide) ?_
  refine am_min dX0_start_15 cl_X0_26 (Nat.le_of_ble_eq_true rfl) ?_
  refine am_max dX0_start_18 cl_X0_32 (Nat.le_of_ble_eq_true rfl) ?_
  refine am_putI dX0_start_21 fw_X0_35 fp_X0_0 ho.1 rfl ?_
  obtain ⟨D2, hD⟩ : ∃ z, z = am_up D1 o 0 (if (nI 2) < (if (nI 10) < v1 then (nI 10) else v1) then (if (nI 10) < v1 then (nI 10) else v1) else (nI 2)) := ⟨_, rfl⟩
  rw [← hD]
  replace hT := hT D2 hD
  clear hD
  refine am_iconst (v := (nI 0)) dX0_start_24 (by decide) ?_
  refine am_set (am_istore_n dX0_start_25 (by decide)) (L1 := [.ref o, .int v1, .int (nI 0)]) rfl ?_
  exact hT
set_option maxRecDepth 20000 in
theorem rX0_start_26 {lay : List am_L} {d : Nat} {D : am_D} {Q : Option Value → am_D → Prop} {o : Nat} {v1 : Int32} {v2 : Int32} (ho : isX0 lay o) (hT : (((nI 10) ≤ v2 → am_AW lay (d + 1) mX0_start 71 [.ref o, .int v1, .int (nI 0)] [] D Q) ∧
 (¬ ((nI 10) ≤ v2) → (((D o 0) ≤ v2 → (vp_in v2 10 ∧ ∀ D1, D1 = am_up D (o + 1) (Int32.toNatClampNeg v2) (nI 0) →
 am_AW lay (d + 1) mX0_start 26 [.ref o, .int v1, .int (v2 + (nI 1))] [] D1 Q)) ∧
 (¬ ((D o 0) ≤ v2) → (vp_in v2 10 ∧ ∀ D2, D2 = am_up D (o + 1) (Int32.toNatClampNeg v2) (((nI 1) <<< ((D o 0) &&& 31)) - ((nI 2) <<< (v2 &&& 31))) →
 am_AW lay (d + 1) mX0_start 26 [.ref o, .int v1, .int (v2 + (nI 1))] [] D2 Q)))))) : am_AW lay (d + 1) mX0_start 26 [.ref o, .int v1, .int v2] [] D Q := by
  refine am_iload_n (x := v2) dX0_start_26 rfl ?_
  refine am_aload_n (x := o) dX0_start_27 rfl ?_
  refine am_getR dX0_start_28 fw_X0_9 ho.1 rfl ?_
  refine am_alen (v := nI 10) dX0_start_31 ho.2.1 rfl (by decide) ?_
  refine am_icmp_ge (tgt := 69) dX0_start_32 (by decide) (fun h => ?_) (fun h => ?_)
  · replace hT := hT.1 h
    refine am_iconst (v := (nI 0)) dX0_start_69 (by decide) ?_
    refine am_set (am_istore_n dX0_start_70 (by decide)) (L1 := [.ref o, .int v1, .int (nI 0)]) rfl ?_
    exact hT
  · replace hT := hT.2 h
    refine am_aload_n (x := o) dX0_start_35 rfl ?_
    refine am_getR dX0_start_36 fw_X0_9 ho.1 rfl ?_
    refine am_iload_n (x := v2) dX0_start_39 rfl ?_
    refine am_iload_n (x := v2) dX0_start_40 rfl ?_
    refine am_aload_n (x := o) dX0_start_41 rfl ?_
    refine am_getI dX0_start_42 fw_X0_35 ho.1 rfl ?_
    refine am_icmp_ge (tgt := 61) dX0_start_45 (by decide) (fun h => ?_) (fun h => ?_)
    · replace hT := hT.1 h
      refine am_iconst (v := (nI 0)) dX0_start_61 (by decide) ?_
      refine am_iast dX0_start_62 ho.2.1 hT.1 ?_
      obtain ⟨D1, hD⟩ : ∃ z, z = am_up D (o + 1) (Int32.toNatClampNeg v2) (nI 0) := ⟨_, rfl⟩
      rw [← hD]
      replace hT := hT.2 D1 hD
      clear hD
      refine am_set (am_iinc (x := v2) (c0 := (nI 1)) dX0_start_63 (by decide) rfl (by decide)) (L1 := [.ref o, .int v1, .int (v2 + (nI 1))]) rfl ?_
      refine am_goto (tgt := 26) dX0_start_66 (by decide) ?_
      exact hT
    · replace hT := hT.2 h
      refine am_iconst (v := (nI 1)) dX0_start_48 (by decide) ?_
      refine am_aload_n (x := o) dX0_start_49 rfl ?_
      refine am_getI dX0_start_50 fw_X0_35 ho.1 rfl ?_
      refine am_ishl dX0_start_53 ?_
      refine am_iconst (v := (nI 2)) dX0_start_54 (by decide) ?_
      refine am_iload_n (x := v2) dX0_start_55 rfl ?_
      refine am_ishl dX0_start_56 ?_
      refine am_isub dX0_start_57 ?_
      refine am_goto (tgt := 62) dX0_start_58 (by decide) ?_
      refine am_iast dX0_start_62 ho.2.1 hT.1 ?_
      obtain ⟨D2, hD⟩ : ∃ z, z = am_up D (o + 1) (Int32.toNatClampNeg v2) (((nI 1) <<< ((D o 0) &&& 31)) - ((nI 2) <<< (v2 &&& 31))) := ⟨_, rfl⟩
      rw [← hD]
      replace hT := hT.2 D2 hD
      clear hD
      refine am_set (am_iinc (x := v2) (c0 := (nI 1)) dX0_start_63 (by decide) rfl (by decide)) (L1 := [.ref o, .int v1, .int (v2 + (nI 1))]) rfl ?_
      refine am_goto (tgt := 26) dX0_start_66 (by decide) ?_
      exact hT
set_option maxRecDepth 20000 in
theorem rX0_start_71 {lay : List am_L} {d : Nat} {D : am_D} {Q : Option Value → am_D → Prop} {o : Nat} {v1 : Int32} {v2 : Int32} (ho : isX0 lay o) (hT : (((nI 100) ≤ v2 → Q none D) ∧
 (¬ ((nI 100) ≤ v2) → (vp_in v2 100 ∧ ∀ D1, D1 = am_up D (o + 2) (Int32.toNatClampNeg v2) (nI 1) →
 am_AW lay (d + 1) mX0_start 71 [.ref o, .int v1, .int (v2 + (nI 1))] [] D1 Q)))) : am_AW lay (d + 1) mX0_start 71 [.ref o, .int v1, .int v2] [] D Q := by
  refine am_iload_n (x := v2) dX0_start_71 rfl ?_
  refine am_aload_n (x := o) dX0_start_72 rfl ?_
  refine am_getR dX0_start_73 fw_X0_15 ho.1 rfl ?_
  refine am_alen (v := nI 100) dX0_start_76 ho.2.2 rfl (by decide) ?_
  refine am_icmp_ge (tgt := 93) dX0_start_77 (by decide) (fun h => ?_) (fun h => ?_)
  · replace hT := hT.1 h
    exact am_return dX0_start_93 rfl hT
  · replace hT := hT.2 h
    refine am_aload_n (x := o) dX0_start_80 rfl ?_
    refine am_getR dX0_start_81 fw_X0_15 ho.1 rfl ?_
    refine am_iload_n (x := v2) dX0_start_84 rfl ?_
    refine am_iconst (v := (nI 1)) dX0_start_85 (by decide) ?_
    refine am_iast dX0_start_86 ho.2.2 hT.1 ?_
    obtain ⟨D1, hD⟩ : ∃ z, z = am_up D (o + 2) (Int32.toNatClampNeg v2) (nI 1) := ⟨_, rfl⟩
    rw [← hD]
    replace hT := hT.2 D1 hD
    clear hD
    refine am_set (am_iinc (x := v2) (c0 := (nI 1)) dX0_start_87 (by decide) rfl (by decide)) (L1 := [.ref o, .int v1, .int (v2 + (nI 1))]) rfl ?_
    refine am_goto (tgt := 71) dX0_start_90 (by decide) ?_
    exact hT
set_option maxRecDepth 20000 in
theorem eX0_copyFrom {lay : List am_L} {d : Nat} {D : am_D} {Q : Option Value → am_D → Prop} {o : Nat} {v1 : Nat} (ho : isX0 lay o) (h1 : isX0 lay v1) (hT : (∀ D1, D1 = am_up D o 1 ((D o 1) + (nI 1)) →
 (∀ D2, D2 = am_up D1 o 0 (D1 v1 0) →
 (∀ D3, D3 = am_cp D2 (v1 + 1) (o + 1) (Int32.toNatClampNeg (nI 10)) →
 (∀ D4, D4 = am_cp D3 (v1 + 2) (o + 2) (Int32.toNatClampNeg (nI 100)) →
 Q none D4))))) : am_Met lay (d + 1) mX0_copyFrom [.ref o, .ref v1] D Q := by
  refine am_enter (by decide +kernel) rfl (Nat.le_of_ble_eq_true rfl) ?_
  show am_AW lay (d + 1) mX0_copyFrom 0 [.ref o, .ref v1] [] D Q
  refine am_aload_n (x := o) dX0_copyFrom_0 rfl ?_
  refine am_dup dX0_copyFrom_1 rfl ?_
  refine am_getI dX0_copyFrom_2 fw_X0_22 ho.1 rfl ?_
  refine am_iconst (v := (nI 1)) dX0_copyFrom_5 (by decide) ?_
  refine am_iadd dX0_copyFrom_6 ?_
  refine am_putI dX0_copyFrom_7 fw_X0_22 fp_X0_1 ho.1 rfl ?_
  obtain ⟨D1, hD⟩ : ∃ z, z = am_up D o 1 ((D o 1) + (nI 1)) := ⟨_, rfl⟩
  rw [← hD]
  replace hT := hT D1 hD
  clear hD
  refine am_aload_n (x := o) dX0_copyFrom_10 rfl ?_
  refine am_aload_n (x := v1) dX0_copyFrom_11 rfl ?_
  refine am_getI dX0_copyFrom_12 fw_X0_35 h1.1 rfl ?_
  refine am_putI dX0_copyFrom_15 fw_X0_35 fp_X0_0 ho.1 rfl ?_
  obtain ⟨D2, hD⟩ : ∃ z, z = am_up D1 o 0 (D1 v1 0) := ⟨_, rfl⟩
  rw [← hD]
  replace hT := hT D2 hD
  clear hD
  refine am_aload_n (x := v1) dX0_copyFrom_18 rfl ?_
  refine am_getR dX0_copyFrom_19 fw_X0_9 h1.1 rfl ?_
  refine am_iconst (v := (nI 0)) dX0_copyFrom_22 (by decide) ?_
  refine am_aload_n (x := o) dX0_copyFrom_23 rfl ?_
  refine am_getR dX0_copyFrom_24 fw_X0_9 ho.1 rfl ?_
  refine am_iconst (v := (nI 0)) dX0_copyFrom_27 (by decide) ?_
  refine am_bipush (v := (nI 10)) dX0_copyFrom_28 (by decide) ?_
  refine am_copy cl_X0_38 h1.2.1 ho.2.1 (by decide) (by decide) (by decide) (Nat.le_of_ble_eq_true rfl) dX0_copyFrom_30 ?_
  obtain ⟨D3, hD⟩ : ∃ z, z = am_cp D2 (v1 + 1) (o + 1) (Int32.toNatClampNeg (nI 10)) := ⟨_, rfl⟩
  rw [← hD]
  replace hT := hT D3 hD
  clear hD
  refine am_aload_n (x := v1) dX0_copyFrom_33 rfl ?_
  refine am_getR dX0_copyFrom_34 fw_X0_15 h1.1 rfl ?_
  refine am_iconst (v := (nI 0)) dX0_copyFrom_37 (by decide) ?_
  refine am_aload_n (x := o) dX0_copyFrom_38 rfl ?_
  refine am_getR dX0_copyFrom_39 fw_X0_15 ho.1 rfl ?_
  refine am_iconst (v := (nI 0)) dX0_copyFrom_42 (by decide) ?_
  refine am_bipush (v := (nI 100)) dX0_copyFrom_43 (by decide) ?_
  refine am_copy cl_X0_38 h1.2.2 ho.2.2 (by decide) (by decide) (by decide) (Nat.le_of_ble_eq_true rfl) dX0_copyFrom_45 ?_
  obtain ⟨D4, hD⟩ : ∃ z, z = am_cp D3 (v1 + 2) (o + 2) (Int32.toNatClampNeg (nI 100)) := ⟨_, rfl⟩
  rw [← hD]
  replace hT := hT D4 hD
  clear hD
  exact am_return dX0_copyFrom_48 rfl hT
set_option maxRecDepth 20000 in
theorem eX0_size {lay : List am_L} {d : Nat} {D : am_D} {Q : Option Value → am_D → Prop} {o : Nat} (ho : isX0 lay o) (hT : Q (some (.int (D o 0))) D) : am_Met lay d mX0_size [.ref o] D Q := by
  refine am_enter (by decide +kernel) rfl (Nat.le_of_ble_eq_true rfl) ?_
  show am_AW lay d mX0_size 0 [.ref o] [] D Q
  refine am_aload_n (x := o) dX0_size_0 rfl ?_
  refine am_getI dX0_size_1 fw_X0_35 ho.1 rfl ?_
  exact am_ireturn (ty := .int) dX0_size_4 rfl rfl hT
set_option maxRecDepth 20000 in
theorem eX0_stamp {lay : List am_L} {d : Nat} {D : am_D} {Q : Option Value → am_D → Prop} {o : Nat} (ho : isX0 lay o) (hT : Q (some (.int (D o 1))) D) : am_Met lay d mX0_stamp [.ref o] D Q := by
  refine am_enter (by decide +kernel) rfl (Nat.le_of_ble_eq_true rfl) ?_
  show am_AW lay d mX0_stamp 0 [.ref o] [] D Q
  refine am_aload_n (x := o) dX0_stamp_0 rfl ?_
  refine am_getI dX0_stamp_1 fw_X0_22 ho.1 rfl ?_
  exact am_ireturn (ty := .int) dX0_stamp_4 rfl rfl hT
set_option maxRecDepth 20000 in
theorem eX0_everyone {lay : List am_L} {d : Nat} {D : am_D} {Q : Option Value → am_D → Prop} {o : Nat} (ho : isX0 lay o) (hT : Q (some (.int (((nI 1) <<< ((D o 0) &&& 31)) - (nI 1)))) D) : am_Met lay d mX0_everyone [.ref o] D Q := by
  refine am_enter (by decide +kernel) rfl (Nat.le_of_ble_eq_true rfl) ?_
  show am_AW lay d mX0_everyone 0 [.ref o] [] D Q
  refine am_iconst (v := (nI 1)) dX0_everyone_0 (by decide) ?_
  refine am_aload_n (x := o) dX0_everyone_1 rfl ?_
  refine am_getI dX0_everyone_2 fw_X0_35 ho.1 rfl ?_
  refine am_ishl dX0_everyone_5 ?_
  refine am_iconst (v := (nI 1)) dX0_everyone_6 (by decide) ?_
  refine am_isub dX0_everyone_7 ?_
  exact am_ireturn (ty := .int) dX0_everyone_8 rfl rfl hT
set_option maxRecDepth 20000 in
theorem eX0_has {lay : List am_L} {d : Nat} {D : am_D} {Q : Option Value → am_D → Prop} {o : Nat} {v1 : Int32} (ho : isX0 lay o) (hT : ((v1 < nI 0 → Q (some (.int (nI 0))) D) ∧
 (¬ (v1 < nI 0) → (((D o 0) ≤ v1 → Q (some (.int (nI 0))) D) ∧
 (¬ ((D o 0) ≤ v1) → Q (some (.int (nI 1))) D))))) : am_Met lay d mX0_has [.ref o, .int v1] D Q := by
  refine am_enter (by decide +kernel) rfl (Nat.le_of_ble_eq_true rfl) ?_
  show am_AW lay d mX0_has 0 [.ref o, .int v1] [] D Q
  refine am_iload_n (x := v1) dX0_has_0 rfl ?_
  refine am_if_lt (tgt := 16) dX0_has_1 (by decide) (fun h => ?_) (fun h => ?_)
  · replace hT := hT.1 h
    refine am_iconst (v := (nI 0)) dX0_has_16 (by decide) ?_
    exact am_ireturn (ty := .boolean) dX0_has_17 rfl (by decide) hT
  · replace hT := hT.2 h
    refine am_iload_n (x := v1) dX0_has_4 rfl ?_
    refine am_aload_n (x := o) dX0_has_5 rfl ?_
    refine am_getI dX0_has_6 fw_X0_35 ho.1 rfl ?_
    refine am_icmp_ge (tgt := 16) dX0_has_9 (by decide) (fun h => ?_) (fun h => ?_)
    · replace hT := hT.1 h
      refine am_iconst (v := (nI 0)) dX0_has_16 (by decide) ?_
      exact am_ireturn (ty := .boolean) dX0_has_17 rfl (by decide) hT
    · replace hT := hT.2 h
      refine am_iconst (v := (nI 1)) dX0_has_12 (by decide) ?_
      refine am_goto (tgt := 17) dX0_has_13 (by decide) ?_
      exact am_ireturn (ty := .boolean) dX0_has_17 rfl (by decide) hT
set_option maxRecDepth 20000 in
theorem eX0_hasPair {lay : List am_L} {d : Nat} {D : am_D} {Q : Option Value → am_D → Prop} {o : Nat} {v1 : Int32} {v2 : Int32} (ho : isX0 lay o) (hT : (∃ x1, am_MetP lay d mX0_has [.ref o, .int v1] D x1 ∧
 ((x1 = nI 0 → Q (some (.int (nI 0))) D) ∧
 (¬ (x1 = nI 0) → (∃ x2, am_MetP lay d mX0_has [.ref o, .int v2] D x2 ∧
 ((x2 = nI 0 → Q (some (.int (nI 0))) D) ∧
 (¬ (x2 = nI 0) → ((v1 = v2 → Q (some (.int (nI 0))) D) ∧
 (¬ (v1 = v2) → Q (some (.int (nI 1))) D))))))))) : am_Met lay (d + 1) mX0_hasPair [.ref o, .int v1, .int v2] D Q := by
  refine am_enter (by decide +kernel) rfl (Nat.le_of_ble_eq_true rfl) ?_
  show am_AW lay (d + 1) mX0_hasPair 0 [.ref o, .int v1, .int v2] [] D Q
  refine am_aload_n (x := o) dX0_hasPair_0 rfl ?_
  refine am_iload_n (x := v1) dX0_hasPair_1 rfl ?_
  obtain ⟨x1, hm, hT⟩ := hT
  refine am_callV (av := [.int v1]) (st := []) (b := o) cw_X0_has cl_X0_44 ck_X0_has cs_X0_has ho.1 rfl rfl (Nat.le_of_ble_eq_true rfl) dX0_hasPair_2 hm (fun r D9 hr => ?_)
  obtain ⟨rfl, e9⟩ := hr
  rw [e9]
  clear e9
  refine am_if_eq (tgt := 25) dX0_hasPair_5 (by decide) (fun h => ?_) (fun h => ?_)
  · replace hT := hT.1 h
    refine am_iconst (v := (nI 0)) dX0_hasPair_25 (by decide) ?_
    exact am_ireturn (ty := .boolean) dX0_hasPair_26 rfl (by decide) hT
  · replace hT := hT.2 h
    refine am_aload_n (x := o) dX0_hasPair_8 rfl ?_
    refine am_iload_n (x := v2) dX0_hasPair_9 rfl ?_
    obtain ⟨x2, hm, hT⟩ := hT
    refine am_callV (av := [.int v2]) (st := []) (b := o) cw_X0_has cl_X0_44 ck_X0_has cs_X0_has ho.1 rfl rfl (Nat.le_of_ble_eq_true rfl) dX0_hasPair_10 hm (fun r D9 hr => ?_)
    obtain ⟨rfl, e9⟩ := hr
    rw [e9]
    clear e9
    refine am_if_eq (tgt := 25) dX0_hasPair_13 (by decide) (fun h => ?_) (fun h => ?_)
    · replace hT := hT.1 h
      refine am_iconst (v := (nI 0)) dX0_hasPair_25 (by decide) ?_
      exact am_ireturn (ty := .boolean) dX0_hasPair_26 rfl (by decide) hT
    · replace hT := hT.2 h
      refine am_iload_n (x := v1) dX0_hasPair_16 rfl ?_
      refine am_iload_n (x := v2) dX0_hasPair_17 rfl ?_
      refine am_icmp_eq (tgt := 25) dX0_hasPair_18 (by decide) (fun h => ?_) (fun h => ?_)
      · replace hT := hT.1 h
        refine am_iconst (v := (nI 0)) dX0_hasPair_25 (by decide) ?_
        exact am_ireturn (ty := .boolean) dX0_hasPair_26 rfl (by decide) hT
      · replace hT := hT.2 h
        refine am_iconst (v := (nI 1)) dX0_hasPair_21 (by decide) ?_
        refine am_goto (tgt := 26) dX0_hasPair_22 (by decide) ?_
        exact am_ireturn (ty := .boolean) dX0_hasPair_26 rfl (by decide) hT
set_option maxRecDepth 20000 in
theorem eX0_beatenBy {lay : List am_L} {d : Nat} {D : am_D} {Q : Option Value → am_D → Prop} {o : Nat} {v1 : Int32} (ho : isX0 lay o) (hT : ((v1 < nI 0 → Q (some (.int (nI 0))) D) ∧
 (¬ (v1 < nI 0) → (((nI 10) ≤ v1 → Q (some (.int (nI 0))) D) ∧
 (¬ ((nI 10) ≤ v1) → (vp_in v1 10 ∧ Q (some (.int (D (o + 1) (Int32.toNatClampNeg v1)))) D)))))) : am_Met lay d mX0_beatenBy [.ref o, .int v1] D Q := by
  refine am_enter (by decide +kernel) rfl (Nat.le_of_ble_eq_true rfl) ?_
  show am_AW lay d mX0_beatenBy 0 [.ref o, .int v1] [] D Q
  refine am_iload_n (x := v1) dX0_beatenBy_0 rfl ?_
  refine am_if_lt (tgt := 22) dX0_beatenBy_1 (by decide) (fun h => ?_) (fun h => ?_)
  · replace hT := hT.1 h
    refine am_iconst (v := (nI 0)) dX0_beatenBy_22 (by decide) ?_
    exact am_ireturn (ty := .int) dX0_beatenBy_23 rfl rfl hT
  · replace hT := hT.2 h
    refine am_iload_n (x := v1) dX0_beatenBy_4 rfl ?_
    refine am_aload_n (x := o) dX0_beatenBy_5 rfl ?_
    refine am_getR dX0_beatenBy_6 fw_X0_9 ho.1 rfl ?_
    refine am_alen (v := nI 10) dX0_beatenBy_9 ho.2.1 rfl (by decide) ?_
    refine am_icmp_ge (tgt := 22) dX0_beatenBy_10 (by decide) (fun h => ?_) (fun h => ?_)
    · replace hT := hT.1 h
      refine am_iconst (v := (nI 0)) dX0_beatenBy_22 (by decide) ?_
      exact am_ireturn (ty := .int) dX0_beatenBy_23 rfl rfl hT
    · replace hT := hT.2 h
      refine am_aload_n (x := o) dX0_beatenBy_13 rfl ?_
      refine am_getR dX0_beatenBy_14 fw_X0_9 ho.1 rfl ?_
      refine am_iload_n (x := v1) dX0_beatenBy_17 rfl ?_
      refine am_iald dX0_beatenBy_18 ho.2.1 hT.1 ?_
      replace hT := hT.2
      refine am_goto (tgt := 23) dX0_beatenBy_19 (by decide) ?_
      exact am_ireturn (ty := .int) dX0_beatenBy_23 rfl rfl hT
set_option maxRecDepth 20000 in
theorem eX0_beatersOf {lay : List am_L} {d : Nat} {D : am_D} {Q : Option Value → am_D → Prop} {o : Nat} {v1 : Int32} (ho : isX0 lay o) (hT : (∃ x1, am_MetP lay d mX0_everyone [.ref o] D x1 ∧
 (∃ x2, am_MetP lay d mX0_beatenBy [.ref o, .int v1] D x2 ∧
 (∃ x3, am_MetP lay d mX10_only [.int v1] D x3 ∧
 Q (some (.int ((x1 &&& (x2 ^^^ (-1))) &&& (x3 ^^^ (-1))))) D)))) : am_Met lay (d + 1) mX0_beatersOf [.ref o, .int v1] D Q := by
  refine am_enter (by decide +kernel) rfl (Nat.le_of_ble_eq_true rfl) ?_
  show am_AW lay (d + 1) mX0_beatersOf 0 [.ref o, .int v1] [] D Q
  refine am_aload_n (x := o) dX0_beatersOf_0 rfl ?_
  obtain ⟨x1, hm, hT⟩ := hT
  refine am_callV (av := []) (st := []) (b := o) cw_X0_everyone cl_X0_48 ck_X0_everyone cs_X0_everyone ho.1 rfl rfl (Nat.le_of_ble_eq_true rfl) dX0_beatersOf_1 hm (fun r D9 hr => ?_)
  obtain ⟨rfl, e9⟩ := hr
  rw [e9]
  clear e9
  refine am_aload_n (x := o) dX0_beatersOf_4 rfl ?_
  refine am_iload_n (x := v1) dX0_beatersOf_5 rfl ?_
  obtain ⟨x2, hm, hT⟩ := hT
  refine am_callV (av := [.int v1]) (st := [.int x1]) (b := o) cw_X0_beatenBy cl_X0_52 ck_X0_beatenBy cs_X0_beatenBy ho.1 rfl rfl (Nat.le_of_ble_eq_true rfl) dX0_beatersOf_6 hm (fun r D9 hr => ?_)
  obtain ⟨rfl, e9⟩ := hr
  rw [e9]
  clear e9
  refine am_iconst (v := (-1)) dX0_beatersOf_9 (by decide) ?_
  refine am_ixor dX0_beatersOf_10 ?_
  refine am_iand dX0_beatersOf_11 ?_
  refine am_iload_n (x := v1) dX0_beatersOf_12 rfl ?_
  obtain ⟨x3, hm, hT⟩ := hT
  refine am_callSN (av := [.int v1]) (st := [.int (x1 &&& (x2 ^^^ (-1)))]) cw_X10_only cl_X0_56 ck_X10_only (Nat.le_of_ble_eq_true rfl) dX0_beatersOf_13 hm (fun r D9 hr => ?_)
  obtain ⟨rfl, e9⟩ := hr
  rw [e9]
  clear e9
  refine am_iconst (v := (-1)) dX0_beatersOf_16 (by decide) ?_
  refine am_ixor dX0_beatersOf_17 ?_
  refine am_iand dX0_beatersOf_18 ?_
  exact am_ireturn (ty := .int) dX0_beatersOf_19 rfl rfl hT
set_option maxRecDepth 20000 in
theorem eX0_wins {lay : List am_L} {d : Nat} {D : am_D} {Q : Option Value → am_D → Prop} {o : Nat} {v1 : Int32} {v2 : Int32} (ho : isX0 lay o) (hT : (∃ x1, am_MetP lay d mX0_beatenBy [.ref o, .int v1] D x1 ∧
 (∃ x2, am_MetP lay d mX10_holds [.int x1, .int v2] D x2 ∧
 (narrow .boolean (.int x2) = .int x2 ∧ Q (some (.int x2)) D)))) : am_Met lay (d + 1) mX0_wins [.ref o, .int v1, .int v2] D Q := by
  refine am_enter (by decide +kernel) rfl (Nat.le_of_ble_eq_true rfl) ?_
  show am_AW lay (d + 1) mX0_wins 0 [.ref o, .int v1, .int v2] [] D Q
  refine am_aload_n (x := o) dX0_wins_0 rfl ?_
  refine am_iload_n (x := v1) dX0_wins_1 rfl ?_
  obtain ⟨x1, hm, hT⟩ := hT
  refine am_callV (av := [.int v1]) (st := []) (b := o) cw_X0_beatenBy cl_X0_52 ck_X0_beatenBy cs_X0_beatenBy ho.1 rfl rfl (Nat.le_of_ble_eq_true rfl) dX0_wins_2 hm (fun r D9 hr => ?_)
  obtain ⟨rfl, e9⟩ := hr
  rw [e9]
  clear e9
  refine am_iload_n (x := v2) dX0_wins_5 rfl ?_
  obtain ⟨x2, hm, hT⟩ := hT
  refine am_callSN (av := [.int x1, .int v2]) (st := []) cw_X10_holds cl_X0_59 ck_X10_holds (Nat.le_of_ble_eq_true rfl) dX0_wins_6 hm (fun r D9 hr => ?_)
  obtain ⟨rfl, e9⟩ := hr
  rw [e9]
  clear e9
  exact am_ireturn (ty := .boolean) dX0_wins_9 rfl hT.1 hT.2
set_option maxRecDepth 20000 in
theorem eX0_winsOf {lay : List am_L} {d : Nat} {D : am_D} {Q : Option Value → am_D → Prop} {o : Nat} {v1 : Int32} (ho : isX0 lay o) (hT : (∃ x1, am_MetP lay d mX0_beatenBy [.ref o, .int v1] D x1 ∧
 (∃ x2, am_MetP lay d mJ6_bitCount_0f7a4 [.int x1] D x2 ∧
 Q (some (.int x2)) D))) : am_Met lay (d + 1) mX0_winsOf [.ref o, .int v1] D Q := by
  refine am_enter (by decide +kernel) rfl (Nat.le_of_ble_eq_true rfl) ?_
  show am_AW lay (d + 1) mX0_winsOf 0 [.ref o, .int v1] [] D Q
  refine am_aload_n (x := o) dX0_winsOf_0 rfl ?_
  refine am_iload_n (x := v1) dX0_winsOf_1 rfl ?_
  obtain ⟨x1, hm, hT⟩ := hT
  refine am_callV (av := [.int v1]) (st := []) (b := o) cw_X0_beatenBy cl_X0_52 ck_X0_beatenBy cs_X0_beatenBy ho.1 rfl rfl (Nat.le_of_ble_eq_true rfl) dX0_winsOf_2 hm (fun r D9 hr => ?_)
  obtain ⟨rfl, e9⟩ := hr
  rw [e9]
  clear e9
  obtain ⟨x2, hm, hT⟩ := hT
  refine am_callS (av := [.int x1]) (st := []) cw_J6_bitCount_0f7a4 cl_X0_63 ck_J6_bitCount_0f7a4 (Nat.le_of_ble_eq_true rfl) dX0_winsOf_5 hm (fun r D9 hr => ?_)
  obtain ⟨rfl, e9⟩ := hr
  rw [e9]
  clear e9
  exact am_ireturn (ty := .int) dX0_winsOf_8 rfl rfl hT
set_option maxRecDepth 20000 in
theorem eX0_winsAtPlace {lay : List am_L} {d : Nat} {D : am_D} {Q : Option Value → am_D → Prop} {o : Nat} {v1 : Int32} (ho : isX0 lay o) (hT : am_AW lay (d + 1) mX0_winsAtPlace 4 [.ref o, .int v1, .int (nI 0), .int (nI 0), .null] [] D Q) : am_Met lay (d + 1) mX0_winsAtPlace [.ref o, .int v1] D Q := by
  refine am_enter (by decide +kernel) rfl (Nat.le_of_ble_eq_true rfl) ?_
  show am_AW lay (d + 1) mX0_winsAtPlace 0 [.ref o, .int v1, .null, .null, .null] [] D Q
  refine am_iconst (v := (nI 0)) dX0_winsAtPlace_0 (by decide) ?_
  refine am_set (am_istore_n dX0_winsAtPlace_1 (by decide)) (L1 := [.ref o, .int v1, .int (nI 0), .null, .null]) rfl ?_
  refine am_iconst (v := (nI 0)) dX0_winsAtPlace_2 (by decide) ?_
  refine am_set (am_istore_n dX0_winsAtPlace_3 (by decide)) (L1 := [.ref o, .int v1, .int (nI 0), .int (nI 0), .null]) rfl ?_
  exact hT
set_option maxRecDepth 20000 in
theorem rX0_winsAtPlace_4 {lay : List am_L} {d : Nat} {D : am_D} {Q : Option Value → am_D → Prop} {o : Nat} {v1 : Int32} {v2 : Int32} {v3 : Int32} (ho : isX0 lay o) (hT : (((D o 0) ≤ v3 → Q (some (.int (nI 0))) D) ∧
 (¬ ((D o 0) ≤ v3) → am_AW lay (d + 1) mX0_winsAtPlace 15 [.ref o, .int v1, .int v2, .int v3, .int (nI 0)] [] D Q))) : am_AW lay (d + 1) mX0_winsAtPlace 4 [.ref o, .int v1, .int v2, .int v3, .null] [] D Q := by
  refine am_iload_n (x := v3) dX0_winsAtPlace_4 rfl ?_
  refine am_aload_n (x := o) dX0_winsAtPlace_5 rfl ?_
  refine am_getI dX0_winsAtPlace_6 fw_X0_35 ho.1 rfl ?_
  refine am_icmp_ge (tgt := 61) dX0_winsAtPlace_9 (by decide) (fun h => ?_) (fun h => ?_)
  · replace hT := hT.1 h
    refine am_iconst (v := (nI 0)) dX0_winsAtPlace_61 (by decide) ?_
    exact am_ireturn (ty := .int) dX0_winsAtPlace_62 rfl rfl hT
  · replace hT := hT.2 h
    refine am_iconst (v := (nI 0)) dX0_winsAtPlace_12 (by decide) ?_
    refine am_set (am_istore dX0_winsAtPlace_13 (by decide)) (L1 := [.ref o, .int v1, .int v2, .int v3, .int (nI 0)]) rfl ?_
    exact hT
set_option maxRecDepth 20000 in
theorem rX0_winsAtPlace_15 {lay : List am_L} {d : Nat} {D : am_D} {Q : Option Value → am_D → Prop} {o : Nat} {v1 : Int32} {v2 : Int32} {v3 : Int32} {v4 : Int32} (ho : isX0 lay o) (hT : (((D o 0) ≤ v4 → ((v2 ≤ v1 → am_AW lay (d + 1) mX0_winsAtPlace 4 [.ref o, .int v1, .int v2, .int (v3 + (nI 1)), .null] [] D Q) ∧
 (¬ (v2 ≤ v1) → Q (some (.int v3)) D))) ∧
 (¬ ((D o 0) ≤ v4) → (∃ x1, am_MetP lay d mX0_winsOf [.ref o, .int v4] D x1 ∧
 ((¬ x1 = v3 → am_AW lay (d + 1) mX0_winsAtPlace 15 [.ref o, .int v1, .int (v2 + (nI 0)), .int v3, .int (v4 + (nI 1))] [] D Q) ∧
 (¬ (¬ x1 = v3) → am_AW lay (d + 1) mX0_winsAtPlace 15 [.ref o, .int v1, .int (v2 + (nI 1)), .int v3, .int (v4 + (nI 1))] [] D Q)))))) : am_AW lay (d + 1) mX0_winsAtPlace 15 [.ref o, .int v1, .int v2, .int v3, .int v4] [] D Q := by
  refine am_iload (x := v4) dX0_winsAtPlace_15 rfl ?_
  refine am_aload_n (x := o) dX0_winsAtPlace_17 rfl ?_
  refine am_getI dX0_winsAtPlace_18 fw_X0_35 ho.1 rfl ?_
  refine am_icmp_ge (tgt := 48) dX0_winsAtPlace_21 (by decide) (fun h => ?_) (fun h => ?_)
  · replace hT := hT.1 h
    refine am_iload_n (x := v2) dX0_winsAtPlace_48 rfl ?_
    refine am_iload_n (x := v1) dX0_winsAtPlace_49 rfl ?_
    refine am_icmp_le (tgt := 55) dX0_winsAtPlace_50 (by decide) (fun h => ?_) (fun h => ?_)
    · replace hT := hT.1 h
      refine am_set (am_iinc (x := v3) (c0 := (nI 1)) dX0_winsAtPlace_55 (by decide) rfl (by decide)) (L1 := [.ref o, .int v1, .int v2, .int (v3 + (nI 1)), .int v4]) rfl ?_
      refine am_goto (tgt := 4) dX0_winsAtPlace_58 (by decide) ?_
      refine am_drop [4] (L1 := [.ref o, .int v1, .int v2, .int (v3 + (nI 1)), .null]) rfl ?_
      exact hT
    · replace hT := hT.2 h
      refine am_iload_n (x := v3) dX0_winsAtPlace_53 rfl ?_
      exact am_ireturn (ty := .int) dX0_winsAtPlace_54 rfl rfl hT
  · replace hT := hT.2 h
    refine am_iload_n (x := v2) dX0_winsAtPlace_24 rfl ?_
    refine am_aload_n (x := o) dX0_winsAtPlace_25 rfl ?_
    refine am_iload (x := v4) dX0_winsAtPlace_26 rfl ?_
    obtain ⟨x1, hm, hT⟩ := hT
    refine am_callV (av := [.int v4]) (st := [.int v2]) (b := o) cw_X0_winsOf cl_X0_68 ck_X0_winsOf cs_X0_winsOf ho.1 rfl rfl (Nat.le_of_ble_eq_true rfl) dX0_winsAtPlace_28 hm (fun r D9 hr => ?_)
    obtain ⟨rfl, e9⟩ := hr
    rw [e9]
    clear e9
    refine am_iload_n (x := v3) dX0_winsAtPlace_31 rfl ?_
    refine am_icmp_ne (tgt := 39) dX0_winsAtPlace_32 (by decide) (fun h => ?_) (fun h => ?_)
    · replace hT := hT.1 h
      refine am_iconst (v := (nI 0)) dX0_winsAtPlace_39 (by decide) ?_
      refine am_iadd dX0_winsAtPlace_40 ?_
      refine am_set (am_istore_n dX0_winsAtPlace_41 (by decide)) (L1 := [.ref o, .int v1, .int (v2 + (nI 0)), .int v3, .int v4]) rfl ?_
      refine am_set (am_iinc (x := v4) (c0 := (nI 1)) dX0_winsAtPlace_42 (by decide) rfl (by decide)) (L1 := [.ref o, .int v1, .int (v2 + (nI 0)), .int v3, .int (v4 + (nI 1))]) rfl ?_
      refine am_goto (tgt := 15) dX0_winsAtPlace_45 (by decide) ?_
      exact hT
    · replace hT := hT.2 h
      refine am_iconst (v := (nI 1)) dX0_winsAtPlace_35 (by decide) ?_
      refine am_goto (tgt := 40) dX0_winsAtPlace_36 (by decide) ?_
      refine am_iadd dX0_winsAtPlace_40 ?_
      refine am_set (am_istore_n dX0_winsAtPlace_41 (by decide)) (L1 := [.ref o, .int v1, .int (v2 + (nI 1)), .int v3, .int v4]) rfl ?_
      refine am_set (am_iinc (x := v4) (c0 := (nI 1)) dX0_winsAtPlace_42 (by decide) rfl (by decide)) (L1 := [.ref o, .int v1, .int (v2 + (nI 1)), .int v3, .int (v4 + (nI 1))]) rfl ?_
      refine am_goto (tgt := 15) dX0_winsAtPlace_45 (by decide) ?_
      exact hT
set_option maxRecDepth 20000 in
theorem eX0_turn {lay : List am_L} {d : Nat} {D : am_D} {Q : Option Value → am_D → Prop} {o : Nat} {v1 : Int32} {v2 : Int32} (ho : isX0 lay o) (hT : (∃ x1, am_MetP lay d mX0_hasPair [.ref o, .int v1, .int v2] D x1 ∧
 ((x1 = nI 0 → Q none D) ∧
 (¬ (x1 = nI 0) → (((nI 10) ≤ v1 → Q none D) ∧
 (¬ ((nI 10) ≤ v1) → ((v2 < (nI 10) → (∀ D2, D2 = am_up D o 1 ((D o 1) + (nI 1)) →
 (vp_in v1 10 ∧ (∃ x3, am_MetP lay d mX10_only [.int v2] D2 x3 ∧
 (vp_in v1 10 ∧ ∀ D4, D4 = am_up D2 (o + 1) (Int32.toNatClampNeg v1) ((D2 (o + 1) (Int32.toNatClampNeg v1)) ^^^ x3) →
 (vp_in v2 10 ∧ (∃ x5, am_MetP lay d mX10_only [.int v1] D4 x5 ∧
 (vp_in v2 10 ∧ ∀ D6, D6 = am_up D4 (o + 1) (Int32.toNatClampNeg v2) ((D4 (o + 1) (Int32.toNatClampNeg v2)) ^^^ x5) →
 Q none D6)))))))) ∧
 (¬ (v2 < (nI 10)) → Q none D)))))))) : am_Met lay (d + 1) mX0_turn [.ref o, .int v1, .int v2] D Q := by
  refine am_enter (by decide +kernel) rfl (Nat.le_of_ble_eq_true rfl) ?_
  show am_AW lay (d + 1) mX0_turn 0 [.ref o, .int v1, .int v2] [] D Q
  refine am_aload_n (x := o) dX0_turn_0 rfl ?_
  refine am_iload_n (x := v1) dX0_turn_1 rfl ?_
  refine am_iload_n (x := v2) dX0_turn_2 rfl ?_
  obtain ⟨x1, hm, hT⟩ := hT
  refine am_callV (av := [.int v1, .int v2]) (st := []) (b := o) cw_X0_hasPair cl_X0_71 ck_X0_hasPair cs_X0_hasPair ho.1 rfl rfl (Nat.le_of_ble_eq_true rfl) dX0_turn_3 hm (fun r D9 hr => ?_)
  obtain ⟨rfl, e9⟩ := hr
  rw [e9]
  clear e9
  refine am_if_eq (tgt := 27) dX0_turn_6 (by decide) (fun h => ?_) (fun h => ?_)
  · replace hT := hT.1 h
    exact am_return dX0_turn_27 rfl hT
  · replace hT := hT.2 h
    refine am_iload_n (x := v1) dX0_turn_9 rfl ?_
    refine am_aload_n (x := o) dX0_turn_10 rfl ?_
    refine am_getR dX0_turn_11 fw_X0_9 ho.1 rfl ?_
    refine am_alen (v := nI 10) dX0_turn_14 ho.2.1 rfl (by decide) ?_
    refine am_icmp_ge (tgt := 27) dX0_turn_15 (by decide) (fun h => ?_) (fun h => ?_)
    · replace hT := hT.1 h
      exact am_return dX0_turn_27 rfl hT
    · replace hT := hT.2 h
      refine am_iload_n (x := v2) dX0_turn_18 rfl ?_
      refine am_aload_n (x := o) dX0_turn_19 rfl ?_
      refine am_getR dX0_turn_20 fw_X0_9 ho.1 rfl ?_
      refine am_alen (v := nI 10) dX0_turn_23 ho.2.1 rfl (by decide) ?_
      refine am_icmp_lt (tgt := 28) dX0_turn_24 (by decide) (fun h => ?_) (fun h => ?_)
      · replace hT := hT.1 h
        refine am_aload_n (x := o) dX0_turn_28 rfl ?_
        refine am_dup dX0_turn_29 rfl ?_
        refine am_getI dX0_turn_30 fw_X0_22 ho.1 rfl ?_
        refine am_iconst (v := (nI 1)) dX0_turn_33 (by decide) ?_
        refine am_iadd dX0_turn_34 ?_
        refine am_putI dX0_turn_35 fw_X0_22 fp_X0_1 ho.1 rfl ?_
        obtain ⟨D2, hD⟩ : ∃ z, z = am_up D o 1 ((D o 1) + (nI 1)) := ⟨_, rfl⟩
        rw [← hD]
        replace hT := hT D2 hD
        clear hD
        refine am_aload_n (x := o) dX0_turn_38 rfl ?_
        refine am_getR dX0_turn_39 fw_X0_9 ho.1 rfl ?_
        refine am_iload_n (x := v1) dX0_turn_42 rfl ?_
        refine am_dup2 dX0_turn_43 rfl rfl ?_
        refine am_iald dX0_turn_44 ho.2.1 hT.1 ?_
        replace hT := hT.2
        refine am_iload_n (x := v2) dX0_turn_45 rfl ?_
        obtain ⟨x3, hm, hT⟩ := hT
        refine am_callSN (av := [.int v2]) (st := [.int (D2 (o + 1) (Int32.toNatClampNeg v1)), .int v1, .ref (o + 1)]) cw_X10_only cl_X0_56 ck_X10_only (Nat.le_of_ble_eq_true rfl) dX0_turn_46 hm (fun r D9 hr => ?_)
        obtain ⟨rfl, e9⟩ := hr
        rw [e9]
        clear e9
        refine am_ixor dX0_turn_49 ?_
        refine am_iast dX0_turn_50 ho.2.1 hT.1 ?_
        obtain ⟨D4, hD⟩ : ∃ z, z = am_up D2 (o + 1) (Int32.toNatClampNeg v1) ((D2 (o + 1) (Int32.toNatClampNeg v1)) ^^^ x3) := ⟨_, rfl⟩
        rw [← hD]
        replace hT := hT.2 D4 hD
        clear hD
        refine am_aload_n (x := o) dX0_turn_51 rfl ?_
        refine am_getR dX0_turn_52 fw_X0_9 ho.1 rfl ?_
        refine am_iload_n (x := v2) dX0_turn_55 rfl ?_
        refine am_dup2 dX0_turn_56 rfl rfl ?_
        refine am_iald dX0_turn_57 ho.2.1 hT.1 ?_
        replace hT := hT.2
        refine am_iload_n (x := v1) dX0_turn_58 rfl ?_
        obtain ⟨x5, hm, hT⟩ := hT
        refine am_callSN (av := [.int v1]) (st := [.int (D4 (o + 1) (Int32.toNatClampNeg v2)), .int v2, .ref (o + 1)]) cw_X10_only cl_X0_56 ck_X10_only (Nat.le_of_ble_eq_true rfl) dX0_turn_59 hm (fun r D9 hr => ?_)
        obtain ⟨rfl, e9⟩ := hr
        rw [e9]
        clear e9
        refine am_ixor dX0_turn_62 ?_
        refine am_iast dX0_turn_63 ho.2.1 hT.1 ?_
        obtain ⟨D6, hD⟩ : ∃ z, z = am_up D4 (o + 1) (Int32.toNatClampNeg v2) ((D4 (o + 1) (Int32.toNatClampNeg v2)) ^^^ x5) := ⟨_, rfl⟩
        rw [← hD]
        replace hT := hT.2 D6 hD
        clear hD
        exact am_return dX0_turn_64 rfl hT
      · replace hT := hT.2 h
        exact am_return dX0_turn_27 rfl hT
set_option maxRecDepth 20000 in
theorem eX0_setWinner {lay : List am_L} {d : Nat} {D : am_D} {Q : Option Value → am_D → Prop} {o : Nat} {v1 : Int32} {v2 : Int32} (ho : isX0 lay o) (hT : (∃ x1, am_MetP lay d mX0_wins [.ref o, .int v1, .int v2] D x1 ∧
 ((¬ x1 = nI 0 → Q none D) ∧
 (¬ (¬ x1 = nI 0) → (∃ D2, am_MetV lay d mX0_turn [.ref o, .int v1, .int v2] D D2 ∧
 Q none D2))))) : am_Met lay (d + 1) mX0_setWinner [.ref o, .int v1, .int v2] D Q := by
  refine am_enter (by decide +kernel) rfl (Nat.le_of_ble_eq_true rfl) ?_
  show am_AW lay (d + 1) mX0_setWinner 0 [.ref o, .int v1, .int v2] [] D Q
  refine am_aload_n (x := o) dX0_setWinner_0 rfl ?_
  refine am_iload_n (x := v1) dX0_setWinner_1 rfl ?_
  refine am_iload_n (x := v2) dX0_setWinner_2 rfl ?_
  obtain ⟨x1, hm, hT⟩ := hT
  refine am_callV (av := [.int v1, .int v2]) (st := []) (b := o) cw_X0_wins cl_X0_74 ck_X0_wins cs_X0_wins ho.1 rfl rfl (Nat.le_of_ble_eq_true rfl) dX0_setWinner_3 hm (fun r D9 hr => ?_)
  obtain ⟨rfl, e9⟩ := hr
  rw [e9]
  clear e9
  refine am_if_ne (tgt := 15) dX0_setWinner_6 (by decide) (fun h => ?_) (fun h => ?_)
  · replace hT := hT.1 h
    exact am_return dX0_setWinner_15 rfl hT
  · replace hT := hT.2 h
    refine am_aload_n (x := o) dX0_setWinner_9 rfl ?_
    refine am_iload_n (x := v1) dX0_setWinner_10 rfl ?_
    refine am_iload_n (x := v2) dX0_setWinner_11 rfl ?_
    obtain ⟨D2, hm, hT⟩ := hT
    refine am_callV (av := [.int v1, .int v2]) (st := []) (b := o) cw_X0_turn cl_X0_77 ck_X0_turn cs_X0_turn ho.1 rfl rfl (Nat.le_of_ble_eq_true rfl) dX0_setWinner_12 hm (fun r D9 hr => ?_)
    obtain ⟨rfl, e9⟩ := hr
    rw [e9]
    clear e9
    exact am_return dX0_setWinner_15 rfl hT
set_option maxRecDepth 20000 in
theorem eX0_weightOf {lay : List am_L} {d : Nat} {D : am_D} {Q : Option Value → am_D → Prop} {o : Nat} {v1 : Int32} {v2 : Int32} (ho : isX0 lay o) (hT : (∃ x1, am_MetP lay d mX0_has [.ref o, .int v1] D x1 ∧
 ((x1 = nI 0 → Q (some (.int (nI 0))) D) ∧
 (¬ (x1 = nI 0) → (∃ x2, am_MetP lay d mX0_has [.ref o, .int v2] D x2 ∧
 ((x2 = nI 0 → Q (some (.int (nI 0))) D) ∧
 (¬ (x2 = nI 0) → ((((v1 * (nI 10)) + v2) < nI 0 → Q (some (.int (nI 0))) D) ∧
 (¬ (((v1 * (nI 10)) + v2) < nI 0) → (((nI 100) ≤ ((v1 * (nI 10)) + v2) → Q (some (.int (nI 0))) D) ∧
 (¬ ((nI 100) ≤ ((v1 * (nI 10)) + v2)) → (vp_in ((v1 * (nI 10)) + v2) 100 ∧ Q (some (.int (D (o + 2) (Int32.toNatClampNeg ((v1 * (nI 10)) + v2))))) D)))))))))))) : am_Met lay (d + 1) mX0_weightOf [.ref o, .int v1, .int v2] D Q := by
  refine am_enter (by decide +kernel) rfl (Nat.le_of_ble_eq_true rfl) ?_
  show am_AW lay (d + 1) mX0_weightOf 0 [.ref o, .int v1, .int v2, .null] [] D Q
  refine am_iload_n (x := v1) dX0_weightOf_0 rfl ?_
  refine am_bipush (v := (nI 10)) dX0_weightOf_1 (by decide) ?_
  refine am_imul dX0_weightOf_3 ?_
  refine am_iload_n (x := v2) dX0_weightOf_4 rfl ?_
  refine am_iadd dX0_weightOf_5 ?_
  refine am_set (am_istore_n dX0_weightOf_6 (by decide)) (L1 := [.ref o, .int v1, .int v2, .int ((v1 * (nI 10)) + v2)]) rfl ?_
  refine am_aload_n (x := o) dX0_weightOf_7 rfl ?_
  refine am_iload_n (x := v1) dX0_weightOf_8 rfl ?_
  obtain ⟨x1, hm, hT⟩ := hT
  refine am_callV (av := [.int v1]) (st := []) (b := o) cw_X0_has cl_X0_44 ck_X0_has cs_X0_has ho.1 rfl rfl (Nat.le_of_ble_eq_true rfl) dX0_weightOf_9 hm (fun r D9 hr => ?_)
  obtain ⟨rfl, e9⟩ := hr
  rw [e9]
  clear e9
  refine am_if_eq (tgt := 45) dX0_weightOf_12 (by decide) (fun h => ?_) (fun h => ?_)
  · replace hT := hT.1 h
    refine am_iconst (v := (nI 0)) dX0_weightOf_45 (by decide) ?_
    exact am_ireturn (ty := .int) dX0_weightOf_46 rfl rfl hT
  · replace hT := hT.2 h
    refine am_aload_n (x := o) dX0_weightOf_15 rfl ?_
    refine am_iload_n (x := v2) dX0_weightOf_16 rfl ?_
    obtain ⟨x2, hm, hT⟩ := hT
    refine am_callV (av := [.int v2]) (st := []) (b := o) cw_X0_has cl_X0_44 ck_X0_has cs_X0_has ho.1 rfl rfl (Nat.le_of_ble_eq_true rfl) dX0_weightOf_17 hm (fun r D9 hr => ?_)
    obtain ⟨rfl, e9⟩ := hr
    rw [e9]
    clear e9
    refine am_if_eq (tgt := 45) dX0_weightOf_20 (by decide) (fun h => ?_) (fun h => ?_)
    · replace hT := hT.1 h
      refine am_iconst (v := (nI 0)) dX0_weightOf_45 (by decide) ?_
      exact am_ireturn (ty := .int) dX0_weightOf_46 rfl rfl hT
    · replace hT := hT.2 h
      refine am_iload_n (x := ((v1 * (nI 10)) + v2)) dX0_weightOf_23 rfl ?_
      refine am_if_lt (tgt := 45) dX0_weightOf_24 (by decide) (fun h => ?_) (fun h => ?_)
      · replace hT := hT.1 h
        refine am_iconst (v := (nI 0)) dX0_weightOf_45 (by decide) ?_
        exact am_ireturn (ty := .int) dX0_weightOf_46 rfl rfl hT
      · replace hT := hT.2 h
        refine am_iload_n (x := ((v1 * (nI 10)) + v2)) dX0_weightOf_27 rfl ?_
        refine am_aload_n (x := o) dX0_weightOf_28 rfl ?_
        refine am_getR dX0_weightOf_29 fw_X0_15 ho.1 rfl ?_
        refine am_alen (v := nI 100) dX0_weightOf_32 ho.2.2 rfl (by decide) ?_
        refine am_icmp_ge (tgt := 45) dX0_weightOf_33 (by decide) (fun h => ?_) (fun h => ?_)
        · replace hT := hT.1 h
          refine am_iconst (v := (nI 0)) dX0_weightOf_45 (by decide) ?_
          exact am_ireturn (ty := .int) dX0_weightOf_46 rfl rfl hT
        · replace hT := hT.2 h
          refine am_aload_n (x := o) dX0_weightOf_36 rfl ?_
          refine am_getR dX0_weightOf_37 fw_X0_15 ho.1 rfl ?_
          refine am_iload_n (x := ((v1 * (nI 10)) + v2)) dX0_weightOf_40 rfl ?_
          refine am_iald dX0_weightOf_41 ho.2.2 hT.1 ?_
          replace hT := hT.2
          refine am_goto (tgt := 46) dX0_weightOf_42 (by decide) ?_
          exact am_ireturn (ty := .int) dX0_weightOf_46 rfl rfl hT
set_option maxRecDepth 20000 in
theorem eX0_putWeight {lay : List am_L} {d : Nat} {D : am_D} {Q : Option Value → am_D → Prop} {o : Nat} {v1 : Int32} {v2 : Int32} {v3 : Int32} (ho : isX0 lay o) (hT : (∃ x1, am_MetP lay d mX0_hasPair [.ref o, .int v1, .int v2] D x1 ∧
 ((x1 = nI 0 → Q none D) ∧
 (¬ (x1 = nI 0) → (((if ((v2 * (nI 10)) + v1) < ((v1 * (nI 10)) + v2) then ((v2 * (nI 10)) + v1) else ((v1 * (nI 10)) + v2)) < nI 0 → Q none D) ∧
 (¬ ((if ((v2 * (nI 10)) + v1) < ((v1 * (nI 10)) + v2) then ((v2 * (nI 10)) + v1) else ((v1 * (nI 10)) + v2)) < nI 0) → (((if ((v1 * (nI 10)) + v2) < ((v2 * (nI 10)) + v1) then ((v2 * (nI 10)) + v1) else ((v1 * (nI 10)) + v2)) < (nI 100) → (∀ D2, D2 = am_up D o 1 ((D o 1) + (nI 1)) →
 (vp_in ((v1 * (nI 10)) + v2) 100 ∧ ∀ D3, D3 = am_up D2 (o + 2) (Int32.toNatClampNeg ((v1 * (nI 10)) + v2)) v3 →
 (vp_in ((v2 * (nI 10)) + v1) 100 ∧ ∀ D4, D4 = am_up D3 (o + 2) (Int32.toNatClampNeg ((v2 * (nI 10)) + v1)) v3 →
 Q none D4)))) ∧
 (¬ ((if ((v1 * (nI 10)) + v2) < ((v2 * (nI 10)) + v1) then ((v2 * (nI 10)) + v1) else ((v1 * (nI 10)) + v2)) < (nI 100)) → Q none D)))))))) : am_Met lay (d + 1) mX0_putWeight [.ref o, .int v1, .int v2, .int v3] D Q := by
  refine am_enter (by decide +kernel) rfl (Nat.le_of_ble_eq_true rfl) ?_
  show am_AW lay (d + 1) mX0_putWeight 0 [.ref o, .int v1, .int v2, .int v3, .null, .null] [] D Q
  refine am_iload_n (x := v1) dX0_putWeight_0 rfl ?_
  refine am_bipush (v := (nI 10)) dX0_putWeight_1 (by decide) ?_
  refine am_imul dX0_putWeight_3 ?_
  refine am_iload_n (x := v2) dX0_putWeight_4 rfl ?_
  refine am_iadd dX0_putWeight_5 ?_
  refine am_set (am_istore dX0_putWeight_6 (by decide)) (L1 := [.ref o, .int v1, .int v2, .int v3, .int ((v1 * (nI 10)) + v2), .null]) rfl ?_
  refine am_iload_n (x := v2) dX0_putWeight_8 rfl ?_
  refine am_bipush (v := (nI 10)) dX0_putWeight_9 (by decide) ?_
  refine am_imul dX0_putWeight_11 ?_
  refine am_iload_n (x := v1) dX0_putWeight_12 rfl ?_
  refine am_iadd dX0_putWeight_13 ?_
  refine am_set (am_istore dX0_putWeight_14 (by decide)) (L1 := [.ref o, .int v1, .int v2, .int v3, .int ((v1 * (nI 10)) + v2), .int ((v2 * (nI 10)) + v1)]) rfl ?_
  refine am_aload_n (x := o) dX0_putWeight_16 rfl ?_
  refine am_iload_n (x := v1) dX0_putWeight_17 rfl ?_
  refine am_iload_n (x := v2) dX0_putWeight_18 rfl ?_
  obtain ⟨x1, hm, hT⟩ := hT
  refine am_callV (av := [.int v1, .int v2]) (st := []) (b := o) cw_X0_hasPair cl_X0_71 ck_X0_hasPair cs_X0_hasPair ho.1 rfl rfl (Nat.le_of_ble_eq_true rfl) dX0_putWeight_19 hm (fun r D9 hr => ?_)
  obtain ⟨rfl, e9⟩ := hr
  rw [e9]
  clear e9
  refine am_if_eq (tgt := 50) dX0_putWeight_22 (by decide) (fun h => ?_) (fun h => ?_)
  · replace hT := hT.1 h
    exact am_return dX0_putWeight_50 rfl hT
  · replace hT := hT.2 h
    refine am_iload (x := ((v1 * (nI 10)) + v2)) dX0_putWeight_25 rfl ?_
    refine am_iload (x := ((v2 * (nI 10)) + v1)) dX0_putWeight_27 rfl ?_
    refine am_min dX0_putWeight_29 cl_X0_26 (Nat.le_of_ble_eq_true rfl) ?_
    refine am_if_lt (tgt := 50) dX0_putWeight_32 (by decide) (fun h => ?_) (fun h => ?_)
    · replace hT := hT.1 h
      exact am_return dX0_putWeight_50 rfl hT
    · replace hT := hT.2 h
      refine am_iload (x := ((v1 * (nI 10)) + v2)) dX0_putWeight_35 rfl ?_
      refine am_iload (x := ((v2 * (nI 10)) + v1)) dX0_putWeight_37 rfl ?_
      refine am_max dX0_putWeight_39 cl_X0_32 (Nat.le_of_ble_eq_true rfl) ?_
      refine am_aload_n (x := o) dX0_putWeight_42 rfl ?_
      refine am_getR dX0_putWeight_43 fw_X0_15 ho.1 rfl ?_
      refine am_alen (v := nI 100) dX0_putWeight_46 ho.2.2 rfl (by decide) ?_
      refine am_icmp_lt (tgt := 51) dX0_putWeight_47 (by decide) (fun h => ?_) (fun h => ?_)
      · replace hT := hT.1 h
        refine am_aload_n (x := o) dX0_putWeight_51 rfl ?_
        refine am_dup dX0_putWeight_52 rfl ?_
        refine am_getI dX0_putWeight_53 fw_X0_22 ho.1 rfl ?_
        refine am_iconst (v := (nI 1)) dX0_putWeight_56 (by decide) ?_
        refine am_iadd dX0_putWeight_57 ?_
        refine am_putI dX0_putWeight_58 fw_X0_22 fp_X0_1 ho.1 rfl ?_
        obtain ⟨D2, hD⟩ : ∃ z, z = am_up D o 1 ((D o 1) + (nI 1)) := ⟨_, rfl⟩
        rw [← hD]
        replace hT := hT D2 hD
        clear hD
        refine am_aload_n (x := o) dX0_putWeight_61 rfl ?_
        refine am_getR dX0_putWeight_62 fw_X0_15 ho.1 rfl ?_
        refine am_iload (x := ((v1 * (nI 10)) + v2)) dX0_putWeight_65 rfl ?_
        refine am_iload_n (x := v3) dX0_putWeight_67 rfl ?_
        refine am_iast dX0_putWeight_68 ho.2.2 hT.1 ?_
        obtain ⟨D3, hD⟩ : ∃ z, z = am_up D2 (o + 2) (Int32.toNatClampNeg ((v1 * (nI 10)) + v2)) v3 := ⟨_, rfl⟩
        rw [← hD]
        replace hT := hT.2 D3 hD
        clear hD
        refine am_aload_n (x := o) dX0_putWeight_69 rfl ?_
        refine am_getR dX0_putWeight_70 fw_X0_15 ho.1 rfl ?_
        refine am_iload (x := ((v2 * (nI 10)) + v1)) dX0_putWeight_73 rfl ?_
        refine am_iload_n (x := v3) dX0_putWeight_75 rfl ?_
        refine am_iast dX0_putWeight_76 ho.2.2 hT.1 ?_
        obtain ⟨D4, hD⟩ : ∃ z, z = am_up D3 (o + 2) (Int32.toNatClampNeg ((v2 * (nI 10)) + v1)) v3 := ⟨_, rfl⟩
        rw [← hD]
        replace hT := hT.2 D4 hD
        clear hD
        exact am_return dX0_putWeight_77 rfl hT
      · replace hT := hT.2 h
        exact am_return dX0_putWeight_50 rfl hT
set_option maxRecDepth 20000 in
theorem eX0_swap {lay : List am_L} {d : Nat} {D : am_D} {Q : Option Value → am_D → Prop} {o : Nat} {v1 : Int32} {v2 : Int32} (ho : isX0 lay o) (hT : am_AW lay (d + 1) mX0_swap 2 [.ref o, .int v1, .int v2, .int (nI 0)] [] D Q) : am_Met lay (d + 1) mX0_swap [.ref o, .int v1, .int v2] D Q := by
  refine am_enter (by decide +kernel) rfl (Nat.le_of_ble_eq_true rfl) ?_
  show am_AW lay (d + 1) mX0_swap 0 [.ref o, .int v1, .int v2, .null] [] D Q
  refine am_iconst (v := (nI 0)) dX0_swap_0 (by decide) ?_
  refine am_set (am_istore_n dX0_swap_1 (by decide)) (L1 := [.ref o, .int v1, .int v2, .int (nI 0)]) rfl ?_
  exact hT
set_option maxRecDepth 20000 in
theorem rX0_swap_2 {lay : List am_L} {d : Nat} {D : am_D} {Q : Option Value → am_D → Prop} {o : Nat} {v1 : Int32} {v2 : Int32} {v3 : Int32} (ho : isX0 lay o) (hT : (((D o 0) ≤ v3 → (∃ D1, am_MetV lay d mX0_turn [.ref o, .int v1, .int v2] D D1 ∧
 Q none D1)) ∧
 (¬ ((D o 0) ≤ v3) → (∃ x2, am_MetP lay d mX0_hasPair [.ref o, .int v1, .int v3] D x2 ∧
 ((x2 = nI 0 → am_AW lay (d + 1) mX0_swap 2 [.ref o, .int v1, .int v2, .int (v3 + (nI 1))] [] D Q) ∧
 (¬ (x2 = nI 0) → (∃ x3, am_MetP lay d mX0_hasPair [.ref o, .int v2, .int v3] D x3 ∧
 ((x3 = nI 0 → am_AW lay (d + 1) mX0_swap 2 [.ref o, .int v1, .int v2, .int (v3 + (nI 1))] [] D Q) ∧
 (¬ (x3 = nI 0) → (∃ D4, am_MetV lay d mX0_swapAgainst [.ref o, .int v1, .int v2, .int v3] D D4 ∧
 am_AW lay (d + 1) mX0_swap 2 [.ref o, .int v1, .int v2, .int (v3 + (nI 1))] [] D4 Q)))))))))) : am_AW lay (d + 1) mX0_swap 2 [.ref o, .int v1, .int v2, .int v3] [] D Q := by
  refine am_iload_n (x := v3) dX0_swap_2 rfl ?_
  refine am_aload_n (x := o) dX0_swap_3 rfl ?_
  refine am_getI dX0_swap_4 fw_X0_35 ho.1 rfl ?_
  refine am_icmp_ge (tgt := 41) dX0_swap_7 (by decide) (fun h => ?_) (fun h => ?_)
  · replace hT := hT.1 h
    refine am_aload_n (x := o) dX0_swap_41 rfl ?_
    refine am_iload_n (x := v1) dX0_swap_42 rfl ?_
    refine am_iload_n (x := v2) dX0_swap_43 rfl ?_
    obtain ⟨D1, hm, hT⟩ := hT
    refine am_callV (av := [.int v1, .int v2]) (st := []) (b := o) cw_X0_turn cl_X0_77 ck_X0_turn cs_X0_turn ho.1 rfl rfl (Nat.le_of_ble_eq_true rfl) dX0_swap_44 hm (fun r D9 hr => ?_)
    obtain ⟨rfl, e9⟩ := hr
    rw [e9]
    clear e9
    exact am_return dX0_swap_47 rfl hT
  · replace hT := hT.2 h
    refine am_aload_n (x := o) dX0_swap_10 rfl ?_
    refine am_iload_n (x := v1) dX0_swap_11 rfl ?_
    refine am_iload_n (x := v3) dX0_swap_12 rfl ?_
    obtain ⟨x2, hm, hT⟩ := hT
    refine am_callV (av := [.int v1, .int v3]) (st := []) (b := o) cw_X0_hasPair cl_X0_71 ck_X0_hasPair cs_X0_hasPair ho.1 rfl rfl (Nat.le_of_ble_eq_true rfl) dX0_swap_13 hm (fun r D9 hr => ?_)
    obtain ⟨rfl, e9⟩ := hr
    rw [e9]
    clear e9
    refine am_if_eq (tgt := 35) dX0_swap_16 (by decide) (fun h => ?_) (fun h => ?_)
    · replace hT := hT.1 h
      refine am_set (am_iinc (x := v3) (c0 := (nI 1)) dX0_swap_35 (by decide) rfl (by decide)) (L1 := [.ref o, .int v1, .int v2, .int (v3 + (nI 1))]) rfl ?_
      refine am_goto (tgt := 2) dX0_swap_38 (by decide) ?_
      exact hT
    · replace hT := hT.2 h
      refine am_aload_n (x := o) dX0_swap_19 rfl ?_
      refine am_iload_n (x := v2) dX0_swap_20 rfl ?_
      refine am_iload_n (x := v3) dX0_swap_21 rfl ?_
      obtain ⟨x3, hm, hT⟩ := hT
      refine am_callV (av := [.int v2, .int v3]) (st := []) (b := o) cw_X0_hasPair cl_X0_71 ck_X0_hasPair cs_X0_hasPair ho.1 rfl rfl (Nat.le_of_ble_eq_true rfl) dX0_swap_22 hm (fun r D9 hr => ?_)
      obtain ⟨rfl, e9⟩ := hr
      rw [e9]
      clear e9
      refine am_if_eq (tgt := 35) dX0_swap_25 (by decide) (fun h => ?_) (fun h => ?_)
      · replace hT := hT.1 h
        refine am_set (am_iinc (x := v3) (c0 := (nI 1)) dX0_swap_35 (by decide) rfl (by decide)) (L1 := [.ref o, .int v1, .int v2, .int (v3 + (nI 1))]) rfl ?_
        refine am_goto (tgt := 2) dX0_swap_38 (by decide) ?_
        exact hT
      · replace hT := hT.2 h
        refine am_aload_n (x := o) dX0_swap_28 rfl ?_
        refine am_iload_n (x := v1) dX0_swap_29 rfl ?_
        refine am_iload_n (x := v2) dX0_swap_30 rfl ?_
        refine am_iload_n (x := v3) dX0_swap_31 rfl ?_
        obtain ⟨D4, hm, hT⟩ := hT
        refine am_callV (av := [.int v1, .int v2, .int v3]) (st := []) (b := o) cw_X0_swapAgainst cl_X0_81 ck_X0_swapAgainst cs_X0_swapAgainst ho.1 rfl rfl (Nat.le_of_ble_eq_true rfl) dX0_swap_32 hm (fun r D9 hr => ?_)
        obtain ⟨rfl, e9⟩ := hr
        rw [e9]
        clear e9
        refine am_set (am_iinc (x := v3) (c0 := (nI 1)) dX0_swap_35 (by decide) rfl (by decide)) (L1 := [.ref o, .int v1, .int v2, .int (v3 + (nI 1))]) rfl ?_
        refine am_goto (tgt := 2) dX0_swap_38 (by decide) ?_
        exact hT
set_option maxRecDepth 20000 in
theorem eX0_swapAgainst {lay : List am_L} {d : Nat} {D : am_D} {Q : Option Value → am_D → Prop} {o : Nat} {v1 : Int32} {v2 : Int32} {v3 : Int32} (ho : isX0 lay o) (hT : (∃ x1, am_MetP lay d mX0_weightOf [.ref o, .int v1, .int v3] D x1 ∧
 (∃ x2, am_MetP lay d mX0_weightOf [.ref o, .int v2, .int v3] D x2 ∧
 (∃ D3, am_MetV lay d mX0_putWeight [.ref o, .int v1, .int v3, .int x2] D D3 ∧
 (∃ D4, am_MetV lay d mX0_putWeight [.ref o, .int v2, .int v3, .int x1] D3 D4 ∧
 (∃ x5, am_MetP lay d mX0_wins [.ref o, .int v1, .int v3] D4 x5 ∧
 (∃ x6, am_MetP lay d mX0_wins [.ref o, .int v2, .int v3] D4 x6 ∧
 ((x5 = x6 → Q none D4) ∧
 (¬ (x5 = x6) → (∃ D7, am_MetV lay d mX0_turn [.ref o, .int v1, .int v3] D4 D7 ∧
 (∃ D8, am_MetV lay d mX0_turn [.ref o, .int v2, .int v3] D7 D8 ∧
 Q none D8))))))))))) : am_Met lay (d + 1) mX0_swapAgainst [.ref o, .int v1, .int v2, .int v3] D Q := by
  refine am_enter (by decide +kernel) rfl (Nat.le_of_ble_eq_true rfl) ?_
  show am_AW lay (d + 1) mX0_swapAgainst 0 [.ref o, .int v1, .int v2, .int v3, .null] [] D Q
  refine am_aload_n (x := o) dX0_swapAgainst_0 rfl ?_
  refine am_iload_n (x := v1) dX0_swapAgainst_1 rfl ?_
  refine am_iload_n (x := v3) dX0_swapAgainst_2 rfl ?_
  obtain ⟨x1, hm, hT⟩ := hT
  refine am_callV (av := [.int v1, .int v3]) (st := []) (b := o) cw_X0_weightOf cl_X0_85 ck_X0_weightOf cs_X0_weightOf ho.1 rfl rfl (Nat.le_of_ble_eq_true rfl) dX0_swapAgainst_3 hm (fun r D9 hr => ?_)
  obtain ⟨rfl, e9⟩ := hr
  rw [e9]
  clear e9
  refine am_set (am_istore dX0_swapAgainst_6 (by decide)) (L1 := [.ref o, .int v1, .int v2, .int v3, .int x1]) rfl ?_
  refine am_aload_n (x := o) dX0_swapAgainst_8 rfl ?_
  refine am_iload_n (x := v1) dX0_swapAgainst_9 rfl ?_
  refine am_iload_n (x := v3) dX0_swapAgainst_10 rfl ?_
  refine am_aload_n (x := o) dX0_swapAgainst_11 rfl ?_
  refine am_iload_n (x := v2) dX0_swapAgainst_12 rfl ?_
  refine am_iload_n (x := v3) dX0_swapAgainst_13 rfl ?_
  obtain ⟨x2, hm, hT⟩ := hT
  refine am_callV (av := [.int v2, .int v3]) (st := [.int v3, .int v1, .ref o]) (b := o) cw_X0_weightOf cl_X0_85 ck_X0_weightOf cs_X0_weightOf ho.1 rfl rfl (Nat.le_of_ble_eq_true rfl) dX0_swapAgainst_14 hm (fun r D9 hr => ?_)
  obtain ⟨rfl, e9⟩ := hr
  rw [e9]
  clear e9
  obtain ⟨D3, hm, hT⟩ := hT
  refine am_callV (av := [.int v1, .int v3, .int x2]) (st := []) (b := o) cw_X0_putWeight cl_X0_88 ck_X0_putWeight cs_X0_putWeight ho.1 rfl rfl (Nat.le_of_ble_eq_true rfl) dX0_swapAgainst_17 hm (fun r D9 hr => ?_)
  obtain ⟨rfl, e9⟩ := hr
  rw [e9]
  clear e9
  refine am_aload_n (x := o) dX0_swapAgainst_20 rfl ?_
  refine am_iload_n (x := v2) dX0_swapAgainst_21 rfl ?_
  refine am_iload_n (x := v3) dX0_swapAgainst_22 rfl ?_
  refine am_iload (x := x1) dX0_swapAgainst_23 rfl ?_
  obtain ⟨D4, hm, hT⟩ := hT
  refine am_callV (av := [.int v2, .int v3, .int x1]) (st := []) (b := o) cw_X0_putWeight cl_X0_88 ck_X0_putWeight cs_X0_putWeight ho.1 rfl rfl (Nat.le_of_ble_eq_true rfl) dX0_swapAgainst_25 hm (fun r D9 hr => ?_)
  obtain ⟨rfl, e9⟩ := hr
  rw [e9]
  clear e9
  refine am_aload_n (x := o) dX0_swapAgainst_28 rfl ?_
  refine am_iload_n (x := v1) dX0_swapAgainst_29 rfl ?_
  refine am_iload_n (x := v3) dX0_swapAgainst_30 rfl ?_
  obtain ⟨x5, hm, hT⟩ := hT
  refine am_callV (av := [.int v1, .int v3]) (st := []) (b := o) cw_X0_wins cl_X0_74 ck_X0_wins cs_X0_wins ho.1 rfl rfl (Nat.le_of_ble_eq_true rfl) dX0_swapAgainst_31 hm (fun r D9 hr => ?_)
  obtain ⟨rfl, e9⟩ := hr
  rw [e9]
  clear e9
  refine am_aload_n (x := o) dX0_swapAgainst_34 rfl ?_
  refine am_iload_n (x := v2) dX0_swapAgainst_35 rfl ?_
  refine am_iload_n (x := v3) dX0_swapAgainst_36 rfl ?_
  obtain ⟨x6, hm, hT⟩ := hT
  refine am_callV (av := [.int v2, .int v3]) (st := [.int x5]) (b := o) cw_X0_wins cl_X0_74 ck_X0_wins cs_X0_wins ho.1 rfl rfl (Nat.le_of_ble_eq_true rfl) dX0_swapAgainst_37 hm (fun r D9 hr => ?_)
  obtain ⟨rfl, e9⟩ := hr
  rw [e9]
  clear e9
  refine am_icmp_eq (tgt := 55) dX0_swapAgainst_40 (by decide) (fun h => ?_) (fun h => ?_)
  · replace hT := hT.1 h
    exact am_return dX0_swapAgainst_55 rfl hT
  · replace hT := hT.2 h
    refine am_aload_n (x := o) dX0_swapAgainst_43 rfl ?_
    refine am_iload_n (x := v1) dX0_swapAgainst_44 rfl ?_
    refine am_iload_n (x := v3) dX0_swapAgainst_45 rfl ?_
    obtain ⟨D7, hm, hT⟩ := hT
    refine am_callV (av := [.int v1, .int v3]) (st := []) (b := o) cw_X0_turn cl_X0_77 ck_X0_turn cs_X0_turn ho.1 rfl rfl (Nat.le_of_ble_eq_true rfl) dX0_swapAgainst_46 hm (fun r D9 hr => ?_)
    obtain ⟨rfl, e9⟩ := hr
    rw [e9]
    clear e9
    refine am_aload_n (x := o) dX0_swapAgainst_49 rfl ?_
    refine am_iload_n (x := v2) dX0_swapAgainst_50 rfl ?_
    refine am_iload_n (x := v3) dX0_swapAgainst_51 rfl ?_
    obtain ⟨D8, hm, hT⟩ := hT
    refine am_callV (av := [.int v2, .int v3]) (st := []) (b := o) cw_X0_turn cl_X0_77 ck_X0_turn cs_X0_turn ho.1 rfl rfl (Nat.le_of_ble_eq_true rfl) dX0_swapAgainst_52 hm (fun r D9 hr => ?_)
    obtain ⟨rfl, e9⟩ := hr
    rw [e9]
    clear e9
    exact am_return dX0_swapAgainst_55 rfl hT
set_option maxRecDepth 20000 in
theorem eX0_isTriangle {lay : List am_L} {d : Nat} {D : am_D} {Q : Option Value → am_D → Prop} {o : Nat} {v1 : Int32} {v2 : Int32} {v3 : Int32} (ho : isX0 lay o) (hT : (∃ x1, am_MetP lay d mX0_wins [.ref o, .int v1, .int v2] D x1 ∧
 (∃ x2, am_MetP lay d mX0_wins [.ref o, .int v2, .int v3] D x2 ∧
 ((¬ x1 = x2 → Q (some (.int (nI 0))) D) ∧
 (¬ (¬ x1 = x2) → (∃ x3, am_MetP lay d mX0_wins [.ref o, .int v2, .int v3] D x3 ∧
 (∃ x4, am_MetP lay d mX0_wins [.ref o, .int v3, .int v1] D x4 ∧
 ((¬ x3 = x4 → Q (some (.int (nI 0))) D) ∧
 (¬ (¬ x3 = x4) → Q (some (.int (nI 1))) D))))))))) : am_Met lay (d + 1) mX0_isTriangle [.ref o, .int v1, .int v2, .int v3] D Q := by
  refine am_enter (by decide +kernel) rfl (Nat.le_of_ble_eq_true rfl) ?_
  show am_AW lay (d + 1) mX0_isTriangle 0 [.ref o, .int v1, .int v2, .int v3] [] D Q
  refine am_aload_n (x := o) dX0_isTriangle_0 rfl ?_
  refine am_iload_n (x := v1) dX0_isTriangle_1 rfl ?_
  refine am_iload_n (x := v2) dX0_isTriangle_2 rfl ?_
  obtain ⟨x1, hm, hT⟩ := hT
  refine am_callV (av := [.int v1, .int v2]) (st := []) (b := o) cw_X0_wins cl_X0_74 ck_X0_wins cs_X0_wins ho.1 rfl rfl (Nat.le_of_ble_eq_true rfl) dX0_isTriangle_3 hm (fun r D9 hr => ?_)
  obtain ⟨rfl, e9⟩ := hr
  rw [e9]
  clear e9
  refine am_aload_n (x := o) dX0_isTriangle_6 rfl ?_
  refine am_iload_n (x := v2) dX0_isTriangle_7 rfl ?_
  refine am_iload_n (x := v3) dX0_isTriangle_8 rfl ?_
  obtain ⟨x2, hm, hT⟩ := hT
  refine am_callV (av := [.int v2, .int v3]) (st := [.int x1]) (b := o) cw_X0_wins cl_X0_74 ck_X0_wins cs_X0_wins ho.1 rfl rfl (Nat.le_of_ble_eq_true rfl) dX0_isTriangle_9 hm (fun r D9 hr => ?_)
  obtain ⟨rfl, e9⟩ := hr
  rw [e9]
  clear e9
  refine am_icmp_ne (tgt := 34) dX0_isTriangle_12 (by decide) (fun h => ?_) (fun h => ?_)
  · replace hT := hT.1 h
    refine am_iconst (v := (nI 0)) dX0_isTriangle_34 (by decide) ?_
    exact am_ireturn (ty := .boolean) dX0_isTriangle_35 rfl (by decide) hT
  · replace hT := hT.2 h
    refine am_aload_n (x := o) dX0_isTriangle_15 rfl ?_
    refine am_iload_n (x := v2) dX0_isTriangle_16 rfl ?_
    refine am_iload_n (x := v3) dX0_isTriangle_17 rfl ?_
    obtain ⟨x3, hm, hT⟩ := hT
    refine am_callV (av := [.int v2, .int v3]) (st := []) (b := o) cw_X0_wins cl_X0_74 ck_X0_wins cs_X0_wins ho.1 rfl rfl (Nat.le_of_ble_eq_true rfl) dX0_isTriangle_18 hm (fun r D9 hr => ?_)
    obtain ⟨rfl, e9⟩ := hr
    rw [e9]
    clear e9
    refine am_aload_n (x := o) dX0_isTriangle_21 rfl ?_
    refine am_iload_n (x := v3) dX0_isTriangle_22 rfl ?_
    refine am_iload_n (x := v1) dX0_isTriangle_23 rfl ?_
    obtain ⟨x4, hm, hT⟩ := hT
    refine am_callV (av := [.int v3, .int v1]) (st := [.int x3]) (b := o) cw_X0_wins cl_X0_74 ck_X0_wins cs_X0_wins ho.1 rfl rfl (Nat.le_of_ble_eq_true rfl) dX0_isTriangle_24 hm (fun r D9 hr => ?_)
    obtain ⟨rfl, e9⟩ := hr
    rw [e9]
    clear e9
    refine am_icmp_ne (tgt := 34) dX0_isTriangle_27 (by decide) (fun h => ?_) (fun h => ?_)
    · replace hT := hT.1 h
      refine am_iconst (v := (nI 0)) dX0_isTriangle_34 (by decide) ?_
      exact am_ireturn (ty := .boolean) dX0_isTriangle_35 rfl (by decide) hT
    · replace hT := hT.2 h
      refine am_iconst (v := (nI 1)) dX0_isTriangle_30 (by decide) ?_
      refine am_goto (tgt := 35) dX0_isTriangle_31 (by decide) ?_
      exact am_ireturn (ty := .boolean) dX0_isTriangle_35 rfl (by decide) hT
set_option maxRecDepth 20000 in
theorem eX0_countTriangles {lay : List am_L} {d : Nat} {D : am_D} {Q : Option Value → am_D → Prop} {o : Nat} (ho : isX0 lay o) (hT : am_AW lay (d + 1) mX0_countTriangles 24 [.ref o, .int ((((D o 0) * ((D o 0) - (nI 1))) * ((D o 0) - (nI 2))) / (nI 6)), .int (nI 0)] [] D Q) : am_Met lay (d + 1) mX0_countTriangles [.ref o] D Q := by
  refine am_enter (by decide +kernel) rfl (Nat.le_of_ble_eq_true rfl) ?_
  show am_AW lay (d + 1) mX0_countTriangles 0 [.ref o, .null, .null] [] D Q
  refine am_aload_n (x := o) dX0_countTriangles_0 rfl ?_
  refine am_getI dX0_countTriangles_1 fw_X0_35 ho.1 rfl ?_
  refine am_aload_n (x := o) dX0_countTriangles_4 rfl ?_
  refine am_getI dX0_countTriangles_5 fw_X0_35 ho.1 rfl ?_
  refine am_iconst (v := (nI 1)) dX0_countTriangles_8 (by decide) ?_
  refine am_isub dX0_countTriangles_9 ?_
  refine am_imul dX0_countTriangles_10 ?_
  refine am_aload_n (x := o) dX0_countTriangles_11 rfl ?_
  refine am_getI dX0_countTriangles_12 fw_X0_35 ho.1 rfl ?_
  refine am_iconst (v := (nI 2)) dX0_countTriangles_15 (by decide) ?_
  refine am_isub dX0_countTriangles_16 ?_
  refine am_imul dX0_countTriangles_17 ?_
  refine am_bipush (v := (nI 6)) dX0_countTriangles_18 (by decide) ?_
  refine am_idiv dX0_countTriangles_20 (by decide) ?_
  refine am_set (am_istore_n dX0_countTriangles_21 (by decide)) (L1 := [.ref o, .int ((((D o 0) * ((D o 0) - (nI 1))) * ((D o 0) - (nI 2))) / (nI 6)), .null]) rfl ?_
  refine am_iconst (v := (nI 0)) dX0_countTriangles_22 (by decide) ?_
  refine am_set (am_istore_n dX0_countTriangles_23 (by decide)) (L1 := [.ref o, .int ((((D o 0) * ((D o 0) - (nI 1))) * ((D o 0) - (nI 2))) / (nI 6)), .int (nI 0)]) rfl ?_
  exact hT
set_option maxRecDepth 20000 in
theorem rX0_countTriangles_24 {lay : List am_L} {d : Nat} {D : am_D} {Q : Option Value → am_D → Prop} {o : Nat} {v1 : Int32} {v2 : Int32} (ho : isX0 lay o) (hT : (((D o 0) ≤ v2 → Q (some (.int v1)) D) ∧
 (¬ ((D o 0) ≤ v2) → (∃ x1, am_MetP lay d mX0_winsOf [.ref o, .int v2] D x1 ∧
 (∃ x2, am_MetP lay d mX0_winsOf [.ref o, .int v2] D x2 ∧
 am_AW lay (d + 1) mX0_countTriangles 24 [.ref o, .int (v1 - ((x1 * (x2 - (nI 1))) / (nI 2))), .int (v2 + (nI 1))] [] D Q))))) : am_AW lay (d + 1) mX0_countTriangles 24 [.ref o, .int v1, .int v2] [] D Q := by
  refine am_iload_n (x := v2) dX0_countTriangles_24 rfl ?_
  refine am_aload_n (x := o) dX0_countTriangles_25 rfl ?_
  refine am_getI dX0_countTriangles_26 fw_X0_35 ho.1 rfl ?_
  refine am_icmp_ge (tgt := 56) dX0_countTriangles_29 (by decide) (fun h => ?_) (fun h => ?_)
  · replace hT := hT.1 h
    refine am_iload_n (x := v1) dX0_countTriangles_56 rfl ?_
    exact am_ireturn (ty := .int) dX0_countTriangles_57 rfl rfl hT
  · replace hT := hT.2 h
    refine am_iload_n (x := v1) dX0_countTriangles_32 rfl ?_
    refine am_aload_n (x := o) dX0_countTriangles_33 rfl ?_
    refine am_iload_n (x := v2) dX0_countTriangles_34 rfl ?_
    obtain ⟨x1, hm, hT⟩ := hT
    refine am_callV (av := [.int v2]) (st := [.int v1]) (b := o) cw_X0_winsOf cl_X0_68 ck_X0_winsOf cs_X0_winsOf ho.1 rfl rfl (Nat.le_of_ble_eq_true rfl) dX0_countTriangles_35 hm (fun r D9 hr => ?_)
    obtain ⟨rfl, e9⟩ := hr
    rw [e9]
    clear e9
    refine am_aload_n (x := o) dX0_countTriangles_38 rfl ?_
    refine am_iload_n (x := v2) dX0_countTriangles_39 rfl ?_
    obtain ⟨x2, hm, hT⟩ := hT
    refine am_callV (av := [.int v2]) (st := [.int x1, .int v1]) (b := o) cw_X0_winsOf cl_X0_68 ck_X0_winsOf cs_X0_winsOf ho.1 rfl rfl (Nat.le_of_ble_eq_true rfl) dX0_countTriangles_40 hm (fun r D9 hr => ?_)
    obtain ⟨rfl, e9⟩ := hr
    rw [e9]
    clear e9
    refine am_iconst (v := (nI 1)) dX0_countTriangles_43 (by decide) ?_
    refine am_isub dX0_countTriangles_44 ?_
    refine am_imul dX0_countTriangles_45 ?_
    refine am_iconst (v := (nI 2)) dX0_countTriangles_46 (by decide) ?_
    refine am_idiv dX0_countTriangles_47 (by decide) ?_
    refine am_isub dX0_countTriangles_48 ?_
    refine am_set (am_istore_n dX0_countTriangles_49 (by decide)) (L1 := [.ref o, .int (v1 - ((x1 * (x2 - (nI 1))) / (nI 2))), .int v2]) rfl ?_
    refine am_set (am_iinc (x := v2) (c0 := (nI 1)) dX0_countTriangles_50 (by decide) rfl (by decide)) (L1 := [.ref o, .int (v1 - ((x1 * (x2 - (nI 1))) / (nI 2))), .int (v2 + (nI 1))]) rfl ?_
    refine am_goto (tgt := 24) dX0_countTriangles_53 (by decide) ?_
    exact hT
set_option maxRecDepth 20000 in
theorem eX0_costOfBefore {lay : List am_L} {d : Nat} {D : am_D} {Q : Option Value → am_D → Prop} {o : Nat} {v1 : Int32} {v2 : Int32} (ho : isX0 lay o) (hT : (∃ x1, am_MetP lay d mX0_wins [.ref o, .int v2, .int v1] D x1 ∧
 ((x1 = nI 0 → Q (some (.int (nI 0))) D) ∧
 (¬ (x1 = nI 0) → (∃ x2, am_MetP lay d mX0_weightOf [.ref o, .int v1, .int v2] D x2 ∧
 Q (some (.int x2)) D))))) : am_Met lay (d + 1) mX0_costOfBefore [.ref o, .int v1, .int v2] D Q := by
  refine am_enter (by decide +kernel) rfl (Nat.le_of_ble_eq_true rfl) ?_
  show am_AW lay (d + 1) mX0_costOfBefore 0 [.ref o, .int v1, .int v2] [] D Q
  refine am_aload_n (x := o) dX0_costOfBefore_0 rfl ?_
  refine am_iload_n (x := v2) dX0_costOfBefore_1 rfl ?_
  refine am_iload_n (x := v1) dX0_costOfBefore_2 rfl ?_
  obtain ⟨x1, hm, hT⟩ := hT
  refine am_callV (av := [.int v2, .int v1]) (st := []) (b := o) cw_X0_wins cl_X0_74 ck_X0_wins cs_X0_wins ho.1 rfl rfl (Nat.le_of_ble_eq_true rfl) dX0_costOfBefore_3 hm (fun r D9 hr => ?_)
  obtain ⟨rfl, e9⟩ := hr
  rw [e9]
  clear e9
  refine am_if_eq (tgt := 18) dX0_costOfBefore_6 (by decide) (fun h => ?_) (fun h => ?_)
  · replace hT := hT.1 h
    refine am_iconst (v := (nI 0)) dX0_costOfBefore_18 (by decide) ?_
    exact am_ireturn (ty := .int) dX0_costOfBefore_19 rfl rfl hT
  · replace hT := hT.2 h
    refine am_aload_n (x := o) dX0_costOfBefore_9 rfl ?_
    refine am_iload_n (x := v1) dX0_costOfBefore_10 rfl ?_
    refine am_iload_n (x := v2) dX0_costOfBefore_11 rfl ?_
    obtain ⟨x2, hm, hT⟩ := hT
    refine am_callV (av := [.int v1, .int v2]) (st := []) (b := o) cw_X0_weightOf cl_X0_85 ck_X0_weightOf cs_X0_weightOf ho.1 rfl rfl (Nat.le_of_ble_eq_true rfl) dX0_costOfBefore_12 hm (fun r D9 hr => ?_)
    obtain ⟨rfl, e9⟩ := hr
    rw [e9]
    clear e9
    refine am_goto (tgt := 19) dX0_costOfBefore_15 (by decide) ?_
    exact am_ireturn (ty := .int) dX0_costOfBefore_19 rfl rfl hT
