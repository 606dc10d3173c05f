set_option maxRecDepth 20000 in
theorem eX5_learn {lay : List am_L} {d : Nat} {D : am_D} {Q : Option Value → am_D → Prop} {o : Nat} {v1 : Nat} (ho : isX5 lay o) (h1 : isX0 lay v1) (hT : (∃ x1, am_MetP lay d mX0_stamp [.ref v1] D x1 ∧
 ((¬ (D o 3) = x1 → (∃ x2, am_MetP lay d mX0_stamp [.ref v1] D x2 ∧
 (∀ D3, D3 = am_up D o 3 x2 →
 am_AW lay (d + 1) mX5_learn 22 [.ref o, .ref v1, .int (nI 0), .null] [] D3 Q))) ∧
 (¬ (¬ (D o 3) = x1) → Q none D)))) : am_Met lay (d + 1) mX5_learn [.ref o, .ref v1] D Q := by
  refine am_enter (by decide +kernel) rfl (Nat.le_of_ble_eq_true rfl) ?_
  show am_AW lay (d + 1) mX5_learn 0 [.ref o, .ref v1, .null, .null] [] D Q
  refine am_aload_n (x := o) dX5_learn_0 rfl ?_
  refine am_getI dX5_learn_1 fw_X5_21 ho.1 rfl ?_
  refine am_aload_n (x := v1) dX5_learn_4 rfl ?_
  obtain ⟨x1, hm, hT⟩ := hT
  refine am_callV (av := []) (st := [.int (D o 3)]) (b := v1) cw_X0_stamp cl_X5_25 ck_X0_stamp cs_X0_stamp h1.1 rfl rfl (Nat.le_of_ble_eq_true rfl) dX5_learn_5 hm (fun r D9 hr => ?_)
  obtain ⟨rfl, e9⟩ := hr
  rw [e9]
  clear e9
  refine am_icmp_ne (tgt := 12) dX5_learn_8 (by decide) (fun h => ?_) (fun h => ?_)
  · replace hT := hT.1 h
    refine am_aload_n (x := o) dX5_learn_12 rfl ?_
    refine am_aload_n (x := v1) dX5_learn_13 rfl ?_
    obtain ⟨x2, hm, hT⟩ := hT
    refine am_callV (av := []) (st := [.ref o]) (b := v1) cw_X0_stamp cl_X5_25 ck_X0_stamp cs_X0_stamp h1.1 rfl rfl (Nat.le_of_ble_eq_true rfl) dX5_learn_14 hm (fun r D9 hr => ?_)
    obtain ⟨rfl, e9⟩ := hr
    rw [e9]
    clear e9
    refine am_putI dX5_learn_17 fw_X5_21 fp_X5_3 ho.1 rfl ?_
    obtain ⟨D3, hD⟩ : ∃ z, z = am_up D o 3 x2 := ⟨_, rfl⟩
    rw [← hD]
    replace hT := hT D3 hD
    clear hD
    refine am_iconst (v := (nI 0)) dX5_learn_20 (by decide) ?_
    refine am_set (am_istore_n dX5_learn_21 (by decide)) (L1 := [.ref o, .ref v1, .int (nI 0), .null]) rfl ?_
    exact hT
  · replace hT := hT.2 h
    exact am_return dX5_learn_11 rfl hT
set_option maxRecDepth 20000 in
theorem rX5_learn_22 {lay : List am_L} {d : Nat} {D : am_D} {Q : Option Value → am_D → Prop} {o : Nat} {v1 : Nat} {v2 : Int32} (ho : isX5 lay o) (h1 : isX0 lay v1) (hT : (∃ x1, am_MetP lay d mX0_size [.ref v1] D x1 ∧
 ((x1 ≤ v2 → (∃ x2, am_MetP lay d mX0_everyone [.ref v1] D x2 ∧
 am_AW lay (d + 1) mX5_learn 64 [.ref o, .ref v1, .int x2, .int (nI 1)] [] D Q)) ∧
 (¬ (x1 ≤ v2) → am_AW lay (d + 1) mX5_learn 32 [.ref o, .ref v1, .int v2, .int (nI 1)] [] D Q)))) : am_AW lay (d + 1) mX5_learn 22 [.ref o, .ref v1, .int v2, .null] [] D Q := by
  refine am_iload_n (x := v2) dX5_learn_22 rfl ?_
  refine am_aload_n (x := v1) dX5_learn_23 rfl ?_
  obtain ⟨x1, hm, hT⟩ := hT
  refine am_callV (av := []) (st := [.int v2]) (b := v1) cw_X0_size cl_X5_31 ck_X0_size cs_X0_size h1.1 rfl rfl (Nat.le_of_ble_eq_true rfl) dX5_learn_24 hm (fun r D9 hr => ?_)
  obtain ⟨rfl, e9⟩ := hr
  rw [e9]
  clear e9
  refine am_icmp_ge (tgt := 57) dX5_learn_27 (by decide) (fun h => ?_) (fun h => ?_)
  · replace hT := hT.1 h
    refine am_aload_n (x := v1) dX5_learn_57 rfl ?_
    obtain ⟨x2, hm, hT⟩ := hT
    refine am_callV (av := []) (st := []) (b := v1) cw_X0_everyone cl_X5_38 ck_X0_everyone cs_X0_everyone h1.1 rfl rfl (Nat.le_of_ble_eq_true rfl) dX5_learn_58 hm (fun r D9 hr => ?_)
    obtain ⟨rfl, e9⟩ := hr
    rw [e9]
    clear e9
    refine am_set (am_istore_n dX5_learn_61 (by decide)) (L1 := [.ref o, .ref v1, .int x2, .null]) rfl ?_
    refine am_iconst (v := (nI 1)) dX5_learn_62 (by decide) ?_
    refine am_set (am_istore_n dX5_learn_63 (by decide)) (L1 := [.ref o, .ref v1, .int x2, .int (nI 1)]) rfl ?_
    exact hT
  · replace hT := hT.2 h
    refine am_iconst (v := (nI 1)) dX5_learn_30 (by decide) ?_
    refine am_set (am_istore_n dX5_learn_31 (by decide)) (L1 := [.ref o, .ref v1, .int v2, .int (nI 1)]) rfl ?_
    exact hT
set_option maxRecDepth 20000 in
theorem rX5_learn_64 {lay : List am_L} {d : Nat} {D : am_D} {Q : Option Value → am_D → Prop} {o : Nat} {v1 : Nat} {v2 : Int32} {v3 : Int32} (ho : isX5 lay o) (h1 : isX0 lay v1) (hT : ((v2 < v3 → Q none D) ∧
 (¬ (v2 < v3) → (((nI 1024) ≤ v3 → Q none D) ∧
 (¬ ((nI 1024) ≤ v3) → (∃ x1, am_MetP lay d mX0_size [.ref v1] D x1 ∧
 (∃ x2, am_MetP lay d mX5_leastWithin [.ref o, .int x1, .int v3] D x2 ∧
 (vp_in v3 1024 ∧ ∀ D3, D3 = am_up D (o + 1) (Int32.toNatClampNeg v3) x2 →
 am_AW lay (d + 1) mX5_learn 64 [.ref o, .ref v1, .int v2, .int (v3 + (nI 1))] [] D3 Q)))))))) : am_AW lay (d + 1) mX5_learn 64 [.ref o, .ref v1, .int v2, .int v3] [] D Q := by
  refine am_iload_n (x := v3) dX5_learn_64 rfl ?_
  refine am_iload_n (x := v2) dX5_learn_65 rfl ?_
  refine am_icmp_gt (tgt := 99) dX5_learn_66 (by decide) (fun h => ?_) (fun h => ?_)
  · replace hT := hT.1 h
    exact am_return dX5_learn_99 rfl hT
  · replace hT := hT.2 h
    refine am_iload_n (x := v3) dX5_learn_69 rfl ?_
    refine am_aload_n (x := o) dX5_learn_70 rfl ?_
    refine am_getR dX5_learn_71 fw_X5_9 ho.1 rfl ?_
    refine am_alen (v := nI 1024) dX5_learn_74 ho.2.1 rfl (by decide) ?_
    refine am_icmp_ge (tgt := 99) dX5_learn_75 (by decide) (fun h => ?_) (fun h => ?_)
    · replace hT := hT.1 h
      exact am_return dX5_learn_99 rfl hT
    · replace hT := hT.2 h
      refine am_aload_n (x := o) dX5_learn_78 rfl ?_
      refine am_getR dX5_learn_79 fw_X5_9 ho.1 rfl ?_
      refine am_iload_n (x := v3) dX5_learn_82 rfl ?_
      refine am_aload_n (x := o) dX5_learn_83 rfl ?_
      refine am_aload_n (x := v1) dX5_learn_84 rfl ?_
      obtain ⟨x1, hm, hT⟩ := hT
      refine am_callV (av := []) (st := [.ref o, .int v3, .ref (o + 1)]) (b := v1) cw_X0_size cl_X5_31 ck_X0_size cs_X0_size h1.1 rfl rfl (Nat.le_of_ble_eq_true rfl) dX5_learn_85 hm (fun r D9 hr => ?_)
      obtain ⟨rfl, e9⟩ := hr
      rw [e9]
      clear e9
      refine am_iload_n (x := v3) dX5_learn_88 rfl ?_
      obtain ⟨x2, hm, hT⟩ := hT
      refine am_callV (av := [.int x1, .int v3]) (st := [.int v3, .ref (o + 1)]) (b := o) cw_X5_leastWithin cl_X5_41 ck_X5_leastWithin cs_X5_leastWithin ho.1 rfl rfl (Nat.le_of_ble_eq_true rfl) dX5_learn_89 hm (fun r D9 hr => ?_)
      obtain ⟨rfl, e9⟩ := hr
      rw [e9]
      clear e9
      refine am_iast dX5_learn_92 ho.2.1 hT.1 ?_
      obtain ⟨D3, hD⟩ : ∃ z, z = am_up D (o + 1) (Int32.toNatClampNeg v3) x2 := ⟨_, rfl⟩
      rw [← hD]
      replace hT := hT.2 D3 hD
      clear hD
      refine am_set (am_iinc (x := v3) (c0 := (nI 1)) dX5_learn_93 (by decide) rfl (by decide)) (L1 := [.ref o, .ref v1, .int v2, .int (v3 + (nI 1))]) rfl ?_
      refine am_goto (tgt := 64) dX5_learn_96 (by decide) ?_
      exact hT
set_option maxRecDepth 20000 in
theorem rX5_learn_32 {lay : List am_L} {d : Nat} {D : am_D} {Q : Option Value → am_D → Prop} {o : Nat} {v1 : Nat} {v2 : Int32} {v3 : Int32} (ho : isX5 lay o) (h1 : isX0 lay v1) (hT : (((nI 32) ≤ v3 → am_AW lay (d + 1) mX5_learn 22 [.ref o, .ref v1, .int (v2 + (nI 1)), .null] [] D Q) ∧
 (¬ ((nI 32) ≤ v3) → (∃ D1, am_MetV lay d mX5_sumCosts [.ref o, .ref v1, .int v2, .int v3] D D1 ∧
 am_AW lay (d + 1) mX5_learn 32 [.ref o, .ref v1, .int v2, .int (v3 + (nI 1))] [] D1 Q)))) : am_AW lay (d + 1) mX5_learn 32 [.ref o, .ref v1, .int v2, .int v3] [] D Q := by
  refine am_iload_n (x := v3) dX5_learn_32 rfl ?_
  refine am_bipush (v := (nI 32)) dX5_learn_33 (by decide) ?_
  refine am_icmp_ge (tgt := 51) dX5_learn_35 (by decide) (fun h => ?_) (fun h => ?_)
  · replace hT := hT.1 h
    refine am_set (am_iinc (x := v2) (c0 := (nI 1)) dX5_learn_51 (by decide) rfl (by decide)) (L1 := [.ref o, .ref v1, .int (v2 + (nI 1)), .int v3]) rfl ?_
    refine am_goto (tgt := 22) dX5_learn_54 (by decide) ?_
    refine am_drop [3] (L1 := [.ref o, .ref v1, .int (v2 + (nI 1)), .null]) rfl ?_
    exact hT
  · replace hT := hT.2 h
    refine am_aload_n (x := o) dX5_learn_38 rfl ?_
    refine am_aload_n (x := v1) dX5_learn_39 rfl ?_
    refine am_iload_n (x := v2) dX5_learn_40 rfl ?_
    refine am_iload_n (x := v3) dX5_learn_41 rfl ?_
    obtain ⟨D1, hm, hT⟩ := hT
    refine am_callV (av := [.ref v1, .int v2, .int v3]) (st := []) (b := o) cw_X5_sumCosts cl_X5_34 ck_X5_sumCosts cs_X5_sumCosts ho.1 rfl rfl (Nat.le_of_ble_eq_true rfl) dX5_learn_42 hm (fun r D9 hr => ?_)
    obtain ⟨rfl, e9⟩ := hr
    rw [e9]
    clear e9
    refine am_set (am_iinc (x := v3) (c0 := (nI 1)) dX5_learn_45 (by decide) rfl (by decide)) (L1 := [.ref o, .ref v1, .int v2, .int (v3 + (nI 1))]) rfl ?_
    refine am_goto (tgt := 32) dX5_learn_48 (by decide) ?_
    exact hT
set_option maxRecDepth 20000 in
theorem eX5_sumCosts {lay : List am_L} {d : Nat} {D : am_D} {Q : Option Value → am_D → Prop} {o : Nat} {v1 : Nat} {v2 : Int32} {v3 : Int32} (ho : isX5 lay o) (h1 : isX0 lay v1) (hT : (∃ x1, am_MetP lay d mX10_lowestOf [.int v3] D x1 ∧
 ((((v2 <<< ((nI 5) &&& 31)) + (v3 &&& (v3 - (nI 1)))) < nI 0 → Q none D) ∧
 (¬ (((v2 <<< ((nI 5) &&& 31)) + (v3 &&& (v3 - (nI 1)))) < nI 0) → ((((v2 <<< ((nI 5) &&& 31)) + v3) ≤ ((v2 <<< ((nI 5) &&& 31)) + (v3 &&& (v3 - (nI 1)))) → Q none D) ∧
 (¬ (((v2 <<< ((nI 5) &&& 31)) + v3) ≤ ((v2 <<< ((nI 5) &&& 31)) + (v3 &&& (v3 - (nI 1))))) → (((nI 320) ≤ ((v2 <<< ((nI 5) &&& 31)) + v3) → Q none D) ∧
 (¬ ((nI 320) ≤ ((v2 <<< ((nI 5) &&& 31)) + v3)) → (((nI 320) ≤ ((v2 <<< ((nI 5) &&& 31)) + v3) → Q none D) ∧
 (¬ ((nI 320) ≤ ((v2 <<< ((nI 5) &&& 31)) + v3)) → (vp_in ((v2 <<< ((nI 5) &&& 31)) + (v3 &&& (v3 - (nI 1)))) 320 ∧ (∃ x2, am_MetP lay d mX0_costOfBefore [.ref v1, .int v2, .int x1] D x2 ∧
 (vp_in ((v2 <<< ((nI 5) &&& 31)) + v3) 320 ∧ ∀ D3, D3 = am_up D (o + 2) (Int32.toNatClampNeg ((v2 <<< ((nI 5) &&& 31)) + v3)) ((D (o + 2) (Int32.toNatClampNeg ((v2 <<< ((nI 5) &&& 31)) + (v3 &&& (v3 - (nI 1)))))) + x2) →
 (vp_in ((v2 <<< ((nI 5) &&& 31)) + (v3 &&& (v3 - (nI 1)))) 320 ∧ (∃ x4, am_MetP lay d mX0_costOfBefore [.ref v1, .int v2, .int (x1 + (nI 5))] D3 x4 ∧
 (vp_in ((v2 <<< ((nI 5) &&& 31)) + v3) 320 ∧ ∀ D5, D5 = am_up D3 (o + 3) (Int32.toNatClampNeg ((v2 <<< ((nI 5) &&& 31)) + v3)) ((D3 (o + 3) (Int32.toNatClampNeg ((v2 <<< ((nI 5) &&& 31)) + (v3 &&& (v3 - (nI 1)))))) + x4) →
 Q none D5)))))))))))))))) : am_Met lay (d + 1) mX5_sumCosts [.ref o, .ref v1, .int v2, .int v3] D Q := by
  refine am_enter (by decide +kernel) rfl (Nat.le_of_ble_eq_true rfl) ?_
  show am_AW lay (d + 1) mX5_sumCosts 0 [.ref o, .ref v1, .int v2, .int v3, .null, .null, .null] [] D Q
  refine am_iload_n (x := v2) dX5_sumCosts_0 rfl ?_
  refine am_iconst (v := (nI 5)) dX5_sumCosts_1 (by decide) ?_
  refine am_ishl dX5_sumCosts_2 ?_
  refine am_iload_n (x := v3) dX5_sumCosts_3 rfl ?_
  refine am_iadd dX5_sumCosts_4 ?_
  refine am_set (am_istore dX5_sumCosts_5 (by decide)) (L1 := [.ref o, .ref v1, .int v2, .int v3, .int ((v2 <<< ((nI 5) &&& 31)) + v3), .null, .null]) rfl ?_
  refine am_iload_n (x := v2) dX5_sumCosts_7 rfl ?_
  refine am_iconst (v := (nI 5)) dX5_sumCosts_8 (by decide) ?_
  refine am_ishl dX5_sumCosts_9 ?_
  refine am_iload_n (x := v3) dX5_sumCosts_10 rfl ?_
  refine am_iload_n (x := v3) dX5_sumCosts_11 rfl ?_
  refine am_iconst (v := (nI 1)) dX5_sumCosts_12 (by decide) ?_
  refine am_isub dX5_sumCosts_13 ?_
  refine am_iand dX5_sumCosts_14 ?_
  refine am_iadd dX5_sumCosts_15 ?_
  refine am_set (am_istore dX5_sumCosts_16 (by decide)) (L1 := [.ref o, .ref v1, .int v2, .int v3, .int ((v2 <<< ((nI 5) &&& 31)) + v3), .int ((v2 <<< ((nI 5) &&& 31)) + (v3 &&& (v3 - (nI 1)))), .null]) rfl ?_
  refine am_iload_n (x := v3) dX5_sumCosts_18 rfl ?_
  obtain ⟨x1, hm, hT⟩ := hT
  refine am_callSN (av := [.int v3]) (st := []) cw_X10_lowestOf cl_X5_45 ck_X10_lowestOf (Nat.le_of_ble_eq_true rfl) dX5_sumCosts_19 hm (fun r D9 hr => ?_)
  obtain ⟨rfl, e9⟩ := hr
  rw [e9]
  clear e9
  refine am_set (am_istore dX5_sumCosts_22 (by decide)) (L1 := [.ref o, .ref v1, .int v2, .int v3, .int ((v2 <<< ((nI 5) &&& 31)) + v3), .int ((v2 <<< ((nI 5) &&& 31)) + (v3 &&& (v3 - (nI 1)))), .int x1]) rfl ?_
  refine am_iload (x := ((v2 <<< ((nI 5) &&& 31)) + (v3 &&& (v3 - (nI 1))))) dX5_sumCosts_24 rfl ?_
  refine am_if_lt (tgt := 102) dX5_sumCosts_26 (by decide) (fun h => ?_) (fun h => ?_)
  · replace hT := hT.1 h
    exact am_return dX5_sumCosts_102 rfl hT
  · replace hT := hT.2 h
    refine am_iload (x := ((v2 <<< ((nI 5) &&& 31)) + (v3 &&& (v3 - (nI 1))))) dX5_sumCosts_29 rfl ?_
    refine am_iload (x := ((v2 <<< ((nI 5) &&& 31)) + v3)) dX5_sumCosts_31 rfl ?_
    refine am_icmp_ge (tgt := 102) dX5_sumCosts_33 (by decide) (fun h => ?_) (fun h => ?_)
    · replace hT := hT.1 h
      exact am_return dX5_sumCosts_102 rfl hT
    · replace hT := hT.2 h
      refine am_iload (x := ((v2 <<< ((nI 5) &&& 31)) + v3)) dX5_sumCosts_36 rfl ?_
      refine am_aload_n (x := o) dX5_sumCosts_38 rfl ?_
      refine am_getR dX5_sumCosts_39 fw_X5_15 ho.1 rfl ?_
      refine am_alen (v := nI 320) dX5_sumCosts_42 ho.2.2.1 rfl (by decide) ?_
      refine am_icmp_ge (tgt := 102) dX5_sumCosts_43 (by decide) (fun h => ?_) (fun h => ?_)
      · replace hT := hT.1 h
        exact am_return dX5_sumCosts_102 rfl hT
      · replace hT := hT.2 h
        refine am_iload (x := ((v2 <<< ((nI 5) &&& 31)) + v3)) dX5_sumCosts_46 rfl ?_
        refine am_aload_n (x := o) dX5_sumCosts_48 rfl ?_
        refine am_getR dX5_sumCosts_49 fw_X5_18 ho.1 rfl ?_
        refine am_alen (v := nI 320) dX5_sumCosts_52 ho.2.2.2 rfl (by decide) ?_
        refine am_icmp_ge (tgt := 102) dX5_sumCosts_53 (by decide) (fun h => ?_) (fun h => ?_)
        · replace hT := hT.1 h
          exact am_return dX5_sumCosts_102 rfl hT
        · replace hT := hT.2 h
          refine am_aload_n (x := o) dX5_sumCosts_56 rfl ?_
          refine am_getR dX5_sumCosts_57 fw_X5_15 ho.1 rfl ?_
          refine am_iload (x := ((v2 <<< ((nI 5) &&& 31)) + v3)) dX5_sumCosts_60 rfl ?_
          refine am_aload_n (x := o) dX5_sumCosts_62 rfl ?_
          refine am_getR dX5_sumCosts_63 fw_X5_15 ho.1 rfl ?_
          refine am_iload (x := ((v2 <<< ((nI 5) &&& 31)) + (v3 &&& (v3 - (nI 1))))) dX5_sumCosts_66 rfl ?_
          refine am_iald dX5_sumCosts_68 ho.2.2.1 hT.1 ?_
          replace hT := hT.2
          refine am_aload_n (x := v1) dX5_sumCosts_69 rfl ?_
          refine am_iload_n (x := v2) dX5_sumCosts_70 rfl ?_
          refine am_iload (x := x1) dX5_sumCosts_71 rfl ?_
          obtain ⟨x2, hm, hT⟩ := hT
          refine am_callV (av := [.int v2, .int x1]) (st := [.int (D (o + 2) (Int32.toNatClampNeg ((v2 <<< ((nI 5) &&& 31)) + (v3 &&& (v3 - (nI 1)))))), .int ((v2 <<< ((nI 5) &&& 31)) + v3), .ref (o + 2)]) (b := v1) cw_X0_costOfBefore cl_X5_49 ck_X0_costOfBefore cs_X0_costOfBefore h1.1 rfl rfl (Nat.le_of_ble_eq_true rfl) dX5_sumCosts_73 hm (fun r D9 hr => ?_)
          obtain ⟨rfl, e9⟩ := hr
          rw [e9]
          clear e9
          refine am_iadd dX5_sumCosts_76 ?_
          refine am_iast dX5_sumCosts_77 ho.2.2.1 hT.1 ?_
          obtain ⟨D3, hD⟩ : ∃ z, z = am_up D (o + 2) (Int32.toNatClampNeg ((v2 <<< ((nI 5) &&& 31)) + v3)) ((D (o + 2) (Int32.toNatClampNeg ((v2 <<< ((nI 5) &&& 31)) + (v3 &&& (v3 - (nI 1)))))) + x2) := ⟨_, rfl⟩
          rw [← hD]
          replace hT := hT.2 D3 hD
          clear hD
          refine am_aload_n (x := o) dX5_sumCosts_78 rfl ?_
          refine am_getR dX5_sumCosts_79 fw_X5_18 ho.1 rfl ?_
          refine am_iload (x := ((v2 <<< ((nI 5) &&& 31)) + v3)) dX5_sumCosts_82 rfl ?_
          refine am_aload_n (x := o) dX5_sumCosts_84 rfl ?_
          refine am_getR dX5_sumCosts_85 fw_X5_18 ho.1 rfl ?_
          refine am_iload (x := ((v2 <<< ((nI 5) &&& 31)) + (v3 &&& (v3 - (nI 1))))) dX5_sumCosts_88 rfl ?_
          refine am_iald dX5_sumCosts_90 ho.2.2.2 hT.1 ?_
          replace hT := hT.2
          refine am_aload_n (x := v1) dX5_sumCosts_91 rfl ?_
          refine am_iload_n (x := v2) dX5_sumCosts_92 rfl ?_
          refine am_iload (x := x1) dX5_sumCosts_93 rfl ?_
          refine am_iconst (v := (nI 5)) dX5_sumCosts_95 (by decide) ?_
          refine am_iadd dX5_sumCosts_96 ?_
          obtain ⟨x4, hm, hT⟩ := hT
          refine am_callV (av := [.int v2, .int (x1 + (nI 5))]) (st := [.int (D3 (o + 3) (Int32.toNatClampNeg ((v2 <<< ((nI 5) &&& 31)) + (v3 &&& (v3 - (nI 1)))))), .int ((v2 <<< ((nI 5) &&& 31)) + v3), .ref (o + 3)]) (b := v1) cw_X0_costOfBefore cl_X5_49 ck_X0_costOfBefore cs_X0_costOfBefore h1.1 rfl rfl (Nat.le_of_ble_eq_true rfl) dX5_sumCosts_97 hm (fun r D9 hr => ?_)
          obtain ⟨rfl, e9⟩ := hr
          rw [e9]
          clear e9
          refine am_iadd dX5_sumCosts_100 ?_
          refine am_iast dX5_sumCosts_101 ho.2.2.2 hT.1 ?_
          obtain ⟨D5, hD⟩ : ∃ z, z = am_up D3 (o + 3) (Int32.toNatClampNeg ((v2 <<< ((nI 5) &&& 31)) + v3)) ((D3 (o + 3) (Int32.toNatClampNeg ((v2 <<< ((nI 5) &&& 31)) + (v3 &&& (v3 - (nI 1)))))) + x4) := ⟨_, rfl⟩
          rw [← hD]
          replace hT := hT.2 D5 hD
          clear hD
          exact am_return dX5_sumCosts_102 rfl hT
set_option maxRecDepth 20000 in
theorem eX5_leastWithin {lay : List am_L} {d : Nat} {D : am_D} {Q : Option Value → am_D → Prop} {o : Nat} {v1 : Int32} {v2 : Int32} (ho : isX5 lay o) (hT : (∃ x1, am_MetP lay d mX10_lowestOf [.int v2] D x1 ∧
 (∃ x2, am_MetP lay d mX5_costWithFirst [.ref o, .int v2, .int x1] D x2 ∧
 am_AW lay (d + 1) mX5_leastWithin 13 [.ref o, .int v1, .int v2, .int x2, .int (nI 0)] [] D Q))) : am_Met lay (d + 1) mX5_leastWithin [.ref o, .int v1, .int v2] D Q := by
  refine am_enter (by decide +kernel) rfl (Nat.le_of_ble_eq_true rfl) ?_
  show am_AW lay (d + 1) mX5_leastWithin 0 [.ref o, .int v1, .int v2, .null, .null] [] D Q
  refine am_aload_n (x := o) dX5_leastWithin_0 rfl ?_
  refine am_iload_n (x := v2) dX5_leastWithin_1 rfl ?_
  refine am_iload_n (x := v2) dX5_leastWithin_2 rfl ?_
  obtain ⟨x1, hm, hT⟩ := hT
  refine am_callSN (av := [.int v2]) (st := [.int v2, .ref o]) cw_X10_lowestOf cl_X5_45 ck_X10_lowestOf (Nat.le_of_ble_eq_true rfl) dX5_leastWithin_3 hm (fun r D9 hr => ?_)
  obtain ⟨rfl, e9⟩ := hr
  rw [e9]
  clear e9
  obtain ⟨x2, hm, hT⟩ := hT
  refine am_callV (av := [.int v2, .int x1]) (st := []) (b := o) cw_X5_costWithFirst cl_X5_52 ck_X5_costWithFirst cs_X5_costWithFirst ho.1 rfl rfl (Nat.le_of_ble_eq_true rfl) dX5_leastWithin_6 hm (fun r D9 hr => ?_)
  obtain ⟨rfl, e9⟩ := hr
  rw [e9]
  clear e9
  refine am_set (am_istore_n dX5_leastWithin_9 (by decide)) (L1 := [.ref o, .int v1, .int v2, .int x2, .null]) rfl ?_
  refine am_iconst (v := (nI 0)) dX5_leastWithin_10 (by decide) ?_
  refine am_set (am_istore dX5_leastWithin_11 (by decide)) (L1 := [.ref o, .int v1, .int v2, .int x2, .int (nI 0)]) rfl ?_
  exact hT
set_option maxRecDepth 20000 in
theorem rX5_leastWithin_13 {lay : List am_L} {d : Nat} {D : am_D} {Q : Option Value → am_D → Prop} {o : Nat} {v1 : Int32} {v2 : Int32} {v3 : Int32} {v4 : Int32} (ho : isX5 lay o) (hT : ((v1 ≤ v4 → Q (some (.int v3)) D) ∧
 (¬ (v1 ≤ v4) → (∃ x1, am_MetP lay d mX10_holds [.int v2, .int v4] D x1 ∧
 ((x1 = nI 0 → am_AW lay (d + 1) mX5_leastWithin 13 [.ref o, .int v1, .int v2, .int v3, .int (v4 + (nI 1))] [] D Q) ∧
 (¬ (x1 = nI 0) → (∃ x2, am_MetP lay d mX5_costWithFirst [.ref o, .int v2, .int v4] D x2 ∧
 am_AW lay (d + 1) mX5_leastWithin 13 [.ref o, .int v1, .int v2, .int (if x2 < v3 then x2 else v3), .int (v4 + (nI 1))] [] D Q))))))) : am_AW lay (d + 1) mX5_leastWithin 13 [.ref o, .int v1, .int v2, .int v3, .int v4] [] D Q := by
  refine am_iload (x := v4) dX5_leastWithin_13 rfl ?_
  refine am_iload_n (x := v1) dX5_leastWithin_15 rfl ?_
  refine am_icmp_ge (tgt := 46) dX5_leastWithin_16 (by decide) (fun h => ?_) (fun h => ?_)
  · replace hT := hT.1 h
    refine am_iload_n (x := v3) dX5_leastWithin_46 rfl ?_
    exact am_ireturn (ty := .int) dX5_leastWithin_47 rfl rfl hT
  · replace hT := hT.2 h
    refine am_iload_n (x := v2) dX5_leastWithin_19 rfl ?_
    refine am_iload (x := v4) dX5_leastWithin_20 rfl ?_
    obtain ⟨x1, hm, hT⟩ := hT
    refine am_callSN (av := [.int v2, .int v4]) (st := []) cw_X10_holds cl_X5_55 ck_X10_holds (Nat.le_of_ble_eq_true rfl) dX5_leastWithin_22 hm (fun r D9 hr => ?_)
    obtain ⟨rfl, e9⟩ := hr
    rw [e9]
    clear e9
    refine am_if_eq (tgt := 40) dX5_leastWithin_25 (by decide) (fun h => ?_) (fun h => ?_)
    · replace hT := hT.1 h
      refine am_set (am_iinc (x := v4) (c0 := (nI 1)) dX5_leastWithin_40 (by decide) rfl (by decide)) (L1 := [.ref o, .int v1, .int v2, .int v3, .int (v4 + (nI 1))]) rfl ?_
      refine am_goto (tgt := 13) dX5_leastWithin_43 (by decide) ?_
      exact hT
    · replace hT := hT.2 h
      refine am_iload_n (x := v3) dX5_leastWithin_28 rfl ?_
      refine am_aload_n (x := o) dX5_leastWithin_29 rfl ?_
      refine am_iload_n (x := v2) dX5_leastWithin_30 rfl ?_
      refine am_iload (x := v4) dX5_leastWithin_31 rfl ?_
      obtain ⟨x2, hm, hT⟩ := hT
      refine am_callV (av := [.int v2, .int v4]) (st := [.int v3]) (b := o) cw_X5_costWithFirst cl_X5_52 ck_X5_costWithFirst cs_X5_costWithFirst ho.1 rfl rfl (Nat.le_of_ble_eq_true rfl) dX5_leastWithin_33 hm (fun r D9 hr => ?_)
      obtain ⟨rfl, e9⟩ := hr
      rw [e9]
      clear e9
      refine am_min dX5_leastWithin_36 cl_X5_59 (Nat.le_of_ble_eq_true rfl) ?_
      refine am_set (am_istore_n dX5_leastWithin_39 (by decide)) (L1 := [.ref o, .int v1, .int v2, .int (if x2 < v3 then x2 else v3), .int v4]) rfl ?_
      refine am_set (am_iinc (x := v4) (c0 := (nI 1)) dX5_leastWithin_40 (by decide) rfl (by decide)) (L1 := [.ref o, .int v1, .int v2, .int (if x2 < v3 then x2 else v3), .int (v4 + (nI 1))]) rfl ?_
      refine am_goto (tgt := 13) dX5_leastWithin_43 (by decide) ?_
      exact hT
set_option maxRecDepth 20000 in
theorem eX5_costWithFirst {lay : List am_L} {d : Nat} {D : am_D} {Q : Option Value → am_D → Prop} {o : Nat} {v1 : Int32} {v2 : Int32} (ho : isX5 lay o) (hT : ((((v2 <<< ((nI 5) &&& 31)) + (v1 &&& (nI 31))) < nI 0 → Q (some (.int (nI 0))) D) ∧
 (¬ (((v2 <<< ((nI 5) &&& 31)) + (v1 &&& (nI 31))) < nI 0) → (((nI 320) ≤ ((v2 <<< ((nI 5) &&& 31)) + (v1 &&& (nI 31))) → Q (some (.int (nI 0))) D) ∧
 (¬ ((nI 320) ≤ ((v2 <<< ((nI 5) &&& 31)) + (v1 &&& (nI 31)))) → ((((v2 <<< ((nI 5) &&& 31)) + (v1 >>> ((nI 5) &&& 31))) < nI 0 → Q (some (.int (nI 0))) D) ∧
 (¬ (((v2 <<< ((nI 5) &&& 31)) + (v1 >>> ((nI 5) &&& 31))) < nI 0) → ((((v2 <<< ((nI 5) &&& 31)) + (v1 >>> ((nI 5) &&& 31))) < (nI 320) → (∃ x1, am_MetP lay d mX10_without [.int v1, .int v2] D x1 ∧
 (∃ x2, am_MetP lay d mX5_leastFor [.ref o, .int x1] D x2 ∧
 (vp_in ((v2 <<< ((nI 5) &&& 31)) + (v1 &&& (nI 31))) 320 ∧ (vp_in ((v2 <<< ((nI 5) &&& 31)) + (v1 >>> ((nI 5) &&& 31))) 320 ∧ Q (some (.int ((x2 + (D (o + 2) (Int32.toNatClampNeg ((v2 <<< ((nI 5) &&& 31)) + (v1 &&& (nI 31)))))) + (D (o + 3) (Int32.toNatClampNeg ((v2 <<< ((nI 5) &&& 31)) + (v1 >>> ((nI 5) &&& 31)))))))) D))))) ∧
 (¬ (((v2 <<< ((nI 5) &&& 31)) + (v1 >>> ((nI 5) &&& 31))) < (nI 320)) → Q (some (.int (nI 0))) D))))))))) : am_Met lay (d + 1) mX5_costWithFirst [.ref o, .int v1, .int v2] D Q := by
  refine am_enter (by decide +kernel) rfl (Nat.le_of_ble_eq_true rfl) ?_
  show am_AW lay (d + 1) mX5_costWithFirst 0 [.ref o, .int v1, .int v2, .null, .null] [] D Q
  refine am_iload_n (x := v2) dX5_costWithFirst_0 rfl ?_
  refine am_iconst (v := (nI 5)) dX5_costWithFirst_1 (by decide) ?_
  refine am_ishl dX5_costWithFirst_2 ?_
  refine am_iload_n (x := v1) dX5_costWithFirst_3 rfl ?_
  refine am_bipush (v := (nI 31)) dX5_costWithFirst_4 (by decide) ?_
  refine am_iand dX5_costWithFirst_6 ?_
  refine am_iadd dX5_costWithFirst_7 ?_
  refine am_set (am_istore_n dX5_costWithFirst_8 (by decide)) (L1 := [.ref o, .int v1, .int v2, .int ((v2 <<< ((nI 5) &&& 31)) + (v1 &&& (nI 31))), .null]) rfl ?_
  refine am_iload_n (x := v2) dX5_costWithFirst_9 rfl ?_
  refine am_iconst (v := (nI 5)) dX5_costWithFirst_10 (by decide) ?_
  refine am_ishl dX5_costWithFirst_11 ?_
  refine am_iload_n (x := v1) dX5_costWithFirst_12 rfl ?_
  refine am_iconst (v := (nI 5)) dX5_costWithFirst_13 (by decide) ?_
  refine am_ishr dX5_costWithFirst_14 ?_
  refine am_iadd dX5_costWithFirst_15 ?_
  refine am_set (am_istore dX5_costWithFirst_16 (by decide)) (L1 := [.ref o, .int v1, .int v2, .int ((v2 <<< ((nI 5) &&& 31)) + (v1 &&& (nI 31))), .int ((v2 <<< ((nI 5) &&& 31)) + (v1 >>> ((nI 5) &&& 31)))]) rfl ?_
  refine am_iload_n (x := ((v2 <<< ((nI 5) &&& 31)) + (v1 &&& (nI 31)))) dX5_costWithFirst_18 rfl ?_
  refine am_if_lt (tgt := 46) dX5_costWithFirst_19 (by decide) (fun h => ?_) (fun h => ?_)
  · replace hT := hT.1 h
    refine am_iconst (v := (nI 0)) dX5_costWithFirst_46 (by decide) ?_
    exact am_ireturn (ty := .int) dX5_costWithFirst_47 rfl rfl hT
  · replace hT := hT.2 h
    refine am_iload_n (x := ((v2 <<< ((nI 5) &&& 31)) + (v1 &&& (nI 31)))) dX5_costWithFirst_22 rfl ?_
    refine am_aload_n (x := o) dX5_costWithFirst_23 rfl ?_
    refine am_getR dX5_costWithFirst_24 fw_X5_15 ho.1 rfl ?_
    refine am_alen (v := nI 320) dX5_costWithFirst_27 ho.2.2.1 rfl (by decide) ?_
    refine am_icmp_ge (tgt := 46) dX5_costWithFirst_28 (by decide) (fun h => ?_) (fun h => ?_)
    · replace hT := hT.1 h
      refine am_iconst (v := (nI 0)) dX5_costWithFirst_46 (by decide) ?_
      exact am_ireturn (ty := .int) dX5_costWithFirst_47 rfl rfl hT
    · replace hT := hT.2 h
      refine am_iload (x := ((v2 <<< ((nI 5) &&& 31)) + (v1 >>> ((nI 5) &&& 31)))) dX5_costWithFirst_31 rfl ?_
      refine am_if_lt (tgt := 46) dX5_costWithFirst_33 (by decide) (fun h => ?_) (fun h => ?_)
      · replace hT := hT.1 h
        refine am_iconst (v := (nI 0)) dX5_costWithFirst_46 (by decide) ?_
        exact am_ireturn (ty := .int) dX5_costWithFirst_47 rfl rfl hT
      · replace hT := hT.2 h
        refine am_iload (x := ((v2 <<< ((nI 5) &&& 31)) + (v1 >>> ((nI 5) &&& 31)))) dX5_costWithFirst_36 rfl ?_
        refine am_aload_n (x := o) dX5_costWithFirst_38 rfl ?_
        refine am_getR dX5_costWithFirst_39 fw_X5_18 ho.1 rfl ?_
        refine am_alen (v := nI 320) dX5_costWithFirst_42 ho.2.2.2 rfl (by decide) ?_
        refine am_icmp_lt (tgt := 48) dX5_costWithFirst_43 (by decide) (fun h => ?_) (fun h => ?_)
        · replace hT := hT.1 h
          refine am_aload_n (x := o) dX5_costWithFirst_48 rfl ?_
          refine am_iload_n (x := v1) dX5_costWithFirst_49 rfl ?_
          refine am_iload_n (x := v2) dX5_costWithFirst_50 rfl ?_
          obtain ⟨x1, hm, hT⟩ := hT
          refine am_callSN (av := [.int v1, .int v2]) (st := [.ref o]) cw_X10_without cl_X5_64 ck_X10_without (Nat.le_of_ble_eq_true rfl) dX5_costWithFirst_51 hm (fun r D9 hr => ?_)
          obtain ⟨rfl, e9⟩ := hr
          rw [e9]
          clear e9
          obtain ⟨x2, hm, hT⟩ := hT
          refine am_callV (av := [.int x1]) (st := []) (b := o) cw_X5_leastFor cl_X5_67 ck_X5_leastFor cs_X5_leastFor ho.1 rfl rfl (Nat.le_of_ble_eq_true rfl) dX5_costWithFirst_54 hm (fun r D9 hr => ?_)
          obtain ⟨rfl, e9⟩ := hr
          rw [e9]
          clear e9
          refine am_aload_n (x := o) dX5_costWithFirst_57 rfl ?_
          refine am_getR dX5_costWithFirst_58 fw_X5_15 ho.1 rfl ?_
          refine am_iload_n (x := ((v2 <<< ((nI 5) &&& 31)) + (v1 &&& (nI 31)))) dX5_costWithFirst_61 rfl ?_
          refine am_iald dX5_costWithFirst_62 ho.2.2.1 hT.1 ?_
          replace hT := hT.2
          refine am_iadd dX5_costWithFirst_63 ?_
          refine am_aload_n (x := o) dX5_costWithFirst_64 rfl ?_
          refine am_getR dX5_costWithFirst_65 fw_X5_18 ho.1 rfl ?_
          refine am_iload (x := ((v2 <<< ((nI 5) &&& 31)) + (v1 >>> ((nI 5) &&& 31)))) dX5_costWithFirst_68 rfl ?_
          refine am_iald dX5_costWithFirst_70 ho.2.2.2 hT.1 ?_
          replace hT := hT.2
          refine am_iadd dX5_costWithFirst_71 ?_
          exact am_ireturn (ty := .int) dX5_costWithFirst_72 rfl rfl hT
        · replace hT := hT.2 h
          refine am_iconst (v := (nI 0)) dX5_costWithFirst_46 (by decide) ?_
          exact am_ireturn (ty := .int) dX5_costWithFirst_47 rfl rfl hT
set_option maxRecDepth 20000 in
theorem eX5_leastFor {lay : List am_L} {d : Nat} {D : am_D} {Q : Option Value → am_D → Prop} {o : Nat} {v1 : Int32} (ho : isX5 lay o) (hT : ((v1 < nI 0 → Q (some (.int (nI 0))) D) ∧
 (¬ (v1 < nI 0) → (((nI 1024) ≤ v1 → Q (some (.int (nI 0))) D) ∧
 (¬ ((nI 1024) ≤ v1) → (vp_in v1 1024 ∧ Q (some (.int (D (o + 1) (Int32.toNatClampNeg v1)))) D)))))) : am_Met lay d mX5_leastFor [.ref o, .int v1] D Q := by
  refine am_enter (by decide +kernel) rfl (Nat.le_of_ble_eq_true rfl) ?_
  show am_AW lay d mX5_leastFor 0 [.ref o, .int v1] [] D Q
  refine am_iload_n (x := v1) dX5_leastFor_0 rfl ?_
  refine am_if_lt (tgt := 22) dX5_leastFor_1 (by decide) (fun h => ?_) (fun h => ?_)
  · replace hT := hT.1 h
    refine am_iconst (v := (nI 0)) dX5_leastFor_22 (by decide) ?_
    exact am_ireturn (ty := .int) dX5_leastFor_23 rfl rfl hT
  · replace hT := hT.2 h
    refine am_iload_n (x := v1) dX5_leastFor_4 rfl ?_
    refine am_aload_n (x := o) dX5_leastFor_5 rfl ?_
    refine am_getR dX5_leastFor_6 fw_X5_9 ho.1 rfl ?_
    refine am_alen (v := nI 1024) dX5_leastFor_9 ho.2.1 rfl (by decide) ?_
    refine am_icmp_ge (tgt := 22) dX5_leastFor_10 (by decide) (fun h => ?_) (fun h => ?_)
    · replace hT := hT.1 h
      refine am_iconst (v := (nI 0)) dX5_leastFor_22 (by decide) ?_
      exact am_ireturn (ty := .int) dX5_leastFor_23 rfl rfl hT
    · replace hT := hT.2 h
      refine am_aload_n (x := o) dX5_leastFor_13 rfl ?_
      refine am_getR dX5_leastFor_14 fw_X5_9 ho.1 rfl ?_
      refine am_iload_n (x := v1) dX5_leastFor_17 rfl ?_
      refine am_iald dX5_leastFor_18 ho.2.1 hT.1 ?_
      replace hT := hT.2
      refine am_goto (tgt := 23) dX5_leastFor_19 (by decide) ?_
      exact am_ireturn (ty := .int) dX5_leastFor_23 rfl rfl hT
set_option maxRecDepth 20000 in
theorem eX5_firstOnesWithin {lay : List am_L} {d : Nat} {D : am_D} {Q : Option Value → am_D → Prop} {o : Nat} {v1 : Int32} {v2 : Int32} (ho : isX5 lay o) (hT : am_AW lay (d + 1) mX5_firstOnesWithin 5 [.ref o, .int v1, .int v2, .int (nI 0), .int (nI 0)] [] D Q) : am_Met lay (d + 1) mX5_firstOnesWithin [.ref o, .int v1, .int v2] D Q := by
  refine am_enter (by decide +kernel) rfl (Nat.le_of_ble_eq_true rfl) ?_
  show am_AW lay (d + 1) mX5_firstOnesWithin 0 [.ref o, .int v1, .int v2, .null, .null] [] D Q
  refine am_iconst (v := (nI 0)) dX5_firstOnesWithin_0 (by decide) ?_
  refine am_set (am_istore_n dX5_firstOnesWithin_1 (by decide)) (L1 := [.ref o, .int v1, .int v2, .int (nI 0), .null]) rfl ?_
  refine am_iconst (v := (nI 0)) dX5_firstOnesWithin_2 (by decide) ?_
  refine am_set (am_istore dX5_firstOnesWithin_3 (by decide)) (L1 := [.ref o, .int v1, .int v2, .int (nI 0), .int (nI 0)]) rfl ?_
  exact hT
set_option maxRecDepth 20000 in
theorem rX5_firstOnesWithin_5 {lay : List am_L} {d : Nat} {D : am_D} {Q : Option Value → am_D → Prop} {o : Nat} {v1 : Int32} {v2 : Int32} {v3 : Int32} {v4 : Int32} (ho : isX5 lay o) (hT : ((v1 ≤ v4 → Q (some (.int v3)) D) ∧
 (¬ (v1 ≤ v4) → (∃ x1, am_MetP lay d mX10_holds [.int v2, .int v4] D x1 ∧
 ((x1 = nI 0 → am_AW lay (d + 1) mX5_firstOnesWithin 5 [.ref o, .int v1, .int v2, .int v3, .int (v4 + (nI 1))] [] D Q) ∧
 (¬ (x1 = nI 0) → (∃ x2, am_MetP lay d mX5_costWithFirst [.ref o, .int v2, .int v4] D x2 ∧
 (∃ x3, am_MetP lay d mX5_leastFor [.ref o, .int v2] D x3 ∧
 ((¬ x2 = x3 → am_AW lay (d + 1) mX5_firstOnesWithin 5 [.ref o, .int v1, .int v2, .int v3, .int (v4 + (nI 1))] [] D Q) ∧
 (¬ (¬ x2 = x3) → (∃ x4, am_MetP lay d mX10_only [.int v4] D x4 ∧
 am_AW lay (d + 1) mX5_firstOnesWithin 5 [.ref o, .int v1, .int v2, .int (v3 ||| x4), .int (v4 + (nI 1))] [] D Q))))))))))) : am_AW lay (d + 1) mX5_firstOnesWithin 5 [.ref o, .int v1, .int v2, .int v3, .int v4] [] D Q := by
  refine am_iload (x := v4) dX5_firstOnesWithin_5 rfl ?_
  refine am_iload_n (x := v1) dX5_firstOnesWithin_7 rfl ?_
  refine am_icmp_ge (tgt := 49) dX5_firstOnesWithin_8 (by decide) (fun h => ?_) (fun h => ?_)
  · replace hT := hT.1 h
    refine am_iload_n (x := v3) dX5_firstOnesWithin_49 rfl ?_
    exact am_ireturn (ty := .int) dX5_firstOnesWithin_50 rfl rfl hT
  · replace hT := hT.2 h
    refine am_iload_n (x := v2) dX5_firstOnesWithin_11 rfl ?_
    refine am_iload (x := v4) dX5_firstOnesWithin_12 rfl ?_
    obtain ⟨x1, hm, hT⟩ := hT
    refine am_callSN (av := [.int v2, .int v4]) (st := []) cw_X10_holds cl_X5_55 ck_X10_holds (Nat.le_of_ble_eq_true rfl) dX5_firstOnesWithin_14 hm (fun r D9 hr => ?_)
    obtain ⟨rfl, e9⟩ := hr
    rw [e9]
    clear e9
    refine am_if_eq (tgt := 43) dX5_firstOnesWithin_17 (by decide) (fun h => ?_) (fun h => ?_)
    · replace hT := hT.1 h
      refine am_set (am_iinc (x := v4) (c0 := (nI 1)) dX5_firstOnesWithin_43 (by decide) rfl (by decide)) (L1 := [.ref o, .int v1, .int v2, .int v3, .int (v4 + (nI 1))]) rfl ?_
      refine am_goto (tgt := 5) dX5_firstOnesWithin_46 (by decide) ?_
      exact hT
    · replace hT := hT.2 h
      refine am_aload_n (x := o) dX5_firstOnesWithin_20 rfl ?_
      refine am_iload_n (x := v2) dX5_firstOnesWithin_21 rfl ?_
      refine am_iload (x := v4) dX5_firstOnesWithin_22 rfl ?_
      obtain ⟨x2, hm, hT⟩ := hT
      refine am_callV (av := [.int v2, .int v4]) (st := []) (b := o) cw_X5_costWithFirst cl_X5_52 ck_X5_costWithFirst cs_X5_costWithFirst ho.1 rfl rfl (Nat.le_of_ble_eq_true rfl) dX5_firstOnesWithin_24 hm (fun r D9 hr => ?_)
      obtain ⟨rfl, e9⟩ := hr
      rw [e9]
      clear e9
      refine am_aload_n (x := o) dX5_firstOnesWithin_27 rfl ?_
      refine am_iload_n (x := v2) dX5_firstOnesWithin_28 rfl ?_
      obtain ⟨x3, hm, hT⟩ := hT
      refine am_callV (av := [.int v2]) (st := [.int x2]) (b := o) cw_X5_leastFor cl_X5_67 ck_X5_leastFor cs_X5_leastFor ho.1 rfl rfl (Nat.le_of_ble_eq_true rfl) dX5_firstOnesWithin_29 hm (fun r D9 hr => ?_)
      obtain ⟨rfl, e9⟩ := hr
      rw [e9]
      clear e9
      refine am_icmp_ne (tgt := 43) dX5_firstOnesWithin_32 (by decide) (fun h => ?_) (fun h => ?_)
      · replace hT := hT.1 h
        refine am_set (am_iinc (x := v4) (c0 := (nI 1)) dX5_firstOnesWithin_43 (by decide) rfl (by decide)) (L1 := [.ref o, .int v1, .int v2, .int v3, .int (v4 + (nI 1))]) rfl ?_
        refine am_goto (tgt := 5) dX5_firstOnesWithin_46 (by decide) ?_
        exact hT
      · replace hT := hT.2 h
        refine am_iload_n (x := v3) dX5_firstOnesWithin_35 rfl ?_
        refine am_iload (x := v4) dX5_firstOnesWithin_36 rfl ?_
        obtain ⟨x4, hm, hT⟩ := hT
        refine am_callSN (av := [.int v4]) (st := [.int v3]) cw_X10_only cl_X5_70 ck_X10_only (Nat.le_of_ble_eq_true rfl) dX5_firstOnesWithin_38 hm (fun r D9 hr => ?_)
        obtain ⟨rfl, e9⟩ := hr
        rw [e9]
        clear e9
        refine am_ior dX5_firstOnesWithin_41 ?_
        refine am_set (am_istore_n dX5_firstOnesWithin_42 (by decide)) (L1 := [.ref o, .int v1, .int v2, .int (v3 ||| x4), .int v4]) rfl ?_
        refine am_set (am_iinc (x := v4) (c0 := (nI 1)) dX5_firstOnesWithin_43 (by decide) rfl (by decide)) (L1 := [.ref o, .int v1, .int v2, .int (v3 ||| x4), .int (v4 + (nI 1))]) rfl ?_
        refine am_goto (tgt := 5) dX5_firstOnesWithin_46 (by decide) ?_
        exact hT
set_option maxRecDepth 20000 in
theorem eX5_leastCostOf {lay : List am_L} {d : Nat} {D : am_D} {Q : Option Value → am_D → Prop} {o : Nat} {v1 : Nat} (ho : isX5 lay o) (h1 : isX0 lay v1) (hT : (∃ D1, am_MetV lay d mX5_learn [.ref o, .ref v1] D D1 ∧
 (∃ x2, am_MetP lay d mX0_everyone [.ref v1] D1 x2 ∧
 (∃ x3, am_MetP lay d mX5_leastFor [.ref o, .int x2] D1 x3 ∧
 Q (some (.int x3)) D1)))) : am_Met lay (d + 1) mX5_leastCostOf [.ref o, .ref v1] D Q := by
  refine am_enter (by decide +kernel) rfl (Nat.le_of_ble_eq_true rfl) ?_
  show am_AW lay (d + 1) mX5_leastCostOf 0 [.ref o, .ref v1] [] D Q
  refine am_aload_n (x := o) dX5_leastCostOf_0 rfl ?_
  refine am_aload_n (x := v1) dX5_leastCostOf_1 rfl ?_
  obtain ⟨D1, hm, hT⟩ := hT
  refine am_callV (av := [.ref v1]) (st := []) (b := o) cw_X5_learn cl_X5_73 ck_X5_learn cs_X5_learn ho.1 rfl rfl (Nat.le_of_ble_eq_true rfl) dX5_leastCostOf_2 hm (fun r D9 hr => ?_)
  obtain ⟨rfl, e9⟩ := hr
  rw [e9]
  clear e9
  refine am_aload_n (x := o) dX5_leastCostOf_5 rfl ?_
  refine am_aload_n (x := v1) dX5_leastCostOf_6 rfl ?_
  obtain ⟨x2, hm, hT⟩ := hT
  refine am_callV (av := []) (st := [.ref o]) (b := v1) cw_X0_everyone cl_X5_38 ck_X0_everyone cs_X0_everyone h1.1 rfl rfl (Nat.le_of_ble_eq_true rfl) dX5_leastCostOf_7 hm (fun r D9 hr => ?_)
  obtain ⟨rfl, e9⟩ := hr
  rw [e9]
  clear e9
  obtain ⟨x3, hm, hT⟩ := hT
  refine am_callV (av := [.int x2]) (st := []) (b := o) cw_X5_leastFor cl_X5_67 ck_X5_leastFor cs_X5_leastFor ho.1 rfl rfl (Nat.le_of_ble_eq_true rfl) dX5_leastCostOf_10 hm (fun r D9 hr => ?_)
  obtain ⟨rfl, e9⟩ := hr
  rw [e9]
  clear e9
  exact am_ireturn (ty := .int) dX5_leastCostOf_13 rfl rfl hT
set_option maxRecDepth 20000 in
theorem eX5_firstOnes {lay : List am_L} {d : Nat} {D : am_D} {Q : Option Value → am_D → Prop} {o : Nat} {v1 : Nat} (ho : isX5 lay o) (h1 : isX0 lay v1) (hT : (∃ D1, am_MetV lay d mX5_learn [.ref o, .ref v1] D D1 ∧
 (∃ x2, am_MetP lay d mX0_size [.ref v1] D1 x2 ∧
 (∃ x3, am_MetP lay d mX0_everyone [.ref v1] D1 x3 ∧
 (∃ x4, am_MetP lay d mX5_firstOnesWithin [.ref o, .int x2, .int x3] D1 x4 ∧
 Q (some (.int x4)) D1))))) : am_Met lay (d + 1) mX5_firstOnes [.ref o, .ref v1] D Q := by
  refine am_enter (by decide +kernel) rfl (Nat.le_of_ble_eq_true rfl) ?_
  show am_AW lay (d + 1) mX5_firstOnes 0 [.ref o, .ref v1] [] D Q
  refine am_aload_n (x := o) dX5_firstOnes_0 rfl ?_
  refine am_aload_n (x := v1) dX5_firstOnes_1 rfl ?_
  obtain ⟨D1, hm, hT⟩ := hT
  refine am_callV (av := [.ref v1]) (st := []) (b := o) cw_X5_learn cl_X5_73 ck_X5_learn cs_X5_learn ho.1 rfl rfl (Nat.le_of_ble_eq_true rfl) dX5_firstOnes_2 hm (fun r D9 hr => ?_)
  obtain ⟨rfl, e9⟩ := hr
  rw [e9]
  clear e9
  refine am_aload_n (x := o) dX5_firstOnes_5 rfl ?_
  refine am_aload_n (x := v1) dX5_firstOnes_6 rfl ?_
  obtain ⟨x2, hm, hT⟩ := hT
  refine am_callV (av := []) (st := [.ref o]) (b := v1) cw_X0_size cl_X5_31 ck_X0_size cs_X0_size h1.1 rfl rfl (Nat.le_of_ble_eq_true rfl) dX5_firstOnes_7 hm (fun r D9 hr => ?_)
  obtain ⟨rfl, e9⟩ := hr
  rw [e9]
  clear e9
  refine am_aload_n (x := v1) dX5_firstOnes_10 rfl ?_
  obtain ⟨x3, hm, hT⟩ := hT
  refine am_callV (av := []) (st := [.int x2, .ref o]) (b := v1) cw_X0_everyone cl_X5_38 ck_X0_everyone cs_X0_everyone h1.1 rfl rfl (Nat.le_of_ble_eq_true rfl) dX5_firstOnes_11 hm (fun r D9 hr => ?_)
  obtain ⟨rfl, e9⟩ := hr
  rw [e9]
  clear e9
  obtain ⟨x4, hm, hT⟩ := hT
  refine am_callV (av := [.int x2, .int x3]) (st := []) (b := o) cw_X5_firstOnesWithin cl_X5_77 ck_X5_firstOnesWithin cs_X5_firstOnesWithin ho.1 rfl rfl (Nat.le_of_ble_eq_true rfl) dX5_firstOnes_14 hm (fun r D9 hr => ?_)
  obtain ⟨rfl, e9⟩ := hr
  rw [e9]
  clear e9
  exact am_ireturn (ty := .int) dX5_firstOnes_17 rfl rfl hT
set_option maxRecDepth 20000 in
theorem eX5_playerAt {lay : List am_L} {d : Nat} {D : am_D} {Q : Option Value → am_D → Prop} {o : Nat} {v1 : Nat} {v2 : Int32} (ho : isX5 lay o) (h1 : isX0 lay v1) (hT : (∃ D1, am_MetV lay d mX5_learn [.ref o, .ref v1] D D1 ∧
 (∃ x2, am_MetP lay d mX0_everyone [.ref v1] D1 x2 ∧
 am_AW lay (d + 1) mX5_playerAt 13 [.ref o, .ref v1, .int v2, .int x2, .int (nI 0)] [] D1 Q))) : am_Met lay (d + 1) mX5_playerAt [.ref o, .ref v1, .int v2] D Q := by
  refine am_enter (by decide +kernel) rfl (Nat.le_of_ble_eq_true rfl) ?_
  show am_AW lay (d + 1) mX5_playerAt 0 [.ref o, .ref v1, .int v2, .null, .null] [] D Q
  refine am_aload_n (x := o) dX5_playerAt_0 rfl ?_
  refine am_aload_n (x := v1) dX5_playerAt_1 rfl ?_
  obtain ⟨D1, hm, hT⟩ := hT
  refine am_callV (av := [.ref v1]) (st := []) (b := o) cw_X5_learn cl_X5_73 ck_X5_learn cs_X5_learn ho.1 rfl rfl (Nat.le_of_ble_eq_true rfl) dX5_playerAt_2 hm (fun r D9 hr => ?_)
  obtain ⟨rfl, e9⟩ := hr
  rw [e9]
  clear e9
  refine am_aload_n (x := v1) dX5_playerAt_5 rfl ?_
  obtain ⟨x2, hm, hT⟩ := hT
  refine am_callV (av := []) (st := []) (b := v1) cw_X0_everyone cl_X5_38 ck_X0_everyone cs_X0_everyone h1.1 rfl rfl (Nat.le_of_ble_eq_true rfl) dX5_playerAt_6 hm (fun r D9 hr => ?_)
  obtain ⟨rfl, e9⟩ := hr
  rw [e9]
  clear e9
  refine am_set (am_istore_n dX5_playerAt_9 (by decide)) (L1 := [.ref o, .ref v1, .int v2, .int x2, .null]) rfl ?_
  refine am_iconst (v := (nI 0)) dX5_playerAt_10 (by decide) ?_
  refine am_set (am_istore dX5_playerAt_11 (by decide)) (L1 := [.ref o, .ref v1, .int v2, .int x2, .int (nI 0)]) rfl ?_
  exact hT
set_option maxRecDepth 20000 in
theorem rX5_playerAt_13 {lay : List am_L} {d : Nat} {D : am_D} {Q : Option Value → am_D → Prop} {o : Nat} {v1 : Nat} {v2 : Int32} {v3 : Int32} {v4 : Int32} (ho : isX5 lay o) (h1 : isX0 lay v1) (hT : ((v2 ≤ v4 → (∃ x1, am_MetP lay d mX0_size [.ref v1] D x1 ∧
 (∃ x2, am_MetP lay d mX5_firstOnesWithin [.ref o, .int x1, .int v3] D x2 ∧
 (∃ x3, am_MetP lay d mX10_lowestOf [.int x2] D x3 ∧
 Q (some (.int x3)) D)))) ∧
 (¬ (v2 ≤ v4) → (((nI 10) ≤ v4 → (∃ x4, am_MetP lay d mX0_size [.ref v1] D x4 ∧
 (∃ x5, am_MetP lay d mX5_firstOnesWithin [.ref o, .int x4, .int v3] D x5 ∧
 (∃ x6, am_MetP lay d mX10_lowestOf [.int x5] D x6 ∧
 Q (some (.int x6)) D)))) ∧
 (¬ ((nI 10) ≤ v4) → (∃ x7, am_MetP lay d mX0_size [.ref v1] D x7 ∧
 (∃ x8, am_MetP lay d mX5_firstOnesWithin [.ref o, .int x7, .int v3] D x8 ∧
 (∃ x9, am_MetP lay d mX10_lowestOf [.int x8] D x9 ∧
 (∃ x10, am_MetP lay d mX10_without [.int v3, .int x9] D x10 ∧
 am_AW lay (d + 1) mX5_playerAt 13 [.ref o, .ref v1, .int v2, .int x10, .int (v4 + (nI 1))] [] D Q))))))))) : am_AW lay (d + 1) mX5_playerAt 13 [.ref o, .ref v1, .int v2, .int v3, .int v4] [] D Q := by
  refine am_iload (x := v4) dX5_playerAt_13 rfl ?_
  refine am_iload_n (x := v2) dX5_playerAt_15 rfl ?_
  refine am_icmp_ge (tgt := 49) dX5_playerAt_16 (by decide) (fun h => ?_) (fun h => ?_)
  · replace hT := hT.1 h
    refine am_aload_n (x := o) dX5_playerAt_49 rfl ?_
    refine am_aload_n (x := v1) dX5_playerAt_50 rfl ?_
    obtain ⟨x1, hm, hT⟩ := hT
    refine am_callV (av := []) (st := [.ref o]) (b := v1) cw_X0_size cl_X5_31 ck_X0_size cs_X0_size h1.1 rfl rfl (Nat.le_of_ble_eq_true rfl) dX5_playerAt_51 hm (fun r D9 hr => ?_)
    obtain ⟨rfl, e9⟩ := hr
    rw [e9]
    clear e9
    refine am_iload_n (x := v3) dX5_playerAt_54 rfl ?_
    obtain ⟨x2, hm, hT⟩ := hT
    refine am_callV (av := [.int x1, .int v3]) (st := []) (b := o) cw_X5_firstOnesWithin cl_X5_77 ck_X5_firstOnesWithin cs_X5_firstOnesWithin ho.1 rfl rfl (Nat.le_of_ble_eq_true rfl) dX5_playerAt_55 hm (fun r D9 hr => ?_)
    obtain ⟨rfl, e9⟩ := hr
    rw [e9]
    clear e9
    obtain ⟨x3, hm, hT⟩ := hT
    refine am_callSN (av := [.int x2]) (st := []) cw_X10_lowestOf cl_X5_45 ck_X10_lowestOf (Nat.le_of_ble_eq_true rfl) dX5_playerAt_58 hm (fun r D9 hr => ?_)
    obtain ⟨rfl, e9⟩ := hr
    rw [e9]
    clear e9
    exact am_ireturn (ty := .int) dX5_playerAt_61 rfl rfl hT
  · replace hT := hT.2 h
    refine am_iload (x := v4) dX5_playerAt_19 rfl ?_
    refine am_bipush (v := (nI 10)) dX5_playerAt_21 (by decide) ?_
    refine am_icmp_ge (tgt := 49) dX5_playerAt_23 (by decide) (fun h => ?_) (fun h => ?_)
    · replace hT := hT.1 h
      refine am_aload_n (x := o) dX5_playerAt_49 rfl ?_
      refine am_aload_n (x := v1) dX5_playerAt_50 rfl ?_
      obtain ⟨x4, hm, hT⟩ := hT
      refine am_callV (av := []) (st := [.ref o]) (b := v1) cw_X0_size cl_X5_31 ck_X0_size cs_X0_size h1.1 rfl rfl (Nat.le_of_ble_eq_true rfl) dX5_playerAt_51 hm (fun r D9 hr => ?_)
      obtain ⟨rfl, e9⟩ := hr
      rw [e9]
      clear e9
      refine am_iload_n (x := v3) dX5_playerAt_54 rfl ?_
      obtain ⟨x5, hm, hT⟩ := hT
      refine am_callV (av := [.int x4, .int v3]) (st := []) (b := o) cw_X5_firstOnesWithin cl_X5_77 ck_X5_firstOnesWithin cs_X5_firstOnesWithin ho.1 rfl rfl (Nat.le_of_ble_eq_true rfl) dX5_playerAt_55 hm (fun r D9 hr => ?_)
      obtain ⟨rfl, e9⟩ := hr
      rw [e9]
      clear e9
      obtain ⟨x6, hm, hT⟩ := hT
      refine am_callSN (av := [.int x5]) (st := []) cw_X10_lowestOf cl_X5_45 ck_X10_lowestOf (Nat.le_of_ble_eq_true rfl) dX5_playerAt_58 hm (fun r D9 hr => ?_)
      obtain ⟨rfl, e9⟩ := hr
      rw [e9]
      clear e9
      exact am_ireturn (ty := .int) dX5_playerAt_61 rfl rfl hT
    · replace hT := hT.2 h
      refine am_iload_n (x := v3) dX5_playerAt_26 rfl ?_
      refine am_aload_n (x := o) dX5_playerAt_27 rfl ?_
      refine am_aload_n (x := v1) dX5_playerAt_28 rfl ?_
      obtain ⟨x7, hm, hT⟩ := hT
      refine am_callV (av := []) (st := [.ref o, .int v3]) (b := v1) cw_X0_size cl_X5_31 ck_X0_size cs_X0_size h1.1 rfl rfl (Nat.le_of_ble_eq_true rfl) dX5_playerAt_29 hm (fun r D9 hr => ?_)
      obtain ⟨rfl, e9⟩ := hr
      rw [e9]
      clear e9
      refine am_iload_n (x := v3) dX5_playerAt_32 rfl ?_
      obtain ⟨x8, hm, hT⟩ := hT
      refine am_callV (av := [.int x7, .int v3]) (st := [.int v3]) (b := o) cw_X5_firstOnesWithin cl_X5_77 ck_X5_firstOnesWithin cs_X5_firstOnesWithin ho.1 rfl rfl (Nat.le_of_ble_eq_true rfl) dX5_playerAt_33 hm (fun r D9 hr => ?_)
      obtain ⟨rfl, e9⟩ := hr
      rw [e9]
      clear e9
      obtain ⟨x9, hm, hT⟩ := hT
      refine am_callSN (av := [.int x8]) (st := [.int v3]) cw_X10_lowestOf cl_X5_45 ck_X10_lowestOf (Nat.le_of_ble_eq_true rfl) dX5_playerAt_36 hm (fun r D9 hr => ?_)
      obtain ⟨rfl, e9⟩ := hr
      rw [e9]
      clear e9
      obtain ⟨x10, hm, hT⟩ := hT
      refine am_callSN (av := [.int v3, .int x9]) (st := []) cw_X10_without cl_X5_64 ck_X10_without (Nat.le_of_ble_eq_true rfl) dX5_playerAt_39 hm (fun r D9 hr => ?_)
      obtain ⟨rfl, e9⟩ := hr
      rw [e9]
      clear e9
      refine am_set (am_istore_n dX5_playerAt_42 (by decide)) (L1 := [.ref o, .ref v1, .int v2, .int x10, .int v4]) rfl ?_
      refine am_set (am_iinc (x := v4) (c0 := (nI 1)) dX5_playerAt_43 (by decide) rfl (by decide)) (L1 := [.ref o, .ref v1, .int v2, .int x10, .int (v4 + (nI 1))]) rfl ?_
      refine am_goto (tgt := 13) dX5_playerAt_46 (by decide) ?_
      exact hT
