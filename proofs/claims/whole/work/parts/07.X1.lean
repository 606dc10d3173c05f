set_option maxRecDepth 20000 in
theorem eX1_build {lay : List am_L} {d : Nat} {D : am_D} {Q : Option Value → am_D → Prop} {o : Nat} {v1 : Nat} {v2 : Nat} (ho : isX1 lay o) (h1 : isX8 lay v1) (h2 : isX0 lay v2) (hT : (∃ x1, am_MetP lay d mX8_size [.ref v1] D x1 ∧
 (∃ D2, am_MetV lay d mX0_start [.ref v2, .int x1] D D2 ∧
 am_AW lay (d + 1) mX1_build 10 [.ref o, .ref v1, .ref v2, .int (nI 0), .null, .null] [] D2 Q))) : am_Met lay (d + 1) mX1_build [.ref o, .ref v1, .ref v2] D Q := by
  refine am_enter (by decide +kernel) rfl (Nat.le_of_ble_eq_true rfl) ?_
  show am_AW lay (d + 1) mX1_build 0 [.ref o, .ref v1, .ref v2, .null, .null, .null] [] D Q
  refine am_aload_n (x := v2) dX1_build_0 rfl ?_
  refine am_aload_n (x := v1) dX1_build_1 rfl ?_
  obtain ⟨x1, hm, hT⟩ := hT
  refine am_callV (av := []) (st := [.ref v2]) (b := v1) cw_X8_size cl_X1_15 ck_X8_size cs_X8_size h1.1 rfl rfl (Nat.le_of_ble_eq_true rfl) dX1_build_2 hm (fun r D9 hr => ?_)
  obtain ⟨rfl, e9⟩ := hr
  rw [e9]
  clear e9
  obtain ⟨D2, hm, hT⟩ := hT
  refine am_callV (av := [.int x1]) (st := []) (b := v2) cw_X0_start cl_X1_21 ck_X0_start cs_X0_start h2.1 rfl rfl (Nat.le_of_ble_eq_true rfl) dX1_build_5 hm (fun r D9 hr => ?_)
  obtain ⟨rfl, e9⟩ := hr
  rw [e9]
  clear e9
  refine am_iconst (v := (nI 0)) dX1_build_8 (by decide) ?_
  refine am_set (am_istore_n dX1_build_9 (by decide)) (L1 := [.ref o, .ref v1, .ref v2, .int (nI 0), .null, .null]) rfl ?_
  exact hT
set_option maxRecDepth 20000 in
theorem rX1_build_10 {lay : List am_L} {d : Nat} {D : am_D} {Q : Option Value → am_D → Prop} {o : Nat} {v1 : Nat} {v2 : Nat} {v3 : Int32} (ho : isX1 lay o) (h1 : isX8 lay v1) (h2 : isX0 lay v2) (hT : (((nI 10) ≤ v3 → (∃ x1, am_MetP lay d mX0_everyone [.ref v2] D x1 ∧
 am_AW lay (d + 1) mX1_build 44 [.ref o, .ref v1, .ref v2, .int x1, .int (nI 0), .null] [] D Q)) ∧
 (¬ ((nI 10) ≤ v3) → (∃ x2, am_MetP lay d mX8_numberAt [.ref v1, .int v3] D x2 ∧
 (vp_in v3 10 ∧ ∀ D3, D3 = am_up D (o + 1) (Int32.toNatClampNeg v3) x2 →
 am_AW lay (d + 1) mX1_build 10 [.ref o, .ref v1, .ref v2, .int (v3 + (nI 1)), .null, .null] [] D3 Q))))) : am_AW lay (d + 1) mX1_build 10 [.ref o, .ref v1, .ref v2, .int v3, .null, .null] [] D Q := by
  refine am_iload_n (x := v3) dX1_build_10 rfl ?_
  refine am_aload_n (x := o) dX1_build_11 rfl ?_
  refine am_getR dX1_build_12 fw_X1_9 ho.1 rfl ?_
  refine am_alen (v := nI 10) dX1_build_15 ho.2 rfl (by decide) ?_
  refine am_icmp_ge (tgt := 36) dX1_build_16 (by decide) (fun h => ?_) (fun h => ?_)
  · replace hT := hT.1 h
    refine am_aload_n (x := v2) dX1_build_36 rfl ?_
    obtain ⟨x1, hm, hT⟩ := hT
    refine am_callV (av := []) (st := []) (b := v2) cw_X0_everyone cl_X1_31 ck_X0_everyone cs_X0_everyone h2.1 rfl rfl (Nat.le_of_ble_eq_true rfl) dX1_build_37 hm (fun r D9 hr => ?_)
    obtain ⟨rfl, e9⟩ := hr
    rw [e9]
    clear e9
    refine am_set (am_istore_n dX1_build_40 (by decide)) (L1 := [.ref o, .ref v1, .ref v2, .int x1, .null, .null]) rfl ?_
    refine am_iconst (v := (nI 0)) dX1_build_41 (by decide) ?_
    refine am_set (am_istore dX1_build_42 (by decide)) (L1 := [.ref o, .ref v1, .ref v2, .int x1, .int (nI 0), .null]) rfl ?_
    exact hT
  · replace hT := hT.2 h
    refine am_aload_n (x := o) dX1_build_19 rfl ?_
    refine am_getR dX1_build_20 fw_X1_9 ho.1 rfl ?_
    refine am_iload_n (x := v3) dX1_build_23 rfl ?_
    refine am_aload_n (x := v1) dX1_build_24 rfl ?_
    refine am_iload_n (x := v3) dX1_build_25 rfl ?_
    obtain ⟨x2, hm, hT⟩ := hT
    refine am_callV (av := [.int v3]) (st := [.int v3, .ref (o + 1)]) (b := v1) cw_X8_numberAt cl_X1_27 ck_X8_numberAt cs_X8_numberAt h1.1 rfl rfl (Nat.le_of_ble_eq_true rfl) dX1_build_26 hm (fun r D9 hr => ?_)
    obtain ⟨rfl, e9⟩ := hr
    rw [e9]
    clear e9
    refine am_iast dX1_build_29 ho.2 hT.1 ?_
    obtain ⟨D3, hD⟩ : ∃ z, z = am_up D (o + 1) (Int32.toNatClampNeg v3) x2 := ⟨_, rfl⟩
    rw [← hD]
    replace hT := hT.2 D3 hD
    clear hD
    refine am_set (am_iinc (x := v3) (c0 := (nI 1)) dX1_build_30 (by decide) rfl (by decide)) (L1 := [.ref o, .ref v1, .ref v2, .int (v3 + (nI 1)), .null, .null]) rfl ?_
    refine am_goto (tgt := 10) dX1_build_33 (by decide) ?_
    exact hT
set_option maxRecDepth 20000 in
theorem rX1_build_44 {lay : List am_L} {d : Nat} {D : am_D} {Q : Option Value → am_D → Prop} {o : Nat} {v1 : Nat} {v2 : Nat} {v3 : Int32} {v4 : Int32} (ho : isX1 lay o) (h1 : isX8 lay v1) (h2 : isX0 lay v2) (hT : (((nI 10) ≤ v4 → Q none D) ∧
 (¬ ((nI 10) ≤ v4) → ((v3 = nI 0 → Q none D) ∧
 (¬ (v3 = nI 0) → (∃ x1, am_MetP lay d mX1_greatestOf [.ref o, .int v3] D x1 ∧
 (∃ x2, am_MetP lay d mX10_without [.int v3, .int x1] D x2 ∧
 (∃ x3, am_MetP lay d mX1_restOf [.ref o, .int x1] D x3 ∧
 (∃ x4, am_MetP lay d mX1_smallestOf [.ref o, .int x2, .int x3] D x4 ∧
 (∃ D5, am_MetV lay d mX1_settle [.ref o, .ref v2, .int x1, .int x2, .int x4] D D5 ∧
 am_AW lay (d + 1) mX1_build 44 [.ref o, .ref v1, .ref v2, .int x2, .int (v4 + (nI 1)), .null] [] D5 Q)))))))))) : am_AW lay (d + 1) mX1_build 44 [.ref o, .ref v1, .ref v2, .int v3, .int v4, .null] [] D Q := by
  refine am_iload (x := v4) dX1_build_44 rfl ?_
  refine am_bipush (v := (nI 10)) dX1_build_46 (by decide) ?_
  refine am_icmp_ge (tgt := 94) dX1_build_48 (by decide) (fun h => ?_) (fun h => ?_)
  · replace hT := hT.1 h
    exact am_return dX1_build_94 rfl hT
  · replace hT := hT.2 h
    refine am_iload_n (x := v3) dX1_build_51 rfl ?_
    refine am_if_eq (tgt := 94) dX1_build_52 (by decide) (fun h => ?_) (fun h => ?_)
    · replace hT := hT.1 h
      exact am_return dX1_build_94 rfl hT
    · replace hT := hT.2 h
      refine am_aload_n (x := o) dX1_build_55 rfl ?_
      refine am_iload_n (x := v3) dX1_build_56 rfl ?_
      obtain ⟨x1, hm, hT⟩ := hT
      refine am_callV (av := [.int v3]) (st := []) (b := o) cw_X1_greatestOf cl_X1_34 ck_X1_greatestOf cs_X1_greatestOf ho.1 rfl rfl (Nat.le_of_ble_eq_true rfl) dX1_build_57 hm (fun r D9 hr => ?_)
      obtain ⟨rfl, e9⟩ := hr
      rw [e9]
      clear e9
      refine am_set (am_istore dX1_build_60 (by decide)) (L1 := [.ref o, .ref v1, .ref v2, .int v3, .int v4, .int x1]) rfl ?_
      refine am_iload_n (x := v3) dX1_build_62 rfl ?_
      refine am_iload (x := x1) dX1_build_63 rfl ?_
      obtain ⟨x2, hm, hT⟩ := hT
      refine am_callSN (av := [.int v3, .int x1]) (st := []) cw_X10_without cl_X1_37 ck_X10_without (Nat.le_of_ble_eq_true rfl) dX1_build_65 hm (fun r D9 hr => ?_)
      obtain ⟨rfl, e9⟩ := hr
      rw [e9]
      clear e9
      refine am_set (am_istore_n dX1_build_68 (by decide)) (L1 := [.ref o, .ref v1, .ref v2, .int x2, .int v4, .int x1]) rfl ?_
      refine am_aload_n (x := o) dX1_build_69 rfl ?_
      refine am_aload_n (x := v2) dX1_build_70 rfl ?_
      refine am_iload (x := x1) dX1_build_71 rfl ?_
      refine am_iload_n (x := x2) dX1_build_73 rfl ?_
      refine am_aload_n (x := o) dX1_build_74 rfl ?_
      refine am_iload_n (x := x2) dX1_build_75 rfl ?_
      refine am_aload_n (x := o) dX1_build_76 rfl ?_
      refine am_iload (x := x1) dX1_build_77 rfl ?_
      obtain ⟨x3, hm, hT⟩ := hT
      refine am_callV (av := [.int x1]) (st := [.int x2, .ref o, .int x2, .int x1, .ref v2, .ref o]) (b := o) cw_X1_restOf cl_X1_41 ck_X1_restOf cs_X1_restOf ho.1 rfl rfl (Nat.le_of_ble_eq_true rfl) dX1_build_79 hm (fun r D9 hr => ?_)
      obtain ⟨rfl, e9⟩ := hr
      rw [e9]
      clear e9
      obtain ⟨x4, hm, hT⟩ := hT
      refine am_callV (av := [.int x2, .int x3]) (st := [.int x2, .int x1, .ref v2, .ref o]) (b := o) cw_X1_smallestOf cl_X1_44 ck_X1_smallestOf cs_X1_smallestOf ho.1 rfl rfl (Nat.le_of_ble_eq_true rfl) dX1_build_82 hm (fun r D9 hr => ?_)
      obtain ⟨rfl, e9⟩ := hr
      rw [e9]
      clear e9
      obtain ⟨D5, hm, hT⟩ := hT
      refine am_callV (av := [.ref v2, .int x1, .int x2, .int x4]) (st := []) (b := o) cw_X1_settle cl_X1_47 ck_X1_settle cs_X1_settle ho.1 rfl rfl (Nat.le_of_ble_eq_true rfl) dX1_build_85 hm (fun r D9 hr => ?_)
      obtain ⟨rfl, e9⟩ := hr
      rw [e9]
      clear e9
      refine am_set (am_iinc (x := v4) (c0 := (nI 1)) dX1_build_88 (by decide) rfl (by decide)) (L1 := [.ref o, .ref v1, .ref v2, .int x2, .int (v4 + (nI 1)), .int x1]) rfl ?_
      refine am_goto (tgt := 44) dX1_build_91 (by decide) ?_
      refine am_drop [5] (L1 := [.ref o, .ref v1, .ref v2, .int x2, .int (v4 + (nI 1)), .null]) rfl ?_
      exact hT
set_option maxRecDepth 20000 in
theorem eX1_restOf {lay : List am_L} {d : Nat} {D : am_D} {Q : Option Value → am_D → Prop} {o : Nat} {v1 : Int32} (ho : isX1 lay o) (hT : ((v1 < nI 0 → Q (some (.int (nI 0))) D) ∧
 (¬ (v1 < nI 0) → (((nI 10) ≤ v1 → Q (some (.int (nI 0))) D) ∧
 (¬ ((nI 10) ≤ v1) → (vp_in v1 10 ∧ Q (some (.int (D (o + 1) (Int32.toNatClampNeg v1)))) D)))))) : am_Met lay d mX1_restOf [.ref o, .int v1] D Q := by
  refine am_enter (by decide +kernel) rfl (Nat.le_of_ble_eq_true rfl) ?_
  show am_AW lay d mX1_restOf 0 [.ref o, .int v1] [] D Q
  refine am_iload_n (x := v1) dX1_restOf_0 rfl ?_
  refine am_if_lt (tgt := 22) dX1_restOf_1 (by decide) (fun h => ?_) (fun h => ?_)
  · replace hT := hT.1 h
    refine am_iconst (v := (nI 0)) dX1_restOf_22 (by decide) ?_
    exact am_ireturn (ty := .int) dX1_restOf_23 rfl rfl hT
  · replace hT := hT.2 h
    refine am_iload_n (x := v1) dX1_restOf_4 rfl ?_
    refine am_aload_n (x := o) dX1_restOf_5 rfl ?_
    refine am_getR dX1_restOf_6 fw_X1_9 ho.1 rfl ?_
    refine am_alen (v := nI 10) dX1_restOf_9 ho.2 rfl (by decide) ?_
    refine am_icmp_ge (tgt := 22) dX1_restOf_10 (by decide) (fun h => ?_) (fun h => ?_)
    · replace hT := hT.1 h
      refine am_iconst (v := (nI 0)) dX1_restOf_22 (by decide) ?_
      exact am_ireturn (ty := .int) dX1_restOf_23 rfl rfl hT
    · replace hT := hT.2 h
      refine am_aload_n (x := o) dX1_restOf_13 rfl ?_
      refine am_getR dX1_restOf_14 fw_X1_9 ho.1 rfl ?_
      refine am_iload_n (x := v1) dX1_restOf_17 rfl ?_
      refine am_iald dX1_restOf_18 ho.2 hT.1 ?_
      replace hT := hT.2
      refine am_goto (tgt := 23) dX1_restOf_19 (by decide) ?_
      exact am_ireturn (ty := .int) dX1_restOf_23 rfl rfl hT
set_option maxRecDepth 20000 in
theorem eX1_greatestOf {lay : List am_L} {d : Nat} {D : am_D} {Q : Option Value → am_D → Prop} {o : Nat} {v1 : Int32} (ho : isX1 lay o) (hT : (∃ x1, am_MetP lay d mX10_lowestOf [.int v1] D x1 ∧
 am_AW lay (d + 1) mX1_greatestOf 7 [.ref o, .int v1, .int x1, .int (nI 0)] [] D Q)) : am_Met lay (d + 1) mX1_greatestOf [.ref o, .int v1] D Q := by
  refine am_enter (by decide +kernel) rfl (Nat.le_of_ble_eq_true rfl) ?_
  show am_AW lay (d + 1) mX1_greatestOf 0 [.ref o, .int v1, .null, .null] [] D Q
  refine am_iload_n (x := v1) dX1_greatestOf_0 rfl ?_
  obtain ⟨x1, hm, hT⟩ := hT
  refine am_callSN (av := [.int v1]) (st := []) cw_X10_lowestOf cl_X1_51 ck_X10_lowestOf (Nat.le_of_ble_eq_true rfl) dX1_greatestOf_1 hm (fun r D9 hr => ?_)
  obtain ⟨rfl, e9⟩ := hr
  rw [e9]
  clear e9
  refine am_set (am_istore_n dX1_greatestOf_4 (by decide)) (L1 := [.ref o, .int v1, .int x1, .null]) rfl ?_
  refine am_iconst (v := (nI 0)) dX1_greatestOf_5 (by decide) ?_
  refine am_set (am_istore_n dX1_greatestOf_6 (by decide)) (L1 := [.ref o, .int v1, .int x1, .int (nI 0)]) rfl ?_
  exact hT
set_option maxRecDepth 20000 in
theorem rX1_greatestOf_7 {lay : List am_L} {d : Nat} {D : am_D} {Q : Option Value → am_D → Prop} {o : Nat} {v1 : Int32} {v2 : Int32} {v3 : Int32} (ho : isX1 lay o) (hT : (((nI 10) ≤ v3 → Q (some (.int v2)) D) ∧
 (¬ ((nI 10) ≤ v3) → (∃ x1, am_MetP lay d mX10_holds [.int v1, .int v3] D x1 ∧
 ((x1 = nI 0 → am_AW lay (d + 1) mX1_greatestOf 7 [.ref o, .int v1, .int v2, .int (v3 + (nI 1))] [] D Q) ∧
 (¬ (x1 = nI 0) → (∃ x2, am_MetP lay d mX1_restOf [.ref o, .int v3] D x2 ∧
 (∃ x3, am_MetP lay d mX1_restOf [.ref o, .int v2] D x3 ∧
 ((x2 < x3 → am_AW lay (d + 1) mX1_greatestOf 7 [.ref o, .int v1, .int v2, .int (v3 + (nI 1))] [] D Q) ∧
 (¬ (x2 < x3) → am_AW lay (d + 1) mX1_greatestOf 7 [.ref o, .int v1, .int v3, .int (v3 + (nI 1))] [] D Q)))))))))) : am_AW lay (d + 1) mX1_greatestOf 7 [.ref o, .int v1, .int v2, .int v3] [] D Q := by
  refine am_iload_n (x := v3) dX1_greatestOf_7 rfl ?_
  refine am_aload_n (x := o) dX1_greatestOf_8 rfl ?_
  refine am_getR dX1_greatestOf_9 fw_X1_9 ho.1 rfl ?_
  refine am_alen (v := nI 10) dX1_greatestOf_12 ho.2 rfl (by decide) ?_
  refine am_icmp_ge (tgt := 45) dX1_greatestOf_13 (by decide) (fun h => ?_) (fun h => ?_)
  · replace hT := hT.1 h
    refine am_iload_n (x := v2) dX1_greatestOf_45 rfl ?_
    exact am_ireturn (ty := .int) dX1_greatestOf_46 rfl rfl hT
  · replace hT := hT.2 h
    refine am_iload_n (x := v1) dX1_greatestOf_16 rfl ?_
    refine am_iload_n (x := v3) dX1_greatestOf_17 rfl ?_
    obtain ⟨x1, hm, hT⟩ := hT
    refine am_callSN (av := [.int v1, .int v3]) (st := []) cw_X10_holds cl_X1_54 ck_X10_holds (Nat.le_of_ble_eq_true rfl) dX1_greatestOf_18 hm (fun r D9 hr => ?_)
    obtain ⟨rfl, e9⟩ := hr
    rw [e9]
    clear e9
    refine am_if_eq (tgt := 39) dX1_greatestOf_21 (by decide) (fun h => ?_) (fun h => ?_)
    · replace hT := hT.1 h
      refine am_set (am_iinc (x := v3) (c0 := (nI 1)) dX1_greatestOf_39 (by decide) rfl (by decide)) (L1 := [.ref o, .int v1, .int v2, .int (v3 + (nI 1))]) rfl ?_
      refine am_goto (tgt := 7) dX1_greatestOf_42 (by decide) ?_
      exact hT
    · replace hT := hT.2 h
      refine am_aload_n (x := o) dX1_greatestOf_24 rfl ?_
      refine am_iload_n (x := v3) dX1_greatestOf_25 rfl ?_
      obtain ⟨x2, hm, hT⟩ := hT
      refine am_callV (av := [.int v3]) (st := []) (b := o) cw_X1_restOf cl_X1_41 ck_X1_restOf cs_X1_restOf ho.1 rfl rfl (Nat.le_of_ble_eq_true rfl) dX1_greatestOf_26 hm (fun r D9 hr => ?_)
      obtain ⟨rfl, e9⟩ := hr
      rw [e9]
      clear e9
      refine am_aload_n (x := o) dX1_greatestOf_29 rfl ?_
      refine am_iload_n (x := v2) dX1_greatestOf_30 rfl ?_
      obtain ⟨x3, hm, hT⟩ := hT
      refine am_callV (av := [.int v2]) (st := [.int x2]) (b := o) cw_X1_restOf cl_X1_41 ck_X1_restOf cs_X1_restOf ho.1 rfl rfl (Nat.le_of_ble_eq_true rfl) dX1_greatestOf_31 hm (fun r D9 hr => ?_)
      obtain ⟨rfl, e9⟩ := hr
      rw [e9]
      clear e9
      refine am_icmp_lt (tgt := 39) dX1_greatestOf_34 (by decide) (fun h => ?_) (fun h => ?_)
      · replace hT := hT.1 h
        refine am_set (am_iinc (x := v3) (c0 := (nI 1)) dX1_greatestOf_39 (by decide) rfl (by decide)) (L1 := [.ref o, .int v1, .int v2, .int (v3 + (nI 1))]) rfl ?_
        refine am_goto (tgt := 7) dX1_greatestOf_42 (by decide) ?_
        exact hT
      · replace hT := hT.2 h
        refine am_iload_n (x := v3) dX1_greatestOf_37 rfl ?_
        refine am_set (am_istore_n dX1_greatestOf_38 (by decide)) (L1 := [.ref o, .int v1, .int v3, .int v3]) rfl ?_
        refine am_set (am_iinc (x := v3) (c0 := (nI 1)) dX1_greatestOf_39 (by decide) rfl (by decide)) (L1 := [.ref o, .int v1, .int v3, .int (v3 + (nI 1))]) rfl ?_
        refine am_goto (tgt := 7) dX1_greatestOf_42 (by decide) ?_
        exact hT
set_option maxRecDepth 20000 in
theorem eX1_smallestOf {lay : List am_L} {d : Nat} {D : am_D} {Q : Option Value → am_D → Prop} {o : Nat} {v1 : Int32} {v2 : Int32} (ho : isX1 lay o) (hT : am_AW lay (d + 1) mX1_smallestOf 5 [.ref o, .int v1, .int v2, .int (nI 0), .int (nI 0)] [] D Q) : am_Met lay (d + 1) mX1_smallestOf [.ref o, .int v1, .int v2] D Q := by
  refine am_enter (by decide +kernel) rfl (Nat.le_of_ble_eq_true rfl) ?_
  show am_AW lay (d + 1) mX1_smallestOf 0 [.ref o, .int v1, .int v2, .null, .null] [] D Q
  refine am_iconst (v := (nI 0)) dX1_smallestOf_0 (by decide) ?_
  refine am_set (am_istore_n dX1_smallestOf_1 (by decide)) (L1 := [.ref o, .int v1, .int v2, .int (nI 0), .null]) rfl ?_
  refine am_iconst (v := (nI 0)) dX1_smallestOf_2 (by decide) ?_
  refine am_set (am_istore dX1_smallestOf_3 (by decide)) (L1 := [.ref o, .int v1, .int v2, .int (nI 0), .int (nI 0)]) rfl ?_
  exact hT
set_option maxRecDepth 20000 in
theorem rX1_smallestOf_5 {lay : List am_L} {d : Nat} {D : am_D} {Q : Option Value → am_D → Prop} {o : Nat} {v1 : Int32} {v2 : Int32} {v3 : Int32} {v4 : Int32} (ho : isX1 lay o) (hT : ((v2 ≤ v4 → Q (some (.int v3)) D) ∧
 (¬ (v2 ≤ v4) → (((nI 10) ≤ v4 → Q (some (.int v3)) D) ∧
 (¬ ((nI 10) ≤ v4) → (∃ x1, am_MetP lay d mX1_smallestIn [.ref o, .int (v1 &&& (v3 ^^^ (-1)))] D x1 ∧
 (∃ x2, am_MetP lay d mX10_only [.int x1] D x2 ∧
 am_AW lay (d + 1) mX1_smallestOf 5 [.ref o, .int v1, .int v2, .int (v3 ||| x2), .int (v4 + (nI 1))] [] D Q))))))) : am_AW lay (d + 1) mX1_smallestOf 5 [.ref o, .int v1, .int v2, .int v3, .int v4] [] D Q := by
  refine am_iload (x := v4) dX1_smallestOf_5 rfl ?_
  refine am_iload_n (x := v2) dX1_smallestOf_7 rfl ?_
  refine am_icmp_ge (tgt := 39) dX1_smallestOf_8 (by decide) (fun h => ?_) (fun h => ?_)
  · replace hT := hT.1 h
    refine am_iload_n (x := v3) dX1_smallestOf_39 rfl ?_
    exact am_ireturn (ty := .int) dX1_smallestOf_40 rfl rfl hT
  · replace hT := hT.2 h
    refine am_iload (x := v4) dX1_smallestOf_11 rfl ?_
    refine am_bipush (v := (nI 10)) dX1_smallestOf_13 (by decide) ?_
    refine am_icmp_ge (tgt := 39) dX1_smallestOf_15 (by decide) (fun h => ?_) (fun h => ?_)
    · replace hT := hT.1 h
      refine am_iload_n (x := v3) dX1_smallestOf_39 rfl ?_
      exact am_ireturn (ty := .int) dX1_smallestOf_40 rfl rfl hT
    · replace hT := hT.2 h
      refine am_iload_n (x := v3) dX1_smallestOf_18 rfl ?_
      refine am_aload_n (x := o) dX1_smallestOf_19 rfl ?_
      refine am_iload_n (x := v1) dX1_smallestOf_20 rfl ?_
      refine am_iload_n (x := v3) dX1_smallestOf_21 rfl ?_
      refine am_iconst (v := (-1)) dX1_smallestOf_22 (by decide) ?_
      refine am_ixor dX1_smallestOf_23 ?_
      refine am_iand dX1_smallestOf_24 ?_
      obtain ⟨x1, hm, hT⟩ := hT
      refine am_callV (av := [.int (v1 &&& (v3 ^^^ (-1)))]) (st := [.int v3]) (b := o) cw_X1_smallestIn cl_X1_58 ck_X1_smallestIn cs_X1_smallestIn ho.1 rfl rfl (Nat.le_of_ble_eq_true rfl) dX1_smallestOf_25 hm (fun r D9 hr => ?_)
      obtain ⟨rfl, e9⟩ := hr
      rw [e9]
      clear e9
      obtain ⟨x2, hm, hT⟩ := hT
      refine am_callSN (av := [.int x1]) (st := [.int v3]) cw_X10_only cl_X1_61 ck_X10_only (Nat.le_of_ble_eq_true rfl) dX1_smallestOf_28 hm (fun r D9 hr => ?_)
      obtain ⟨rfl, e9⟩ := hr
      rw [e9]
      clear e9
      refine am_ior dX1_smallestOf_31 ?_
      refine am_set (am_istore_n dX1_smallestOf_32 (by decide)) (L1 := [.ref o, .int v1, .int v2, .int (v3 ||| x2), .int v4]) rfl ?_
      refine am_set (am_iinc (x := v4) (c0 := (nI 1)) dX1_smallestOf_33 (by decide) rfl (by decide)) (L1 := [.ref o, .int v1, .int v2, .int (v3 ||| x2), .int (v4 + (nI 1))]) rfl ?_
      refine am_goto (tgt := 5) dX1_smallestOf_36 (by decide) ?_
      exact hT
set_option maxRecDepth 20000 in
theorem eX1_smallestIn {lay : List am_L} {d : Nat} {D : am_D} {Q : Option Value → am_D → Prop} {o : Nat} {v1 : Int32} (ho : isX1 lay o) (hT : (∃ x1, am_MetP lay d mX10_lowestOf [.int v1] D x1 ∧
 am_AW lay (d + 1) mX1_smallestIn 7 [.ref o, .int v1, .int x1, .int (nI 0)] [] D Q)) : am_Met lay (d + 1) mX1_smallestIn [.ref o, .int v1] D Q := by
  refine am_enter (by decide +kernel) rfl (Nat.le_of_ble_eq_true rfl) ?_
  show am_AW lay (d + 1) mX1_smallestIn 0 [.ref o, .int v1, .null, .null] [] D Q
  refine am_iload_n (x := v1) dX1_smallestIn_0 rfl ?_
  obtain ⟨x1, hm, hT⟩ := hT
  refine am_callSN (av := [.int v1]) (st := []) cw_X10_lowestOf cl_X1_51 ck_X10_lowestOf (Nat.le_of_ble_eq_true rfl) dX1_smallestIn_1 hm (fun r D9 hr => ?_)
  obtain ⟨rfl, e9⟩ := hr
  rw [e9]
  clear e9
  refine am_set (am_istore_n dX1_smallestIn_4 (by decide)) (L1 := [.ref o, .int v1, .int x1, .null]) rfl ?_
  refine am_iconst (v := (nI 0)) dX1_smallestIn_5 (by decide) ?_
  refine am_set (am_istore_n dX1_smallestIn_6 (by decide)) (L1 := [.ref o, .int v1, .int x1, .int (nI 0)]) rfl ?_
  exact hT
set_option maxRecDepth 20000 in
theorem rX1_smallestIn_7 {lay : List am_L} {d : Nat} {D : am_D} {Q : Option Value → am_D → Prop} {o : Nat} {v1 : Int32} {v2 : Int32} {v3 : Int32} (ho : isX1 lay o) (hT : (((nI 10) ≤ v3 → Q (some (.int v2)) D) ∧
 (¬ ((nI 10) ≤ v3) → (∃ x1, am_MetP lay d mX10_holds [.int v1, .int v3] D x1 ∧
 ((x1 = nI 0 → am_AW lay (d + 1) mX1_smallestIn 7 [.ref o, .int v1, .int v2, .int (v3 + (nI 1))] [] D Q) ∧
 (¬ (x1 = nI 0) → (∃ x2, am_MetP lay d mX1_restOf [.ref o, .int v3] D x2 ∧
 (∃ x3, am_MetP lay d mX1_restOf [.ref o, .int v2] D x3 ∧
 ((x3 ≤ x2 → am_AW lay (d + 1) mX1_smallestIn 7 [.ref o, .int v1, .int v2, .int (v3 + (nI 1))] [] D Q) ∧
 (¬ (x3 ≤ x2) → am_AW lay (d + 1) mX1_smallestIn 7 [.ref o, .int v1, .int v3, .int (v3 + (nI 1))] [] D Q)))))))))) : am_AW lay (d + 1) mX1_smallestIn 7 [.ref o, .int v1, .int v2, .int v3] [] D Q := by
  refine am_iload_n (x := v3) dX1_smallestIn_7 rfl ?_
  refine am_aload_n (x := o) dX1_smallestIn_8 rfl ?_
  refine am_getR dX1_smallestIn_9 fw_X1_9 ho.1 rfl ?_
  refine am_alen (v := nI 10) dX1_smallestIn_12 ho.2 rfl (by decide) ?_
  refine am_icmp_ge (tgt := 45) dX1_smallestIn_13 (by decide) (fun h => ?_) (fun h => ?_)
  · replace hT := hT.1 h
    refine am_iload_n (x := v2) dX1_smallestIn_45 rfl ?_
    exact am_ireturn (ty := .int) dX1_smallestIn_46 rfl rfl hT
  · replace hT := hT.2 h
    refine am_iload_n (x := v1) dX1_smallestIn_16 rfl ?_
    refine am_iload_n (x := v3) dX1_smallestIn_17 rfl ?_
    obtain ⟨x1, hm, hT⟩ := hT
    refine am_callSN (av := [.int v1, .int v3]) (st := []) cw_X10_holds cl_X1_54 ck_X10_holds (Nat.le_of_ble_eq_true rfl) dX1_smallestIn_18 hm (fun r D9 hr => ?_)
    obtain ⟨rfl, e9⟩ := hr
    rw [e9]
    clear e9
    refine am_if_eq (tgt := 39) dX1_smallestIn_21 (by decide) (fun h => ?_) (fun h => ?_)
    · replace hT := hT.1 h
      refine am_set (am_iinc (x := v3) (c0 := (nI 1)) dX1_smallestIn_39 (by decide) rfl (by decide)) (L1 := [.ref o, .int v1, .int v2, .int (v3 + (nI 1))]) rfl ?_
      refine am_goto (tgt := 7) dX1_smallestIn_42 (by decide) ?_
      exact hT
    · replace hT := hT.2 h
      refine am_aload_n (x := o) dX1_smallestIn_24 rfl ?_
      refine am_iload_n (x := v3) dX1_smallestIn_25 rfl ?_
      obtain ⟨x2, hm, hT⟩ := hT
      refine am_callV (av := [.int v3]) (st := []) (b := o) cw_X1_restOf cl_X1_41 ck_X1_restOf cs_X1_restOf ho.1 rfl rfl (Nat.le_of_ble_eq_true rfl) dX1_smallestIn_26 hm (fun r D9 hr => ?_)
      obtain ⟨rfl, e9⟩ := hr
      rw [e9]
      clear e9
      refine am_aload_n (x := o) dX1_smallestIn_29 rfl ?_
      refine am_iload_n (x := v2) dX1_smallestIn_30 rfl ?_
      obtain ⟨x3, hm, hT⟩ := hT
      refine am_callV (av := [.int v2]) (st := [.int x2]) (b := o) cw_X1_restOf cl_X1_41 ck_X1_restOf cs_X1_restOf ho.1 rfl rfl (Nat.le_of_ble_eq_true rfl) dX1_smallestIn_31 hm (fun r D9 hr => ?_)
      obtain ⟨rfl, e9⟩ := hr
      rw [e9]
      clear e9
      refine am_icmp_ge (tgt := 39) dX1_smallestIn_34 (by decide) (fun h => ?_) (fun h => ?_)
      · replace hT := hT.1 h
        refine am_set (am_iinc (x := v3) (c0 := (nI 1)) dX1_smallestIn_39 (by decide) rfl (by decide)) (L1 := [.ref o, .int v1, .int v2, .int (v3 + (nI 1))]) rfl ?_
        refine am_goto (tgt := 7) dX1_smallestIn_42 (by decide) ?_
        exact hT
      · replace hT := hT.2 h
        refine am_iload_n (x := v3) dX1_smallestIn_37 rfl ?_
        refine am_set (am_istore_n dX1_smallestIn_38 (by decide)) (L1 := [.ref o, .int v1, .int v3, .int v3]) rfl ?_
        refine am_set (am_iinc (x := v3) (c0 := (nI 1)) dX1_smallestIn_39 (by decide) rfl (by decide)) (L1 := [.ref o, .int v1, .int v3, .int (v3 + (nI 1))]) rfl ?_
        refine am_goto (tgt := 7) dX1_smallestIn_42 (by decide) ?_
        exact hT
set_option maxRecDepth 20000 in
theorem eX1_settle {lay : List am_L} {d : Nat} {D : am_D} {Q : Option Value → am_D → Prop} {o : Nat} {v1 : Nat} {v2 : Int32} {v3 : Int32} {v4 : Int32} (ho : isX1 lay o) (h1 : isX0 lay v1) (hT : am_AW lay (d + 1) mX1_settle 3 [.ref o, .ref v1, .int v2, .int v3, .int v4, .int (nI 0)] [] D Q) : am_Met lay (d + 1) mX1_settle [.ref o, .ref v1, .int v2, .int v3, .int v4] D Q := by
  refine am_enter (by decide +kernel) rfl (Nat.le_of_ble_eq_true rfl) ?_
  show am_AW lay (d + 1) mX1_settle 0 [.ref o, .ref v1, .int v2, .int v3, .int v4, .null] [] D Q
  refine am_iconst (v := (nI 0)) dX1_settle_0 (by decide) ?_
  refine am_set (am_istore dX1_settle_1 (by decide)) (L1 := [.ref o, .ref v1, .int v2, .int v3, .int v4, .int (nI 0)]) rfl ?_
  exact hT
set_option maxRecDepth 20000 in
theorem rX1_settle_3 {lay : List am_L} {d : Nat} {D : am_D} {Q : Option Value → am_D → Prop} {o : Nat} {v1 : Nat} {v2 : Int32} {v3 : Int32} {v4 : Int32} {v5 : Int32} (ho : isX1 lay o) (h1 : isX0 lay v1) (hT : (((nI 10) ≤ v5 → Q none D) ∧
 (¬ ((nI 10) ≤ v5) → (∃ x1, am_MetP lay d mX10_holds [.int v4, .int v5] D x1 ∧
 ((x1 = nI 0 → (∃ x2, am_MetP lay d mX10_holds [.int v3, .int v5] D x2 ∧
 ((x2 = nI 0 → am_AW lay (d + 1) mX1_settle 3 [.ref o, .ref v1, .int v2, .int v3, .int v4, .int (v5 + (nI 1))] [] D Q) ∧
 (¬ (x2 = nI 0) → (∃ D3, am_MetV lay d mX0_setWinner [.ref v1, .int v5, .int v2] D D3 ∧
 (vp_in v5 10 ∧ (vp_in v5 10 ∧ ∀ D4, D4 = am_up D3 (o + 1) (Int32.toNatClampNeg v5) ((D3 (o + 1) (Int32.toNatClampNeg v5)) - (nI 1)) →
 am_AW lay (d + 1) mX1_settle 3 [.ref o, .ref v1, .int v2, .int v3, .int v4, .int (v5 + (nI 1))] [] D4 Q))))))) ∧
 (¬ (x1 = nI 0) → (∃ D5, am_MetV lay d mX0_setWinner [.ref v1, .int v2, .int v5] D D5 ∧
 am_AW lay (d + 1) mX1_settle 3 [.ref o, .ref v1, .int v2, .int v3, .int v4, .int (v5 + (nI 1))] [] D5 Q))))))) : am_AW lay (d + 1) mX1_settle 3 [.ref o, .ref v1, .int v2, .int v3, .int v4, .int v5] [] D Q := by
  refine am_iload (x := v5) dX1_settle_3 rfl ?_
  refine am_aload_n (x := o) dX1_settle_5 rfl ?_
  refine am_getR dX1_settle_6 fw_X1_9 ho.1 rfl ?_
  refine am_alen (v := nI 10) dX1_settle_9 ho.2 rfl (by decide) ?_
  refine am_icmp_ge (tgt := 66) dX1_settle_10 (by decide) (fun h => ?_) (fun h => ?_)
  · replace hT := hT.1 h
    exact am_return dX1_settle_66 rfl hT
  · replace hT := hT.2 h
    refine am_iload (x := v4) dX1_settle_13 rfl ?_
    refine am_iload (x := v5) dX1_settle_15 rfl ?_
    obtain ⟨x1, hm, hT⟩ := hT
    refine am_callSN (av := [.int v4, .int v5]) (st := []) cw_X10_holds cl_X1_54 ck_X10_holds (Nat.le_of_ble_eq_true rfl) dX1_settle_17 hm (fun r D9 hr => ?_)
    obtain ⟨rfl, e9⟩ := hr
    rw [e9]
    clear e9
    refine am_if_eq (tgt := 33) dX1_settle_20 (by decide) (fun h => ?_) (fun h => ?_)
    · replace hT := hT.1 h
      refine am_iload_n (x := v3) dX1_settle_33 rfl ?_
      refine am_iload (x := v5) dX1_settle_34 rfl ?_
      obtain ⟨x2, hm, hT⟩ := hT
      refine am_callSN (av := [.int v3, .int v5]) (st := []) cw_X10_holds cl_X1_54 ck_X10_holds (Nat.le_of_ble_eq_true rfl) dX1_settle_36 hm (fun r D9 hr => ?_)
      obtain ⟨rfl, e9⟩ := hr
      rw [e9]
      clear e9
      refine am_if_eq (tgt := 60) dX1_settle_39 (by decide) (fun h => ?_) (fun h => ?_)
      · replace hT := hT.1 h
        refine am_set (am_iinc (x := v5) (c0 := (nI 1)) dX1_settle_60 (by decide) rfl (by decide)) (L1 := [.ref o, .ref v1, .int v2, .int v3, .int v4, .int (v5 + (nI 1))]) rfl ?_
        refine am_goto (tgt := 3) dX1_settle_63 (by decide) ?_
        exact hT
      · replace hT := hT.2 h
        refine am_aload_n (x := v1) dX1_settle_42 rfl ?_
        refine am_iload (x := v5) dX1_settle_43 rfl ?_
        refine am_iload_n (x := v2) dX1_settle_45 rfl ?_
        obtain ⟨D3, hm, hT⟩ := hT
        refine am_callV (av := [.int v5, .int v2]) (st := []) (b := v1) cw_X0_setWinner cl_X1_64 ck_X0_setWinner cs_X0_setWinner h1.1 rfl rfl (Nat.le_of_ble_eq_true rfl) dX1_settle_46 hm (fun r D9 hr => ?_)
        obtain ⟨rfl, e9⟩ := hr
        rw [e9]
        clear e9
        refine am_aload_n (x := o) dX1_settle_49 rfl ?_
        refine am_getR dX1_settle_50 fw_X1_9 ho.1 rfl ?_
        refine am_iload (x := v5) dX1_settle_53 rfl ?_
        refine am_dup2 dX1_settle_55 rfl rfl ?_
        refine am_iald dX1_settle_56 ho.2 hT.1 ?_
        replace hT := hT.2
        refine am_iconst (v := (nI 1)) dX1_settle_57 (by decide) ?_
        refine am_isub dX1_settle_58 ?_
        refine am_iast dX1_settle_59 ho.2 hT.1 ?_
        obtain ⟨D4, hD⟩ : ∃ z, z = am_up D3 (o + 1) (Int32.toNatClampNeg v5) ((D3 (o + 1) (Int32.toNatClampNeg v5)) - (nI 1)) := ⟨_, rfl⟩
        rw [← hD]
        replace hT := hT.2 D4 hD
        clear hD
        refine am_set (am_iinc (x := v5) (c0 := (nI 1)) dX1_settle_60 (by decide) rfl (by decide)) (L1 := [.ref o, .ref v1, .int v2, .int v3, .int v4, .int (v5 + (nI 1))]) rfl ?_
        refine am_goto (tgt := 3) dX1_settle_63 (by decide) ?_
        exact hT
    · replace hT := hT.2 h
      refine am_aload_n (x := v1) dX1_settle_23 rfl ?_
      refine am_iload_n (x := v2) dX1_settle_24 rfl ?_
      refine am_iload (x := v5) dX1_settle_25 rfl ?_
      obtain ⟨D5, hm, hT⟩ := hT
      refine am_callV (av := [.int v2, .int v5]) (st := []) (b := v1) cw_X0_setWinner cl_X1_64 ck_X0_setWinner cs_X0_setWinner h1.1 rfl rfl (Nat.le_of_ble_eq_true rfl) dX1_settle_27 hm (fun r D9 hr => ?_)
      obtain ⟨rfl, e9⟩ := hr
      rw [e9]
      clear e9
      refine am_goto (tgt := 60) dX1_settle_30 (by decide) ?_
      refine am_set (am_iinc (x := v5) (c0 := (nI 1)) dX1_settle_60 (by decide) rfl (by decide)) (L1 := [.ref o, .ref v1, .int v2, .int v3, .int v4, .int (v5 + (nI 1))]) rfl ?_
      refine am_goto (tgt := 3) dX1_settle_63 (by decide) ?_
      exact hT
