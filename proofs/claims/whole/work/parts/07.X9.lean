set_option maxRecDepth 20000 in
theorem eX9_leadersOf {lay : List am_L} {d : Nat} {D : am_D} {Q : Option Value → am_D → Prop} {v0 : Nat} {v1 : Int32} (h0 : isX0 lay v0) (hT : am_AW lay (d + 1) mX9_leadersOf 7 [.ref v0, .int v1, .int (-1), .int (nI 0), .int (nI 0), .null] [] D Q) : am_Met lay (d + 1) mX9_leadersOf [.ref v0, .int v1] D Q := by
  refine am_enter (by decide +kernel) rfl (Nat.le_of_ble_eq_true rfl) ?_
  show am_AW lay (d + 1) mX9_leadersOf 0 [.ref v0, .int v1, .null, .null, .null, .null] [] D Q
  refine am_iconst (v := (-1)) dX9_leadersOf_0 (by decide) ?_
  refine am_set (am_istore_n dX9_leadersOf_1 (by decide)) (L1 := [.ref v0, .int v1, .int (-1), .null, .null, .null]) rfl ?_
  refine am_iconst (v := (nI 0)) dX9_leadersOf_2 (by decide) ?_
  refine am_set (am_istore_n dX9_leadersOf_3 (by decide)) (L1 := [.ref v0, .int v1, .int (-1), .int (nI 0), .null, .null]) rfl ?_
  refine am_iconst (v := (nI 0)) dX9_leadersOf_4 (by decide) ?_
  refine am_set (am_istore dX9_leadersOf_5 (by decide)) (L1 := [.ref v0, .int v1, .int (-1), .int (nI 0), .int (nI 0), .null]) rfl ?_
  exact hT
set_option maxRecDepth 20000 in
theorem rX9_leadersOf_7 {lay : List am_L} {d : Nat} {D : am_D} {Q : Option Value → am_D → Prop} {v0 : Nat} {v1 : Int32} {v2 : Int32} {v3 : Int32} {v4 : Int32} (h0 : isX0 lay v0) (hT : (∃ x1, am_MetP lay d mX0_size [.ref v0] D x1 ∧
 ((x1 ≤ v4 → Q (some (.int v3)) D) ∧
 (¬ (x1 ≤ v4) → (∃ x2, am_MetP lay d mX0_beatenBy [.ref v0, .int v4] D x2 ∧
 (∃ x3, am_MetP lay d mJ6_bitCount_0f7a4 [.int (x2 &&& v1)] D x3 ∧
 (∃ x4, am_MetP lay d mX10_holds [.int v1, .int v4] D x4 ∧
 ((x4 = nI 0 → am_AW lay (d + 1) mX9_leadersOf 7 [.ref v0, .int v1, .int v2, .int v3, .int (v4 + (nI 1)), .null] [] D Q) ∧
 (¬ (x4 = nI 0) → ((x3 < v2 → am_AW lay (d + 1) mX9_leadersOf 7 [.ref v0, .int v1, .int v2, .int v3, .int (v4 + (nI 1)), .null] [] D Q) ∧
 (¬ (x3 < v2) → ((x3 ≤ v2 → (∃ x5, am_MetP lay d mX10_only [.int v4] D x5 ∧
 am_AW lay (d + 1) mX9_leadersOf 7 [.ref v0, .int v1, .int x3, .int (v3 ||| x5), .int (v4 + (nI 1)), .null] [] D Q)) ∧
 (¬ (x3 ≤ v2) → (∃ x6, am_MetP lay d mX10_only [.int v4] D x6 ∧
 am_AW lay (d + 1) mX9_leadersOf 7 [.ref v0, .int v1, .int x3, .int x6, .int (v4 + (nI 1)), .null] [] D Q)))))))))))))) : am_AW lay (d + 1) mX9_leadersOf 7 [.ref v0, .int v1, .int v2, .int v3, .int v4, .null] [] D Q := by
  refine am_iload (x := v4) dX9_leadersOf_7 rfl ?_
  refine am_aload_n (x := v0) dX9_leadersOf_9 rfl ?_
  obtain ⟨x1, hm, hT⟩ := hT
  refine am_callV (av := []) (st := [.int v4]) (b := v0) cw_X0_size cl_X9_9 ck_X0_size cs_X0_size h0.1 rfl rfl (Nat.le_of_ble_eq_true rfl) dX9_leadersOf_10 hm (fun r D9 hr => ?_)
  obtain ⟨rfl, e9⟩ := hr
  rw [e9]
  clear e9
  refine am_icmp_ge (tgt := 75) dX9_leadersOf_13 (by decide) (fun h => ?_) (fun h => ?_)
  · replace hT := hT.1 h
    refine am_iload_n (x := v3) dX9_leadersOf_75 rfl ?_
    exact am_ireturn (ty := .int) dX9_leadersOf_76 rfl rfl hT
  · replace hT := hT.2 h
    refine am_aload_n (x := v0) dX9_leadersOf_16 rfl ?_
    refine am_iload (x := v4) dX9_leadersOf_17 rfl ?_
    obtain ⟨x2, hm, hT⟩ := hT
    refine am_callV (av := [.int v4]) (st := []) (b := v0) cw_X0_beatenBy cl_X9_15 ck_X0_beatenBy cs_X0_beatenBy h0.1 rfl rfl (Nat.le_of_ble_eq_true rfl) dX9_leadersOf_19 hm (fun r D9 hr => ?_)
    obtain ⟨rfl, e9⟩ := hr
    rw [e9]
    clear e9
    refine am_iload_n (x := v1) dX9_leadersOf_22 rfl ?_
    refine am_iand dX9_leadersOf_23 ?_
    obtain ⟨x3, hm, hT⟩ := hT
    refine am_callS (av := [.int (x2 &&& v1)]) (st := []) cw_J6_bitCount_0f7a4 cl_X9_19 ck_J6_bitCount_0f7a4 (Nat.le_of_ble_eq_true rfl) dX9_leadersOf_24 hm (fun r D9 hr => ?_)
    obtain ⟨rfl, e9⟩ := hr
    rw [e9]
    clear e9
    refine am_set (am_istore dX9_leadersOf_27 (by decide)) (L1 := [.ref v0, .int v1, .int v2, .int v3, .int v4, .int x3]) rfl ?_
    refine am_iload_n (x := v1) dX9_leadersOf_29 rfl ?_
    refine am_iload (x := v4) dX9_leadersOf_30 rfl ?_
    obtain ⟨x4, hm, hT⟩ := hT
    refine am_callSN (av := [.int v1, .int v4]) (st := []) cw_X10_holds cl_X9_24 ck_X10_holds (Nat.le_of_ble_eq_true rfl) dX9_leadersOf_32 hm (fun r D9 hr => ?_)
    obtain ⟨rfl, e9⟩ := hr
    rw [e9]
    clear e9
    refine am_if_eq (tgt := 69) dX9_leadersOf_35 (by decide) (fun h => ?_) (fun h => ?_)
    · replace hT := hT.1 h
      refine am_set (am_iinc (x := v4) (c0 := (nI 1)) dX9_leadersOf_69 (by decide) rfl (by decide)) (L1 := [.ref v0, .int v1, .int v2, .int v3, .int (v4 + (nI 1)), .int x3]) rfl ?_
      refine am_goto (tgt := 7) dX9_leadersOf_72 (by decide) ?_
      refine am_drop [5] (L1 := [.ref v0, .int v1, .int v2, .int v3, .int (v4 + (nI 1)), .null]) rfl ?_
      exact hT
    · replace hT := hT.2 h
      refine am_iload (x := x3) dX9_leadersOf_38 rfl ?_
      refine am_iload_n (x := v2) dX9_leadersOf_40 rfl ?_
      refine am_icmp_lt (tgt := 69) dX9_leadersOf_41 (by decide) (fun h => ?_) (fun h => ?_)
      · replace hT := hT.1 h
        refine am_set (am_iinc (x := v4) (c0 := (nI 1)) dX9_leadersOf_69 (by decide) rfl (by decide)) (L1 := [.ref v0, .int v1, .int v2, .int v3, .int (v4 + (nI 1)), .int x3]) rfl ?_
        refine am_goto (tgt := 7) dX9_leadersOf_72 (by decide) ?_
        refine am_drop [5] (L1 := [.ref v0, .int v1, .int v2, .int v3, .int (v4 + (nI 1)), .null]) rfl ?_
        exact hT
      · replace hT := hT.2 h
        refine am_iload (x := x3) dX9_leadersOf_44 rfl ?_
        refine am_iload_n (x := v2) dX9_leadersOf_46 rfl ?_
        refine am_icmp_le (tgt := 58) dX9_leadersOf_47 (by decide) (fun h => ?_) (fun h => ?_)
        · replace hT := hT.1 h
          refine am_iload_n (x := v3) dX9_leadersOf_58 rfl ?_
          refine am_iload (x := v4) dX9_leadersOf_59 rfl ?_
          obtain ⟨x5, hm, hT⟩ := hT
          refine am_callSN (av := [.int v4]) (st := [.int v3]) cw_X10_only cl_X9_28 ck_X10_only (Nat.le_of_ble_eq_true rfl) dX9_leadersOf_61 hm (fun r D9 hr => ?_)
          obtain ⟨rfl, e9⟩ := hr
          rw [e9]
          clear e9
          refine am_ior dX9_leadersOf_64 ?_
          refine am_set (am_istore_n dX9_leadersOf_65 (by decide)) (L1 := [.ref v0, .int v1, .int v2, .int (v3 ||| x5), .int v4, .int x3]) rfl ?_
          refine am_iload (x := x3) dX9_leadersOf_66 rfl ?_
          refine am_set (am_istore_n dX9_leadersOf_68 (by decide)) (L1 := [.ref v0, .int v1, .int x3, .int (v3 ||| x5), .int v4, .int x3]) rfl ?_
          refine am_set (am_iinc (x := v4) (c0 := (nI 1)) dX9_leadersOf_69 (by decide) rfl (by decide)) (L1 := [.ref v0, .int v1, .int x3, .int (v3 ||| x5), .int (v4 + (nI 1)), .int x3]) rfl ?_
          refine am_goto (tgt := 7) dX9_leadersOf_72 (by decide) ?_
          refine am_drop [5] (L1 := [.ref v0, .int v1, .int x3, .int (v3 ||| x5), .int (v4 + (nI 1)), .null]) rfl ?_
          exact hT
        · replace hT := hT.2 h
          refine am_iload (x := v4) dX9_leadersOf_50 rfl ?_
          obtain ⟨x6, hm, hT⟩ := hT
          refine am_callSN (av := [.int v4]) (st := []) cw_X10_only cl_X9_28 ck_X10_only (Nat.le_of_ble_eq_true rfl) dX9_leadersOf_52 hm (fun r D9 hr => ?_)
          obtain ⟨rfl, e9⟩ := hr
          rw [e9]
          clear e9
          refine am_goto (tgt := 65) dX9_leadersOf_55 (by decide) ?_
          refine am_set (am_istore_n dX9_leadersOf_65 (by decide)) (L1 := [.ref v0, .int v1, .int v2, .int x6, .int v4, .int x3]) rfl ?_
          refine am_iload (x := x3) dX9_leadersOf_66 rfl ?_
          refine am_set (am_istore_n dX9_leadersOf_68 (by decide)) (L1 := [.ref v0, .int v1, .int x3, .int x6, .int v4, .int x3]) rfl ?_
          refine am_set (am_iinc (x := v4) (c0 := (nI 1)) dX9_leadersOf_69 (by decide) rfl (by decide)) (L1 := [.ref v0, .int v1, .int x3, .int x6, .int (v4 + (nI 1)), .int x3]) rfl ?_
          refine am_goto (tgt := 7) dX9_leadersOf_72 (by decide) ?_
          refine am_drop [5] (L1 := [.ref v0, .int v1, .int x3, .int x6, .int (v4 + (nI 1)), .null]) rfl ?_
          exact hT
set_option maxRecDepth 20000 in
theorem eX9_topOf {lay : List am_L} {d : Nat} {D : am_D} {Q : Option Value → am_D → Prop} {v0 : Nat} {v1 : Int32} (h0 : isX0 lay v0) (hT : (∃ x1, am_MetP lay d mX9_leadersOf [.ref v0, .int v1] D x1 ∧
 am_AW lay (d + 1) mX9_topOf 8 [.ref v0, .int v1, .int x1, .int (nI 0), .null] [] D Q)) : am_Met lay (d + 1) mX9_topOf [.ref v0, .int v1] D Q := by
  refine am_enter (by decide +kernel) rfl (Nat.le_of_ble_eq_true rfl) ?_
  show am_AW lay (d + 1) mX9_topOf 0 [.ref v0, .int v1, .null, .null, .null] [] D Q
  refine am_aload_n (x := v0) dX9_topOf_0 rfl ?_
  refine am_iload_n (x := v1) dX9_topOf_1 rfl ?_
  obtain ⟨x1, hm, hT⟩ := hT
  refine am_callS (av := [.ref v0, .int v1]) (st := []) cw_X9_leadersOf cl_X9_31 ck_X9_leadersOf (Nat.le_of_ble_eq_true rfl) dX9_topOf_2 hm (fun r D9 hr => ?_)
  obtain ⟨rfl, e9⟩ := hr
  rw [e9]
  clear e9
  refine am_set (am_istore_n dX9_topOf_5 (by decide)) (L1 := [.ref v0, .int v1, .int x1, .null, .null]) rfl ?_
  refine am_iconst (v := (nI 0)) dX9_topOf_6 (by decide) ?_
  refine am_set (am_istore_n dX9_topOf_7 (by decide)) (L1 := [.ref v0, .int v1, .int x1, .int (nI 0), .null]) rfl ?_
  exact hT
set_option maxRecDepth 20000 in
theorem rX9_topOf_8 {lay : List am_L} {d : Nat} {D : am_D} {Q : Option Value → am_D → Prop} {v0 : Nat} {v1 : Int32} {v2 : Int32} {v3 : Int32} (h0 : isX0 lay v0) (hT : (∃ x1, am_MetP lay d mX0_size [.ref v0] D x1 ∧
 ((x1 ≤ v3 → Q (some (.int v2)) D) ∧
 (¬ (x1 ≤ v3) → am_AW lay (d + 1) mX9_topOf 19 [.ref v0, .int v1, .int v2, .int v3, .int (nI 0)] [] D Q)))) : am_AW lay (d + 1) mX9_topOf 8 [.ref v0, .int v1, .int v2, .int v3, .null] [] D Q := by
  refine am_iload_n (x := v3) dX9_topOf_8 rfl ?_
  refine am_aload_n (x := v0) dX9_topOf_9 rfl ?_
  obtain ⟨x1, hm, hT⟩ := hT
  refine am_callV (av := []) (st := [.int v3]) (b := v0) cw_X0_size cl_X9_9 ck_X0_size cs_X0_size h0.1 rfl rfl (Nat.le_of_ble_eq_true rfl) dX9_topOf_10 hm (fun r D9 hr => ?_)
  obtain ⟨rfl, e9⟩ := hr
  rw [e9]
  clear e9
  refine am_icmp_ge (tgt := 68) dX9_topOf_13 (by decide) (fun h => ?_) (fun h => ?_)
  · replace hT := hT.1 h
    refine am_iload_n (x := v2) dX9_topOf_68 rfl ?_
    exact am_ireturn (ty := .int) dX9_topOf_69 rfl rfl hT
  · replace hT := hT.2 h
    refine am_iconst (v := (nI 0)) dX9_topOf_16 (by decide) ?_
    refine am_set (am_istore dX9_topOf_17 (by decide)) (L1 := [.ref v0, .int v1, .int v2, .int v3, .int (nI 0)]) rfl ?_
    exact hT
set_option maxRecDepth 20000 in
theorem rX9_topOf_19 {lay : List am_L} {d : Nat} {D : am_D} {Q : Option Value → am_D → Prop} {v0 : Nat} {v1 : Int32} {v2 : Int32} {v3 : Int32} {v4 : Int32} (h0 : isX0 lay v0) (hT : (∃ x1, am_MetP lay d mX0_size [.ref v0] D x1 ∧
 ((x1 ≤ v4 → am_AW lay (d + 1) mX9_topOf 8 [.ref v0, .int v1, .int v2, .int (v3 + (nI 1)), .null] [] D Q) ∧
 (¬ (x1 ≤ v4) → (∃ x2, am_MetP lay d mX10_holds [.int v1, .int v4] D x2 ∧
 ((x2 = nI 0 → am_AW lay (d + 1) mX9_topOf 19 [.ref v0, .int v1, .int v2, .int v3, .int (v4 + (nI 1))] [] D Q) ∧
 (¬ (x2 = nI 0) → (∃ x3, am_MetP lay d mX0_beatenBy [.ref v0, .int v4] D x3 ∧
 (((x3 &&& v2) = nI 0 → am_AW lay (d + 1) mX9_topOf 19 [.ref v0, .int v1, .int v2, .int v3, .int (v4 + (nI 1))] [] D Q) ∧
 (¬ ((x3 &&& v2) = nI 0) → (∃ x4, am_MetP lay d mX10_only [.int v4] D x4 ∧
 am_AW lay (d + 1) mX9_topOf 19 [.ref v0, .int v1, .int (v2 ||| x4), .int v3, .int (v4 + (nI 1))] [] D Q))))))))))) : am_AW lay (d + 1) mX9_topOf 19 [.ref v0, .int v1, .int v2, .int v3, .int v4] [] D Q := by
  refine am_iload (x := v4) dX9_topOf_19 rfl ?_
  refine am_aload_n (x := v0) dX9_topOf_21 rfl ?_
  obtain ⟨x1, hm, hT⟩ := hT
  refine am_callV (av := []) (st := [.int v4]) (b := v0) cw_X0_size cl_X9_9 ck_X0_size cs_X0_size h0.1 rfl rfl (Nat.le_of_ble_eq_true rfl) dX9_topOf_22 hm (fun r D9 hr => ?_)
  obtain ⟨rfl, e9⟩ := hr
  rw [e9]
  clear e9
  refine am_icmp_ge (tgt := 62) dX9_topOf_25 (by decide) (fun h => ?_) (fun h => ?_)
  · replace hT := hT.1 h
    refine am_set (am_iinc (x := v3) (c0 := (nI 1)) dX9_topOf_62 (by decide) rfl (by decide)) (L1 := [.ref v0, .int v1, .int v2, .int (v3 + (nI 1)), .int v4]) rfl ?_
    refine am_goto (tgt := 8) dX9_topOf_65 (by decide) ?_
    refine am_drop [4] (L1 := [.ref v0, .int v1, .int v2, .int (v3 + (nI 1)), .null]) rfl ?_
    exact hT
  · replace hT := hT.2 h
    refine am_iload_n (x := v1) dX9_topOf_28 rfl ?_
    refine am_iload (x := v4) dX9_topOf_29 rfl ?_
    obtain ⟨x2, hm, hT⟩ := hT
    refine am_callSN (av := [.int v1, .int v4]) (st := []) cw_X10_holds cl_X9_24 ck_X10_holds (Nat.le_of_ble_eq_true rfl) dX9_topOf_31 hm (fun r D9 hr => ?_)
    obtain ⟨rfl, e9⟩ := hr
    rw [e9]
    clear e9
    refine am_if_eq (tgt := 56) dX9_topOf_34 (by decide) (fun h => ?_) (fun h => ?_)
    · replace hT := hT.1 h
      refine am_set (am_iinc (x := v4) (c0 := (nI 1)) dX9_topOf_56 (by decide) rfl (by decide)) (L1 := [.ref v0, .int v1, .int v2, .int v3, .int (v4 + (nI 1))]) rfl ?_
      refine am_goto (tgt := 19) dX9_topOf_59 (by decide) ?_
      exact hT
    · replace hT := hT.2 h
      refine am_aload_n (x := v0) dX9_topOf_37 rfl ?_
      refine am_iload (x := v4) dX9_topOf_38 rfl ?_
      obtain ⟨x3, hm, hT⟩ := hT
      refine am_callV (av := [.int v4]) (st := []) (b := v0) cw_X0_beatenBy cl_X9_15 ck_X0_beatenBy cs_X0_beatenBy h0.1 rfl rfl (Nat.le_of_ble_eq_true rfl) dX9_topOf_40 hm (fun r D9 hr => ?_)
      obtain ⟨rfl, e9⟩ := hr
      rw [e9]
      clear e9
      refine am_iload_n (x := v2) dX9_topOf_43 rfl ?_
      refine am_iand dX9_topOf_44 ?_
      refine am_if_eq (tgt := 56) dX9_topOf_45 (by decide) (fun h => ?_) (fun h => ?_)
      · replace hT := hT.1 h
        refine am_set (am_iinc (x := v4) (c0 := (nI 1)) dX9_topOf_56 (by decide) rfl (by decide)) (L1 := [.ref v0, .int v1, .int v2, .int v3, .int (v4 + (nI 1))]) rfl ?_
        refine am_goto (tgt := 19) dX9_topOf_59 (by decide) ?_
        exact hT
      · replace hT := hT.2 h
        refine am_iload_n (x := v2) dX9_topOf_48 rfl ?_
        refine am_iload (x := v4) dX9_topOf_49 rfl ?_
        obtain ⟨x4, hm, hT⟩ := hT
        refine am_callSN (av := [.int v4]) (st := [.int v2]) cw_X10_only cl_X9_28 ck_X10_only (Nat.le_of_ble_eq_true rfl) dX9_topOf_51 hm (fun r D9 hr => ?_)
        obtain ⟨rfl, e9⟩ := hr
        rw [e9]
        clear e9
        refine am_ior dX9_topOf_54 ?_
        refine am_set (am_istore_n dX9_topOf_55 (by decide)) (L1 := [.ref v0, .int v1, .int (v2 ||| x4), .int v3, .int v4]) rfl ?_
        refine am_set (am_iinc (x := v4) (c0 := (nI 1)) dX9_topOf_56 (by decide) rfl (by decide)) (L1 := [.ref v0, .int v1, .int (v2 ||| x4), .int v3, .int (v4 + (nI 1))]) rfl ?_
        refine am_goto (tgt := 19) dX9_topOf_59 (by decide) ?_
        exact hT
set_option maxRecDepth 20000 in
theorem eX9_countParts {lay : List am_L} {d : Nat} {D : am_D} {Q : Option Value → am_D → Prop} {v0 : Nat} (h0 : isX0 lay v0) (hT : (∃ x1, am_MetP lay d mX0_everyone [.ref v0] D x1 ∧
 am_AW lay (d + 1) mX9_countParts 9 [.ref v0, .int x1, .int (nI 0), .int (nI 0)] [] D Q)) : am_Met lay (d + 1) mX9_countParts [.ref v0] D Q := by
  refine am_enter (by decide +kernel) rfl (Nat.le_of_ble_eq_true rfl) ?_
  show am_AW lay (d + 1) mX9_countParts 0 [.ref v0, .null, .null, .null] [] D Q
  refine am_aload_n (x := v0) dX9_countParts_0 rfl ?_
  obtain ⟨x1, hm, hT⟩ := hT
  refine am_callV (av := []) (st := []) (b := v0) cw_X0_everyone cl_X9_37 ck_X0_everyone cs_X0_everyone h0.1 rfl rfl (Nat.le_of_ble_eq_true rfl) dX9_countParts_1 hm (fun r D9 hr => ?_)
  obtain ⟨rfl, e9⟩ := hr
  rw [e9]
  clear e9
  refine am_set (am_istore_n dX9_countParts_4 (by decide)) (L1 := [.ref v0, .int x1, .null, .null]) rfl ?_
  refine am_iconst (v := (nI 0)) dX9_countParts_5 (by decide) ?_
  refine am_set (am_istore_n dX9_countParts_6 (by decide)) (L1 := [.ref v0, .int x1, .int (nI 0), .null]) rfl ?_
  refine am_iconst (v := (nI 0)) dX9_countParts_7 (by decide) ?_
  refine am_set (am_istore_n dX9_countParts_8 (by decide)) (L1 := [.ref v0, .int x1, .int (nI 0), .int (nI 0)]) rfl ?_
  exact hT
set_option maxRecDepth 20000 in
theorem rX9_countParts_9 {lay : List am_L} {d : Nat} {D : am_D} {Q : Option Value → am_D → Prop} {v0 : Nat} {v1 : Int32} {v2 : Int32} {v3 : Int32} (h0 : isX0 lay v0) (hT : (((nI 10) ≤ v3 → Q (some (.int v2)) D) ∧
 (¬ ((nI 10) ≤ v3) → ((v1 = nI 0 → Q (some (.int v2)) D) ∧
 (¬ (v1 = nI 0) → (∃ x1, am_MetP lay d mX9_topOf [.ref v0, .int v1] D x1 ∧
 am_AW lay (d + 1) mX9_countParts 9 [.ref v0, .int (v1 &&& (x1 ^^^ (-1))), .int (v2 + (nI 1)), .int (v3 + (nI 1))] [] D Q)))))) : am_AW lay (d + 1) mX9_countParts 9 [.ref v0, .int v1, .int v2, .int v3] [] D Q := by
  refine am_iload_n (x := v3) dX9_countParts_9 rfl ?_
  refine am_bipush (v := (nI 10)) dX9_countParts_10 (by decide) ?_
  refine am_icmp_ge (tgt := 38) dX9_countParts_12 (by decide) (fun h => ?_) (fun h => ?_)
  · replace hT := hT.1 h
    refine am_iload_n (x := v2) dX9_countParts_38 rfl ?_
    exact am_ireturn (ty := .int) dX9_countParts_39 rfl rfl hT
  · replace hT := hT.2 h
    refine am_iload_n (x := v1) dX9_countParts_15 rfl ?_
    refine am_if_eq (tgt := 38) dX9_countParts_16 (by decide) (fun h => ?_) (fun h => ?_)
    · replace hT := hT.1 h
      refine am_iload_n (x := v2) dX9_countParts_38 rfl ?_
      exact am_ireturn (ty := .int) dX9_countParts_39 rfl rfl hT
    · replace hT := hT.2 h
      refine am_iload_n (x := v1) dX9_countParts_19 rfl ?_
      refine am_aload_n (x := v0) dX9_countParts_20 rfl ?_
      refine am_iload_n (x := v1) dX9_countParts_21 rfl ?_
      obtain ⟨x1, hm, hT⟩ := hT
      refine am_callS (av := [.ref v0, .int v1]) (st := [.int v1]) cw_X9_topOf cl_X9_40 ck_X9_topOf (Nat.le_of_ble_eq_true rfl) dX9_countParts_22 hm (fun r D9 hr => ?_)
      obtain ⟨rfl, e9⟩ := hr
      rw [e9]
      clear e9
      refine am_iconst (v := (-1)) dX9_countParts_25 (by decide) ?_
      refine am_ixor dX9_countParts_26 ?_
      refine am_iand dX9_countParts_27 ?_
      refine am_set (am_istore_n dX9_countParts_28 (by decide)) (L1 := [.ref v0, .int (v1 &&& (x1 ^^^ (-1))), .int v2, .int v3]) rfl ?_
      refine am_set (am_iinc (x := v2) (c0 := (nI 1)) dX9_countParts_29 (by decide) rfl (by decide)) (L1 := [.ref v0, .int (v1 &&& (x1 ^^^ (-1))), .int (v2 + (nI 1)), .int v3]) rfl ?_
      refine am_set (am_iinc (x := v3) (c0 := (nI 1)) dX9_countParts_32 (by decide) rfl (by decide)) (L1 := [.ref v0, .int (v1 &&& (x1 ^^^ (-1))), .int (v2 + (nI 1)), .int (v3 + (nI 1))]) rfl ?_
      refine am_goto (tgt := 9) dX9_countParts_35 (by decide) ?_
      exact hT
set_option maxRecDepth 20000 in
theorem eX9_partNumber {lay : List am_L} {d : Nat} {D : am_D} {Q : Option Value → am_D → Prop} {v0 : Nat} {v1 : Int32} (h0 : isX0 lay v0) (hT : (∃ x1, am_MetP lay d mX0_everyone [.ref v0] D x1 ∧
 (∃ x2, am_MetP lay d mX0_everyone [.ref v0] D x2 ∧
 (∃ x3, am_MetP lay d mX9_topOf [.ref v0, .int x2] D x3 ∧
 am_AW lay (d + 1) mX9_partNumber 21 [.ref v0, .int v1, .int (x1 &&& (x3 ^^^ (-1))), .int (nI 0), .int (nI 0)] [] D Q)))) : am_Met lay (d + 1) mX9_partNumber [.ref v0, .int v1] D Q := by
  refine am_enter (by decide +kernel) rfl (Nat.le_of_ble_eq_true rfl) ?_
  show am_AW lay (d + 1) mX9_partNumber 0 [.ref v0, .int v1, .null, .null, .null] [] D Q
  refine am_aload_n (x := v0) dX9_partNumber_0 rfl ?_
  obtain ⟨x1, hm, hT⟩ := hT
  refine am_callV (av := []) (st := []) (b := v0) cw_X0_everyone cl_X9_37 ck_X0_everyone cs_X0_everyone h0.1 rfl rfl (Nat.le_of_ble_eq_true rfl) dX9_partNumber_1 hm (fun r D9 hr => ?_)
  obtain ⟨rfl, e9⟩ := hr
  rw [e9]
  clear e9
  refine am_aload_n (x := v0) dX9_partNumber_4 rfl ?_
  refine am_aload_n (x := v0) dX9_partNumber_5 rfl ?_
  obtain ⟨x2, hm, hT⟩ := hT
  refine am_callV (av := []) (st := [.ref v0, .int x1]) (b := v0) cw_X0_everyone cl_X9_37 ck_X0_everyone cs_X0_everyone h0.1 rfl rfl (Nat.le_of_ble_eq_true rfl) dX9_partNumber_6 hm (fun r D9 hr => ?_)
  obtain ⟨rfl, e9⟩ := hr
  rw [e9]
  clear e9
  obtain ⟨x3, hm, hT⟩ := hT
  refine am_callS (av := [.ref v0, .int x2]) (st := [.int x1]) cw_X9_topOf cl_X9_40 ck_X9_topOf (Nat.le_of_ble_eq_true rfl) dX9_partNumber_9 hm (fun r D9 hr => ?_)
  obtain ⟨rfl, e9⟩ := hr
  rw [e9]
  clear e9
  refine am_iconst (v := (-1)) dX9_partNumber_12 (by decide) ?_
  refine am_ixor dX9_partNumber_13 ?_
  refine am_iand dX9_partNumber_14 ?_
  refine am_set (am_istore_n dX9_partNumber_15 (by decide)) (L1 := [.ref v0, .int v1, .int (x1 &&& (x3 ^^^ (-1))), .null, .null]) rfl ?_
  refine am_iconst (v := (nI 0)) dX9_partNumber_16 (by decide) ?_
  refine am_set (am_istore_n dX9_partNumber_17 (by decide)) (L1 := [.ref v0, .int v1, .int (x1 &&& (x3 ^^^ (-1))), .int (nI 0), .null]) rfl ?_
  refine am_iconst (v := (nI 0)) dX9_partNumber_18 (by decide) ?_
  refine am_set (am_istore dX9_partNumber_19 (by decide)) (L1 := [.ref v0, .int v1, .int (x1 &&& (x3 ^^^ (-1))), .int (nI 0), .int (nI 0)]) rfl ?_
  exact hT
set_option maxRecDepth 20000 in
theorem rX9_partNumber_21 {lay : List am_L} {d : Nat} {D : am_D} {Q : Option Value → am_D → Prop} {v0 : Nat} {v1 : Int32} {v2 : Int32} {v3 : Int32} {v4 : Int32} (h0 : isX0 lay v0) (hT : (((nI 10) ≤ v4 → Q (some (.int v3)) D) ∧
 (¬ ((nI 10) ≤ v4) → (∃ x1, am_MetP lay d mX10_holds [.int v2, .int v1] D x1 ∧
 ((x1 = nI 0 → Q (some (.int v3)) D) ∧
 (¬ (x1 = nI 0) → (∃ x2, am_MetP lay d mX9_topOf [.ref v0, .int v2] D x2 ∧
 am_AW lay (d + 1) mX9_partNumber 21 [.ref v0, .int v1, .int (v2 &&& (x2 ^^^ (-1))), .int (v3 + (nI 1)), .int (v4 + (nI 1))] [] D Q))))))) : am_AW lay (d + 1) mX9_partNumber 21 [.ref v0, .int v1, .int v2, .int v3, .int v4] [] D Q := by
  refine am_iload (x := v4) dX9_partNumber_21 rfl ?_
  refine am_bipush (v := (nI 10)) dX9_partNumber_23 (by decide) ?_
  refine am_icmp_ge (tgt := 55) dX9_partNumber_25 (by decide) (fun h => ?_) (fun h => ?_)
  · replace hT := hT.1 h
    refine am_iload_n (x := v3) dX9_partNumber_55 rfl ?_
    exact am_ireturn (ty := .int) dX9_partNumber_56 rfl rfl hT
  · replace hT := hT.2 h
    refine am_iload_n (x := v2) dX9_partNumber_28 rfl ?_
    refine am_iload_n (x := v1) dX9_partNumber_29 rfl ?_
    obtain ⟨x1, hm, hT⟩ := hT
    refine am_callSN (av := [.int v2, .int v1]) (st := []) cw_X10_holds cl_X9_24 ck_X10_holds (Nat.le_of_ble_eq_true rfl) dX9_partNumber_30 hm (fun r D9 hr => ?_)
    obtain ⟨rfl, e9⟩ := hr
    rw [e9]
    clear e9
    refine am_if_eq (tgt := 55) dX9_partNumber_33 (by decide) (fun h => ?_) (fun h => ?_)
    · replace hT := hT.1 h
      refine am_iload_n (x := v3) dX9_partNumber_55 rfl ?_
      exact am_ireturn (ty := .int) dX9_partNumber_56 rfl rfl hT
    · replace hT := hT.2 h
      refine am_iload_n (x := v2) dX9_partNumber_36 rfl ?_
      refine am_aload_n (x := v0) dX9_partNumber_37 rfl ?_
      refine am_iload_n (x := v2) dX9_partNumber_38 rfl ?_
      obtain ⟨x2, hm, hT⟩ := hT
      refine am_callS (av := [.ref v0, .int v2]) (st := [.int v2]) cw_X9_topOf cl_X9_40 ck_X9_topOf (Nat.le_of_ble_eq_true rfl) dX9_partNumber_39 hm (fun r D9 hr => ?_)
      obtain ⟨rfl, e9⟩ := hr
      rw [e9]
      clear e9
      refine am_iconst (v := (-1)) dX9_partNumber_42 (by decide) ?_
      refine am_ixor dX9_partNumber_43 ?_
      refine am_iand dX9_partNumber_44 ?_
      refine am_set (am_istore_n dX9_partNumber_45 (by decide)) (L1 := [.ref v0, .int v1, .int (v2 &&& (x2 ^^^ (-1))), .int v3, .int v4]) rfl ?_
      refine am_set (am_iinc (x := v3) (c0 := (nI 1)) dX9_partNumber_46 (by decide) rfl (by decide)) (L1 := [.ref v0, .int v1, .int (v2 &&& (x2 ^^^ (-1))), .int (v3 + (nI 1)), .int v4]) rfl ?_
      refine am_set (am_iinc (x := v4) (c0 := (nI 1)) dX9_partNumber_49 (by decide) rfl (by decide)) (L1 := [.ref v0, .int v1, .int (v2 &&& (x2 ^^^ (-1))), .int (v3 + (nI 1)), .int (v4 + (nI 1))]) rfl ?_
      refine am_goto (tgt := 21) dX9_partNumber_52 (by decide) ?_
      exact hT
set_option maxRecDepth 20000 in
theorem eX9_partWith {lay : List am_L} {d : Nat} {D : am_D} {Q : Option Value → am_D → Prop} {v0 : Nat} {v1 : Int32} (h0 : isX0 lay v0) (hT : (∃ x1, am_MetP lay d mX0_everyone [.ref v0] D x1 ∧
 (∃ x2, am_MetP lay d mX9_topOf [.ref v0, .int x1] D x2 ∧
 am_AW lay (d + 1) mX9_partWith 14 [.ref v0, .int v1, .int x1, .int x2, .int (nI 0)] [] D Q))) : am_Met lay (d + 1) mX9_partWith [.ref v0, .int v1] D Q := by
  refine am_enter (by decide +kernel) rfl (Nat.le_of_ble_eq_true rfl) ?_
  show am_AW lay (d + 1) mX9_partWith 0 [.ref v0, .int v1, .null, .null, .null] [] D Q
  refine am_aload_n (x := v0) dX9_partWith_0 rfl ?_
  obtain ⟨x1, hm, hT⟩ := hT
  refine am_callV (av := []) (st := []) (b := v0) cw_X0_everyone cl_X9_37 ck_X0_everyone cs_X0_everyone h0.1 rfl rfl (Nat.le_of_ble_eq_true rfl) dX9_partWith_1 hm (fun r D9 hr => ?_)
  obtain ⟨rfl, e9⟩ := hr
  rw [e9]
  clear e9
  refine am_set (am_istore_n dX9_partWith_4 (by decide)) (L1 := [.ref v0, .int v1, .int x1, .null, .null]) rfl ?_
  refine am_aload_n (x := v0) dX9_partWith_5 rfl ?_
  refine am_iload_n (x := x1) dX9_partWith_6 rfl ?_
  obtain ⟨x2, hm, hT⟩ := hT
  refine am_callS (av := [.ref v0, .int x1]) (st := []) cw_X9_topOf cl_X9_40 ck_X9_topOf (Nat.le_of_ble_eq_true rfl) dX9_partWith_7 hm (fun r D9 hr => ?_)
  obtain ⟨rfl, e9⟩ := hr
  rw [e9]
  clear e9
  refine am_set (am_istore_n dX9_partWith_10 (by decide)) (L1 := [.ref v0, .int v1, .int x1, .int x2, .null]) rfl ?_
  refine am_iconst (v := (nI 0)) dX9_partWith_11 (by decide) ?_
  refine am_set (am_istore dX9_partWith_12 (by decide)) (L1 := [.ref v0, .int v1, .int x1, .int x2, .int (nI 0)]) rfl ?_
  exact hT
set_option maxRecDepth 20000 in
theorem rX9_partWith_14 {lay : List am_L} {d : Nat} {D : am_D} {Q : Option Value → am_D → Prop} {v0 : Nat} {v1 : Int32} {v2 : Int32} {v3 : Int32} {v4 : Int32} (h0 : isX0 lay v0) (hT : (((nI 10) ≤ v4 → Q (some (.int v3)) D) ∧
 (¬ ((nI 10) ≤ v4) → (∃ x1, am_MetP lay d mX10_holds [.int v3, .int v1] D x1 ∧
 ((¬ x1 = nI 0 → Q (some (.int v3)) D) ∧
 (¬ (¬ x1 = nI 0) → ((v2 = nI 0 → Q (some (.int v3)) D) ∧
 (¬ (v2 = nI 0) → (∃ x2, am_MetP lay d mX9_topOf [.ref v0, .int (v2 &&& (v3 ^^^ (-1)))] D x2 ∧
 am_AW lay (d + 1) mX9_partWith 14 [.ref v0, .int v1, .int (v2 &&& (v3 ^^^ (-1))), .int x2, .int (v4 + (nI 1))] [] D Q))))))))) : am_AW lay (d + 1) mX9_partWith 14 [.ref v0, .int v1, .int v2, .int v3, .int v4] [] D Q := by
  refine am_iload (x := v4) dX9_partWith_14 rfl ?_
  refine am_bipush (v := (nI 10)) dX9_partWith_16 (by decide) ?_
  refine am_icmp_ge (tgt := 51) dX9_partWith_18 (by decide) (fun h => ?_) (fun h => ?_)
  · replace hT := hT.1 h
    refine am_iload_n (x := v3) dX9_partWith_51 rfl ?_
    exact am_ireturn (ty := .int) dX9_partWith_52 rfl rfl hT
  · replace hT := hT.2 h
    refine am_iload_n (x := v3) dX9_partWith_21 rfl ?_
    refine am_iload_n (x := v1) dX9_partWith_22 rfl ?_
    obtain ⟨x1, hm, hT⟩ := hT
    refine am_callSN (av := [.int v3, .int v1]) (st := []) cw_X10_holds cl_X9_24 ck_X10_holds (Nat.le_of_ble_eq_true rfl) dX9_partWith_23 hm (fun r D9 hr => ?_)
    obtain ⟨rfl, e9⟩ := hr
    rw [e9]
    clear e9
    refine am_if_ne (tgt := 51) dX9_partWith_26 (by decide) (fun h => ?_) (fun h => ?_)
    · replace hT := hT.1 h
      refine am_iload_n (x := v3) dX9_partWith_51 rfl ?_
      exact am_ireturn (ty := .int) dX9_partWith_52 rfl rfl hT
    · replace hT := hT.2 h
      refine am_iload_n (x := v2) dX9_partWith_29 rfl ?_
      refine am_if_eq (tgt := 51) dX9_partWith_30 (by decide) (fun h => ?_) (fun h => ?_)
      · replace hT := hT.1 h
        refine am_iload_n (x := v3) dX9_partWith_51 rfl ?_
        exact am_ireturn (ty := .int) dX9_partWith_52 rfl rfl hT
      · replace hT := hT.2 h
        refine am_iload_n (x := v2) dX9_partWith_33 rfl ?_
        refine am_iload_n (x := v3) dX9_partWith_34 rfl ?_
        refine am_iconst (v := (-1)) dX9_partWith_35 (by decide) ?_
        refine am_ixor dX9_partWith_36 ?_
        refine am_iand dX9_partWith_37 ?_
        refine am_set (am_istore_n dX9_partWith_38 (by decide)) (L1 := [.ref v0, .int v1, .int (v2 &&& (v3 ^^^ (-1))), .int v3, .int v4]) rfl ?_
        refine am_aload_n (x := v0) dX9_partWith_39 rfl ?_
        refine am_iload_n (x := (v2 &&& (v3 ^^^ (-1)))) dX9_partWith_40 rfl ?_
        obtain ⟨x2, hm, hT⟩ := hT
        refine am_callS (av := [.ref v0, .int (v2 &&& (v3 ^^^ (-1)))]) (st := []) cw_X9_topOf cl_X9_40 ck_X9_topOf (Nat.le_of_ble_eq_true rfl) dX9_partWith_41 hm (fun r D9 hr => ?_)
        obtain ⟨rfl, e9⟩ := hr
        rw [e9]
        clear e9
        refine am_set (am_istore_n dX9_partWith_44 (by decide)) (L1 := [.ref v0, .int v1, .int (v2 &&& (v3 ^^^ (-1))), .int x2, .int v4]) rfl ?_
        refine am_set (am_iinc (x := v4) (c0 := (nI 1)) dX9_partWith_45 (by decide) rfl (by decide)) (L1 := [.ref v0, .int v1, .int (v2 &&& (v3 ^^^ (-1))), .int x2, .int (v4 + (nI 1))]) rfl ?_
        refine am_goto (tgt := 14) dX9_partWith_48 (by decide) ?_
        exact hT
set_option maxRecDepth 20000 in
theorem eX9_kingsOf {lay : List am_L} {d : Nat} {D : am_D} {Q : Option Value → am_D → Prop} {v0 : Nat} (h0 : isX0 lay v0) (hT : am_AW lay (d + 1) mX9_kingsOf 4 [.ref v0, .int (nI 0), .int (nI 0)] [] D Q) : am_Met lay (d + 1) mX9_kingsOf [.ref v0] D Q := by
  refine am_enter (by decide +kernel) rfl (Nat.le_of_ble_eq_true rfl) ?_
  show am_AW lay (d + 1) mX9_kingsOf 0 [.ref v0, .null, .null] [] D Q
  refine am_iconst (v := (nI 0)) dX9_kingsOf_0 (by decide) ?_
  refine am_set (am_istore_n dX9_kingsOf_1 (by decide)) (L1 := [.ref v0, .int (nI 0), .null]) rfl ?_
  refine am_iconst (v := (nI 0)) dX9_kingsOf_2 (by decide) ?_
  refine am_set (am_istore_n dX9_kingsOf_3 (by decide)) (L1 := [.ref v0, .int (nI 0), .int (nI 0)]) rfl ?_
  exact hT
set_option maxRecDepth 20000 in
theorem rX9_kingsOf_4 {lay : List am_L} {d : Nat} {D : am_D} {Q : Option Value → am_D → Prop} {v0 : Nat} {v1 : Int32} {v2 : Int32} (h0 : isX0 lay v0) (hT : (∃ x1, am_MetP lay d mX0_size [.ref v0] D x1 ∧
 ((x1 ≤ v2 → Q (some (.int v1)) D) ∧
 (¬ (x1 ≤ v2) → (∃ x2, am_MetP lay d mX9_isKing [.ref v0, .int v2] D x2 ∧
 ((x2 = nI 0 → am_AW lay (d + 1) mX9_kingsOf 4 [.ref v0, .int v1, .int (v2 + (nI 1))] [] D Q) ∧
 (¬ (x2 = nI 0) → (∃ x3, am_MetP lay d mX10_only [.int v2] D x3 ∧
 am_AW lay (d + 1) mX9_kingsOf 4 [.ref v0, .int (v1 ||| x3), .int (v2 + (nI 1))] [] D Q)))))))) : am_AW lay (d + 1) mX9_kingsOf 4 [.ref v0, .int v1, .int v2] [] D Q := by
  refine am_iload_n (x := v2) dX9_kingsOf_4 rfl ?_
  refine am_aload_n (x := v0) dX9_kingsOf_5 rfl ?_
  obtain ⟨x1, hm, hT⟩ := hT
  refine am_callV (av := []) (st := [.int v2]) (b := v0) cw_X0_size cl_X9_9 ck_X0_size cs_X0_size h0.1 rfl rfl (Nat.le_of_ble_eq_true rfl) dX9_kingsOf_6 hm (fun r D9 hr => ?_)
  obtain ⟨rfl, e9⟩ := hr
  rw [e9]
  clear e9
  refine am_icmp_ge (tgt := 33) dX9_kingsOf_9 (by decide) (fun h => ?_) (fun h => ?_)
  · replace hT := hT.1 h
    refine am_iload_n (x := v1) dX9_kingsOf_33 rfl ?_
    exact am_ireturn (ty := .int) dX9_kingsOf_34 rfl rfl hT
  · replace hT := hT.2 h
    refine am_aload_n (x := v0) dX9_kingsOf_12 rfl ?_
    refine am_iload_n (x := v2) dX9_kingsOf_13 rfl ?_
    obtain ⟨x2, hm, hT⟩ := hT
    refine am_callS (av := [.ref v0, .int v2]) (st := []) cw_X9_isKing cl_X9_43 ck_X9_isKing (Nat.le_of_ble_eq_true rfl) dX9_kingsOf_14 hm (fun r D9 hr => ?_)
    obtain ⟨rfl, e9⟩ := hr
    rw [e9]
    clear e9
    refine am_if_eq (tgt := 27) dX9_kingsOf_17 (by decide) (fun h => ?_) (fun h => ?_)
    · replace hT := hT.1 h
      refine am_set (am_iinc (x := v2) (c0 := (nI 1)) dX9_kingsOf_27 (by decide) rfl (by decide)) (L1 := [.ref v0, .int v1, .int (v2 + (nI 1))]) rfl ?_
      refine am_goto (tgt := 4) dX9_kingsOf_30 (by decide) ?_
      exact hT
    · replace hT := hT.2 h
      refine am_iload_n (x := v1) dX9_kingsOf_20 rfl ?_
      refine am_iload_n (x := v2) dX9_kingsOf_21 rfl ?_
      obtain ⟨x3, hm, hT⟩ := hT
      refine am_callSN (av := [.int v2]) (st := [.int v1]) cw_X10_only cl_X9_28 ck_X10_only (Nat.le_of_ble_eq_true rfl) dX9_kingsOf_22 hm (fun r D9 hr => ?_)
      obtain ⟨rfl, e9⟩ := hr
      rw [e9]
      clear e9
      refine am_ior dX9_kingsOf_25 ?_
      refine am_set (am_istore_n dX9_kingsOf_26 (by decide)) (L1 := [.ref v0, .int (v1 ||| x3), .int v2]) rfl ?_
      refine am_set (am_iinc (x := v2) (c0 := (nI 1)) dX9_kingsOf_27 (by decide) rfl (by decide)) (L1 := [.ref v0, .int (v1 ||| x3), .int (v2 + (nI 1))]) rfl ?_
      refine am_goto (tgt := 4) dX9_kingsOf_30 (by decide) ?_
      exact hT
set_option maxRecDepth 20000 in
theorem eX9_isKing {lay : List am_L} {d : Nat} {D : am_D} {Q : Option Value → am_D → Prop} {v0 : Nat} {v1 : Int32} (h0 : isX0 lay v0) (hT : (∃ x1, am_MetP lay d mX10_only [.int v1] D x1 ∧
 (∃ x2, am_MetP lay d mX0_beatenBy [.ref v0, .int v1] D x2 ∧
 am_AW lay (d + 1) mX9_isKing 13 [.ref v0, .int v1, .int (x1 ||| x2), .int (nI 0)] [] D Q))) : am_Met lay (d + 1) mX9_isKing [.ref v0, .int v1] D Q := by
  refine am_enter (by decide +kernel) rfl (Nat.le_of_ble_eq_true rfl) ?_
  show am_AW lay (d + 1) mX9_isKing 0 [.ref v0, .int v1, .null, .null] [] D Q
  refine am_iload_n (x := v1) dX9_isKing_0 rfl ?_
  obtain ⟨x1, hm, hT⟩ := hT
  refine am_callSN (av := [.int v1]) (st := []) cw_X10_only cl_X9_28 ck_X10_only (Nat.le_of_ble_eq_true rfl) dX9_isKing_1 hm (fun r D9 hr => ?_)
  obtain ⟨rfl, e9⟩ := hr
  rw [e9]
  clear e9
  refine am_aload_n (x := v0) dX9_isKing_4 rfl ?_
  refine am_iload_n (x := v1) dX9_isKing_5 rfl ?_
  obtain ⟨x2, hm, hT⟩ := hT
  refine am_callV (av := [.int v1]) (st := [.int x1]) (b := v0) cw_X0_beatenBy cl_X9_15 ck_X0_beatenBy cs_X0_beatenBy h0.1 rfl rfl (Nat.le_of_ble_eq_true rfl) dX9_isKing_6 hm (fun r D9 hr => ?_)
  obtain ⟨rfl, e9⟩ := hr
  rw [e9]
  clear e9
  refine am_ior dX9_isKing_9 ?_
  refine am_set (am_istore_n dX9_isKing_10 (by decide)) (L1 := [.ref v0, .int v1, .int (x1 ||| x2), .null]) rfl ?_
  refine am_iconst (v := (nI 0)) dX9_isKing_11 (by decide) ?_
  refine am_set (am_istore_n dX9_isKing_12 (by decide)) (L1 := [.ref v0, .int v1, .int (x1 ||| x2), .int (nI 0)]) rfl ?_
  exact hT
set_option maxRecDepth 20000 in
theorem rX9_isKing_13 {lay : List am_L} {d : Nat} {D : am_D} {Q : Option Value → am_D → Prop} {v0 : Nat} {v1 : Int32} {v2 : Int32} {v3 : Int32} (h0 : isX0 lay v0) (hT : (∃ x1, am_MetP lay d mX0_size [.ref v0] D x1 ∧
 ((x1 ≤ v3 → (∃ x2, am_MetP lay d mX0_everyone [.ref v0] D x2 ∧
 ((¬ v2 = x2 → Q (some (.int (nI 0))) D) ∧
 (¬ (¬ v2 = x2) → Q (some (.int (nI 1))) D)))) ∧
 (¬ (x1 ≤ v3) → (∃ x3, am_MetP lay d mX0_wins [.ref v0, .int v1, .int v3] D x3 ∧
 ((x3 = nI 0 → am_AW lay (d + 1) mX9_isKing 13 [.ref v0, .int v1, .int v2, .int (v3 + (nI 1))] [] D Q) ∧
 (¬ (x3 = nI 0) → (∃ x4, am_MetP lay d mX0_beatenBy [.ref v0, .int v3] D x4 ∧
 am_AW lay (d + 1) mX9_isKing 13 [.ref v0, .int v1, .int (v2 ||| x4), .int (v3 + (nI 1))] [] D Q)))))))) : am_AW lay (d + 1) mX9_isKing 13 [.ref v0, .int v1, .int v2, .int v3] [] D Q := by
  refine am_iload_n (x := v3) dX9_isKing_13 rfl ?_
  refine am_aload_n (x := v0) dX9_isKing_14 rfl ?_
  obtain ⟨x1, hm, hT⟩ := hT
  refine am_callV (av := []) (st := [.int v3]) (b := v0) cw_X0_size cl_X9_9 ck_X0_size cs_X0_size h0.1 rfl rfl (Nat.le_of_ble_eq_true rfl) dX9_isKing_15 hm (fun r D9 hr => ?_)
  obtain ⟨rfl, e9⟩ := hr
  rw [e9]
  clear e9
  refine am_icmp_ge (tgt := 44) dX9_isKing_18 (by decide) (fun h => ?_) (fun h => ?_)
  · replace hT := hT.1 h
    refine am_iload_n (x := v2) dX9_isKing_44 rfl ?_
    refine am_aload_n (x := v0) dX9_isKing_45 rfl ?_
    obtain ⟨x2, hm, hT⟩ := hT
    refine am_callV (av := []) (st := [.int v2]) (b := v0) cw_X0_everyone cl_X9_37 ck_X0_everyone cs_X0_everyone h0.1 rfl rfl (Nat.le_of_ble_eq_true rfl) dX9_isKing_46 hm (fun r D9 hr => ?_)
    obtain ⟨rfl, e9⟩ := hr
    rw [e9]
    clear e9
    refine am_icmp_ne (tgt := 56) dX9_isKing_49 (by decide) (fun h => ?_) (fun h => ?_)
    · replace hT := hT.1 h
      refine am_iconst (v := (nI 0)) dX9_isKing_56 (by decide) ?_
      exact am_ireturn (ty := .boolean) dX9_isKing_57 rfl (by decide) hT
    · replace hT := hT.2 h
      refine am_iconst (v := (nI 1)) dX9_isKing_52 (by decide) ?_
      refine am_goto (tgt := 57) dX9_isKing_53 (by decide) ?_
      exact am_ireturn (ty := .boolean) dX9_isKing_57 rfl (by decide) hT
  · replace hT := hT.2 h
    refine am_aload_n (x := v0) dX9_isKing_21 rfl ?_
    refine am_iload_n (x := v1) dX9_isKing_22 rfl ?_
    refine am_iload_n (x := v3) dX9_isKing_23 rfl ?_
    obtain ⟨x3, hm, hT⟩ := hT
    refine am_callV (av := [.int v1, .int v3]) (st := []) (b := v0) cw_X0_wins cl_X9_47 ck_X0_wins cs_X0_wins h0.1 rfl rfl (Nat.le_of_ble_eq_true rfl) dX9_isKing_24 hm (fun r D9 hr => ?_)
    obtain ⟨rfl, e9⟩ := hr
    rw [e9]
    clear e9
    refine am_if_eq (tgt := 38) dX9_isKing_27 (by decide) (fun h => ?_) (fun h => ?_)
    · replace hT := hT.1 h
      refine am_set (am_iinc (x := v3) (c0 := (nI 1)) dX9_isKing_38 (by decide) rfl (by decide)) (L1 := [.ref v0, .int v1, .int v2, .int (v3 + (nI 1))]) rfl ?_
      refine am_goto (tgt := 13) dX9_isKing_41 (by decide) ?_
      exact hT
    · replace hT := hT.2 h
      refine am_iload_n (x := v2) dX9_isKing_30 rfl ?_
      refine am_aload_n (x := v0) dX9_isKing_31 rfl ?_
      refine am_iload_n (x := v3) dX9_isKing_32 rfl ?_
      obtain ⟨x4, hm, hT⟩ := hT
      refine am_callV (av := [.int v3]) (st := [.int v2]) (b := v0) cw_X0_beatenBy cl_X9_15 ck_X0_beatenBy cs_X0_beatenBy h0.1 rfl rfl (Nat.le_of_ble_eq_true rfl) dX9_isKing_33 hm (fun r D9 hr => ?_)
      obtain ⟨rfl, e9⟩ := hr
      rw [e9]
      clear e9
      refine am_ior dX9_isKing_36 ?_
      refine am_set (am_istore_n dX9_isKing_37 (by decide)) (L1 := [.ref v0, .int v1, .int (v2 ||| x4), .int v3]) rfl ?_
      refine am_set (am_iinc (x := v3) (c0 := (nI 1)) dX9_isKing_38 (by decide) rfl (by decide)) (L1 := [.ref v0, .int v1, .int (v2 ||| x4), .int (v3 + (nI 1))]) rfl ?_
      refine am_goto (tgt := 13) dX9_isKing_41 (by decide) ?_
      exact hT
set_option maxRecDepth 20000 in
theorem eX9_chainTopsOf {lay : List am_L} {d : Nat} {D : am_D} {Q : Option Value → am_D → Prop} {v0 : Nat} (h0 : isX0 lay v0) (hT : am_AW lay (d + 1) mX9_chainTopsOf 4 [.ref v0, .int (nI 0), .int (nI 0)] [] D Q) : am_Met lay (d + 1) mX9_chainTopsOf [.ref v0] D Q := by
  refine am_enter (by decide +kernel) rfl (Nat.le_of_ble_eq_true rfl) ?_
  show am_AW lay (d + 1) mX9_chainTopsOf 0 [.ref v0, .null, .null] [] D Q
  refine am_iconst (v := (nI 0)) dX9_chainTopsOf_0 (by decide) ?_
  refine am_set (am_istore_n dX9_chainTopsOf_1 (by decide)) (L1 := [.ref v0, .int (nI 0), .null]) rfl ?_
  refine am_iconst (v := (nI 0)) dX9_chainTopsOf_2 (by decide) ?_
  refine am_set (am_istore_n dX9_chainTopsOf_3 (by decide)) (L1 := [.ref v0, .int (nI 0), .int (nI 0)]) rfl ?_
  exact hT
set_option maxRecDepth 20000 in
theorem rX9_chainTopsOf_4 {lay : List am_L} {d : Nat} {D : am_D} {Q : Option Value → am_D → Prop} {v0 : Nat} {v1 : Int32} {v2 : Int32} (h0 : isX0 lay v0) (hT : (∃ x1, am_MetP lay d mX0_size [.ref v0] D x1 ∧
 ((x1 ≤ v2 → Q (some (.int v1)) D) ∧
 (¬ (x1 ≤ v2) → (∃ x2, am_MetP lay d mX0_beatersOf [.ref v0, .int v2] D x2 ∧
 (∃ x3, am_MetP lay d mX9_topsAbove [.ref v0, .int v2, .int x2, .int (nI 1)] D x3 ∧
 am_AW lay (d + 1) mX9_chainTopsOf 4 [.ref v0, .int (v1 ||| x3), .int (v2 + (nI 1))] [] D Q)))))) : am_AW lay (d + 1) mX9_chainTopsOf 4 [.ref v0, .int v1, .int v2] [] D Q := by
  refine am_iload_n (x := v2) dX9_chainTopsOf_4 rfl ?_
  refine am_aload_n (x := v0) dX9_chainTopsOf_5 rfl ?_
  obtain ⟨x1, hm, hT⟩ := hT
  refine am_callV (av := []) (st := [.int v2]) (b := v0) cw_X0_size cl_X9_9 ck_X0_size cs_X0_size h0.1 rfl rfl (Nat.le_of_ble_eq_true rfl) dX9_chainTopsOf_6 hm (fun r D9 hr => ?_)
  obtain ⟨rfl, e9⟩ := hr
  rw [e9]
  clear e9
  refine am_icmp_ge (tgt := 32) dX9_chainTopsOf_9 (by decide) (fun h => ?_) (fun h => ?_)
  · replace hT := hT.1 h
    refine am_iload_n (x := v1) dX9_chainTopsOf_32 rfl ?_
    exact am_ireturn (ty := .int) dX9_chainTopsOf_33 rfl rfl hT
  · replace hT := hT.2 h
    refine am_iload_n (x := v1) dX9_chainTopsOf_12 rfl ?_
    refine am_aload_n (x := v0) dX9_chainTopsOf_13 rfl ?_
    refine am_iload_n (x := v2) dX9_chainTopsOf_14 rfl ?_
    refine am_aload_n (x := v0) dX9_chainTopsOf_15 rfl ?_
    refine am_iload_n (x := v2) dX9_chainTopsOf_16 rfl ?_
    obtain ⟨x2, hm, hT⟩ := hT
    refine am_callV (av := [.int v2]) (st := [.int v2, .ref v0, .int v1]) (b := v0) cw_X0_beatersOf cl_X9_50 ck_X0_beatersOf cs_X0_beatersOf h0.1 rfl rfl (Nat.le_of_ble_eq_true rfl) dX9_chainTopsOf_17 hm (fun r D9 hr => ?_)
    obtain ⟨rfl, e9⟩ := hr
    rw [e9]
    clear e9
    refine am_iconst (v := (nI 1)) dX9_chainTopsOf_20 (by decide) ?_
    obtain ⟨x3, hm, hT⟩ := hT
    refine am_callS (av := [.ref v0, .int v2, .int x2, .int (nI 1)]) (st := [.int v1]) cw_X9_topsAbove cl_X9_53 ck_X9_topsAbove (Nat.le_of_ble_eq_true rfl) dX9_chainTopsOf_21 hm (fun r D9 hr => ?_)
    obtain ⟨rfl, e9⟩ := hr
    rw [e9]
    clear e9
    refine am_ior dX9_chainTopsOf_24 ?_
    refine am_set (am_istore_n dX9_chainTopsOf_25 (by decide)) (L1 := [.ref v0, .int (v1 ||| x3), .int v2]) rfl ?_
    refine am_set (am_iinc (x := v2) (c0 := (nI 1)) dX9_chainTopsOf_26 (by decide) rfl (by decide)) (L1 := [.ref v0, .int (v1 ||| x3), .int (v2 + (nI 1))]) rfl ?_
    refine am_goto (tgt := 4) dX9_chainTopsOf_29 (by decide) ?_
    exact hT
set_option maxRecDepth 20000 in
theorem eX9_topsAbove {lay : List am_L} {d : Nat} {D : am_D} {Q : Option Value → am_D → Prop} {v0 : Nat} {v1 : Int32} {v2 : Int32} {v3 : Int32} (h0 : isX0 lay v0) (hT : ((v2 = nI 0 → ((¬ v2 = nI 0 → Q (some (.int (nI 0))) D) ∧
 (¬ (¬ v2 = nI 0) → (∃ x1, am_MetP lay d mX10_only [.int v1] D x1 ∧
 Q (some (.int x1)) D)))) ∧
 (¬ (v2 = nI 0) → ((v3 < (nI 10) → am_AW lay (d + 1) mX9_topsAbove 29 [.ref v0, .int v1, .int v2, .int v3, .int (nI 0), .int (nI 0)] [] D Q) ∧
 (¬ (v3 < (nI 10)) → ((¬ v2 = nI 0 → Q (some (.int (nI 0))) D) ∧
 (¬ (¬ v2 = nI 0) → (∃ x2, am_MetP lay d mX10_only [.int v1] D x2 ∧
 Q (some (.int x2)) D)))))))) : am_Met lay (d + 1) mX9_topsAbove [.ref v0, .int v1, .int v2, .int v3] D Q := by
  refine am_enter (by decide +kernel) rfl (Nat.le_of_ble_eq_true rfl) ?_
  show am_AW lay (d + 1) mX9_topsAbove 0 [.ref v0, .int v1, .int v2, .int v3, .null, .null] [] D Q
  refine am_iload_n (x := v2) dX9_topsAbove_0 rfl ?_
  refine am_if_eq (tgt := 10) dX9_topsAbove_1 (by decide) (fun h => ?_) (fun h => ?_)
  · replace hT := hT.1 h
    refine am_iload_n (x := v2) dX9_topsAbove_10 rfl ?_
    refine am_if_ne (tgt := 21) dX9_topsAbove_11 (by decide) (fun h => ?_) (fun h => ?_)
    · replace hT := hT.1 h
      refine am_iconst (v := (nI 0)) dX9_topsAbove_21 (by decide) ?_
      exact am_ireturn (ty := .int) dX9_topsAbove_22 rfl rfl hT
    · replace hT := hT.2 h
      refine am_iload_n (x := v1) dX9_topsAbove_14 rfl ?_
      obtain ⟨x1, hm, hT⟩ := hT
      refine am_callSN (av := [.int v1]) (st := []) cw_X10_only cl_X9_28 ck_X10_only (Nat.le_of_ble_eq_true rfl) dX9_topsAbove_15 hm (fun r D9 hr => ?_)
      obtain ⟨rfl, e9⟩ := hr
      rw [e9]
      clear e9
      refine am_goto (tgt := 22) dX9_topsAbove_18 (by decide) ?_
      exact am_ireturn (ty := .int) dX9_topsAbove_22 rfl rfl hT
  · replace hT := hT.2 h
    refine am_iload_n (x := v3) dX9_topsAbove_4 rfl ?_
    refine am_bipush (v := (nI 10)) dX9_topsAbove_5 (by decide) ?_
    refine am_icmp_lt (tgt := 23) dX9_topsAbove_7 (by decide) (fun h => ?_) (fun h => ?_)
    · replace hT := hT.1 h
      refine am_iconst (v := (nI 0)) dX9_topsAbove_23 (by decide) ?_
      refine am_set (am_istore dX9_topsAbove_24 (by decide)) (L1 := [.ref v0, .int v1, .int v2, .int v3, .int (nI 0), .null]) rfl ?_
      refine am_iconst (v := (nI 0)) dX9_topsAbove_26 (by decide) ?_
      refine am_set (am_istore dX9_topsAbove_27 (by decide)) (L1 := [.ref v0, .int v1, .int v2, .int v3, .int (nI 0), .int (nI 0)]) rfl ?_
      exact hT
    · replace hT := hT.2 h
      refine am_iload_n (x := v2) dX9_topsAbove_10 rfl ?_
      refine am_if_ne (tgt := 21) dX9_topsAbove_11 (by decide) (fun h => ?_) (fun h => ?_)
      · replace hT := hT.1 h
        refine am_iconst (v := (nI 0)) dX9_topsAbove_21 (by decide) ?_
        exact am_ireturn (ty := .int) dX9_topsAbove_22 rfl rfl hT
      · replace hT := hT.2 h
        refine am_iload_n (x := v1) dX9_topsAbove_14 rfl ?_
        obtain ⟨x2, hm, hT⟩ := hT
        refine am_callSN (av := [.int v1]) (st := []) cw_X10_only cl_X9_28 ck_X10_only (Nat.le_of_ble_eq_true rfl) dX9_topsAbove_15 hm (fun r D9 hr => ?_)
        obtain ⟨rfl, e9⟩ := hr
        rw [e9]
        clear e9
        refine am_goto (tgt := 22) dX9_topsAbove_18 (by decide) ?_
        exact am_ireturn (ty := .int) dX9_topsAbove_22 rfl rfl hT
set_option maxRecDepth 20000 in
theorem rX9_topsAbove_29 {lay : List am_L} {d : Nat} {D : am_D} {Q : Option Value → am_D → Prop} {v0 : Nat} {v1 : Int32} {v2 : Int32} {v3 : Int32} {v4 : Int32} {v5 : Int32} (h0 : isX0 lay v0) (hT : (∃ x1, am_MetP lay d mX0_size [.ref v0] D x1 ∧
 ((x1 ≤ v5 → Q (some (.int v4)) D) ∧
 (¬ (x1 ≤ v5) → (∃ x2, am_MetP lay d mX10_holds [.int v2, .int v5] D x2 ∧
 ((x2 = nI 0 → am_AW lay (d + 1) mX9_topsAbove 29 [.ref v0, .int v1, .int v2, .int v3, .int v4, .int (v5 + (nI 1))] [] D Q) ∧
 (¬ (x2 = nI 0) → (∃ x3, am_MetP lay d mX0_beatersOf [.ref v0, .int v5] D x3 ∧
 (∃ x4, am_MetP lay d mX9_topsAbove [.ref v0, .int v5, .int (v2 &&& x3), .int (v3 + (nI 1))] D x4 ∧
 am_AW lay (d + 1) mX9_topsAbove 29 [.ref v0, .int v1, .int v2, .int v3, .int (v4 ||| x4), .int (v5 + (nI 1))] [] D Q))))))))) : am_AW lay (d + 1) mX9_topsAbove 29 [.ref v0, .int v1, .int v2, .int v3, .int v4, .int v5] [] D Q := by
  refine am_iload (x := v5) dX9_topsAbove_29 rfl ?_
  refine am_aload_n (x := v0) dX9_topsAbove_31 rfl ?_
  obtain ⟨x1, hm, hT⟩ := hT
  refine am_callV (av := []) (st := [.int v5]) (b := v0) cw_X0_size cl_X9_9 ck_X0_size cs_X0_size h0.1 rfl rfl (Nat.le_of_ble_eq_true rfl) dX9_topsAbove_32 hm (fun r D9 hr => ?_)
  obtain ⟨rfl, e9⟩ := hr
  rw [e9]
  clear e9
  refine am_icmp_ge (tgt := 75) dX9_topsAbove_35 (by decide) (fun h => ?_) (fun h => ?_)
  · replace hT := hT.1 h
    refine am_iload (x := v4) dX9_topsAbove_75 rfl ?_
    exact am_ireturn (ty := .int) dX9_topsAbove_77 rfl rfl hT
  · replace hT := hT.2 h
    refine am_iload_n (x := v2) dX9_topsAbove_38 rfl ?_
    refine am_iload (x := v5) dX9_topsAbove_39 rfl ?_
    obtain ⟨x2, hm, hT⟩ := hT
    refine am_callSN (av := [.int v2, .int v5]) (st := []) cw_X10_holds cl_X9_24 ck_X10_holds (Nat.le_of_ble_eq_true rfl) dX9_topsAbove_41 hm (fun r D9 hr => ?_)
    obtain ⟨rfl, e9⟩ := hr
    rw [e9]
    clear e9
    refine am_if_eq (tgt := 69) dX9_topsAbove_44 (by decide) (fun h => ?_) (fun h => ?_)
    · replace hT := hT.1 h
      refine am_set (am_iinc (x := v5) (c0 := (nI 1)) dX9_topsAbove_69 (by decide) rfl (by decide)) (L1 := [.ref v0, .int v1, .int v2, .int v3, .int v4, .int (v5 + (nI 1))]) rfl ?_
      refine am_goto (tgt := 29) dX9_topsAbove_72 (by decide) ?_
      exact hT
    · replace hT := hT.2 h
      refine am_iload (x := v4) dX9_topsAbove_47 rfl ?_
      refine am_aload_n (x := v0) dX9_topsAbove_49 rfl ?_
      refine am_iload (x := v5) dX9_topsAbove_50 rfl ?_
      refine am_iload_n (x := v2) dX9_topsAbove_52 rfl ?_
      refine am_aload_n (x := v0) dX9_topsAbove_53 rfl ?_
      refine am_iload (x := v5) dX9_topsAbove_54 rfl ?_
      obtain ⟨x3, hm, hT⟩ := hT
      refine am_callV (av := [.int v5]) (st := [.int v2, .int v5, .ref v0, .int v4]) (b := v0) cw_X0_beatersOf cl_X9_50 ck_X0_beatersOf cs_X0_beatersOf h0.1 rfl rfl (Nat.le_of_ble_eq_true rfl) dX9_topsAbove_56 hm (fun r D9 hr => ?_)
      obtain ⟨rfl, e9⟩ := hr
      rw [e9]
      clear e9
      refine am_iand dX9_topsAbove_59 ?_
      refine am_iload_n (x := v3) dX9_topsAbove_60 rfl ?_
      refine am_iconst (v := (nI 1)) dX9_topsAbove_61 (by decide) ?_
      refine am_iadd dX9_topsAbove_62 ?_
      obtain ⟨x4, hm, hT⟩ := hT
      refine am_callS (av := [.ref v0, .int v5, .int (v2 &&& x3), .int (v3 + (nI 1))]) (st := [.int v4]) cw_X9_topsAbove cl_X9_53 ck_X9_topsAbove (Nat.le_of_ble_eq_true rfl) dX9_topsAbove_63 hm (fun r D9 hr => ?_)
      obtain ⟨rfl, e9⟩ := hr
      rw [e9]
      clear e9
      refine am_ior dX9_topsAbove_66 ?_
      refine am_set (am_istore dX9_topsAbove_67 (by decide)) (L1 := [.ref v0, .int v1, .int v2, .int v3, .int (v4 ||| x4), .int v5]) rfl ?_
      refine am_set (am_iinc (x := v5) (c0 := (nI 1)) dX9_topsAbove_69 (by decide) rfl (by decide)) (L1 := [.ref v0, .int v1, .int v2, .int v3, .int (v4 ||| x4), .int (v5 + (nI 1))]) rfl ?_
      refine am_goto (tgt := 29) dX9_topsAbove_72 (by decide) ?_
      exact hT
