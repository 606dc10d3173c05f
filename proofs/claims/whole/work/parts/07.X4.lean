set_option maxRecDepth 20000 in
theorem eX4_countDiffering {lay : List am_L} {d : Nat} {D : am_D} {Q : Option Value → am_D → Prop} {v0 : Nat} {v1 : Nat} (h0 : isX0 lay v0) (h1 : isX0 lay v1) (hT : am_AW lay (d + 1) mX4_countDiffering 4 [.ref v0, .ref v1, .int (nI 0), .int (nI 0)] [] D Q) : am_Met lay (d + 1) mX4_countDiffering [.ref v0, .ref v1] D Q := by
  refine am_enter (by decide +kernel) rfl (Nat.le_of_ble_eq_true rfl) ?_
  show am_AW lay (d + 1) mX4_countDiffering 0 [.ref v0, .ref v1, .null, .null] [] D Q
  refine am_iconst (v := (nI 0)) dX4_countDiffering_0 (by decide) ?_
  refine am_set (am_istore_n dX4_countDiffering_1 (by decide)) (L1 := [.ref v0, .ref v1, .int (nI 0), .null]) rfl ?_
  refine am_iconst (v := (nI 0)) dX4_countDiffering_2 (by decide) ?_
  refine am_set (am_istore_n dX4_countDiffering_3 (by decide)) (L1 := [.ref v0, .ref v1, .int (nI 0), .int (nI 0)]) rfl ?_
  exact hT
set_option maxRecDepth 20000 in
theorem rX4_countDiffering_4 {lay : List am_L} {d : Nat} {D : am_D} {Q : Option Value → am_D → Prop} {v0 : Nat} {v1 : Nat} {v2 : Int32} {v3 : Int32} (h0 : isX0 lay v0) (h1 : isX0 lay v1) (hT : (∃ x1, am_MetP lay d mX0_size [.ref v0] D x1 ∧
 ((x1 ≤ v3 → Q (some (.int (v2 / (nI 2)))) D) ∧
 (¬ (x1 ≤ v3) → (∃ x2, am_MetP lay d mX0_beatenBy [.ref v0, .int v3] D x2 ∧
 (∃ x3, am_MetP lay d mX0_beatenBy [.ref v1, .int v3] D x3 ∧
 (∃ x4, am_MetP lay d mJ6_bitCount_0f7a4 [.int (x2 ^^^ x3)] D x4 ∧
 am_AW lay (d + 1) mX4_countDiffering 4 [.ref v0, .ref v1, .int (v2 + x4), .int (v3 + (nI 1))] [] D Q))))))) : am_AW lay (d + 1) mX4_countDiffering 4 [.ref v0, .ref v1, .int v2, .int v3] [] D Q := by
  refine am_iload_n (x := v3) dX4_countDiffering_4 rfl ?_
  refine am_aload_n (x := v0) dX4_countDiffering_5 rfl ?_
  obtain ⟨x1, hm, hT⟩ := hT
  refine am_callV (av := []) (st := [.int v3]) (b := v0) cw_X0_size cl_X4_15 ck_X0_size cs_X0_size h0.1 rfl rfl (Nat.le_of_ble_eq_true rfl) dX4_countDiffering_6 hm (fun r D9 hr => ?_)
  obtain ⟨rfl, e9⟩ := hr
  rw [e9]
  clear e9
  refine am_icmp_ge (tgt := 35) dX4_countDiffering_9 (by decide) (fun h => ?_) (fun h => ?_)
  · replace hT := hT.1 h
    refine am_iload_n (x := v2) dX4_countDiffering_35 rfl ?_
    refine am_iconst (v := (nI 2)) dX4_countDiffering_36 (by decide) ?_
    refine am_idiv dX4_countDiffering_37 (by decide) ?_
    exact am_ireturn (ty := .int) dX4_countDiffering_38 rfl rfl hT
  · replace hT := hT.2 h
    refine am_iload_n (x := v2) dX4_countDiffering_12 rfl ?_
    refine am_aload_n (x := v0) dX4_countDiffering_13 rfl ?_
    refine am_iload_n (x := v3) dX4_countDiffering_14 rfl ?_
    obtain ⟨x2, hm, hT⟩ := hT
    refine am_callV (av := [.int v3]) (st := [.int v2]) (b := v0) cw_X0_beatenBy cl_X4_21 ck_X0_beatenBy cs_X0_beatenBy h0.1 rfl rfl (Nat.le_of_ble_eq_true rfl) dX4_countDiffering_15 hm (fun r D9 hr => ?_)
    obtain ⟨rfl, e9⟩ := hr
    rw [e9]
    clear e9
    refine am_aload_n (x := v1) dX4_countDiffering_18 rfl ?_
    refine am_iload_n (x := v3) dX4_countDiffering_19 rfl ?_
    obtain ⟨x3, hm, hT⟩ := hT
    refine am_callV (av := [.int v3]) (st := [.int x2, .int v2]) (b := v1) cw_X0_beatenBy cl_X4_21 ck_X0_beatenBy cs_X0_beatenBy h1.1 rfl rfl (Nat.le_of_ble_eq_true rfl) dX4_countDiffering_20 hm (fun r D9 hr => ?_)
    obtain ⟨rfl, e9⟩ := hr
    rw [e9]
    clear e9
    refine am_ixor dX4_countDiffering_23 ?_
    obtain ⟨x4, hm, hT⟩ := hT
    refine am_callS (av := [.int (x2 ^^^ x3)]) (st := [.int v2]) cw_J6_bitCount_0f7a4 cl_X4_25 ck_J6_bitCount_0f7a4 (Nat.le_of_ble_eq_true rfl) dX4_countDiffering_24 hm (fun r D9 hr => ?_)
    obtain ⟨rfl, e9⟩ := hr
    rw [e9]
    clear e9
    refine am_iadd dX4_countDiffering_27 ?_
    refine am_set (am_istore_n dX4_countDiffering_28 (by decide)) (L1 := [.ref v0, .ref v1, .int (v2 + x4), .int v3]) rfl ?_
    refine am_set (am_iinc (x := v3) (c0 := (nI 1)) dX4_countDiffering_29 (by decide) rfl (by decide)) (L1 := [.ref v0, .ref v1, .int (v2 + x4), .int (v3 + (nI 1))]) rfl ?_
    refine am_goto (tgt := 4) dX4_countDiffering_32 (by decide) ?_
    exact hT
set_option maxRecDepth 20000 in
theorem eX4_helpfulTriangle {lay : List am_L} {d : Nat} {D : am_D} {Q : Option Value → am_D → Prop} {v0 : Nat} {v1 : Nat} (h0 : isX0 lay v0) (h1 : isX0 lay v1) (hT : am_AW lay (d + 1) mX4_helpfulTriangle 2 [.ref v0, .ref v1, .int (nI 0), .null, .null] [] D Q) : am_Met lay (d + 1) mX4_helpfulTriangle [.ref v0, .ref v1] D Q := by
  refine am_enter (by decide +kernel) rfl (Nat.le_of_ble_eq_true rfl) ?_
  show am_AW lay (d + 1) mX4_helpfulTriangle 0 [.ref v0, .ref v1, .null, .null, .null] [] D Q
  refine am_iconst (v := (nI 0)) dX4_helpfulTriangle_0 (by decide) ?_
  refine am_set (am_istore_n dX4_helpfulTriangle_1 (by decide)) (L1 := [.ref v0, .ref v1, .int (nI 0), .null, .null]) rfl ?_
  exact hT
set_option maxRecDepth 20000 in
theorem rX4_helpfulTriangle_2 {lay : List am_L} {d : Nat} {D : am_D} {Q : Option Value → am_D → Prop} {v0 : Nat} {v1 : Nat} {v2 : Int32} (h0 : isX0 lay v0) (h1 : isX0 lay v1) (hT : (∃ x1, am_MetP lay d mX0_size [.ref v0] D x1 ∧
 ((x1 ≤ v2 → Q (some (.int (-4))) D) ∧
 (¬ (x1 ≤ v2) → am_AW lay (d + 1) mX4_helpfulTriangle 14 [.ref v0, .ref v1, .int v2, .int (v2 + (nI 1)), .null] [] D Q)))) : am_AW lay (d + 1) mX4_helpfulTriangle 2 [.ref v0, .ref v1, .int v2, .null, .null] [] D Q := by
  refine am_iload_n (x := v2) dX4_helpfulTriangle_2 rfl ?_
  refine am_aload_n (x := v0) dX4_helpfulTriangle_3 rfl ?_
  obtain ⟨x1, hm, hT⟩ := hT
  refine am_callV (av := []) (st := [.int v2]) (b := v0) cw_X0_size cl_X4_15 ck_X0_size cs_X0_size h0.1 rfl rfl (Nat.le_of_ble_eq_true rfl) dX4_helpfulTriangle_4 hm (fun r D9 hr => ?_)
  obtain ⟨rfl, e9⟩ := hr
  rw [e9]
  clear e9
  refine am_icmp_ge (tgt := 91) dX4_helpfulTriangle_7 (by decide) (fun h => ?_) (fun h => ?_)
  · replace hT := hT.1 h
    refine am_bipush (v := (-4)) dX4_helpfulTriangle_91 (by decide) ?_
    exact am_ireturn (ty := .int) dX4_helpfulTriangle_93 rfl rfl hT
  · replace hT := hT.2 h
    refine am_iload_n (x := v2) dX4_helpfulTriangle_10 rfl ?_
    refine am_iconst (v := (nI 1)) dX4_helpfulTriangle_11 (by decide) ?_
    refine am_iadd dX4_helpfulTriangle_12 ?_
    refine am_set (am_istore_n dX4_helpfulTriangle_13 (by decide)) (L1 := [.ref v0, .ref v1, .int v2, .int (v2 + (nI 1)), .null]) rfl ?_
    exact hT
set_option maxRecDepth 20000 in
theorem rX4_helpfulTriangle_14 {lay : List am_L} {d : Nat} {D : am_D} {Q : Option Value → am_D → Prop} {v0 : Nat} {v1 : Nat} {v2 : Int32} {v3 : Int32} (h0 : isX0 lay v0) (h1 : isX0 lay v1) (hT : (∃ x1, am_MetP lay d mX0_size [.ref v0] D x1 ∧
 ((x1 ≤ v3 → am_AW lay (d + 1) mX4_helpfulTriangle 2 [.ref v0, .ref v1, .int (v2 + (nI 1)), .null, .null] [] D Q) ∧
 (¬ (x1 ≤ v3) → am_AW lay (d + 1) mX4_helpfulTriangle 27 [.ref v0, .ref v1, .int v2, .int v3, .int (v3 + (nI 1))] [] D Q)))) : am_AW lay (d + 1) mX4_helpfulTriangle 14 [.ref v0, .ref v1, .int v2, .int v3, .null] [] D Q := by
  refine am_iload_n (x := v3) dX4_helpfulTriangle_14 rfl ?_
  refine am_aload_n (x := v0) dX4_helpfulTriangle_15 rfl ?_
  obtain ⟨x1, hm, hT⟩ := hT
  refine am_callV (av := []) (st := [.int v3]) (b := v0) cw_X0_size cl_X4_15 ck_X0_size cs_X0_size h0.1 rfl rfl (Nat.le_of_ble_eq_true rfl) dX4_helpfulTriangle_16 hm (fun r D9 hr => ?_)
  obtain ⟨rfl, e9⟩ := hr
  rw [e9]
  clear e9
  refine am_icmp_ge (tgt := 85) dX4_helpfulTriangle_19 (by decide) (fun h => ?_) (fun h => ?_)
  · replace hT := hT.1 h
    refine am_set (am_iinc (x := v2) (c0 := (nI 1)) dX4_helpfulTriangle_85 (by decide) rfl (by decide)) (L1 := [.ref v0, .ref v1, .int (v2 + (nI 1)), .int v3, .null]) rfl ?_
    refine am_goto (tgt := 2) dX4_helpfulTriangle_88 (by decide) ?_
    refine am_drop [3] (L1 := [.ref v0, .ref v1, .int (v2 + (nI 1)), .null, .null]) rfl ?_
    exact hT
  · replace hT := hT.2 h
    refine am_iload_n (x := v3) dX4_helpfulTriangle_22 rfl ?_
    refine am_iconst (v := (nI 1)) dX4_helpfulTriangle_23 (by decide) ?_
    refine am_iadd dX4_helpfulTriangle_24 ?_
    refine am_set (am_istore dX4_helpfulTriangle_25 (by decide)) (L1 := [.ref v0, .ref v1, .int v2, .int v3, .int (v3 + (nI 1))]) rfl ?_
    exact hT
set_option maxRecDepth 20000 in
theorem rX4_helpfulTriangle_27 {lay : List am_L} {d : Nat} {D : am_D} {Q : Option Value → am_D → Prop} {v0 : Nat} {v1 : Nat} {v2 : Int32} {v3 : Int32} {v4 : Int32} (h0 : isX0 lay v0) (h1 : isX0 lay v1) (hT : (∃ x1, am_MetP lay d mX0_size [.ref v0] D x1 ∧
 ((x1 ≤ v4 → am_AW lay (d + 1) mX4_helpfulTriangle 14 [.ref v0, .ref v1, .int v2, .int (v3 + (nI 1)), .null] [] D Q) ∧
 (¬ (x1 ≤ v4) → (∃ x2, am_MetP lay d mX0_isTriangle [.ref v0, .int v2, .int v3, .int v4] D x2 ∧
 ((x2 = nI 0 → am_AW lay (d + 1) mX4_helpfulTriangle 27 [.ref v0, .ref v1, .int v2, .int v3, .int (v4 + (nI 1))] [] D Q) ∧
 (¬ (x2 = nI 0) → (∃ x3, am_MetP lay d mX4_differingAmong [.ref v0, .ref v1, .int v2, .int v3, .int v4] D x3 ∧
 ((x3 < (nI 2) → am_AW lay (d + 1) mX4_helpfulTriangle 27 [.ref v0, .ref v1, .int v2, .int v3, .int (v4 + (nI 1))] [] D Q) ∧
 (¬ (x3 < (nI 2)) → Q (some (.int ((((nI 100) * v2) + ((nI 10) * v3)) + v4))) D)))))))))) : am_AW lay (d + 1) mX4_helpfulTriangle 27 [.ref v0, .ref v1, .int v2, .int v3, .int v4] [] D Q := by
  refine am_iload (x := v4) dX4_helpfulTriangle_27 rfl ?_
  refine am_aload_n (x := v0) dX4_helpfulTriangle_29 rfl ?_
  obtain ⟨x1, hm, hT⟩ := hT
  refine am_callV (av := []) (st := [.int v4]) (b := v0) cw_X0_size cl_X4_15 ck_X0_size cs_X0_size h0.1 rfl rfl (Nat.le_of_ble_eq_true rfl) dX4_helpfulTriangle_30 hm (fun r D9 hr => ?_)
  obtain ⟨rfl, e9⟩ := hr
  rw [e9]
  clear e9
  refine am_icmp_ge (tgt := 79) dX4_helpfulTriangle_33 (by decide) (fun h => ?_) (fun h => ?_)
  · replace hT := hT.1 h
    refine am_set (am_iinc (x := v3) (c0 := (nI 1)) dX4_helpfulTriangle_79 (by decide) rfl (by decide)) (L1 := [.ref v0, .ref v1, .int v2, .int (v3 + (nI 1)), .int v4]) rfl ?_
    refine am_goto (tgt := 14) dX4_helpfulTriangle_82 (by decide) ?_
    refine am_drop [4] (L1 := [.ref v0, .ref v1, .int v2, .int (v3 + (nI 1)), .null]) rfl ?_
    exact hT
  · replace hT := hT.2 h
    refine am_aload_n (x := v0) dX4_helpfulTriangle_36 rfl ?_
    refine am_iload_n (x := v2) dX4_helpfulTriangle_37 rfl ?_
    refine am_iload_n (x := v3) dX4_helpfulTriangle_38 rfl ?_
    refine am_iload (x := v4) dX4_helpfulTriangle_39 rfl ?_
    obtain ⟨x2, hm, hT⟩ := hT
    refine am_callV (av := [.int v2, .int v3, .int v4]) (st := []) (b := v0) cw_X0_isTriangle cl_X4_30 ck_X0_isTriangle cs_X0_isTriangle h0.1 rfl rfl (Nat.le_of_ble_eq_true rfl) dX4_helpfulTriangle_41 hm (fun r D9 hr => ?_)
    obtain ⟨rfl, e9⟩ := hr
    rw [e9]
    clear e9
    refine am_if_eq (tgt := 73) dX4_helpfulTriangle_44 (by decide) (fun h => ?_) (fun h => ?_)
    · replace hT := hT.1 h
      refine am_set (am_iinc (x := v4) (c0 := (nI 1)) dX4_helpfulTriangle_73 (by decide) rfl (by decide)) (L1 := [.ref v0, .ref v1, .int v2, .int v3, .int (v4 + (nI 1))]) rfl ?_
      refine am_goto (tgt := 27) dX4_helpfulTriangle_76 (by decide) ?_
      exact hT
    · replace hT := hT.2 h
      refine am_aload_n (x := v0) dX4_helpfulTriangle_47 rfl ?_
      refine am_aload_n (x := v1) dX4_helpfulTriangle_48 rfl ?_
      refine am_iload_n (x := v2) dX4_helpfulTriangle_49 rfl ?_
      refine am_iload_n (x := v3) dX4_helpfulTriangle_50 rfl ?_
      refine am_iload (x := v4) dX4_helpfulTriangle_51 rfl ?_
      obtain ⟨x3, hm, hT⟩ := hT
      refine am_callS (av := [.ref v0, .ref v1, .int v2, .int v3, .int v4]) (st := []) cw_X4_differingAmong cl_X4_34 ck_X4_differingAmong (Nat.le_of_ble_eq_true rfl) dX4_helpfulTriangle_53 hm (fun r D9 hr => ?_)
      obtain ⟨rfl, e9⟩ := hr
      rw [e9]
      clear e9
      refine am_iconst (v := (nI 2)) dX4_helpfulTriangle_56 (by decide) ?_
      refine am_icmp_lt (tgt := 73) dX4_helpfulTriangle_57 (by decide) (fun h => ?_) (fun h => ?_)
      · replace hT := hT.1 h
        refine am_set (am_iinc (x := v4) (c0 := (nI 1)) dX4_helpfulTriangle_73 (by decide) rfl (by decide)) (L1 := [.ref v0, .ref v1, .int v2, .int v3, .int (v4 + (nI 1))]) rfl ?_
        refine am_goto (tgt := 27) dX4_helpfulTriangle_76 (by decide) ?_
        exact hT
      · replace hT := hT.2 h
        refine am_bipush (v := (nI 100)) dX4_helpfulTriangle_60 (by decide) ?_
        refine am_iload_n (x := v2) dX4_helpfulTriangle_62 rfl ?_
        refine am_imul dX4_helpfulTriangle_63 ?_
        refine am_bipush (v := (nI 10)) dX4_helpfulTriangle_64 (by decide) ?_
        refine am_iload_n (x := v3) dX4_helpfulTriangle_66 rfl ?_
        refine am_imul dX4_helpfulTriangle_67 ?_
        refine am_iadd dX4_helpfulTriangle_68 ?_
        refine am_iload (x := v4) dX4_helpfulTriangle_69 rfl ?_
        refine am_iadd dX4_helpfulTriangle_71 ?_
        exact am_ireturn (ty := .int) dX4_helpfulTriangle_72 rfl rfl hT
set_option maxRecDepth 20000 in
theorem eX4_differingAmong {lay : List am_L} {d : Nat} {D : am_D} {Q : Option Value → am_D → Prop} {v0 : Nat} {v1 : Nat} {v2 : Int32} {v3 : Int32} {v4 : Int32} (h0 : isX0 lay v0) (h1 : isX0 lay v1) (hT : (∃ x1, am_MetP lay d mX4_differs [.ref v0, .ref v1, .int v2, .int v3] D x1 ∧
 (∃ x2, am_MetP lay d mX4_differs [.ref v0, .ref v1, .int v3, .int v4] D x2 ∧
 (∃ x3, am_MetP lay d mX4_differs [.ref v0, .ref v1, .int v2, .int v4] D x3 ∧
 Q (some (.int ((x1 + x2) + x3))) D)))) : am_Met lay (d + 1) mX4_differingAmong [.ref v0, .ref v1, .int v2, .int v3, .int v4] D Q := by
  refine am_enter (by decide +kernel) rfl (Nat.le_of_ble_eq_true rfl) ?_
  show am_AW lay (d + 1) mX4_differingAmong 0 [.ref v0, .ref v1, .int v2, .int v3, .int v4] [] D Q
  refine am_aload_n (x := v0) dX4_differingAmong_0 rfl ?_
  refine am_aload_n (x := v1) dX4_differingAmong_1 rfl ?_
  refine am_iload_n (x := v2) dX4_differingAmong_2 rfl ?_
  refine am_iload_n (x := v3) dX4_differingAmong_3 rfl ?_
  obtain ⟨x1, hm, hT⟩ := hT
  refine am_callS (av := [.ref v0, .ref v1, .int v2, .int v3]) (st := []) cw_X4_differs cl_X4_38 ck_X4_differs (Nat.le_of_ble_eq_true rfl) dX4_differingAmong_4 hm (fun r D9 hr => ?_)
  obtain ⟨rfl, e9⟩ := hr
  rw [e9]
  clear e9
  refine am_aload_n (x := v0) dX4_differingAmong_7 rfl ?_
  refine am_aload_n (x := v1) dX4_differingAmong_8 rfl ?_
  refine am_iload_n (x := v3) dX4_differingAmong_9 rfl ?_
  refine am_iload (x := v4) dX4_differingAmong_10 rfl ?_
  obtain ⟨x2, hm, hT⟩ := hT
  refine am_callS (av := [.ref v0, .ref v1, .int v3, .int v4]) (st := [.int x1]) cw_X4_differs cl_X4_38 ck_X4_differs (Nat.le_of_ble_eq_true rfl) dX4_differingAmong_12 hm (fun r D9 hr => ?_)
  obtain ⟨rfl, e9⟩ := hr
  rw [e9]
  clear e9
  refine am_iadd dX4_differingAmong_15 ?_
  refine am_aload_n (x := v0) dX4_differingAmong_16 rfl ?_
  refine am_aload_n (x := v1) dX4_differingAmong_17 rfl ?_
  refine am_iload_n (x := v2) dX4_differingAmong_18 rfl ?_
  refine am_iload (x := v4) dX4_differingAmong_19 rfl ?_
  obtain ⟨x3, hm, hT⟩ := hT
  refine am_callS (av := [.ref v0, .ref v1, .int v2, .int v4]) (st := [.int (x1 + x2)]) cw_X4_differs cl_X4_38 ck_X4_differs (Nat.le_of_ble_eq_true rfl) dX4_differingAmong_21 hm (fun r D9 hr => ?_)
  obtain ⟨rfl, e9⟩ := hr
  rw [e9]
  clear e9
  refine am_iadd dX4_differingAmong_24 ?_
  exact am_ireturn (ty := .int) dX4_differingAmong_25 rfl rfl hT
set_option maxRecDepth 20000 in
theorem eX4_differs {lay : List am_L} {d : Nat} {D : am_D} {Q : Option Value → am_D → Prop} {v0 : Nat} {v1 : Nat} {v2 : Int32} {v3 : Int32} (h0 : isX0 lay v0) (h1 : isX0 lay v1) (hT : (∃ x1, am_MetP lay d mX0_wins [.ref v0, .int v2, .int v3] D x1 ∧
 (∃ x2, am_MetP lay d mX0_wins [.ref v1, .int v2, .int v3] D x2 ∧
 ((¬ x1 = x2 → Q (some (.int (nI 1))) D) ∧
 (¬ (¬ x1 = x2) → Q (some (.int (nI 0))) D))))) : am_Met lay (d + 1) mX4_differs [.ref v0, .ref v1, .int v2, .int v3] D Q := by
  refine am_enter (by decide +kernel) rfl (Nat.le_of_ble_eq_true rfl) ?_
  show am_AW lay (d + 1) mX4_differs 0 [.ref v0, .ref v1, .int v2, .int v3] [] D Q
  refine am_aload_n (x := v0) dX4_differs_0 rfl ?_
  refine am_iload_n (x := v2) dX4_differs_1 rfl ?_
  refine am_iload_n (x := v3) dX4_differs_2 rfl ?_
  obtain ⟨x1, hm, hT⟩ := hT
  refine am_callV (av := [.int v2, .int v3]) (st := []) (b := v0) cw_X0_wins cl_X4_42 ck_X0_wins cs_X0_wins h0.1 rfl rfl (Nat.le_of_ble_eq_true rfl) dX4_differs_3 hm (fun r D9 hr => ?_)
  obtain ⟨rfl, e9⟩ := hr
  rw [e9]
  clear e9
  refine am_aload_n (x := v1) dX4_differs_6 rfl ?_
  refine am_iload_n (x := v2) dX4_differs_7 rfl ?_
  refine am_iload_n (x := v3) dX4_differs_8 rfl ?_
  obtain ⟨x2, hm, hT⟩ := hT
  refine am_callV (av := [.int v2, .int v3]) (st := [.int x1]) (b := v1) cw_X0_wins cl_X4_42 ck_X0_wins cs_X0_wins h1.1 rfl rfl (Nat.le_of_ble_eq_true rfl) dX4_differs_9 hm (fun r D9 hr => ?_)
  obtain ⟨rfl, e9⟩ := hr
  rw [e9]
  clear e9
  refine am_icmp_ne (tgt := 19) dX4_differs_12 (by decide) (fun h => ?_) (fun h => ?_)
  · replace hT := hT.1 h
    refine am_iconst (v := (nI 1)) dX4_differs_19 (by decide) ?_
    exact am_ireturn (ty := .int) dX4_differs_20 rfl rfl hT
  · replace hT := hT.2 h
    refine am_iconst (v := (nI 0)) dX4_differs_15 (by decide) ?_
    refine am_goto (tgt := 20) dX4_differs_16 (by decide) ?_
    exact am_ireturn (ty := .int) dX4_differs_20 rfl rfl hT
set_option maxRecDepth 20000 in
theorem eX4_areAlike {lay : List am_L} {d : Nat} {D : am_D} {Q : Option Value → am_D → Prop} {o : Nat} {v1 : Nat} {v2 : Nat} (ho : isX4 lay o) (h1 : isX0 lay v1) (h2 : isX0 lay v2) (hT : (∃ x1, am_MetP lay d mX0_size [.ref v1] D x1 ∧
 (∃ x2, am_MetP lay d mX0_size [.ref v2] D x2 ∧
 ((¬ x1 = x2 → Q (some (.int (nI 0))) D) ∧
 (¬ (¬ x1 = x2) → (∃ x3, am_MetP lay d mX0_everyone [.ref v2] D x3 ∧
 (∃ x4 D5, am_MetI lay d mX4_assign [.ref v1, .ref v2, .ref (o + 1), .int x3, .int (nI 0)] D x4 D5 ∧
 ((x4 = nI 0 → Q (some (.int (nI 0))) D5) ∧
 (¬ (x4 = nI 0) → Q (some (.int (nI 1))) D5))))))))) : am_Met lay (d + 1) mX4_areAlike [.ref o, .ref v1, .ref v2] D Q := by
  refine am_enter (by decide +kernel) rfl (Nat.le_of_ble_eq_true rfl) ?_
  show am_AW lay (d + 1) mX4_areAlike 0 [.ref o, .ref v1, .ref v2] [] D Q
  refine am_aload_n (x := v1) dX4_areAlike_0 rfl ?_
  obtain ⟨x1, hm, hT⟩ := hT
  refine am_callV (av := []) (st := []) (b := v1) cw_X0_size cl_X4_15 ck_X0_size cs_X0_size h1.1 rfl rfl (Nat.le_of_ble_eq_true rfl) dX4_areAlike_1 hm (fun r D9 hr => ?_)
  obtain ⟨rfl, e9⟩ := hr
  rw [e9]
  clear e9
  refine am_aload_n (x := v2) dX4_areAlike_4 rfl ?_
  obtain ⟨x2, hm, hT⟩ := hT
  refine am_callV (av := []) (st := [.int x1]) (b := v2) cw_X0_size cl_X4_15 ck_X0_size cs_X0_size h2.1 rfl rfl (Nat.le_of_ble_eq_true rfl) dX4_areAlike_5 hm (fun r D9 hr => ?_)
  obtain ⟨rfl, e9⟩ := hr
  rw [e9]
  clear e9
  refine am_icmp_ne (tgt := 32) dX4_areAlike_8 (by decide) (fun h => ?_) (fun h => ?_)
  · replace hT := hT.1 h
    refine am_iconst (v := (nI 0)) dX4_areAlike_32 (by decide) ?_
    exact am_ireturn (ty := .boolean) dX4_areAlike_33 rfl (by decide) hT
  · replace hT := hT.2 h
    refine am_aload_n (x := v1) dX4_areAlike_11 rfl ?_
    refine am_aload_n (x := v2) dX4_areAlike_12 rfl ?_
    refine am_aload_n (x := o) dX4_areAlike_13 rfl ?_
    refine am_getR dX4_areAlike_14 fw_X4_9 ho.1 rfl ?_
    refine am_aload_n (x := v2) dX4_areAlike_17 rfl ?_
    obtain ⟨x3, hm, hT⟩ := hT
    refine am_callV (av := []) (st := [.ref (o + 1), .ref v2, .ref v1]) (b := v2) cw_X0_everyone cl_X4_46 ck_X0_everyone cs_X0_everyone h2.1 rfl rfl (Nat.le_of_ble_eq_true rfl) dX4_areAlike_18 hm (fun r D9 hr => ?_)
    obtain ⟨rfl, e9⟩ := hr
    rw [e9]
    clear e9
    refine am_iconst (v := (nI 0)) dX4_areAlike_21 (by decide) ?_
    obtain ⟨x4, D5, hm, hT⟩ := hT
    refine am_callS (av := [.ref v1, .ref v2, .ref (o + 1), .int x3, .int (nI 0)]) (st := []) cw_X4_assign cl_X4_49 ck_X4_assign (Nat.le_of_ble_eq_true rfl) dX4_areAlike_22 hm (fun r D9 hr => ?_)
    obtain ⟨rfl, e9⟩ := hr
    rw [e9]
    clear e9
    refine am_if_eq (tgt := 32) dX4_areAlike_25 (by decide) (fun h => ?_) (fun h => ?_)
    · replace hT := hT.1 h
      refine am_iconst (v := (nI 0)) dX4_areAlike_32 (by decide) ?_
      exact am_ireturn (ty := .boolean) dX4_areAlike_33 rfl (by decide) hT
    · replace hT := hT.2 h
      refine am_iconst (v := (nI 1)) dX4_areAlike_28 (by decide) ?_
      refine am_goto (tgt := 33) dX4_areAlike_29 (by decide) ?_
      exact am_ireturn (ty := .boolean) dX4_areAlike_33 rfl (by decide) hT
set_option maxRecDepth 20000 in
theorem eX4_assign {lay : List am_L} {d : Nat} {D : am_D} {Q : Option Value → am_D → Prop} {v0 : Nat} {v1 : Nat} {v2 : Nat} {v3 : Int32} {v4 : Int32} (h0 : isX0 lay v0) (h1 : isX0 lay v1) (h2 : lay[v2]? = some (.inr (.inl (false, 10)))) (hT : ((v4 < nI 0 → (∃ x1, am_MetP lay d mX0_size [.ref v0] D x1 ∧
 ((¬ v4 = x1 → Q (some (.int (nI 0))) D) ∧
 (¬ (¬ v4 = x1) → Q (some (.int (nI 1))) D)))) ∧
 (¬ (v4 < nI 0) → (∃ x2, am_MetP lay d mX0_size [.ref v0] D x2 ∧
 ((x2 ≤ v4 → (∃ x3, am_MetP lay d mX0_size [.ref v0] D x3 ∧
 ((¬ v4 = x3 → Q (some (.int (nI 0))) D) ∧
 (¬ (¬ v4 = x3) → Q (some (.int (nI 1))) D)))) ∧
 (¬ (x2 ≤ v4) → ((v4 < (nI 10) → am_AW lay (d + 1) mX4_assign 39 [.ref v0, .ref v1, .ref v2, .int v3, .int v4, .int (nI 0)] [] D Q) ∧
 (¬ (v4 < (nI 10)) → (∃ x4, am_MetP lay d mX0_size [.ref v0] D x4 ∧
 ((¬ v4 = x4 → Q (some (.int (nI 0))) D) ∧
 (¬ (¬ v4 = x4) → Q (some (.int (nI 1))) D))))))))))) : am_Met lay (d + 1) mX4_assign [.ref v0, .ref v1, .ref v2, .int v3, .int v4] D Q := by
  refine am_enter (by decide +kernel) rfl (Nat.le_of_ble_eq_true rfl) ?_
  show am_AW lay (d + 1) mX4_assign 0 [.ref v0, .ref v1, .ref v2, .int v3, .int v4, .null] [] D Q
  refine am_iload (x := v4) dX4_assign_0 rfl ?_
  refine am_if_lt (tgt := 21) dX4_assign_2 (by decide) (fun h => ?_) (fun h => ?_)
  · replace hT := hT.1 h
    refine am_iload (x := v4) dX4_assign_21 rfl ?_
    refine am_aload_n (x := v0) dX4_assign_23 rfl ?_
    obtain ⟨x1, hm, hT⟩ := hT
    refine am_callV (av := []) (st := [.int v4]) (b := v0) cw_X0_size cl_X4_15 ck_X0_size cs_X0_size h0.1 rfl rfl (Nat.le_of_ble_eq_true rfl) dX4_assign_24 hm (fun r D9 hr => ?_)
    obtain ⟨rfl, e9⟩ := hr
    rw [e9]
    clear e9
    refine am_icmp_ne (tgt := 34) dX4_assign_27 (by decide) (fun h => ?_) (fun h => ?_)
    · replace hT := hT.1 h
      refine am_iconst (v := (nI 0)) dX4_assign_34 (by decide) ?_
      exact am_ireturn (ty := .boolean) dX4_assign_35 rfl (by decide) hT
    · replace hT := hT.2 h
      refine am_iconst (v := (nI 1)) dX4_assign_30 (by decide) ?_
      refine am_goto (tgt := 35) dX4_assign_31 (by decide) ?_
      exact am_ireturn (ty := .boolean) dX4_assign_35 rfl (by decide) hT
  · replace hT := hT.2 h
    refine am_iload (x := v4) dX4_assign_5 rfl ?_
    refine am_aload_n (x := v0) dX4_assign_7 rfl ?_
    obtain ⟨x2, hm, hT⟩ := hT
    refine am_callV (av := []) (st := [.int v4]) (b := v0) cw_X0_size cl_X4_15 ck_X0_size cs_X0_size h0.1 rfl rfl (Nat.le_of_ble_eq_true rfl) dX4_assign_8 hm (fun r D9 hr => ?_)
    obtain ⟨rfl, e9⟩ := hr
    rw [e9]
    clear e9
    refine am_icmp_ge (tgt := 21) dX4_assign_11 (by decide) (fun h => ?_) (fun h => ?_)
    · replace hT := hT.1 h
      refine am_iload (x := v4) dX4_assign_21 rfl ?_
      refine am_aload_n (x := v0) dX4_assign_23 rfl ?_
      obtain ⟨x3, hm, hT⟩ := hT
      refine am_callV (av := []) (st := [.int v4]) (b := v0) cw_X0_size cl_X4_15 ck_X0_size cs_X0_size h0.1 rfl rfl (Nat.le_of_ble_eq_true rfl) dX4_assign_24 hm (fun r D9 hr => ?_)
      obtain ⟨rfl, e9⟩ := hr
      rw [e9]
      clear e9
      refine am_icmp_ne (tgt := 34) dX4_assign_27 (by decide) (fun h => ?_) (fun h => ?_)
      · replace hT := hT.1 h
        refine am_iconst (v := (nI 0)) dX4_assign_34 (by decide) ?_
        exact am_ireturn (ty := .boolean) dX4_assign_35 rfl (by decide) hT
      · replace hT := hT.2 h
        refine am_iconst (v := (nI 1)) dX4_assign_30 (by decide) ?_
        refine am_goto (tgt := 35) dX4_assign_31 (by decide) ?_
        exact am_ireturn (ty := .boolean) dX4_assign_35 rfl (by decide) hT
    · replace hT := hT.2 h
      refine am_iload (x := v4) dX4_assign_14 rfl ?_
      refine am_aload_n (x := v2) dX4_assign_16 rfl ?_
      refine am_alen (v := nI 10) dX4_assign_17 h2 rfl (by decide) ?_
      refine am_icmp_lt (tgt := 36) dX4_assign_18 (by decide) (fun h => ?_) (fun h => ?_)
      · replace hT := hT.1 h
        refine am_iconst (v := (nI 0)) dX4_assign_36 (by decide) ?_
        refine am_set (am_istore dX4_assign_37 (by decide)) (L1 := [.ref v0, .ref v1, .ref v2, .int v3, .int v4, .int (nI 0)]) rfl ?_
        exact hT
      · replace hT := hT.2 h
        refine am_iload (x := v4) dX4_assign_21 rfl ?_
        refine am_aload_n (x := v0) dX4_assign_23 rfl ?_
        obtain ⟨x4, hm, hT⟩ := hT
        refine am_callV (av := []) (st := [.int v4]) (b := v0) cw_X0_size cl_X4_15 ck_X0_size cs_X0_size h0.1 rfl rfl (Nat.le_of_ble_eq_true rfl) dX4_assign_24 hm (fun r D9 hr => ?_)
        obtain ⟨rfl, e9⟩ := hr
        rw [e9]
        clear e9
        refine am_icmp_ne (tgt := 34) dX4_assign_27 (by decide) (fun h => ?_) (fun h => ?_)
        · replace hT := hT.1 h
          refine am_iconst (v := (nI 0)) dX4_assign_34 (by decide) ?_
          exact am_ireturn (ty := .boolean) dX4_assign_35 rfl (by decide) hT
        · replace hT := hT.2 h
          refine am_iconst (v := (nI 1)) dX4_assign_30 (by decide) ?_
          refine am_goto (tgt := 35) dX4_assign_31 (by decide) ?_
          exact am_ireturn (ty := .boolean) dX4_assign_35 rfl (by decide) hT
set_option maxRecDepth 20000 in
theorem rX4_assign_39 {lay : List am_L} {d : Nat} {D : am_D} {Q : Option Value → am_D → Prop} {v0 : Nat} {v1 : Nat} {v2 : Nat} {v3 : Int32} {v4 : Int32} {v5 : Int32} (h0 : isX0 lay v0) (h1 : isX0 lay v1) (h2 : lay[v2]? = some (.inr (.inl (false, 10)))) (hT : (∃ x1, am_MetP lay d mX0_size [.ref v1] D x1 ∧
 ((x1 ≤ v5 → Q (some (.int (nI 0))) D) ∧
 (¬ (x1 ≤ v5) → (∃ x2, am_MetP lay d mX10_holds [.int v3, .int v5] D x2 ∧
 ((x2 = nI 0 → am_AW lay (d + 1) mX4_assign 39 [.ref v0, .ref v1, .ref v2, .int v3, .int v4, .int (v5 + (nI 1))] [] D Q) ∧
 (¬ (x2 = nI 0) → (∃ x3, am_MetP lay d mX4_corresponds [.ref v0, .ref v1, .ref v2, .int v4, .int v5] D x3 ∧
 ((x3 = nI 0 → am_AW lay (d + 1) mX4_assign 39 [.ref v0, .ref v1, .ref v2, .int v3, .int v4, .int (v5 + (nI 1))] [] D Q) ∧
 (¬ (x3 = nI 0) → (vp_in v4 10 ∧ ∀ D4, D4 = am_up D v2 (Int32.toNatClampNeg v4) v5 →
 (∃ x5, am_MetP lay d mX10_without [.int v3, .int v5] D4 x5 ∧
 (∃ x6 D7, am_MetI lay d mX4_assign [.ref v0, .ref v1, .ref v2, .int x5, .int (v4 + (nI 1))] D4 x6 D7 ∧
 ((x6 = nI 0 → am_AW lay (d + 1) mX4_assign 39 [.ref v0, .ref v1, .ref v2, .int v3, .int v4, .int (v5 + (nI 1))] [] D7 Q) ∧
 (¬ (x6 = nI 0) → Q (some (.int (nI 1))) D7))))))))))))))) : am_AW lay (d + 1) mX4_assign 39 [.ref v0, .ref v1, .ref v2, .int v3, .int v4, .int v5] [] D Q := by
  refine am_iload (x := v5) dX4_assign_39 rfl ?_
  refine am_aload_n (x := v1) dX4_assign_41 rfl ?_
  obtain ⟨x1, hm, hT⟩ := hT
  refine am_callV (av := []) (st := [.int v5]) (b := v1) cw_X0_size cl_X4_15 ck_X0_size cs_X0_size h1.1 rfl rfl (Nat.le_of_ble_eq_true rfl) dX4_assign_42 hm (fun r D9 hr => ?_)
  obtain ⟨rfl, e9⟩ := hr
  rw [e9]
  clear e9
  refine am_icmp_ge (tgt := 103) dX4_assign_45 (by decide) (fun h => ?_) (fun h => ?_)
  · replace hT := hT.1 h
    refine am_iconst (v := (nI 0)) dX4_assign_103 (by decide) ?_
    exact am_ireturn (ty := .boolean) dX4_assign_104 rfl (by decide) hT
  · replace hT := hT.2 h
    refine am_iload_n (x := v3) dX4_assign_48 rfl ?_
    refine am_iload (x := v5) dX4_assign_49 rfl ?_
    obtain ⟨x2, hm, hT⟩ := hT
    refine am_callSN (av := [.int v3, .int v5]) (st := []) cw_X10_holds cl_X4_53 ck_X10_holds (Nat.le_of_ble_eq_true rfl) dX4_assign_51 hm (fun r D9 hr => ?_)
    obtain ⟨rfl, e9⟩ := hr
    rw [e9]
    clear e9
    refine am_if_eq (tgt := 97) dX4_assign_54 (by decide) (fun h => ?_) (fun h => ?_)
    · replace hT := hT.1 h
      refine am_set (am_iinc (x := v5) (c0 := (nI 1)) dX4_assign_97 (by decide) rfl (by decide)) (L1 := [.ref v0, .ref v1, .ref v2, .int v3, .int v4, .int (v5 + (nI 1))]) rfl ?_
      refine am_goto (tgt := 39) dX4_assign_100 (by decide) ?_
      exact hT
    · replace hT := hT.2 h
      refine am_aload_n (x := v0) dX4_assign_57 rfl ?_
      refine am_aload_n (x := v1) dX4_assign_58 rfl ?_
      refine am_aload_n (x := v2) dX4_assign_59 rfl ?_
      refine am_iload (x := v4) dX4_assign_60 rfl ?_
      refine am_iload (x := v5) dX4_assign_62 rfl ?_
      obtain ⟨x3, hm, hT⟩ := hT
      refine am_callS (av := [.ref v0, .ref v1, .ref v2, .int v4, .int v5]) (st := []) cw_X4_corresponds cl_X4_56 ck_X4_corresponds (Nat.le_of_ble_eq_true rfl) dX4_assign_64 hm (fun r D9 hr => ?_)
      obtain ⟨rfl, e9⟩ := hr
      rw [e9]
      clear e9
      refine am_if_eq (tgt := 97) dX4_assign_67 (by decide) (fun h => ?_) (fun h => ?_)
      · replace hT := hT.1 h
        refine am_set (am_iinc (x := v5) (c0 := (nI 1)) dX4_assign_97 (by decide) rfl (by decide)) (L1 := [.ref v0, .ref v1, .ref v2, .int v3, .int v4, .int (v5 + (nI 1))]) rfl ?_
        refine am_goto (tgt := 39) dX4_assign_100 (by decide) ?_
        exact hT
      · replace hT := hT.2 h
        refine am_aload_n (x := v2) dX4_assign_70 rfl ?_
        refine am_iload (x := v4) dX4_assign_71 rfl ?_
        refine am_iload (x := v5) dX4_assign_73 rfl ?_
        refine am_iast dX4_assign_75 h2 hT.1 ?_
        obtain ⟨D4, hD⟩ : ∃ z, z = am_up D v2 (Int32.toNatClampNeg v4) v5 := ⟨_, rfl⟩
        rw [← hD]
        replace hT := hT.2 D4 hD
        clear hD
        refine am_aload_n (x := v0) dX4_assign_76 rfl ?_
        refine am_aload_n (x := v1) dX4_assign_77 rfl ?_
        refine am_aload_n (x := v2) dX4_assign_78 rfl ?_
        refine am_iload_n (x := v3) dX4_assign_79 rfl ?_
        refine am_iload (x := v5) dX4_assign_80 rfl ?_
        obtain ⟨x5, hm, hT⟩ := hT
        refine am_callSN (av := [.int v3, .int v5]) (st := [.ref v2, .ref v1, .ref v0]) cw_X10_without cl_X4_59 ck_X10_without (Nat.le_of_ble_eq_true rfl) dX4_assign_82 hm (fun r D9 hr => ?_)
        obtain ⟨rfl, e9⟩ := hr
        rw [e9]
        clear e9
        refine am_iload (x := v4) dX4_assign_85 rfl ?_
        refine am_iconst (v := (nI 1)) dX4_assign_87 (by decide) ?_
        refine am_iadd dX4_assign_88 ?_
        obtain ⟨x6, D7, hm, hT⟩ := hT
        refine am_callS (av := [.ref v0, .ref v1, .ref v2, .int x5, .int (v4 + (nI 1))]) (st := []) cw_X4_assign cl_X4_49 ck_X4_assign (Nat.le_of_ble_eq_true rfl) dX4_assign_89 hm (fun r D9 hr => ?_)
        obtain ⟨rfl, e9⟩ := hr
        rw [e9]
        clear e9
        refine am_if_eq (tgt := 97) dX4_assign_92 (by decide) (fun h => ?_) (fun h => ?_)
        · replace hT := hT.1 h
          refine am_set (am_iinc (x := v5) (c0 := (nI 1)) dX4_assign_97 (by decide) rfl (by decide)) (L1 := [.ref v0, .ref v1, .ref v2, .int v3, .int v4, .int (v5 + (nI 1))]) rfl ?_
          refine am_goto (tgt := 39) dX4_assign_100 (by decide) ?_
          exact hT
        · replace hT := hT.2 h
          refine am_iconst (v := (nI 1)) dX4_assign_95 (by decide) ?_
          exact am_ireturn (ty := .boolean) dX4_assign_96 rfl (by decide) hT
set_option maxRecDepth 20000 in
theorem eX4_corresponds {lay : List am_L} {d : Nat} {D : am_D} {Q : Option Value → am_D → Prop} {v0 : Nat} {v1 : Nat} {v2 : Nat} {v3 : Int32} {v4 : Int32} (h0 : isX0 lay v0) (h1 : isX0 lay v1) (h2 : lay[v2]? = some (.inr (.inl (false, 10)))) (hT : (∃ x1, am_MetP lay d mX0_winsOf [.ref v0, .int v3] D x1 ∧
 (∃ x2, am_MetP lay d mX0_winsOf [.ref v1, .int v4] D x2 ∧
 ((x1 = x2 → am_AW lay (d + 1) mX4_corresponds 19 [.ref v0, .ref v1, .ref v2, .int v3, .int v4, .int (nI 0)] [] D Q) ∧
 (¬ (x1 = x2) → Q (some (.int (nI 0))) D))))) : am_Met lay (d + 1) mX4_corresponds [.ref v0, .ref v1, .ref v2, .int v3, .int v4] D Q := by
  refine am_enter (by decide +kernel) rfl (Nat.le_of_ble_eq_true rfl) ?_
  show am_AW lay (d + 1) mX4_corresponds 0 [.ref v0, .ref v1, .ref v2, .int v3, .int v4, .null] [] D Q
  refine am_aload_n (x := v0) dX4_corresponds_0 rfl ?_
  refine am_iload_n (x := v3) dX4_corresponds_1 rfl ?_
  obtain ⟨x1, hm, hT⟩ := hT
  refine am_callV (av := [.int v3]) (st := []) (b := v0) cw_X0_winsOf cl_X4_63 ck_X0_winsOf cs_X0_winsOf h0.1 rfl rfl (Nat.le_of_ble_eq_true rfl) dX4_corresponds_2 hm (fun r D9 hr => ?_)
  obtain ⟨rfl, e9⟩ := hr
  rw [e9]
  clear e9
  refine am_aload_n (x := v1) dX4_corresponds_5 rfl ?_
  refine am_iload (x := v4) dX4_corresponds_6 rfl ?_
  obtain ⟨x2, hm, hT⟩ := hT
  refine am_callV (av := [.int v4]) (st := [.int x1]) (b := v1) cw_X0_winsOf cl_X4_63 ck_X0_winsOf cs_X0_winsOf h1.1 rfl rfl (Nat.le_of_ble_eq_true rfl) dX4_corresponds_8 hm (fun r D9 hr => ?_)
  obtain ⟨rfl, e9⟩ := hr
  rw [e9]
  clear e9
  refine am_icmp_eq (tgt := 16) dX4_corresponds_11 (by decide) (fun h => ?_) (fun h => ?_)
  · replace hT := hT.1 h
    refine am_iconst (v := (nI 0)) dX4_corresponds_16 (by decide) ?_
    refine am_set (am_istore dX4_corresponds_17 (by decide)) (L1 := [.ref v0, .ref v1, .ref v2, .int v3, .int v4, .int (nI 0)]) rfl ?_
    exact hT
  · replace hT := hT.2 h
    refine am_iconst (v := (nI 0)) dX4_corresponds_14 (by decide) ?_
    exact am_ireturn (ty := .boolean) dX4_corresponds_15 rfl (by decide) hT
set_option maxRecDepth 20000 in
theorem rX4_corresponds_19 {lay : List am_L} {d : Nat} {D : am_D} {Q : Option Value → am_D → Prop} {v0 : Nat} {v1 : Nat} {v2 : Nat} {v3 : Int32} {v4 : Int32} {v5 : Int32} (h0 : isX0 lay v0) (h1 : isX0 lay v1) (h2 : lay[v2]? = some (.inr (.inl (false, 10)))) (hT : ((v3 ≤ v5 → Q (some (.int (nI 1))) D) ∧
 (¬ (v3 ≤ v5) → (((nI 10) ≤ v5 → Q (some (.int (nI 1))) D) ∧
 (¬ ((nI 10) ≤ v5) → (∃ x1, am_MetP lay d mX0_wins [.ref v0, .int v3, .int v5] D x1 ∧
 (vp_in v5 10 ∧ (∃ x2, am_MetP lay d mX0_wins [.ref v1, .int v4, .int (D v2 (Int32.toNatClampNeg v5))] D x2 ∧
 ((x1 = x2 → am_AW lay (d + 1) mX4_corresponds 19 [.ref v0, .ref v1, .ref v2, .int v3, .int v4, .int (v5 + (nI 1))] [] D Q) ∧
 (¬ (x1 = x2) → Q (some (.int (nI 0))) D)))))))))) : am_AW lay (d + 1) mX4_corresponds 19 [.ref v0, .ref v1, .ref v2, .int v3, .int v4, .int v5] [] D Q := by
  refine am_iload (x := v5) dX4_corresponds_19 rfl ?_
  refine am_iload_n (x := v3) dX4_corresponds_21 rfl ?_
  refine am_icmp_ge (tgt := 60) dX4_corresponds_22 (by decide) (fun h => ?_) (fun h => ?_)
  · replace hT := hT.1 h
    refine am_iconst (v := (nI 1)) dX4_corresponds_60 (by decide) ?_
    exact am_ireturn (ty := .boolean) dX4_corresponds_61 rfl (by decide) hT
  · replace hT := hT.2 h
    refine am_iload (x := v5) dX4_corresponds_25 rfl ?_
    refine am_aload_n (x := v2) dX4_corresponds_27 rfl ?_
    refine am_alen (v := nI 10) dX4_corresponds_28 h2 rfl (by decide) ?_
    refine am_icmp_ge (tgt := 60) dX4_corresponds_29 (by decide) (fun h => ?_) (fun h => ?_)
    · replace hT := hT.1 h
      refine am_iconst (v := (nI 1)) dX4_corresponds_60 (by decide) ?_
      exact am_ireturn (ty := .boolean) dX4_corresponds_61 rfl (by decide) hT
    · replace hT := hT.2 h
      refine am_aload_n (x := v0) dX4_corresponds_32 rfl ?_
      refine am_iload_n (x := v3) dX4_corresponds_33 rfl ?_
      refine am_iload (x := v5) dX4_corresponds_34 rfl ?_
      obtain ⟨x1, hm, hT⟩ := hT
      refine am_callV (av := [.int v3, .int v5]) (st := []) (b := v0) cw_X0_wins cl_X4_42 ck_X0_wins cs_X0_wins h0.1 rfl rfl (Nat.le_of_ble_eq_true rfl) dX4_corresponds_36 hm (fun r D9 hr => ?_)
      obtain ⟨rfl, e9⟩ := hr
      rw [e9]
      clear e9
      refine am_aload_n (x := v1) dX4_corresponds_39 rfl ?_
      refine am_iload (x := v4) dX4_corresponds_40 rfl ?_
      refine am_aload_n (x := v2) dX4_corresponds_42 rfl ?_
      refine am_iload (x := v5) dX4_corresponds_43 rfl ?_
      refine am_iald dX4_corresponds_45 h2 hT.1 ?_
      replace hT := hT.2
      obtain ⟨x2, hm, hT⟩ := hT
      refine am_callV (av := [.int v4, .int (D v2 (Int32.toNatClampNeg v5))]) (st := [.int x1]) (b := v1) cw_X0_wins cl_X4_42 ck_X0_wins cs_X0_wins h1.1 rfl rfl (Nat.le_of_ble_eq_true rfl) dX4_corresponds_46 hm (fun r D9 hr => ?_)
      obtain ⟨rfl, e9⟩ := hr
      rw [e9]
      clear e9
      refine am_icmp_eq (tgt := 54) dX4_corresponds_49 (by decide) (fun h => ?_) (fun h => ?_)
      · replace hT := hT.1 h
        refine am_set (am_iinc (x := v5) (c0 := (nI 1)) dX4_corresponds_54 (by decide) rfl (by decide)) (L1 := [.ref v0, .ref v1, .ref v2, .int v3, .int v4, .int (v5 + (nI 1))]) rfl ?_
        refine am_goto (tgt := 19) dX4_corresponds_57 (by decide) ?_
        exact hT
      · replace hT := hT.2 h
        refine am_iconst (v := (nI 0)) dX4_corresponds_52 (by decide) ?_
        exact am_ireturn (ty := .boolean) dX4_corresponds_53 rfl (by decide) hT
