set_option maxRecDepth 20000 in
theorem eX2_playerAt {lay : List am_L} {d : Nat} {D : am_D} {Q : Option Value → am_D → Prop} {o : Nat} {v1 : Int32} (ho : isX2 lay o) (hT : ((v1 < nI 0 → Q (some (.int (-4))) D) ∧
 (¬ (v1 < nI 0) → (((nI 10) ≤ v1 → Q (some (.int (-4))) D) ∧
 (¬ ((nI 10) ≤ v1) → (vp_in v1 10 ∧ Q (some (.int (D (o + 1) (Int32.toNatClampNeg v1)))) D)))))) : am_Met lay d mX2_playerAt [.ref o, .int v1] D Q := by
  refine am_enter (by decide +kernel) rfl (Nat.le_of_ble_eq_true rfl) ?_
  show am_AW lay d mX2_playerAt 0 [.ref o, .int v1] [] D Q
  refine am_iload_n (x := v1) dX2_playerAt_0 rfl ?_
  refine am_if_lt (tgt := 22) dX2_playerAt_1 (by decide) (fun h => ?_) (fun h => ?_)
  · replace hT := hT.1 h
    refine am_bipush (v := (-4)) dX2_playerAt_22 (by decide) ?_
    exact am_ireturn (ty := .int) dX2_playerAt_24 rfl rfl hT
  · replace hT := hT.2 h
    refine am_iload_n (x := v1) dX2_playerAt_4 rfl ?_
    refine am_aload_n (x := o) dX2_playerAt_5 rfl ?_
    refine am_getR dX2_playerAt_6 fw_X2_9 ho.1 rfl ?_
    refine am_alen (v := nI 10) dX2_playerAt_9 ho.2.1 rfl (by decide) ?_
    refine am_icmp_ge (tgt := 22) dX2_playerAt_10 (by decide) (fun h => ?_) (fun h => ?_)
    · replace hT := hT.1 h
      refine am_bipush (v := (-4)) dX2_playerAt_22 (by decide) ?_
      exact am_ireturn (ty := .int) dX2_playerAt_24 rfl rfl hT
    · replace hT := hT.2 h
      refine am_aload_n (x := o) dX2_playerAt_13 rfl ?_
      refine am_getR dX2_playerAt_14 fw_X2_9 ho.1 rfl ?_
      refine am_iload_n (x := v1) dX2_playerAt_17 rfl ?_
      refine am_iald dX2_playerAt_18 ho.2.1 hT.1 ?_
      replace hT := hT.2
      refine am_goto (tgt := 24) dX2_playerAt_19 (by decide) ?_
      exact am_ireturn (ty := .int) dX2_playerAt_24 rfl rfl hT
set_option maxRecDepth 20000 in
theorem eX2_countLengths {lay : List am_L} {d : Nat} {D : am_D} {Q : Option Value → am_D → Prop} {v0 : Nat} {v1 : Int32} (h0 : isX0 lay v0) (hT : (∃ x1, am_MetP lay d mX9_partWith [.ref v0, .int v1] D x1 ∧
 (∃ x2, am_MetP lay d mJ6_bitCount_0f7a4 [.int x1] D x2 ∧
 Q (some (.int (if (nI 0) < ((x2 - (nI 3)) + (nI 1)) then ((x2 - (nI 3)) + (nI 1)) else (nI 0)))) D))) : am_Met lay (d + 1) mX2_countLengths [.ref v0, .int v1] D Q := by
  refine am_enter (by decide +kernel) rfl (Nat.le_of_ble_eq_true rfl) ?_
  show am_AW lay (d + 1) mX2_countLengths 0 [.ref v0, .int v1] [] D Q
  refine am_iconst (v := (nI 0)) dX2_countLengths_0 (by decide) ?_
  refine am_aload_n (x := v0) dX2_countLengths_1 rfl ?_
  refine am_iload_n (x := v1) dX2_countLengths_2 rfl ?_
  obtain ⟨x1, hm, hT⟩ := hT
  refine am_callS (av := [.ref v0, .int v1]) (st := [.int (nI 0)]) cw_X9_partWith cl_X2_18 ck_X9_partWith (Nat.le_of_ble_eq_true rfl) dX2_countLengths_3 hm (fun r D9 hr => ?_)
  obtain ⟨rfl, e9⟩ := hr
  rw [e9]
  clear e9
  obtain ⟨x2, hm, hT⟩ := hT
  refine am_callS (av := [.int x1]) (st := [.int (nI 0)]) cw_J6_bitCount_0f7a4 cl_X2_24 ck_J6_bitCount_0f7a4 (Nat.le_of_ble_eq_true rfl) dX2_countLengths_6 hm (fun r D9 hr => ?_)
  obtain ⟨rfl, e9⟩ := hr
  rw [e9]
  clear e9
  refine am_iconst (v := (nI 3)) dX2_countLengths_9 (by decide) ?_
  refine am_isub dX2_countLengths_10 ?_
  refine am_iconst (v := (nI 1)) dX2_countLengths_11 (by decide) ?_
  refine am_iadd dX2_countLengths_12 ?_
  refine am_max dX2_countLengths_13 cl_X2_30 (Nat.le_of_ble_eq_true rfl) ?_
  exact am_ireturn (ty := .int) dX2_countLengths_16 rfl rfl hT
set_option maxRecDepth 20000 in
theorem eX2_find {lay : List am_L} {d : Nat} {D : am_D} {Q : Option Value → am_D → Prop} {o : Nat} {v1 : Nat} {v2 : Int32} {v3 : Int32} (ho : isX2 lay o) (h1 : isX0 lay v1) (hT : (∃ x1, am_MetP lay d mX9_partWith [.ref v1, .int v2] D x1 ∧
 (∃ x2, am_MetP lay d mJ6_bitCount_0f7a4 [.int x1] D x2 ∧
 ((v3 ≤ x2 → am_AW lay (d + 1) mX2_find 21 [.ref o, .ref v1, .int v2, .int v3, .int x1, .int (nI 0)] [] D Q) ∧
 (¬ (v3 ≤ x2) → Q (some (.int (nI 0))) D))))) : am_Met lay (d + 1) mX2_find [.ref o, .ref v1, .int v2, .int v3] D Q := by
  refine am_enter (by decide +kernel) rfl (Nat.le_of_ble_eq_true rfl) ?_
  show am_AW lay (d + 1) mX2_find 0 [.ref o, .ref v1, .int v2, .int v3, .null, .null] [] D Q
  refine am_aload_n (x := v1) dX2_find_0 rfl ?_
  refine am_iload_n (x := v2) dX2_find_1 rfl ?_
  obtain ⟨x1, hm, hT⟩ := hT
  refine am_callS (av := [.ref v1, .int v2]) (st := []) cw_X9_partWith cl_X2_18 ck_X9_partWith (Nat.le_of_ble_eq_true rfl) dX2_find_2 hm (fun r D9 hr => ?_)
  obtain ⟨rfl, e9⟩ := hr
  rw [e9]
  clear e9
  refine am_set (am_istore dX2_find_5 (by decide)) (L1 := [.ref o, .ref v1, .int v2, .int v3, .int x1, .null]) rfl ?_
  refine am_iload (x := x1) dX2_find_7 rfl ?_
  obtain ⟨x2, hm, hT⟩ := hT
  refine am_callS (av := [.int x1]) (st := []) cw_J6_bitCount_0f7a4 cl_X2_24 ck_J6_bitCount_0f7a4 (Nat.le_of_ble_eq_true rfl) dX2_find_9 hm (fun r D9 hr => ?_)
  obtain ⟨rfl, e9⟩ := hr
  rw [e9]
  clear e9
  refine am_iload_n (x := v3) dX2_find_12 rfl ?_
  refine am_icmp_ge (tgt := 18) dX2_find_13 (by decide) (fun h => ?_) (fun h => ?_)
  · replace hT := hT.1 h
    refine am_iconst (v := (nI 0)) dX2_find_18 (by decide) ?_
    refine am_set (am_istore dX2_find_19 (by decide)) (L1 := [.ref o, .ref v1, .int v2, .int v3, .int x1, .int (nI 0)]) rfl ?_
    exact hT
  · replace hT := hT.2 h
    refine am_iconst (v := (nI 0)) dX2_find_16 (by decide) ?_
    exact am_ireturn (ty := .boolean) dX2_find_17 rfl (by decide) hT
set_option maxRecDepth 20000 in
theorem rX2_find_21 {lay : List am_L} {d : Nat} {D : am_D} {Q : Option Value → am_D → Prop} {o : Nat} {v1 : Nat} {v2 : Int32} {v3 : Int32} {v4 : Int32} {v5 : Int32} (ho : isX2 lay o) (h1 : isX0 lay v1) (hT : ((v4 < v5 → (vp_in (nI 0) 10 ∧ ∀ D1, D1 = am_up D (o + 1) (Int32.toNatClampNeg (nI 0)) v2 →
 (∃ x2, am_MetP lay d mX10_without [.int v4, .int v2] D1 x2 ∧
 (∃ x3 D4, am_MetI lay d mX2_extend [.ref v1, .ref (o + 1), .ref (o + 2), .int x2, .int (nI 1), .int v3] D1 x3 D4 ∧
 (narrow .boolean (.int x3) = .int x3 ∧ Q (some (.int x3)) D4))))) ∧
 (¬ (v4 < v5) → (((nI 1024) ≤ v5 → (vp_in (nI 0) 10 ∧ ∀ D5, D5 = am_up D (o + 1) (Int32.toNatClampNeg (nI 0)) v2 →
 (∃ x6, am_MetP lay d mX10_without [.int v4, .int v2] D5 x6 ∧
 (∃ x7 D8, am_MetI lay d mX2_extend [.ref v1, .ref (o + 1), .ref (o + 2), .int x6, .int (nI 1), .int v3] D5 x7 D8 ∧
 (narrow .boolean (.int x7) = .int x7 ∧ Q (some (.int x7)) D8))))) ∧
 (¬ ((nI 1024) ≤ v5) → (vp_in v5 1024 ∧ ∀ D9, D9 = am_up D (o + 2) (Int32.toNatClampNeg v5) (nI 0) →
 am_AW lay (d + 1) mX2_find 21 [.ref o, .ref v1, .int v2, .int v3, .int v4, .int (v5 + (nI 1))] [] D9 Q)))))) : am_AW lay (d + 1) mX2_find 21 [.ref o, .ref v1, .int v2, .int v3, .int v4, .int v5] [] D Q := by
  refine am_iload (x := v5) dX2_find_21 rfl ?_
  refine am_iload (x := v4) dX2_find_23 rfl ?_
  refine am_icmp_gt (tgt := 52) dX2_find_25 (by decide) (fun h => ?_) (fun h => ?_)
  · replace hT := hT.1 h
    refine am_aload_n (x := o) dX2_find_52 rfl ?_
    refine am_getR dX2_find_53 fw_X2_9 ho.1 rfl ?_
    refine am_iconst (v := (nI 0)) dX2_find_56 (by decide) ?_
    refine am_iload_n (x := v2) dX2_find_57 rfl ?_
    refine am_iast dX2_find_58 ho.2.1 hT.1 ?_
    obtain ⟨D1, hD⟩ : ∃ z, z = am_up D (o + 1) (Int32.toNatClampNeg (nI 0)) v2 := ⟨_, rfl⟩
    rw [← hD]
    replace hT := hT.2 D1 hD
    clear hD
    refine am_aload_n (x := v1) dX2_find_59 rfl ?_
    refine am_aload_n (x := o) dX2_find_60 rfl ?_
    refine am_getR dX2_find_61 fw_X2_9 ho.1 rfl ?_
    refine am_aload_n (x := o) dX2_find_64 rfl ?_
    refine am_getR dX2_find_65 fw_X2_15 ho.1 rfl ?_
    refine am_iload (x := v4) dX2_find_68 rfl ?_
    refine am_iload_n (x := v2) dX2_find_70 rfl ?_
    obtain ⟨x2, hm, hT⟩ := hT
    refine am_callSN (av := [.int v4, .int v2]) (st := [.ref (o + 2), .ref (o + 1), .ref v1]) cw_X10_without cl_X2_36 ck_X10_without (Nat.le_of_ble_eq_true rfl) dX2_find_71 hm (fun r D9 hr => ?_)
    obtain ⟨rfl, e9⟩ := hr
    rw [e9]
    clear e9
    refine am_iconst (v := (nI 1)) dX2_find_74 (by decide) ?_
    refine am_iload_n (x := v3) dX2_find_75 rfl ?_
    obtain ⟨x3, D4, hm, hT⟩ := hT
    refine am_callS (av := [.ref v1, .ref (o + 1), .ref (o + 2), .int x2, .int (nI 1), .int v3]) (st := []) cw_X2_extend cl_X2_39 ck_X2_extend (Nat.le_of_ble_eq_true rfl) dX2_find_76 hm (fun r D9 hr => ?_)
    obtain ⟨rfl, e9⟩ := hr
    rw [e9]
    clear e9
    exact am_ireturn (ty := .boolean) dX2_find_79 rfl hT.1 hT.2
  · replace hT := hT.2 h
    refine am_iload (x := v5) dX2_find_28 rfl ?_
    refine am_aload_n (x := o) dX2_find_30 rfl ?_
    refine am_getR dX2_find_31 fw_X2_15 ho.1 rfl ?_
    refine am_alen (v := nI 1024) dX2_find_34 ho.2.2 rfl (by decide) ?_
    refine am_icmp_ge (tgt := 52) dX2_find_35 (by decide) (fun h => ?_) (fun h => ?_)
    · replace hT := hT.1 h
      refine am_aload_n (x := o) dX2_find_52 rfl ?_
      refine am_getR dX2_find_53 fw_X2_9 ho.1 rfl ?_
      refine am_iconst (v := (nI 0)) dX2_find_56 (by decide) ?_
      refine am_iload_n (x := v2) dX2_find_57 rfl ?_
      refine am_iast dX2_find_58 ho.2.1 hT.1 ?_
      obtain ⟨D5, hD⟩ : ∃ z, z = am_up D (o + 1) (Int32.toNatClampNeg (nI 0)) v2 := ⟨_, rfl⟩
      rw [← hD]
      replace hT := hT.2 D5 hD
      clear hD
      refine am_aload_n (x := v1) dX2_find_59 rfl ?_
      refine am_aload_n (x := o) dX2_find_60 rfl ?_
      refine am_getR dX2_find_61 fw_X2_9 ho.1 rfl ?_
      refine am_aload_n (x := o) dX2_find_64 rfl ?_
      refine am_getR dX2_find_65 fw_X2_15 ho.1 rfl ?_
      refine am_iload (x := v4) dX2_find_68 rfl ?_
      refine am_iload_n (x := v2) dX2_find_70 rfl ?_
      obtain ⟨x6, hm, hT⟩ := hT
      refine am_callSN (av := [.int v4, .int v2]) (st := [.ref (o + 2), .ref (o + 1), .ref v1]) cw_X10_without cl_X2_36 ck_X10_without (Nat.le_of_ble_eq_true rfl) dX2_find_71 hm (fun r D9 hr => ?_)
      obtain ⟨rfl, e9⟩ := hr
      rw [e9]
      clear e9
      refine am_iconst (v := (nI 1)) dX2_find_74 (by decide) ?_
      refine am_iload_n (x := v3) dX2_find_75 rfl ?_
      obtain ⟨x7, D8, hm, hT⟩ := hT
      refine am_callS (av := [.ref v1, .ref (o + 1), .ref (o + 2), .int x6, .int (nI 1), .int v3]) (st := []) cw_X2_extend cl_X2_39 ck_X2_extend (Nat.le_of_ble_eq_true rfl) dX2_find_76 hm (fun r D9 hr => ?_)
      obtain ⟨rfl, e9⟩ := hr
      rw [e9]
      clear e9
      exact am_ireturn (ty := .boolean) dX2_find_79 rfl hT.1 hT.2
    · replace hT := hT.2 h
      refine am_aload_n (x := o) dX2_find_38 rfl ?_
      refine am_getR dX2_find_39 fw_X2_15 ho.1 rfl ?_
      refine am_iload (x := v5) dX2_find_42 rfl ?_
      refine am_iconst (v := (nI 0)) dX2_find_44 (by decide) ?_
      refine am_iast dX2_find_45 ho.2.2 hT.1 ?_
      obtain ⟨D9, hD⟩ : ∃ z, z = am_up D (o + 2) (Int32.toNatClampNeg v5) (nI 0) := ⟨_, rfl⟩
      rw [← hD]
      replace hT := hT.2 D9 hD
      clear hD
      refine am_set (am_iinc (x := v5) (c0 := (nI 1)) dX2_find_46 (by decide) rfl (by decide)) (L1 := [.ref o, .ref v1, .int v2, .int v3, .int v4, .int (v5 + (nI 1))]) rfl ?_
      refine am_goto (tgt := 21) dX2_find_49 (by decide) ?_
      exact hT
set_option maxRecDepth 20000 in
theorem eX2_extend {lay : List am_L} {d : Nat} {D : am_D} {Q : Option Value → am_D → Prop} {v0 : Nat} {v1 : Nat} {v2 : Nat} {v3 : Int32} {v4 : Int32} {v5 : Int32} (h0 : isX0 lay v0) (h1 : lay[v1]? = some (.inr (.inl (false, 10)))) (h2 : lay[v2]? = some (.inr (.inl (false, 1024)))) (hT : ((v4 < (nI 1) → Q (some (.int (nI 0))) D) ∧
 (¬ (v4 < (nI 1)) → ((v5 < v4 → Q (some (.int (nI 0))) D) ∧
 (¬ (v5 < v4) → (((nI 10) < v4 → Q (some (.int (nI 0))) D) ∧
 (¬ ((nI 10) < v4) → ((v3 < nI 0 → Q (some (.int (nI 0))) D) ∧
 (¬ (v3 < nI 0) → ((v3 < (nI 1024) → (vp_in (v4 - (nI 1)) 10 ∧ ((¬ v4 = v5 → (vp_in v3 1024 ∧ (∃ x1, am_MetP lay d mX10_holds [.int (D v2 (Int32.toNatClampNeg v3)), .int (D v1 (Int32.toNatClampNeg (v4 - (nI 1))))] D x1 ∧
 ((x1 = nI 0 → am_AW lay (d + 1) mX2_extend 73 [.ref v0, .ref v1, .ref v2, .int v3, .int v4, .int v5, .int (D v1 (Int32.toNatClampNeg (v4 - (nI 1)))), .int (nI 0)] [] D Q) ∧
 (¬ (x1 = nI 0) → Q (some (.int (nI 0))) D))))) ∧
 (¬ (¬ v4 = v5) → (vp_in (nI 0) 10 ∧ (∃ x2, am_MetP lay d mX0_wins [.ref v0, .int (D v1 (Int32.toNatClampNeg (v4 - (nI 1)))), .int (D v1 (Int32.toNatClampNeg (nI 0)))] D x2 ∧
 (narrow .boolean (.int x2) = .int x2 ∧ Q (some (.int x2)) D))))))) ∧
 (¬ (v3 < (nI 1024)) → Q (some (.int (nI 0))) D))))))))))) : am_Met lay (d + 1) mX2_extend [.ref v0, .ref v1, .ref v2, .int v3, .int v4, .int v5] D Q := by
  refine am_enter (by decide +kernel) rfl (Nat.le_of_ble_eq_true rfl) ?_
  show am_AW lay (d + 1) mX2_extend 0 [.ref v0, .ref v1, .ref v2, .int v3, .int v4, .int v5, .null, .null] [] D Q
  refine am_iload (x := v4) dX2_extend_0 rfl ?_
  refine am_iconst (v := (nI 1)) dX2_extend_2 (by decide) ?_
  refine am_icmp_lt (tgt := 30) dX2_extend_3 (by decide) (fun h => ?_) (fun h => ?_)
  · replace hT := hT.1 h
    refine am_iconst (v := (nI 0)) dX2_extend_30 (by decide) ?_
    exact am_ireturn (ty := .boolean) dX2_extend_31 rfl (by decide) hT
  · replace hT := hT.2 h
    refine am_iload (x := v4) dX2_extend_6 rfl ?_
    refine am_iload (x := v5) dX2_extend_8 rfl ?_
    refine am_icmp_gt (tgt := 30) dX2_extend_10 (by decide) (fun h => ?_) (fun h => ?_)
    · replace hT := hT.1 h
      refine am_iconst (v := (nI 0)) dX2_extend_30 (by decide) ?_
      exact am_ireturn (ty := .boolean) dX2_extend_31 rfl (by decide) hT
    · replace hT := hT.2 h
      refine am_iload (x := v4) dX2_extend_13 rfl ?_
      refine am_aload_n (x := v1) dX2_extend_15 rfl ?_
      refine am_alen (v := nI 10) dX2_extend_16 h1 rfl (by decide) ?_
      refine am_icmp_gt (tgt := 30) dX2_extend_17 (by decide) (fun h => ?_) (fun h => ?_)
      · replace hT := hT.1 h
        refine am_iconst (v := (nI 0)) dX2_extend_30 (by decide) ?_
        exact am_ireturn (ty := .boolean) dX2_extend_31 rfl (by decide) hT
      · replace hT := hT.2 h
        refine am_iload_n (x := v3) dX2_extend_20 rfl ?_
        refine am_if_lt (tgt := 30) dX2_extend_21 (by decide) (fun h => ?_) (fun h => ?_)
        · replace hT := hT.1 h
          refine am_iconst (v := (nI 0)) dX2_extend_30 (by decide) ?_
          exact am_ireturn (ty := .boolean) dX2_extend_31 rfl (by decide) hT
        · replace hT := hT.2 h
          refine am_iload_n (x := v3) dX2_extend_24 rfl ?_
          refine am_aload_n (x := v2) dX2_extend_25 rfl ?_
          refine am_alen (v := nI 1024) dX2_extend_26 h2 rfl (by decide) ?_
          refine am_icmp_lt (tgt := 32) dX2_extend_27 (by decide) (fun h => ?_) (fun h => ?_)
          · replace hT := hT.1 h
            refine am_aload_n (x := v1) dX2_extend_32 rfl ?_
            refine am_iload (x := v4) dX2_extend_33 rfl ?_
            refine am_iconst (v := (nI 1)) dX2_extend_35 (by decide) ?_
            refine am_isub dX2_extend_36 ?_
            refine am_iald dX2_extend_37 h1 hT.1 ?_
            replace hT := hT.2
            refine am_set (am_istore dX2_extend_38 (by decide)) (L1 := [.ref v0, .ref v1, .ref v2, .int v3, .int v4, .int v5, .int (D v1 (Int32.toNatClampNeg (v4 - (nI 1)))), .null]) rfl ?_
            refine am_iload (x := v4) dX2_extend_40 rfl ?_
            refine am_iload (x := v5) dX2_extend_42 rfl ?_
            refine am_icmp_ne (tgt := 57) dX2_extend_44 (by decide) (fun h => ?_) (fun h => ?_)
            · replace hT := hT.1 h
              refine am_aload_n (x := v2) dX2_extend_57 rfl ?_
              refine am_iload_n (x := v3) dX2_extend_58 rfl ?_
              refine am_iald dX2_extend_59 h2 hT.1 ?_
              replace hT := hT.2
              refine am_iload (x := (D v1 (Int32.toNatClampNeg (v4 - (nI 1))))) dX2_extend_60 rfl ?_
              obtain ⟨x1, hm, hT⟩ := hT
              refine am_callSN (av := [.int (D v2 (Int32.toNatClampNeg v3)), .int (D v1 (Int32.toNatClampNeg (v4 - (nI 1))))]) (st := []) cw_X10_holds cl_X2_49 ck_X10_holds (Nat.le_of_ble_eq_true rfl) dX2_extend_62 hm (fun r D9 hr => ?_)
              obtain ⟨rfl, e9⟩ := hr
              rw [e9]
              clear e9
              refine am_if_eq (tgt := 70) dX2_extend_65 (by decide) (fun h => ?_) (fun h => ?_)
              · replace hT := hT.1 h
                refine am_iconst (v := (nI 0)) dX2_extend_70 (by decide) ?_
                refine am_set (am_istore dX2_extend_71 (by decide)) (L1 := [.ref v0, .ref v1, .ref v2, .int v3, .int v4, .int v5, .int (D v1 (Int32.toNatClampNeg (v4 - (nI 1)))), .int (nI 0)]) rfl ?_
                exact hT
              · replace hT := hT.2 h
                refine am_iconst (v := (nI 0)) dX2_extend_68 (by decide) ?_
                exact am_ireturn (ty := .boolean) dX2_extend_69 rfl (by decide) hT
            · replace hT := hT.2 h
              refine am_aload_n (x := v0) dX2_extend_47 rfl ?_
              refine am_iload (x := (D v1 (Int32.toNatClampNeg (v4 - (nI 1))))) dX2_extend_48 rfl ?_
              refine am_aload_n (x := v1) dX2_extend_50 rfl ?_
              refine am_iconst (v := (nI 0)) dX2_extend_51 (by decide) ?_
              refine am_iald dX2_extend_52 h1 hT.1 ?_
              replace hT := hT.2
              obtain ⟨x2, hm, hT⟩ := hT
              refine am_callV (av := [.int (D v1 (Int32.toNatClampNeg (v4 - (nI 1)))), .int (D v1 (Int32.toNatClampNeg (nI 0)))]) (st := []) (b := v0) cw_X0_wins cl_X2_43 ck_X0_wins cs_X0_wins h0.1 rfl rfl (Nat.le_of_ble_eq_true rfl) dX2_extend_53 hm (fun r D9 hr => ?_)
              obtain ⟨rfl, e9⟩ := hr
              rw [e9]
              clear e9
              exact am_ireturn (ty := .boolean) dX2_extend_56 rfl hT.1 hT.2
          · replace hT := hT.2 h
            refine am_iconst (v := (nI 0)) dX2_extend_30 (by decide) ?_
            exact am_ireturn (ty := .boolean) dX2_extend_31 rfl (by decide) hT
set_option maxRecDepth 20000 in
theorem rX2_extend_73 {lay : List am_L} {d : Nat} {D : am_D} {Q : Option Value → am_D → Prop} {v0 : Nat} {v1 : Nat} {v2 : Nat} {v3 : Int32} {v4 : Int32} {v5 : Int32} {v6 : Int32} {v7 : Int32} (h0 : isX0 lay v0) (h1 : lay[v1]? = some (.inr (.inl (false, 10)))) (h2 : lay[v2]? = some (.inr (.inl (false, 1024)))) (hT : (∃ x1, am_MetP lay d mX0_size [.ref v0] D x1 ∧
 ((x1 ≤ v7 → (vp_in v3 1024 ∧ (∃ x2, am_MetP lay d mX10_only [.int v6] D x2 ∧
 (vp_in v3 1024 ∧ ∀ D3, D3 = am_up D v2 (Int32.toNatClampNeg v3) ((D v2 (Int32.toNatClampNeg v3)) ||| x2) →
 Q (some (.int (nI 0))) D3)))) ∧
 (¬ (x1 ≤ v7) → (((nI 10) ≤ v4 → (vp_in v3 1024 ∧ (∃ x4, am_MetP lay d mX10_only [.int v6] D x4 ∧
 (vp_in v3 1024 ∧ ∀ D5, D5 = am_up D v2 (Int32.toNatClampNeg v3) ((D v2 (Int32.toNatClampNeg v3)) ||| x4) →
 Q (some (.int (nI 0))) D5)))) ∧
 (¬ ((nI 10) ≤ v4) → (∃ x6, am_MetP lay d mX10_holds [.int v3, .int v7] D x6 ∧
 ((x6 = nI 0 → am_AW lay (d + 1) mX2_extend 73 [.ref v0, .ref v1, .ref v2, .int v3, .int v4, .int v5, .int v6, .int (v7 + (nI 1))] [] D Q) ∧
 (¬ (x6 = nI 0) → (∃ x7, am_MetP lay d mX0_wins [.ref v0, .int v6, .int v7] D x7 ∧
 ((x7 = nI 0 → am_AW lay (d + 1) mX2_extend 73 [.ref v0, .ref v1, .ref v2, .int v3, .int v4, .int v5, .int v6, .int (v7 + (nI 1))] [] D Q) ∧
 (¬ (x7 = nI 0) → (vp_in v4 10 ∧ ∀ D8, D8 = am_up D v1 (Int32.toNatClampNeg v4) v7 →
 (∃ x9, am_MetP lay d mX10_without [.int v3, .int v7] D8 x9 ∧
 (∃ x10 D11, am_MetI lay d mX2_extend [.ref v0, .ref v1, .ref v2, .int x9, .int (v4 + (nI 1)), .int v5] D8 x10 D11 ∧
 ((x10 = nI 0 → am_AW lay (d + 1) mX2_extend 73 [.ref v0, .ref v1, .ref v2, .int v3, .int v4, .int v5, .int v6, .int (v7 + (nI 1))] [] D11 Q) ∧
 (¬ (x10 = nI 0) → Q (some (.int (nI 1))) D11))))))))))))))))) : am_AW lay (d + 1) mX2_extend 73 [.ref v0, .ref v1, .ref v2, .int v3, .int v4, .int v5, .int v6, .int v7] [] D Q := by
  refine am_iload (x := v7) dX2_extend_73 rfl ?_
  refine am_aload_n (x := v0) dX2_extend_75 rfl ?_
  obtain ⟨x1, hm, hT⟩ := hT
  refine am_callV (av := []) (st := [.int v7]) (b := v0) cw_X0_size cl_X2_52 ck_X0_size cs_X0_size h0.1 rfl rfl (Nat.le_of_ble_eq_true rfl) dX2_extend_76 hm (fun r D9 hr => ?_)
  obtain ⟨rfl, e9⟩ := hr
  rw [e9]
  clear e9
  refine am_icmp_ge (tgt := 144) dX2_extend_79 (by decide) (fun h => ?_) (fun h => ?_)
  · replace hT := hT.1 h
    refine am_aload_n (x := v2) dX2_extend_144 rfl ?_
    refine am_iload_n (x := v3) dX2_extend_145 rfl ?_
    refine am_dup2 dX2_extend_146 rfl rfl ?_
    refine am_iald dX2_extend_147 h2 hT.1 ?_
    replace hT := hT.2
    refine am_iload (x := v6) dX2_extend_148 rfl ?_
    obtain ⟨x2, hm, hT⟩ := hT
    refine am_callSN (av := [.int v6]) (st := [.int (D v2 (Int32.toNatClampNeg v3)), .int v3, .ref v2]) cw_X10_only cl_X2_56 ck_X10_only (Nat.le_of_ble_eq_true rfl) dX2_extend_150 hm (fun r D9 hr => ?_)
    obtain ⟨rfl, e9⟩ := hr
    rw [e9]
    clear e9
    refine am_ior dX2_extend_153 ?_
    refine am_iast dX2_extend_154 h2 hT.1 ?_
    obtain ⟨D3, hD⟩ : ∃ z, z = am_up D v2 (Int32.toNatClampNeg v3) ((D v2 (Int32.toNatClampNeg v3)) ||| x2) := ⟨_, rfl⟩
    rw [← hD]
    replace hT := hT.2 D3 hD
    clear hD
    refine am_iconst (v := (nI 0)) dX2_extend_155 (by decide) ?_
    exact am_ireturn (ty := .boolean) dX2_extend_156 rfl (by decide) hT
  · replace hT := hT.2 h
    refine am_iload (x := v4) dX2_extend_82 rfl ?_
    refine am_aload_n (x := v1) dX2_extend_84 rfl ?_
    refine am_alen (v := nI 10) dX2_extend_85 h1 rfl (by decide) ?_
    refine am_icmp_ge (tgt := 144) dX2_extend_86 (by decide) (fun h => ?_) (fun h => ?_)
    · replace hT := hT.1 h
      refine am_aload_n (x := v2) dX2_extend_144 rfl ?_
      refine am_iload_n (x := v3) dX2_extend_145 rfl ?_
      refine am_dup2 dX2_extend_146 rfl rfl ?_
      refine am_iald dX2_extend_147 h2 hT.1 ?_
      replace hT := hT.2
      refine am_iload (x := v6) dX2_extend_148 rfl ?_
      obtain ⟨x4, hm, hT⟩ := hT
      refine am_callSN (av := [.int v6]) (st := [.int (D v2 (Int32.toNatClampNeg v3)), .int v3, .ref v2]) cw_X10_only cl_X2_56 ck_X10_only (Nat.le_of_ble_eq_true rfl) dX2_extend_150 hm (fun r D9 hr => ?_)
      obtain ⟨rfl, e9⟩ := hr
      rw [e9]
      clear e9
      refine am_ior dX2_extend_153 ?_
      refine am_iast dX2_extend_154 h2 hT.1 ?_
      obtain ⟨D5, hD⟩ : ∃ z, z = am_up D v2 (Int32.toNatClampNeg v3) ((D v2 (Int32.toNatClampNeg v3)) ||| x4) := ⟨_, rfl⟩
      rw [← hD]
      replace hT := hT.2 D5 hD
      clear hD
      refine am_iconst (v := (nI 0)) dX2_extend_155 (by decide) ?_
      exact am_ireturn (ty := .boolean) dX2_extend_156 rfl (by decide) hT
    · replace hT := hT.2 h
      refine am_iload_n (x := v3) dX2_extend_89 rfl ?_
      refine am_iload (x := v7) dX2_extend_90 rfl ?_
      obtain ⟨x6, hm, hT⟩ := hT
      refine am_callSN (av := [.int v3, .int v7]) (st := []) cw_X10_holds cl_X2_49 ck_X10_holds (Nat.le_of_ble_eq_true rfl) dX2_extend_92 hm (fun r D9 hr => ?_)
      obtain ⟨rfl, e9⟩ := hr
      rw [e9]
      clear e9
      refine am_if_eq (tgt := 138) dX2_extend_95 (by decide) (fun h => ?_) (fun h => ?_)
      · replace hT := hT.1 h
        refine am_set (am_iinc (x := v7) (c0 := (nI 1)) dX2_extend_138 (by decide) rfl (by decide)) (L1 := [.ref v0, .ref v1, .ref v2, .int v3, .int v4, .int v5, .int v6, .int (v7 + (nI 1))]) rfl ?_
        refine am_goto (tgt := 73) dX2_extend_141 (by decide) ?_
        exact hT
      · replace hT := hT.2 h
        refine am_aload_n (x := v0) dX2_extend_98 rfl ?_
        refine am_iload (x := v6) dX2_extend_99 rfl ?_
        refine am_iload (x := v7) dX2_extend_101 rfl ?_
        obtain ⟨x7, hm, hT⟩ := hT
        refine am_callV (av := [.int v6, .int v7]) (st := []) (b := v0) cw_X0_wins cl_X2_43 ck_X0_wins cs_X0_wins h0.1 rfl rfl (Nat.le_of_ble_eq_true rfl) dX2_extend_103 hm (fun r D9 hr => ?_)
        obtain ⟨rfl, e9⟩ := hr
        rw [e9]
        clear e9
        refine am_if_eq (tgt := 138) dX2_extend_106 (by decide) (fun h => ?_) (fun h => ?_)
        · replace hT := hT.1 h
          refine am_set (am_iinc (x := v7) (c0 := (nI 1)) dX2_extend_138 (by decide) rfl (by decide)) (L1 := [.ref v0, .ref v1, .ref v2, .int v3, .int v4, .int v5, .int v6, .int (v7 + (nI 1))]) rfl ?_
          refine am_goto (tgt := 73) dX2_extend_141 (by decide) ?_
          exact hT
        · replace hT := hT.2 h
          refine am_aload_n (x := v1) dX2_extend_109 rfl ?_
          refine am_iload (x := v4) dX2_extend_110 rfl ?_
          refine am_iload (x := v7) dX2_extend_112 rfl ?_
          refine am_iast dX2_extend_114 h1 hT.1 ?_
          obtain ⟨D8, hD⟩ : ∃ z, z = am_up D v1 (Int32.toNatClampNeg v4) v7 := ⟨_, rfl⟩
          rw [← hD]
          replace hT := hT.2 D8 hD
          clear hD
          refine am_aload_n (x := v0) dX2_extend_115 rfl ?_
          refine am_aload_n (x := v1) dX2_extend_116 rfl ?_
          refine am_aload_n (x := v2) dX2_extend_117 rfl ?_
          refine am_iload_n (x := v3) dX2_extend_118 rfl ?_
          refine am_iload (x := v7) dX2_extend_119 rfl ?_
          obtain ⟨x9, hm, hT⟩ := hT
          refine am_callSN (av := [.int v3, .int v7]) (st := [.ref v2, .ref v1, .ref v0]) cw_X10_without cl_X2_36 ck_X10_without (Nat.le_of_ble_eq_true rfl) dX2_extend_121 hm (fun r D9 hr => ?_)
          obtain ⟨rfl, e9⟩ := hr
          rw [e9]
          clear e9
          refine am_iload (x := v4) dX2_extend_124 rfl ?_
          refine am_iconst (v := (nI 1)) dX2_extend_126 (by decide) ?_
          refine am_iadd dX2_extend_127 ?_
          refine am_iload (x := v5) dX2_extend_128 rfl ?_
          obtain ⟨x10, D11, hm, hT⟩ := hT
          refine am_callS (av := [.ref v0, .ref v1, .ref v2, .int x9, .int (v4 + (nI 1)), .int v5]) (st := []) cw_X2_extend cl_X2_39 ck_X2_extend (Nat.le_of_ble_eq_true rfl) dX2_extend_130 hm (fun r D9 hr => ?_)
          obtain ⟨rfl, e9⟩ := hr
          rw [e9]
          clear e9
          refine am_if_eq (tgt := 138) dX2_extend_133 (by decide) (fun h => ?_) (fun h => ?_)
          · replace hT := hT.1 h
            refine am_set (am_iinc (x := v7) (c0 := (nI 1)) dX2_extend_138 (by decide) rfl (by decide)) (L1 := [.ref v0, .ref v1, .ref v2, .int v3, .int v4, .int v5, .int v6, .int (v7 + (nI 1))]) rfl ?_
            refine am_goto (tgt := 73) dX2_extend_141 (by decide) ?_
            exact hT
          · replace hT := hT.2 h
            refine am_iconst (v := (nI 1)) dX2_extend_136 (by decide) ?_
            exact am_ireturn (ty := .boolean) dX2_extend_137 rfl (by decide) hT
