set_option maxRecDepth 20000 in
theorem eX11_in {lay : List am_L} {d : Nat} {D : am_D} {Q : Option Value → am_D → Prop} {v0 : Int32} {v1 : Int32} {v2 : Int32}  (hT : ((v0 < v1 → Q (some (.int (nI 0))) D) ∧
 (¬ (v0 < v1) → ((v2 < v0 → Q (some (.int (nI 0))) D) ∧
 (¬ (v2 < v0) → Q (some (.int (nI 1))) D))))) : am_Met lay d mX11_in [.int v0, .int v1, .int v2] D Q := by
  refine am_enter (by decide +kernel) rfl (Nat.le_of_ble_eq_true rfl) ?_
  show am_AW lay d mX11_in 0 [.int v0, .int v1, .int v2] [] D Q
  refine am_iload_n (x := v0) dX11_in_0 rfl ?_
  refine am_iload_n (x := v1) dX11_in_1 rfl ?_
  refine am_icmp_lt (tgt := 14) dX11_in_2 (by decide) (fun h => ?_) (fun h => ?_)
  · replace hT := hT.1 h
    refine am_iconst (v := (nI 0)) dX11_in_14 (by decide) ?_
    exact am_ireturn (ty := .boolean) dX11_in_15 rfl (by decide) hT
  · replace hT := hT.2 h
    refine am_iload_n (x := v0) dX11_in_5 rfl ?_
    refine am_iload_n (x := v2) dX11_in_6 rfl ?_
    refine am_icmp_gt (tgt := 14) dX11_in_7 (by decide) (fun h => ?_) (fun h => ?_)
    · replace hT := hT.1 h
      refine am_iconst (v := (nI 0)) dX11_in_14 (by decide) ?_
      exact am_ireturn (ty := .boolean) dX11_in_15 rfl (by decide) hT
    · replace hT := hT.2 h
      refine am_iconst (v := (nI 1)) dX11_in_10 (by decide) ?_
      refine am_goto (tgt := 15) dX11_in_11 (by decide) ?_
      exact am_ireturn (ty := .boolean) dX11_in_15 rfl (by decide) hT
set_option maxRecDepth 20000 in
theorem eX11_has {lay : List am_L} {d : Nat} {D : am_D} {Q : Option Value → am_D → Prop} {v0 : Int32} {v1 : Int32}  (hT : ((¬ ((v0 >>> (v1 &&& 31)) &&& (nI 1)) = (nI 1) → Q (some (.int (nI 0))) D) ∧
 (¬ (¬ ((v0 >>> (v1 &&& 31)) &&& (nI 1)) = (nI 1)) → Q (some (.int (nI 1))) D))) : am_Met lay d mX11_has [.int v0, .int v1] D Q := by
  refine am_enter (by decide +kernel) rfl (Nat.le_of_ble_eq_true rfl) ?_
  show am_AW lay d mX11_has 0 [.int v0, .int v1] [] D Q
  refine am_iload_n (x := v0) dX11_has_0 rfl ?_
  refine am_iload_n (x := v1) dX11_has_1 rfl ?_
  refine am_ishr dX11_has_2 ?_
  refine am_iconst (v := (nI 1)) dX11_has_3 (by decide) ?_
  refine am_iand dX11_has_4 ?_
  refine am_iconst (v := (nI 1)) dX11_has_5 (by decide) ?_
  refine am_icmp_ne (tgt := 13) dX11_has_6 (by decide) (fun h => ?_) (fun h => ?_)
  · replace hT := hT.1 h
    refine am_iconst (v := (nI 0)) dX11_has_13 (by decide) ?_
    exact am_ireturn (ty := .boolean) dX11_has_14 rfl (by decide) hT
  · replace hT := hT.2 h
    refine am_iconst (v := (nI 1)) dX11_has_9 (by decide) ?_
    refine am_goto (tgt := 14) dX11_has_10 (by decide) ?_
    exact am_ireturn (ty := .boolean) dX11_has_14 rfl (by decide) hT
set_option maxRecDepth 20000 in
theorem eX11_count {lay : List am_L} {d : Nat} {D : am_D} {Q : Option Value → am_D → Prop} {v0 : Int32}  (hT : am_AW lay d mX11_count 4 [.int v0, .int (nI 0), .int v0] [] D Q) : am_Met lay d mX11_count [.int v0] D Q := by
  refine am_enter (by decide +kernel) rfl (Nat.le_of_ble_eq_true rfl) ?_
  show am_AW lay d mX11_count 0 [.int v0, .null, .null] [] D Q
  refine am_iconst (v := (nI 0)) dX11_count_0 (by decide) ?_
  refine am_set (am_istore_n dX11_count_1 (by decide)) (L1 := [.int v0, .int (nI 0), .null]) rfl ?_
  refine am_iload_n (x := v0) dX11_count_2 rfl ?_
  refine am_set (am_istore_n dX11_count_3 (by decide)) (L1 := [.int v0, .int (nI 0), .int v0]) rfl ?_
  exact hT
set_option maxRecDepth 20000 in
theorem rX11_count_4 {lay : List am_L} {d : Nat} {D : am_D} {Q : Option Value → am_D → Prop} {v0 : Int32} {v1 : Int32} {v2 : Int32}  (hT : ((v2 = nI 0 → Q (some (.int v1)) D) ∧
 (¬ (v2 = nI 0) → am_AW lay d mX11_count 4 [.int v0, .int (v1 + (nI 1)), .int (v2 &&& (v2 - (nI 1)))] [] D Q))) : am_AW lay d mX11_count 4 [.int v0, .int v1, .int v2] [] D Q := by
  refine am_iload_n (x := v2) dX11_count_4 rfl ?_
  refine am_if_eq (tgt := 20) dX11_count_5 (by decide) (fun h => ?_) (fun h => ?_)
  · replace hT := hT.1 h
    refine am_iload_n (x := v1) dX11_count_20 rfl ?_
    exact am_ireturn (ty := .int) dX11_count_21 rfl rfl hT
  · replace hT := hT.2 h
    refine am_set (am_iinc (x := v1) (c0 := (nI 1)) dX11_count_8 (by decide) rfl (by decide)) (L1 := [.int v0, .int (v1 + (nI 1)), .int v2]) rfl ?_
    refine am_iload_n (x := v2) dX11_count_11 rfl ?_
    refine am_iload_n (x := v2) dX11_count_12 rfl ?_
    refine am_iconst (v := (nI 1)) dX11_count_13 (by decide) ?_
    refine am_isub dX11_count_14 ?_
    refine am_iand dX11_count_15 ?_
    refine am_set (am_istore_n dX11_count_16 (by decide)) (L1 := [.int v0, .int (v1 + (nI 1)), .int (v2 &&& (v2 - (nI 1)))]) rfl ?_
    refine am_goto (tgt := 4) dX11_count_17 (by decide) ?_
    exact hT
set_option maxRecDepth 20000 in
theorem eX11_copies {lay : List am_L} {d : Nat} {D : am_D} {Q : Option Value → am_D → Prop} {v0 : Nat} {v1 : Nat} (h0 : lay[v0]? = some (.inr (.inl (false, 111)))) (h1 : lay[v1]? = some (.inr (.inl (false, 111)))) (hT : am_AW lay d mX11_copies 2 [.ref v0, .ref v1, .int (nI 0)] [] D Q) : am_Met lay d mX11_copies [.ref v0, .ref v1] D Q := by
  refine am_enter (by decide +kernel) rfl (Nat.le_of_ble_eq_true rfl) ?_
  show am_AW lay d mX11_copies 0 [.ref v0, .ref v1, .null] [] D Q
  refine am_iconst (v := (nI 0)) dX11_copies_0 (by decide) ?_
  refine am_set (am_istore_n dX11_copies_1 (by decide)) (L1 := [.ref v0, .ref v1, .int (nI 0)]) rfl ?_
  exact hT
set_option maxRecDepth 20000 in
theorem rX11_copies_2 {lay : List am_L} {d : Nat} {D : am_D} {Q : Option Value → am_D → Prop} {v0 : Nat} {v1 : Nat} {v2 : Int32} (h0 : lay[v0]? = some (.inr (.inl (false, 111)))) (h1 : lay[v1]? = some (.inr (.inl (false, 111)))) (hT : (((nI 111) ≤ v2 → Q none D) ∧
 (¬ ((nI 111) ≤ v2) → (vp_in v2 111 ∧ (vp_in v2 111 ∧ ∀ D1, D1 = am_up D v1 (Int32.toNatClampNeg v2) (D v0 (Int32.toNatClampNeg v2)) →
 am_AW lay d mX11_copies 2 [.ref v0, .ref v1, .int (v2 + (nI 1))] [] D1 Q))))) : am_AW lay d mX11_copies 2 [.ref v0, .ref v1, .int v2] [] D Q := by
  refine am_iload_n (x := v2) dX11_copies_2 rfl ?_
  refine am_bipush (v := (nI 111)) dX11_copies_3 (by decide) ?_
  refine am_icmp_ge (tgt := 20) dX11_copies_5 (by decide) (fun h => ?_) (fun h => ?_)
  · replace hT := hT.1 h
    exact am_return dX11_copies_20 rfl hT
  · replace hT := hT.2 h
    refine am_aload_n (x := v1) dX11_copies_8 rfl ?_
    refine am_iload_n (x := v2) dX11_copies_9 rfl ?_
    refine am_aload_n (x := v0) dX11_copies_10 rfl ?_
    refine am_iload_n (x := v2) dX11_copies_11 rfl ?_
    refine am_iald dX11_copies_12 h0 hT.1 ?_
    replace hT := hT.2
    refine am_iast dX11_copies_13 h1 hT.1 ?_
    obtain ⟨D1, hD⟩ : ∃ z, z = am_up D v1 (Int32.toNatClampNeg v2) (D v0 (Int32.toNatClampNeg v2)) := ⟨_, rfl⟩
    rw [← hD]
    replace hT := hT.2 D1 hD
    clear hD
    refine am_set (am_iinc (x := v2) (c0 := (nI 1)) dX11_copies_14 (by decide) rfl (by decide)) (L1 := [.ref v0, .ref v1, .int (v2 + (nI 1))]) rfl ?_
    refine am_goto (tgt := 2) dX11_copies_17 (by decide) ?_
    exact hT
set_option maxRecDepth 20000 in
theorem eX11_n {lay : List am_L} {d : Nat} {D : am_D} {Q : Option Value → am_D → Prop} {o : Nat} (ho : isX11 lay o) (hT : (vp_in (nI 0) 111 ∧ Q (some (.int (D (o + 1) (Int32.toNatClampNeg (nI 0))))) D)) : am_Met lay d mX11_n [.ref o] D Q := by
  refine am_enter (by decide +kernel) rfl (Nat.le_of_ble_eq_true rfl) ?_
  show am_AW lay d mX11_n 0 [.ref o] [] D Q
  refine am_aload_n (x := o) dX11_n_0 rfl ?_
  refine am_getR dX11_n_1 fw_X11_7 ho.1 rfl ?_
  refine am_iconst (v := (nI 0)) dX11_n_4 (by decide) ?_
  refine am_iald dX11_n_5 ho.2.1 hT.1 ?_
  replace hT := hT.2
  exact am_ireturn (ty := .int) dX11_n_6 rfl rfl hT
set_option maxRecDepth 20000 in
theorem eX11_all {lay : List am_L} {d : Nat} {D : am_D} {Q : Option Value → am_D → Prop} {o : Nat} (ho : isX11 lay o) (hT : (vp_in (nI 0) 111 ∧ Q (some (.int (((nI 1) <<< ((D (o + 1) (Int32.toNatClampNeg (nI 0))) &&& 31)) - (nI 1)))) D)) : am_Met lay d mX11_all [.ref o] D Q := by
  refine am_enter (by decide +kernel) rfl (Nat.le_of_ble_eq_true rfl) ?_
  show am_AW lay d mX11_all 0 [.ref o] [] D Q
  refine am_iconst (v := (nI 1)) dX11_all_0 (by decide) ?_
  refine am_aload_n (x := o) dX11_all_1 rfl ?_
  refine am_getR dX11_all_2 fw_X11_7 ho.1 rfl ?_
  refine am_iconst (v := (nI 0)) dX11_all_5 (by decide) ?_
  refine am_iald dX11_all_6 ho.2.1 hT.1 ?_
  replace hT := hT.2
  refine am_ishl dX11_all_7 ?_
  refine am_iconst (v := (nI 1)) dX11_all_8 (by decide) ?_
  refine am_isub dX11_all_9 ?_
  exact am_ireturn (ty := .int) dX11_all_10 rfl rfl hT
set_option maxRecDepth 20000 in
theorem eX11_beaten {lay : List am_L} {d : Nat} {D : am_D} {Q : Option Value → am_D → Prop} {o : Nat} {v1 : Int32} (ho : isX11 lay o) (hT : (vp_in ((nI 1) + v1) 111 ∧ Q (some (.int (D (o + 1) (Int32.toNatClampNeg ((nI 1) + v1))))) D)) : am_Met lay d mX11_beaten [.ref o, .int v1] D Q := by
  refine am_enter (by decide +kernel) rfl (Nat.le_of_ble_eq_true rfl) ?_
  show am_AW lay d mX11_beaten 0 [.ref o, .int v1] [] D Q
  refine am_aload_n (x := o) dX11_beaten_0 rfl ?_
  refine am_getR dX11_beaten_1 fw_X11_7 ho.1 rfl ?_
  refine am_iconst (v := (nI 1)) dX11_beaten_4 (by decide) ?_
  refine am_iload_n (x := v1) dX11_beaten_5 rfl ?_
  refine am_iadd dX11_beaten_6 ?_
  refine am_iald dX11_beaten_7 ho.2.1 hT.1 ?_
  replace hT := hT.2
  exact am_ireturn (ty := .int) dX11_beaten_8 rfl rfl hT
set_option maxRecDepth 20000 in
theorem eX11_beats1 {lay : List am_L} {d : Nat} {D : am_D} {Q : Option Value → am_D → Prop} {o : Nat} {v1 : Int32} {v2 : Int32} (ho : isX11 lay o) (hT : (∃ x1, am_MetP lay d mX11_beaten [.ref o, .int v1] D x1 ∧
 (∃ x2, am_MetP lay d mX11_has [.int x1, .int v2] D x2 ∧
 (narrow .boolean (.int x2) = .int x2 ∧ Q (some (.int x2)) D)))) : am_Met lay (d + 1) mX11_beats1 [.ref o, .int v1, .int v2] D Q := by
  refine am_enter (by decide +kernel) rfl (Nat.le_of_ble_eq_true rfl) ?_
  show am_AW lay (d + 1) mX11_beats1 0 [.ref o, .int v1, .int v2] [] D Q
  refine am_aload_n (x := o) dX11_beats1_0 rfl ?_
  refine am_iload_n (x := v1) dX11_beats1_1 rfl ?_
  obtain ⟨x1, hm, hT⟩ := hT
  refine am_callV (av := [.int v1]) (st := []) (b := o) cw_X11_beaten cl_X11_45 ck_X11_beaten cs_X11_beaten ho.1 rfl rfl (Nat.le_of_ble_eq_true rfl) dX11_beats1_2 hm (fun r D9 hr => ?_)
  obtain ⟨rfl, e9⟩ := hr
  rw [e9]
  clear e9
  refine am_iload_n (x := v2) dX11_beats1_5 rfl ?_
  obtain ⟨x2, hm, hT⟩ := hT
  refine am_callS (av := [.int x1, .int v2]) (st := []) cw_X11_has cl_X11_49 ck_X11_has (Nat.le_of_ble_eq_true rfl) dX11_beats1_6 hm (fun r D9 hr => ?_)
  obtain ⟨rfl, e9⟩ := hr
  rw [e9]
  clear e9
  exact am_ireturn (ty := .boolean) dX11_beats1_9 rfl hT.1 hT.2
set_option maxRecDepth 20000 in
theorem eX11_isPlayer {lay : List am_L} {d : Nat} {D : am_D} {Q : Option Value → am_D → Prop} {o : Nat} {v1 : Int32} (ho : isX11 lay o) (hT : (vp_in (nI 0) 111 ∧ (∃ x1, am_MetP lay d mX11_in [.int v1, .int (nI 0), .int ((D (o + 1) (Int32.toNatClampNeg (nI 0))) - (nI 1))] D x1 ∧
 (narrow .boolean (.int x1) = .int x1 ∧ Q (some (.int x1)) D)))) : am_Met lay (d + 1) mX11_isPlayer [.ref o, .int v1] D Q := by
  refine am_enter (by decide +kernel) rfl (Nat.le_of_ble_eq_true rfl) ?_
  show am_AW lay (d + 1) mX11_isPlayer 0 [.ref o, .int v1] [] D Q
  refine am_iload_n (x := v1) dX11_isPlayer_0 rfl ?_
  refine am_iconst (v := (nI 0)) dX11_isPlayer_1 (by decide) ?_
  refine am_aload_n (x := o) dX11_isPlayer_2 rfl ?_
  refine am_getR dX11_isPlayer_3 fw_X11_7 ho.1 rfl ?_
  refine am_iconst (v := (nI 0)) dX11_isPlayer_6 (by decide) ?_
  refine am_iald dX11_isPlayer_7 ho.2.1 hT.1 ?_
  replace hT := hT.2
  refine am_iconst (v := (nI 1)) dX11_isPlayer_8 (by decide) ?_
  refine am_isub dX11_isPlayer_9 ?_
  obtain ⟨x1, hm, hT⟩ := hT
  refine am_callS (av := [.int v1, .int (nI 0), .int ((D (o + 1) (Int32.toNatClampNeg (nI 0))) - (nI 1))]) (st := []) cw_X11_in cl_X11_53 ck_X11_in (Nat.le_of_ble_eq_true rfl) dX11_isPlayer_10 hm (fun r D9 hr => ?_)
  obtain ⟨rfl, e9⟩ := hr
  rw [e9]
  clear e9
  exact am_ireturn (ty := .boolean) dX11_isPlayer_13 rfl hT.1 hT.2
set_option maxRecDepth 20000 in
theorem eX11_isPair {lay : List am_L} {d : Nat} {D : am_D} {Q : Option Value → am_D → Prop} {o : Nat} {v1 : Int32} {v2 : Int32} (ho : isX11 lay o) (hT : (∃ x1, am_MetP lay d mX11_isPlayer [.ref o, .int v1] D x1 ∧
 ((x1 = nI 0 → Q (some (.int (nI 0))) D) ∧
 (¬ (x1 = nI 0) → (∃ x2, am_MetP lay d mX11_isPlayer [.ref o, .int v2] D x2 ∧
 ((x2 = nI 0 → Q (some (.int (nI 0))) D) ∧
 (¬ (x2 = nI 0) → ((v1 = v2 → Q (some (.int (nI 0))) D) ∧
 (¬ (v1 = v2) → Q (some (.int (nI 1))) D))))))))) : am_Met lay (d + 1) mX11_isPair [.ref o, .int v1, .int v2] D Q := by
  refine am_enter (by decide +kernel) rfl (Nat.le_of_ble_eq_true rfl) ?_
  show am_AW lay (d + 1) mX11_isPair 0 [.ref o, .int v1, .int v2] [] D Q
  refine am_aload_n (x := o) dX11_isPair_0 rfl ?_
  refine am_iload_n (x := v1) dX11_isPair_1 rfl ?_
  obtain ⟨x1, hm, hT⟩ := hT
  refine am_callV (av := [.int v1]) (st := []) (b := o) cw_X11_isPlayer cl_X11_57 ck_X11_isPlayer cs_X11_isPlayer ho.1 rfl rfl (Nat.le_of_ble_eq_true rfl) dX11_isPair_2 hm (fun r D9 hr => ?_)
  obtain ⟨rfl, e9⟩ := hr
  rw [e9]
  clear e9
  refine am_if_eq (tgt := 25) dX11_isPair_5 (by decide) (fun h => ?_) (fun h => ?_)
  · replace hT := hT.1 h
    refine am_iconst (v := (nI 0)) dX11_isPair_25 (by decide) ?_
    exact am_ireturn (ty := .boolean) dX11_isPair_26 rfl (by decide) hT
  · replace hT := hT.2 h
    refine am_aload_n (x := o) dX11_isPair_8 rfl ?_
    refine am_iload_n (x := v2) dX11_isPair_9 rfl ?_
    obtain ⟨x2, hm, hT⟩ := hT
    refine am_callV (av := [.int v2]) (st := []) (b := o) cw_X11_isPlayer cl_X11_57 ck_X11_isPlayer cs_X11_isPlayer ho.1 rfl rfl (Nat.le_of_ble_eq_true rfl) dX11_isPair_10 hm (fun r D9 hr => ?_)
    obtain ⟨rfl, e9⟩ := hr
    rw [e9]
    clear e9
    refine am_if_eq (tgt := 25) dX11_isPair_13 (by decide) (fun h => ?_) (fun h => ?_)
    · replace hT := hT.1 h
      refine am_iconst (v := (nI 0)) dX11_isPair_25 (by decide) ?_
      exact am_ireturn (ty := .boolean) dX11_isPair_26 rfl (by decide) hT
    · replace hT := hT.2 h
      refine am_iload_n (x := v1) dX11_isPair_16 rfl ?_
      refine am_iload_n (x := v2) dX11_isPair_17 rfl ?_
      refine am_icmp_eq (tgt := 25) dX11_isPair_18 (by decide) (fun h => ?_) (fun h => ?_)
      · replace hT := hT.1 h
        refine am_iconst (v := (nI 0)) dX11_isPair_25 (by decide) ?_
        exact am_ireturn (ty := .boolean) dX11_isPair_26 rfl (by decide) hT
      · replace hT := hT.2 h
        refine am_iconst (v := (nI 1)) dX11_isPair_21 (by decide) ?_
        refine am_goto (tgt := 26) dX11_isPair_22 (by decide) ?_
        exact am_ireturn (ty := .boolean) dX11_isPair_26 rfl (by decide) hT
set_option maxRecDepth 20000 in
theorem eX11_at {lay : List am_L} {d : Nat} {D : am_D} {Q : Option Value → am_D → Prop} {v0 : Int32} {v1 : Int32}  (hT : Q (some (.int (((nI 11) + ((nI 10) * v0)) + v1))) D) : am_Met lay d mX11_at [.int v0, .int v1] D Q := by
  refine am_enter (by decide +kernel) rfl (Nat.le_of_ble_eq_true rfl) ?_
  show am_AW lay d mX11_at 0 [.int v0, .int v1] [] D Q
  refine am_bipush (v := (nI 11)) dX11_at_0 (by decide) ?_
  refine am_bipush (v := (nI 10)) dX11_at_2 (by decide) ?_
  refine am_iload_n (x := v0) dX11_at_4 rfl ?_
  refine am_imul dX11_at_5 ?_
  refine am_iadd dX11_at_6 ?_
  refine am_iload_n (x := v1) dX11_at_7 rfl ?_
  refine am_iadd dX11_at_8 ?_
  exact am_ireturn (ty := .int) dX11_at_9 rfl rfl hT
set_option maxRecDepth 20000 in
theorem eX11_begins {lay : List am_L} {d : Nat} {D : am_D} {Q : Option Value → am_D → Prop} {o : Nat} {v1 : Int32} (ho : isX11 lay o) (hT : (vp_in (nI 0) 111 ∧ ∀ D1, D1 = am_up D (o + 1) (Int32.toNatClampNeg (nI 0)) v1 →
 am_AW lay (d + 1) mX11_begins 9 [.ref o, .int v1, .int (nI 0), .null] [] D1 Q)) : am_Met lay (d + 1) mX11_begins [.ref o, .int v1] D Q := by
  refine am_enter (by decide +kernel) rfl (Nat.le_of_ble_eq_true rfl) ?_
  show am_AW lay (d + 1) mX11_begins 0 [.ref o, .int v1, .null, .null] [] D Q
  refine am_aload_n (x := o) dX11_begins_0 rfl ?_
  refine am_getR dX11_begins_1 fw_X11_7 ho.1 rfl ?_
  refine am_iconst (v := (nI 0)) dX11_begins_4 (by decide) ?_
  refine am_iload_n (x := v1) dX11_begins_5 rfl ?_
  refine am_iast dX11_begins_6 ho.2.1 hT.1 ?_
  obtain ⟨D1, hD⟩ : ∃ z, z = am_up D (o + 1) (Int32.toNatClampNeg (nI 0)) v1 := ⟨_, rfl⟩
  rw [← hD]
  replace hT := hT.2 D1 hD
  clear hD
  refine am_iconst (v := (nI 0)) dX11_begins_7 (by decide) ?_
  refine am_set (am_istore_n dX11_begins_8 (by decide)) (L1 := [.ref o, .int v1, .int (nI 0), .null]) rfl ?_
  exact hT
set_option maxRecDepth 20000 in
theorem rX11_begins_9 {lay : List am_L} {d : Nat} {D : am_D} {Q : Option Value → am_D → Prop} {o : Nat} {v1 : Int32} {v2 : Int32} (ho : isX11 lay o) (hT : (((nI 10) ≤ v2 → Q none D) ∧
 (¬ ((nI 10) ≤ v2) → (vp_in ((nI 1) + v2) 111 ∧ ∀ D1, D1 = am_up D (o + 1) (Int32.toNatClampNeg ((nI 1) + v2)) ((((nI 1) <<< (v1 &&& 31)) - (nI 1)) &&& ((((nI 2) <<< (v2 &&& 31)) - (nI 1)) ^^^ (-1))) →
 am_AW lay (d + 1) mX11_begins 38 [.ref o, .int v1, .int v2, .int (nI 0)] [] D1 Q)))) : am_AW lay (d + 1) mX11_begins 9 [.ref o, .int v1, .int v2, .null] [] D Q := by
  refine am_iload_n (x := v2) dX11_begins_9 rfl ?_
  refine am_bipush (v := (nI 10)) dX11_begins_10 (by decide) ?_
  refine am_icmp_ge (tgt := 67) dX11_begins_12 (by decide) (fun h => ?_) (fun h => ?_)
  · replace hT := hT.1 h
    exact am_return dX11_begins_67 rfl hT
  · replace hT := hT.2 h
    refine am_aload_n (x := o) dX11_begins_15 rfl ?_
    refine am_getR dX11_begins_16 fw_X11_7 ho.1 rfl ?_
    refine am_iconst (v := (nI 1)) dX11_begins_19 (by decide) ?_
    refine am_iload_n (x := v2) dX11_begins_20 rfl ?_
    refine am_iadd dX11_begins_21 ?_
    refine am_iconst (v := (nI 1)) dX11_begins_22 (by decide) ?_
    refine am_iload_n (x := v1) dX11_begins_23 rfl ?_
    refine am_ishl dX11_begins_24 ?_
    refine am_iconst (v := (nI 1)) dX11_begins_25 (by decide) ?_
    refine am_isub dX11_begins_26 ?_
    refine am_iconst (v := (nI 2)) dX11_begins_27 (by decide) ?_
    refine am_iload_n (x := v2) dX11_begins_28 rfl ?_
    refine am_ishl dX11_begins_29 ?_
    refine am_iconst (v := (nI 1)) dX11_begins_30 (by decide) ?_
    refine am_isub dX11_begins_31 ?_
    refine am_iconst (v := (-1)) dX11_begins_32 (by decide) ?_
    refine am_ixor dX11_begins_33 ?_
    refine am_iand dX11_begins_34 ?_
    refine am_iast dX11_begins_35 ho.2.1 hT.1 ?_
    obtain ⟨D1, hD⟩ : ∃ z, z = am_up D (o + 1) (Int32.toNatClampNeg ((nI 1) + v2)) ((((nI 1) <<< (v1 &&& 31)) - (nI 1)) &&& ((((nI 2) <<< (v2 &&& 31)) - (nI 1)) ^^^ (-1))) := ⟨_, rfl⟩
    rw [← hD]
    replace hT := hT.2 D1 hD
    clear hD
    refine am_iconst (v := (nI 0)) dX11_begins_36 (by decide) ?_
    refine am_set (am_istore_n dX11_begins_37 (by decide)) (L1 := [.ref o, .int v1, .int v2, .int (nI 0)]) rfl ?_
    exact hT
set_option maxRecDepth 20000 in
theorem rX11_begins_38 {lay : List am_L} {d : Nat} {D : am_D} {Q : Option Value → am_D → Prop} {o : Nat} {v1 : Int32} {v2 : Int32} {v3 : Int32} (ho : isX11 lay o) (hT : (((nI 10) ≤ v3 → am_AW lay (d + 1) mX11_begins 9 [.ref o, .int v1, .int (v2 + (nI 1)), .null] [] D Q) ∧
 (¬ ((nI 10) ≤ v3) → (∃ x1, am_MetP lay d mX11_at [.int v2, .int v3] D x1 ∧
 (vp_in x1 111 ∧ ∀ D2, D2 = am_up D (o + 1) (Int32.toNatClampNeg x1) (nI 1) →
 am_AW lay (d + 1) mX11_begins 38 [.ref o, .int v1, .int v2, .int (v3 + (nI 1))] [] D2 Q))))) : am_AW lay (d + 1) mX11_begins 38 [.ref o, .int v1, .int v2, .int v3] [] D Q := by
  refine am_iload_n (x := v3) dX11_begins_38 rfl ?_
  refine am_bipush (v := (nI 10)) dX11_begins_39 (by decide) ?_
  refine am_icmp_ge (tgt := 61) dX11_begins_41 (by decide) (fun h => ?_) (fun h => ?_)
  · replace hT := hT.1 h
    refine am_set (am_iinc (x := v2) (c0 := (nI 1)) dX11_begins_61 (by decide) rfl (by decide)) (L1 := [.ref o, .int v1, .int (v2 + (nI 1)), .int v3]) rfl ?_
    refine am_goto (tgt := 9) dX11_begins_64 (by decide) ?_
    refine am_drop [3] (L1 := [.ref o, .int v1, .int (v2 + (nI 1)), .null]) rfl ?_
    exact hT
  · replace hT := hT.2 h
    refine am_aload_n (x := o) dX11_begins_44 rfl ?_
    refine am_getR dX11_begins_45 fw_X11_7 ho.1 rfl ?_
    refine am_iload_n (x := v2) dX11_begins_48 rfl ?_
    refine am_iload_n (x := v3) dX11_begins_49 rfl ?_
    obtain ⟨x1, hm, hT⟩ := hT
    refine am_callS (av := [.int v2, .int v3]) (st := [.ref (o + 1)]) cw_X11_at cl_X11_61 ck_X11_at (Nat.le_of_ble_eq_true rfl) dX11_begins_50 hm (fun r D9 hr => ?_)
    obtain ⟨rfl, e9⟩ := hr
    rw [e9]
    clear e9
    refine am_iconst (v := (nI 1)) dX11_begins_53 (by decide) ?_
    refine am_iast dX11_begins_54 ho.2.1 hT.1 ?_
    obtain ⟨D2, hD⟩ : ∃ z, z = am_up D (o + 1) (Int32.toNatClampNeg x1) (nI 1) := ⟨_, rfl⟩
    rw [← hD]
    replace hT := hT.2 D2 hD
    clear hD
    refine am_set (am_iinc (x := v3) (c0 := (nI 1)) dX11_begins_55 (by decide) rfl (by decide)) (L1 := [.ref o, .int v1, .int v2, .int (v3 + (nI 1))]) rfl ?_
    refine am_goto (tgt := 38) dX11_begins_58 (by decide) ?_
    exact hT
set_option maxRecDepth 20000 in
theorem eX11_keeps {lay : List am_L} {d : Nat} {D : am_D} {Q : Option Value → am_D → Prop} {o : Nat} (ho : isX11 lay o) (hT : ((¬ (D o 3) = (nI 8) → am_AW lay d mX11_keeps 51 [.ref o, .int (nI 0)] [] D Q) ∧
 (¬ (¬ (D o 3) = (nI 8)) → am_AW lay d mX11_keeps 11 [.ref o, .int (nI 0)] [] D Q))) : am_Met lay d mX11_keeps [.ref o] D Q := by
  refine am_enter (by decide +kernel) rfl (Nat.le_of_ble_eq_true rfl) ?_
  show am_AW lay d mX11_keeps 0 [.ref o, .null] [] D Q
  refine am_aload_n (x := o) dX11_keeps_0 rfl ?_
  refine am_getI dX11_keeps_1 fw_X11_65 ho.1 rfl ?_
  refine am_bipush (v := (nI 8)) dX11_keeps_4 (by decide) ?_
  refine am_icmp_ne (tgt := 49) dX11_keeps_6 (by decide) (fun h => ?_) (fun h => ?_)
  · replace hT := hT.1 h
    refine am_iconst (v := (nI 0)) dX11_keeps_49 (by decide) ?_
    refine am_set (am_istore_n dX11_keeps_50 (by decide)) (L1 := [.ref o, .int (nI 0)]) rfl ?_
    exact hT
  · replace hT := hT.2 h
    refine am_iconst (v := (nI 0)) dX11_keeps_9 (by decide) ?_
    refine am_set (am_istore_n dX11_keeps_10 (by decide)) (L1 := [.ref o, .int (nI 0)]) rfl ?_
    exact hT
set_option maxRecDepth 20000 in
theorem rX11_keeps_51 {lay : List am_L} {d : Nat} {D : am_D} {Q : Option Value → am_D → Prop} {o : Nat} {v1 : Int32} (ho : isX11 lay o) (hT : (((nI 111) ≤ v1 → (∀ D1, D1 = am_up D o 3 ((D o 3) + (nI 1)) →
 Q none D1)) ∧
 (¬ ((nI 111) ≤ v1) → (vp_in v1 111 ∧ (vp_in (((nI 111) * (D o 3)) + v1) 888 ∧ ∀ D2, D2 = am_up D (o + 3) (Int32.toNatClampNeg (((nI 111) * (D o 3)) + v1)) (D (o + 1) (Int32.toNatClampNeg v1)) →
 am_AW lay d mX11_keeps 51 [.ref o, .int (v1 + (nI 1))] [] D2 Q))))) : am_AW lay d mX11_keeps 51 [.ref o, .int v1] [] D Q := by
  refine am_iload_n (x := v1) dX11_keeps_51 rfl ?_
  refine am_bipush (v := (nI 111)) dX11_keeps_52 (by decide) ?_
  refine am_icmp_ge (tgt := 83) dX11_keeps_54 (by decide) (fun h => ?_) (fun h => ?_)
  · replace hT := hT.1 h
    refine am_aload_n (x := o) dX11_keeps_83 rfl ?_
    refine am_dup dX11_keeps_84 rfl ?_
    refine am_getI dX11_keeps_85 fw_X11_65 ho.1 rfl ?_
    refine am_iconst (v := (nI 1)) dX11_keeps_88 (by decide) ?_
    refine am_iadd dX11_keeps_89 ?_
    refine am_putI dX11_keeps_90 fw_X11_65 fp_X11_3 ho.1 rfl ?_
    obtain ⟨D1, hD⟩ : ∃ z, z = am_up D o 3 ((D o 3) + (nI 1)) := ⟨_, rfl⟩
    rw [← hD]
    replace hT := hT D1 hD
    clear hD
    exact am_return dX11_keeps_93 rfl hT
  · replace hT := hT.2 h
    refine am_aload_n (x := o) dX11_keeps_57 rfl ?_
    refine am_getR dX11_keeps_58 fw_X11_16 ho.1 rfl ?_
    refine am_bipush (v := (nI 111)) dX11_keeps_61 (by decide) ?_
    refine am_aload_n (x := o) dX11_keeps_63 rfl ?_
    refine am_getI dX11_keeps_64 fw_X11_65 ho.1 rfl ?_
    refine am_imul dX11_keeps_67 ?_
    refine am_iload_n (x := v1) dX11_keeps_68 rfl ?_
    refine am_iadd dX11_keeps_69 ?_
    refine am_aload_n (x := o) dX11_keeps_70 rfl ?_
    refine am_getR dX11_keeps_71 fw_X11_7 ho.1 rfl ?_
    refine am_iload_n (x := v1) dX11_keeps_74 rfl ?_
    refine am_iald dX11_keeps_75 ho.2.1 hT.1 ?_
    replace hT := hT.2
    refine am_iast dX11_keeps_76 ho.2.2.2.1 hT.1 ?_
    obtain ⟨D2, hD⟩ : ∃ z, z = am_up D (o + 3) (Int32.toNatClampNeg (((nI 111) * (D o 3)) + v1)) (D (o + 1) (Int32.toNatClampNeg v1)) := ⟨_, rfl⟩
    rw [← hD]
    replace hT := hT.2 D2 hD
    clear hD
    refine am_set (am_iinc (x := v1) (c0 := (nI 1)) dX11_keeps_77 (by decide) rfl (by decide)) (L1 := [.ref o, .int (v1 + (nI 1))]) rfl ?_
    refine am_goto (tgt := 51) dX11_keeps_80 (by decide) ?_
    exact hT
set_option maxRecDepth 20000 in
theorem rX11_keeps_11 {lay : List am_L} {d : Nat} {D : am_D} {Q : Option Value → am_D → Prop} {o : Nat} {v1 : Int32} (ho : isX11 lay o) (hT : (((nI 777) ≤ v1 → (∀ D1, D1 = am_up D o 3 ((D o 3) - (nI 1)) →
 am_AW lay d mX11_keeps 51 [.ref o, .int (nI 0)] [] D1 Q)) ∧
 (¬ ((nI 777) ≤ v1) → (vp_in ((nI 111) + v1) 888 ∧ (vp_in v1 888 ∧ ∀ D2, D2 = am_up D (o + 3) (Int32.toNatClampNeg v1) (D (o + 3) (Int32.toNatClampNeg ((nI 111) + v1))) →
 am_AW lay d mX11_keeps 11 [.ref o, .int (v1 + (nI 1))] [] D2 Q))))) : am_AW lay d mX11_keeps 11 [.ref o, .int v1] [] D Q := by
  refine am_iload_n (x := v1) dX11_keeps_11 rfl ?_
  refine am_sipush (v := (nI 777)) dX11_keeps_12 (by decide) ?_
  refine am_icmp_ge (tgt := 39) dX11_keeps_15 (by decide) (fun h => ?_) (fun h => ?_)
  · replace hT := hT.1 h
    refine am_aload_n (x := o) dX11_keeps_39 rfl ?_
    refine am_dup dX11_keeps_40 rfl ?_
    refine am_getI dX11_keeps_41 fw_X11_65 ho.1 rfl ?_
    refine am_iconst (v := (nI 1)) dX11_keeps_44 (by decide) ?_
    refine am_isub dX11_keeps_45 ?_
    refine am_putI dX11_keeps_46 fw_X11_65 fp_X11_3 ho.1 rfl ?_
    obtain ⟨D1, hD⟩ : ∃ z, z = am_up D o 3 ((D o 3) - (nI 1)) := ⟨_, rfl⟩
    rw [← hD]
    replace hT := hT D1 hD
    clear hD
    refine am_iconst (v := (nI 0)) dX11_keeps_49 (by decide) ?_
    refine am_set (am_istore_n dX11_keeps_50 (by decide)) (L1 := [.ref o, .int (nI 0)]) rfl ?_
    exact hT
  · replace hT := hT.2 h
    refine am_aload_n (x := o) dX11_keeps_18 rfl ?_
    refine am_getR dX11_keeps_19 fw_X11_16 ho.1 rfl ?_
    refine am_iload_n (x := v1) dX11_keeps_22 rfl ?_
    refine am_aload_n (x := o) dX11_keeps_23 rfl ?_
    refine am_getR dX11_keeps_24 fw_X11_16 ho.1 rfl ?_
    refine am_bipush (v := (nI 111)) dX11_keeps_27 (by decide) ?_
    refine am_iload_n (x := v1) dX11_keeps_29 rfl ?_
    refine am_iadd dX11_keeps_30 ?_
    refine am_iald dX11_keeps_31 ho.2.2.2.1 hT.1 ?_
    replace hT := hT.2
    refine am_iast dX11_keeps_32 ho.2.2.2.1 hT.1 ?_
    obtain ⟨D2, hD⟩ : ∃ z, z = am_up D (o + 3) (Int32.toNatClampNeg v1) (D (o + 3) (Int32.toNatClampNeg ((nI 111) + v1))) := ⟨_, rfl⟩
    rw [← hD]
    replace hT := hT.2 D2 hD
    clear hD
    refine am_set (am_iinc (x := v1) (c0 := (nI 1)) dX11_keeps_33 (by decide) rfl (by decide)) (L1 := [.ref o, .int (v1 + (nI 1))]) rfl ?_
    refine am_goto (tgt := 11) dX11_keeps_36 (by decide) ?_
    exact hT
set_option maxRecDepth 20000 in
theorem eX11_wins {lay : List am_L} {d : Nat} {D : am_D} {Q : Option Value → am_D → Prop} {o : Nat} {v1 : Int32} {v2 : Int32} (ho : isX11 lay o) (hT : (vp_in ((nI 1) + v1) 111 ∧ (vp_in ((nI 1) + v1) 111 ∧ ∀ D1, D1 = am_up D (o + 1) (Int32.toNatClampNeg ((nI 1) + v1)) ((D (o + 1) (Int32.toNatClampNeg ((nI 1) + v1))) ||| ((nI 1) <<< (v2 &&& 31))) →
 (vp_in ((nI 1) + v2) 111 ∧ (vp_in ((nI 1) + v2) 111 ∧ ∀ D2, D2 = am_up D1 (o + 1) (Int32.toNatClampNeg ((nI 1) + v2)) ((D1 (o + 1) (Int32.toNatClampNeg ((nI 1) + v2))) &&& (((nI 1) <<< (v1 &&& 31)) ^^^ (-1))) →
 Q none D2))))) : am_Met lay d mX11_wins [.ref o, .int v1, .int v2] D Q := by
  refine am_enter (by decide +kernel) rfl (Nat.le_of_ble_eq_true rfl) ?_
  show am_AW lay d mX11_wins 0 [.ref o, .int v1, .int v2] [] D Q
  refine am_aload_n (x := o) dX11_wins_0 rfl ?_
  refine am_getR dX11_wins_1 fw_X11_7 ho.1 rfl ?_
  refine am_iconst (v := (nI 1)) dX11_wins_4 (by decide) ?_
  refine am_iload_n (x := v1) dX11_wins_5 rfl ?_
  refine am_iadd dX11_wins_6 ?_
  refine am_dup2 dX11_wins_7 rfl rfl ?_
  refine am_iald dX11_wins_8 ho.2.1 hT.1 ?_
  replace hT := hT.2
  refine am_iconst (v := (nI 1)) dX11_wins_9 (by decide) ?_
  refine am_iload_n (x := v2) dX11_wins_10 rfl ?_
  refine am_ishl dX11_wins_11 ?_
  refine am_ior dX11_wins_12 ?_
  refine am_iast dX11_wins_13 ho.2.1 hT.1 ?_
  obtain ⟨D1, hD⟩ : ∃ z, z = am_up D (o + 1) (Int32.toNatClampNeg ((nI 1) + v1)) ((D (o + 1) (Int32.toNatClampNeg ((nI 1) + v1))) ||| ((nI 1) <<< (v2 &&& 31))) := ⟨_, rfl⟩
  rw [← hD]
  replace hT := hT.2 D1 hD
  clear hD
  refine am_aload_n (x := o) dX11_wins_14 rfl ?_
  refine am_getR dX11_wins_15 fw_X11_7 ho.1 rfl ?_
  refine am_iconst (v := (nI 1)) dX11_wins_18 (by decide) ?_
  refine am_iload_n (x := v2) dX11_wins_19 rfl ?_
  refine am_iadd dX11_wins_20 ?_
  refine am_dup2 dX11_wins_21 rfl rfl ?_
  refine am_iald dX11_wins_22 ho.2.1 hT.1 ?_
  replace hT := hT.2
  refine am_iconst (v := (nI 1)) dX11_wins_23 (by decide) ?_
  refine am_iload_n (x := v1) dX11_wins_24 rfl ?_
  refine am_ishl dX11_wins_25 ?_
  refine am_iconst (v := (-1)) dX11_wins_26 (by decide) ?_
  refine am_ixor dX11_wins_27 ?_
  refine am_iand dX11_wins_28 ?_
  refine am_iast dX11_wins_29 ho.2.1 hT.1 ?_
  obtain ⟨D2, hD⟩ : ∃ z, z = am_up D1 (o + 1) (Int32.toNatClampNeg ((nI 1) + v2)) ((D1 (o + 1) (Int32.toNatClampNeg ((nI 1) + v2))) &&& (((nI 1) <<< (v1 &&& 31)) ^^^ (-1))) := ⟨_, rfl⟩
  rw [← hD]
  replace hT := hT.2 D2 hD
  clear hD
  exact am_return dX11_wins_30 rfl hT
set_option maxRecDepth 20000 in
theorem eX11_turns {lay : List am_L} {d : Nat} {D : am_D} {Q : Option Value → am_D → Prop} {o : Nat} {v1 : Int32} {v2 : Int32} (ho : isX11 lay o) (hT : (∃ x1, am_MetP lay d mX11_beats1 [.ref o, .int v1, .int v2] D x1 ∧
 ((x1 = nI 0 → (∃ D2, am_MetV lay d mX11_wins [.ref o, .int v1, .int v2] D D2 ∧
 Q none D2)) ∧
 (¬ (x1 = nI 0) → (∃ D3, am_MetV lay d mX11_wins [.ref o, .int v2, .int v1] D D3 ∧
 Q none D3))))) : am_Met lay (d + 1) mX11_turns [.ref o, .int v1, .int v2] D Q := by
  refine am_enter (by decide +kernel) rfl (Nat.le_of_ble_eq_true rfl) ?_
  show am_AW lay (d + 1) mX11_turns 0 [.ref o, .int v1, .int v2] [] D Q
  refine am_aload_n (x := o) dX11_turns_0 rfl ?_
  refine am_iload_n (x := v1) dX11_turns_1 rfl ?_
  refine am_iload_n (x := v2) dX11_turns_2 rfl ?_
  obtain ⟨x1, hm, hT⟩ := hT
  refine am_callV (av := [.int v1, .int v2]) (st := []) (b := o) cw_X11_beats1 cl_X11_69 ck_X11_beats1 cs_X11_beats1 ho.1 rfl rfl (Nat.le_of_ble_eq_true rfl) dX11_turns_3 hm (fun r D9 hr => ?_)
  obtain ⟨rfl, e9⟩ := hr
  rw [e9]
  clear e9
  refine am_if_eq (tgt := 18) dX11_turns_6 (by decide) (fun h => ?_) (fun h => ?_)
  · replace hT := hT.1 h
    refine am_aload_n (x := o) dX11_turns_18 rfl ?_
    refine am_iload_n (x := v1) dX11_turns_19 rfl ?_
    refine am_iload_n (x := v2) dX11_turns_20 rfl ?_
    obtain ⟨D2, hm, hT⟩ := hT
    refine am_callV (av := [.int v1, .int v2]) (st := []) (b := o) cw_X11_wins cl_X11_72 ck_X11_wins cs_X11_wins ho.1 rfl rfl (Nat.le_of_ble_eq_true rfl) dX11_turns_21 hm (fun r D9 hr => ?_)
    obtain ⟨rfl, e9⟩ := hr
    rw [e9]
    clear e9
    exact am_return dX11_turns_24 rfl hT
  · replace hT := hT.2 h
    refine am_aload_n (x := o) dX11_turns_9 rfl ?_
    refine am_iload_n (x := v2) dX11_turns_10 rfl ?_
    refine am_iload_n (x := v1) dX11_turns_11 rfl ?_
    obtain ⟨D3, hm, hT⟩ := hT
    refine am_callV (av := [.int v2, .int v1]) (st := []) (b := o) cw_X11_wins cl_X11_72 ck_X11_wins cs_X11_wins ho.1 rfl rfl (Nat.le_of_ble_eq_true rfl) dX11_turns_12 hm (fun r D9 hr => ?_)
    obtain ⟨rfl, e9⟩ := hr
    rw [e9]
    clear e9
    refine am_goto (tgt := 24) dX11_turns_15 (by decide) ?_
    exact am_return dX11_turns_24 rfl hT
set_option maxRecDepth 20000 in
theorem eX11_reset {lay : List am_L} {d : Nat} {D : am_D} {Q : Option Value → am_D → Prop} {o : Nat} {v1 : Int32} (ho : isX11 lay o) (hT : (∃ x1, am_MetP lay d mX11_in [.int v1, .int (nI 2), .int (nI 10)] D x1 ∧
 ((¬ x1 = nI 0 → (∃ D2, am_MetV lay d mX11_keeps [.ref o] D D2 ∧
 (vp_in (nI 0) 111 ∧ (∃ D3, am_MetV lay d mX11_begins [.ref o, .int v1] D2 D3 ∧
 Q (some (.int (D2 (o + 1) (Int32.toNatClampNeg (nI 0))))) D3)))) ∧
 (¬ (¬ x1 = nI 0) → Q (some (.int (-1))) D)))) : am_Met lay (d + 1) mX11_reset [.ref o, .int v1] D Q := by
  refine am_enter (by decide +kernel) rfl (Nat.le_of_ble_eq_true rfl) ?_
  show am_AW lay (d + 1) mX11_reset 0 [.ref o, .int v1, .null] [] D Q
  refine am_iload_n (x := v1) dX11_reset_0 rfl ?_
  refine am_iconst (v := (nI 2)) dX11_reset_1 (by decide) ?_
  refine am_bipush (v := (nI 10)) dX11_reset_2 (by decide) ?_
  obtain ⟨x1, hm, hT⟩ := hT
  refine am_callS (av := [.int v1, .int (nI 2), .int (nI 10)]) (st := []) cw_X11_in cl_X11_53 ck_X11_in (Nat.le_of_ble_eq_true rfl) dX11_reset_4 hm (fun r D9 hr => ?_)
  obtain ⟨rfl, e9⟩ := hr
  rw [e9]
  clear e9
  refine am_if_ne (tgt := 12) dX11_reset_7 (by decide) (fun h => ?_) (fun h => ?_)
  · replace hT := hT.1 h
    refine am_aload_n (x := o) dX11_reset_12 rfl ?_
    obtain ⟨D2, hm, hT⟩ := hT
    refine am_callV (av := []) (st := []) (b := o) cw_X11_keeps cl_X11_76 ck_X11_keeps cs_X11_keeps ho.1 rfl rfl (Nat.le_of_ble_eq_true rfl) dX11_reset_13 hm (fun r D9 hr => ?_)
    obtain ⟨rfl, e9⟩ := hr
    rw [e9]
    clear e9
    refine am_aload_n (x := o) dX11_reset_16 rfl ?_
    refine am_getR dX11_reset_17 fw_X11_7 ho.1 rfl ?_
    refine am_iconst (v := (nI 0)) dX11_reset_20 (by decide) ?_
    refine am_iald dX11_reset_21 ho.2.1 hT.1 ?_
    replace hT := hT.2
    refine am_set (am_istore_n dX11_reset_22 (by decide)) (L1 := [.ref o, .int v1, .int (D2 (o + 1) (Int32.toNatClampNeg (nI 0)))]) rfl ?_
    refine am_aload_n (x := o) dX11_reset_23 rfl ?_
    refine am_iload_n (x := v1) dX11_reset_24 rfl ?_
    obtain ⟨D3, hm, hT⟩ := hT
    refine am_callV (av := [.int v1]) (st := []) (b := o) cw_X11_begins cl_X11_37 ck_X11_begins cs_X11_begins ho.1 rfl rfl (Nat.le_of_ble_eq_true rfl) dX11_reset_25 hm (fun r D9 hr => ?_)
    obtain ⟨rfl, e9⟩ := hr
    rw [e9]
    clear e9
    refine am_iload_n (x := (D2 (o + 1) (Int32.toNatClampNeg (nI 0)))) dX11_reset_28 rfl ?_
    exact am_ireturn (ty := .int) dX11_reset_29 rfl rfl hT
  · replace hT := hT.2 h
    refine am_iconst (v := (-1)) dX11_reset_10 (by decide) ?_
    exact am_ireturn (ty := .int) dX11_reset_11 rfl rfl hT
set_option maxRecDepth 20000 in
theorem eX11_setResult {lay : List am_L} {d : Nat} {D : am_D} {Q : Option Value → am_D → Prop} {o : Nat} {v1 : Int32} {v2 : Int32} (ho : isX11 lay o) (hT : (∃ x1, am_MetP lay d mX11_isPair [.ref o, .int v1, .int v2] D x1 ∧
 ((¬ x1 = nI 0 → (∃ D2, am_MetV lay d mX11_keeps [.ref o] D D2 ∧
 (∃ x3, am_MetP lay d mX11_beats1 [.ref o, .int v1, .int v2] D2 x3 ∧
 ((x3 = nI 0 → (∃ D4, am_MetV lay d mX11_wins [.ref o, .int v1, .int v2] D2 D4 ∧
 Q (some (.int (nI 0))) D4)) ∧
 (¬ (x3 = nI 0) → (∃ D5, am_MetV lay d mX11_wins [.ref o, .int v1, .int v2] D2 D5 ∧
 Q (some (.int (nI 1))) D5)))))) ∧
 (¬ (¬ x1 = nI 0) → Q (some (.int (-1))) D)))) : am_Met lay (d + 1) mX11_setResult [.ref o, .int v1, .int v2] D Q := by
  refine am_enter (by decide +kernel) rfl (Nat.le_of_ble_eq_true rfl) ?_
  show am_AW lay (d + 1) mX11_setResult 0 [.ref o, .int v1, .int v2, .null] [] D Q
  refine am_aload_n (x := o) dX11_setResult_0 rfl ?_
  refine am_iload_n (x := v1) dX11_setResult_1 rfl ?_
  refine am_iload_n (x := v2) dX11_setResult_2 rfl ?_
  obtain ⟨x1, hm, hT⟩ := hT
  refine am_callV (av := [.int v1, .int v2]) (st := []) (b := o) cw_X11_isPair cl_X11_79 ck_X11_isPair cs_X11_isPair ho.1 rfl rfl (Nat.le_of_ble_eq_true rfl) dX11_setResult_3 hm (fun r D9 hr => ?_)
  obtain ⟨rfl, e9⟩ := hr
  rw [e9]
  clear e9
  refine am_if_ne (tgt := 11) dX11_setResult_6 (by decide) (fun h => ?_) (fun h => ?_)
  · replace hT := hT.1 h
    refine am_aload_n (x := o) dX11_setResult_11 rfl ?_
    obtain ⟨D2, hm, hT⟩ := hT
    refine am_callV (av := []) (st := []) (b := o) cw_X11_keeps cl_X11_76 ck_X11_keeps cs_X11_keeps ho.1 rfl rfl (Nat.le_of_ble_eq_true rfl) dX11_setResult_12 hm (fun r D9 hr => ?_)
    obtain ⟨rfl, e9⟩ := hr
    rw [e9]
    clear e9
    refine am_aload_n (x := o) dX11_setResult_15 rfl ?_
    refine am_iload_n (x := v1) dX11_setResult_16 rfl ?_
    refine am_iload_n (x := v2) dX11_setResult_17 rfl ?_
    obtain ⟨x3, hm, hT⟩ := hT
    refine am_callV (av := [.int v1, .int v2]) (st := []) (b := o) cw_X11_beats1 cl_X11_69 ck_X11_beats1 cs_X11_beats1 ho.1 rfl rfl (Nat.le_of_ble_eq_true rfl) dX11_setResult_18 hm (fun r D9 hr => ?_)
    obtain ⟨rfl, e9⟩ := hr
    rw [e9]
    clear e9
    refine am_if_eq (tgt := 28) dX11_setResult_21 (by decide) (fun h => ?_) (fun h => ?_)
    · replace hT := hT.1 h
      refine am_iconst (v := (nI 0)) dX11_setResult_28 (by decide) ?_
      refine am_set (am_istore_n dX11_setResult_29 (by decide)) (L1 := [.ref o, .int v1, .int v2, .int (nI 0)]) rfl ?_
      refine am_aload_n (x := o) dX11_setResult_30 rfl ?_
      refine am_iload_n (x := v1) dX11_setResult_31 rfl ?_
      refine am_iload_n (x := v2) dX11_setResult_32 rfl ?_
      obtain ⟨D4, hm, hT⟩ := hT
      refine am_callV (av := [.int v1, .int v2]) (st := []) (b := o) cw_X11_wins cl_X11_72 ck_X11_wins cs_X11_wins ho.1 rfl rfl (Nat.le_of_ble_eq_true rfl) dX11_setResult_33 hm (fun r D9 hr => ?_)
      obtain ⟨rfl, e9⟩ := hr
      rw [e9]
      clear e9
      refine am_iload_n (x := (nI 0)) dX11_setResult_36 rfl ?_
      exact am_ireturn (ty := .int) dX11_setResult_37 rfl rfl hT
    · replace hT := hT.2 h
      refine am_iconst (v := (nI 1)) dX11_setResult_24 (by decide) ?_
      refine am_goto (tgt := 29) dX11_setResult_25 (by decide) ?_
      refine am_set (am_istore_n dX11_setResult_29 (by decide)) (L1 := [.ref o, .int v1, .int v2, .int (nI 1)]) rfl ?_
      refine am_aload_n (x := o) dX11_setResult_30 rfl ?_
      refine am_iload_n (x := v1) dX11_setResult_31 rfl ?_
      refine am_iload_n (x := v2) dX11_setResult_32 rfl ?_
      obtain ⟨D5, hm, hT⟩ := hT
      refine am_callV (av := [.int v1, .int v2]) (st := []) (b := o) cw_X11_wins cl_X11_72 ck_X11_wins cs_X11_wins ho.1 rfl rfl (Nat.le_of_ble_eq_true rfl) dX11_setResult_33 hm (fun r D9 hr => ?_)
      obtain ⟨rfl, e9⟩ := hr
      rw [e9]
      clear e9
      refine am_iload_n (x := (nI 1)) dX11_setResult_36 rfl ?_
      exact am_ireturn (ty := .int) dX11_setResult_37 rfl rfl hT
  · replace hT := hT.2 h
    refine am_iconst (v := (-1)) dX11_setResult_9 (by decide) ?_
    exact am_ireturn (ty := .int) dX11_setResult_10 rfl rfl hT
set_option maxRecDepth 20000 in
theorem eX11_setWeight {lay : List am_L} {d : Nat} {D : am_D} {Q : Option Value → am_D → Prop} {o : Nat} {v1 : Int32} {v2 : Int32} {v3 : Int32} (ho : isX11 lay o) (hT : (∃ x1, am_MetP lay d mX11_isPair [.ref o, .int v1, .int v2] D x1 ∧
 ((x1 = nI 0 → Q (some (.int (-1))) D) ∧
 (¬ (x1 = nI 0) → (∃ x2, am_MetP lay d mX11_in [.int v3, .int (nI 1), .int (nI 100)] D x2 ∧
 ((¬ x2 = nI 0 → (∃ D3, am_MetV lay d mX11_keeps [.ref o] D D3 ∧
 (∃ x4, am_MetP lay d mX11_at [.int v1, .int v2] D3 x4 ∧
 (vp_in x4 111 ∧ (∃ x5, am_MetP lay d mX11_at [.int v1, .int v2] D3 x5 ∧
 (vp_in x5 111 ∧ ∀ D6, D6 = am_up D3 (o + 1) (Int32.toNatClampNeg x5) v3 →
 (∃ x7, am_MetP lay d mX11_at [.int v2, .int v1] D6 x7 ∧
 (vp_in x7 111 ∧ ∀ D8, D8 = am_up D6 (o + 1) (Int32.toNatClampNeg x7) v3 →
 Q (some (.int (D3 (o + 1) (Int32.toNatClampNeg x4)))) D8)))))))) ∧
 (¬ (¬ x2 = nI 0) → Q (some (.int (-1))) D))))))) : am_Met lay (d + 1) mX11_setWeight [.ref o, .int v1, .int v2, .int v3] D Q := by
  refine am_enter (by decide +kernel) rfl (Nat.le_of_ble_eq_true rfl) ?_
  show am_AW lay (d + 1) mX11_setWeight 0 [.ref o, .int v1, .int v2, .int v3, .null] [] D Q
  refine am_aload_n (x := o) dX11_setWeight_0 rfl ?_
  refine am_iload_n (x := v1) dX11_setWeight_1 rfl ?_
  refine am_iload_n (x := v2) dX11_setWeight_2 rfl ?_
  obtain ⟨x1, hm, hT⟩ := hT
  refine am_callV (av := [.int v1, .int v2]) (st := []) (b := o) cw_X11_isPair cl_X11_79 ck_X11_isPair cs_X11_isPair ho.1 rfl rfl (Nat.le_of_ble_eq_true rfl) dX11_setWeight_3 hm (fun r D9 hr => ?_)
  obtain ⟨rfl, e9⟩ := hr
  rw [e9]
  clear e9
  refine am_if_eq (tgt := 19) dX11_setWeight_6 (by decide) (fun h => ?_) (fun h => ?_)
  · replace hT := hT.1 h
    refine am_iconst (v := (-1)) dX11_setWeight_19 (by decide) ?_
    exact am_ireturn (ty := .int) dX11_setWeight_20 rfl rfl hT
  · replace hT := hT.2 h
    refine am_iload_n (x := v3) dX11_setWeight_9 rfl ?_
    refine am_iconst (v := (nI 1)) dX11_setWeight_10 (by decide) ?_
    refine am_bipush (v := (nI 100)) dX11_setWeight_11 (by decide) ?_
    obtain ⟨x2, hm, hT⟩ := hT
    refine am_callS (av := [.int v3, .int (nI 1), .int (nI 100)]) (st := []) cw_X11_in cl_X11_53 ck_X11_in (Nat.le_of_ble_eq_true rfl) dX11_setWeight_13 hm (fun r D9 hr => ?_)
    obtain ⟨rfl, e9⟩ := hr
    rw [e9]
    clear e9
    refine am_if_ne (tgt := 21) dX11_setWeight_16 (by decide) (fun h => ?_) (fun h => ?_)
    · replace hT := hT.1 h
      refine am_aload_n (x := o) dX11_setWeight_21 rfl ?_
      obtain ⟨D3, hm, hT⟩ := hT
      refine am_callV (av := []) (st := []) (b := o) cw_X11_keeps cl_X11_76 ck_X11_keeps cs_X11_keeps ho.1 rfl rfl (Nat.le_of_ble_eq_true rfl) dX11_setWeight_22 hm (fun r D9 hr => ?_)
      obtain ⟨rfl, e9⟩ := hr
      rw [e9]
      clear e9
      refine am_aload_n (x := o) dX11_setWeight_25 rfl ?_
      refine am_getR dX11_setWeight_26 fw_X11_7 ho.1 rfl ?_
      refine am_iload_n (x := v1) dX11_setWeight_29 rfl ?_
      refine am_iload_n (x := v2) dX11_setWeight_30 rfl ?_
      obtain ⟨x4, hm, hT⟩ := hT
      refine am_callS (av := [.int v1, .int v2]) (st := [.ref (o + 1)]) cw_X11_at cl_X11_61 ck_X11_at (Nat.le_of_ble_eq_true rfl) dX11_setWeight_31 hm (fun r D9 hr => ?_)
      obtain ⟨rfl, e9⟩ := hr
      rw [e9]
      clear e9
      refine am_iald dX11_setWeight_34 ho.2.1 hT.1 ?_
      replace hT := hT.2
      refine am_set (am_istore dX11_setWeight_35 (by decide)) (L1 := [.ref o, .int v1, .int v2, .int v3, .int (D3 (o + 1) (Int32.toNatClampNeg x4))]) rfl ?_
      refine am_aload_n (x := o) dX11_setWeight_37 rfl ?_
      refine am_getR dX11_setWeight_38 fw_X11_7 ho.1 rfl ?_
      refine am_iload_n (x := v1) dX11_setWeight_41 rfl ?_
      refine am_iload_n (x := v2) dX11_setWeight_42 rfl ?_
      obtain ⟨x5, hm, hT⟩ := hT
      refine am_callS (av := [.int v1, .int v2]) (st := [.ref (o + 1)]) cw_X11_at cl_X11_61 ck_X11_at (Nat.le_of_ble_eq_true rfl) dX11_setWeight_43 hm (fun r D9 hr => ?_)
      obtain ⟨rfl, e9⟩ := hr
      rw [e9]
      clear e9
      refine am_iload_n (x := v3) dX11_setWeight_46 rfl ?_
      refine am_iast dX11_setWeight_47 ho.2.1 hT.1 ?_
      obtain ⟨D6, hD⟩ : ∃ z, z = am_up D3 (o + 1) (Int32.toNatClampNeg x5) v3 := ⟨_, rfl⟩
      rw [← hD]
      replace hT := hT.2 D6 hD
      clear hD
      refine am_aload_n (x := o) dX11_setWeight_48 rfl ?_
      refine am_getR dX11_setWeight_49 fw_X11_7 ho.1 rfl ?_
      refine am_iload_n (x := v2) dX11_setWeight_52 rfl ?_
      refine am_iload_n (x := v1) dX11_setWeight_53 rfl ?_
      obtain ⟨x7, hm, hT⟩ := hT
      refine am_callS (av := [.int v2, .int v1]) (st := [.ref (o + 1)]) cw_X11_at cl_X11_61 ck_X11_at (Nat.le_of_ble_eq_true rfl) dX11_setWeight_54 hm (fun r D9 hr => ?_)
      obtain ⟨rfl, e9⟩ := hr
      rw [e9]
      clear e9
      refine am_iload_n (x := v3) dX11_setWeight_57 rfl ?_
      refine am_iast dX11_setWeight_58 ho.2.1 hT.1 ?_
      obtain ⟨D8, hD⟩ : ∃ z, z = am_up D6 (o + 1) (Int32.toNatClampNeg x7) v3 := ⟨_, rfl⟩
      rw [← hD]
      replace hT := hT.2 D8 hD
      clear hD
      refine am_iload (x := (D3 (o + 1) (Int32.toNatClampNeg x4))) dX11_setWeight_59 rfl ?_
      exact am_ireturn (ty := .int) dX11_setWeight_61 rfl rfl hT
    · replace hT := hT.2 h
      refine am_iconst (v := (-1)) dX11_setWeight_19 (by decide) ?_
      exact am_ireturn (ty := .int) dX11_setWeight_20 rfl rfl hT
set_option maxRecDepth 20000 in
theorem eX11_isCycle {lay : List am_L} {d : Nat} {D : am_D} {Q : Option Value → am_D → Prop} {o : Nat} {v1 : Int32} {v2 : Int32} {v3 : Int32} (ho : isX11 lay o) (hT : (∃ x1, am_MetP lay d mX11_beats1 [.ref o, .int v1, .int v2] D x1 ∧
 ((x1 = nI 0 → (∃ x2, am_MetP lay d mX11_beats1 [.ref o, .int v2, .int v1] D x2 ∧
 ((x2 = nI 0 → Q (some (.int (nI 0))) D) ∧
 (¬ (x2 = nI 0) → (∃ x3, am_MetP lay d mX11_beats1 [.ref o, .int v3, .int v2] D x3 ∧
 ((x3 = nI 0 → Q (some (.int (nI 0))) D) ∧
 (¬ (x3 = nI 0) → (∃ x4, am_MetP lay d mX11_beats1 [.ref o, .int v1, .int v3] D x4 ∧
 ((x4 = nI 0 → Q (some (.int (nI 0))) D) ∧
 (¬ (x4 = nI 0) → Q (some (.int (nI 1))) D)))))))))) ∧
 (¬ (x1 = nI 0) → (∃ x5, am_MetP lay d mX11_beats1 [.ref o, .int v2, .int v3] D x5 ∧
 ((x5 = nI 0 → (∃ x6, am_MetP lay d mX11_beats1 [.ref o, .int v2, .int v1] D x6 ∧
 ((x6 = nI 0 → Q (some (.int (nI 0))) D) ∧
 (¬ (x6 = nI 0) → (∃ x7, am_MetP lay d mX11_beats1 [.ref o, .int v3, .int v2] D x7 ∧
 ((x7 = nI 0 → Q (some (.int (nI 0))) D) ∧
 (¬ (x7 = nI 0) → (∃ x8, am_MetP lay d mX11_beats1 [.ref o, .int v1, .int v3] D x8 ∧
 ((x8 = nI 0 → Q (some (.int (nI 0))) D) ∧
 (¬ (x8 = nI 0) → Q (some (.int (nI 1))) D)))))))))) ∧
 (¬ (x5 = nI 0) → (∃ x9, am_MetP lay d mX11_beats1 [.ref o, .int v3, .int v1] D x9 ∧
 ((¬ x9 = nI 0 → Q (some (.int (nI 1))) D) ∧
 (¬ (¬ x9 = nI 0) → (∃ x10, am_MetP lay d mX11_beats1 [.ref o, .int v2, .int v1] D x10 ∧
 ((x10 = nI 0 → Q (some (.int (nI 0))) D) ∧
 (¬ (x10 = nI 0) → (∃ x11, am_MetP lay d mX11_beats1 [.ref o, .int v3, .int v2] D x11 ∧
 ((x11 = nI 0 → Q (some (.int (nI 0))) D) ∧
 (¬ (x11 = nI 0) → (∃ x12, am_MetP lay d mX11_beats1 [.ref o, .int v1, .int v3] D x12 ∧
 ((x12 = nI 0 → Q (some (.int (nI 0))) D) ∧
 (¬ (x12 = nI 0) → Q (some (.int (nI 1))) D))))))))))))))))))) : am_Met lay (d + 1) mX11_isCycle [.ref o, .int v1, .int v2, .int v3] D Q := by
  refine am_enter (by decide +kernel) rfl (Nat.le_of_ble_eq_true rfl) ?_
  show am_AW lay (d + 1) mX11_isCycle 0 [.ref o, .int v1, .int v2, .int v3] [] D Q
  refine am_aload_n (x := o) dX11_isCycle_0 rfl ?_
  refine am_iload_n (x := v1) dX11_isCycle_1 rfl ?_
  refine am_iload_n (x := v2) dX11_isCycle_2 rfl ?_
  obtain ⟨x1, hm, hT⟩ := hT
  refine am_callV (av := [.int v1, .int v2]) (st := []) (b := o) cw_X11_beats1 cl_X11_69 ck_X11_beats1 cs_X11_beats1 ho.1 rfl rfl (Nat.le_of_ble_eq_true rfl) dX11_isCycle_3 hm (fun r D9 hr => ?_)
  obtain ⟨rfl, e9⟩ := hr
  rw [e9]
  clear e9
  refine am_if_eq (tgt := 27) dX11_isCycle_6 (by decide) (fun h => ?_) (fun h => ?_)
  · replace hT := hT.1 h
    refine am_aload_n (x := o) dX11_isCycle_27 rfl ?_
    refine am_iload_n (x := v2) dX11_isCycle_28 rfl ?_
    refine am_iload_n (x := v1) dX11_isCycle_29 rfl ?_
    obtain ⟨x2, hm, hT⟩ := hT
    refine am_callV (av := [.int v2, .int v1]) (st := []) (b := o) cw_X11_beats1 cl_X11_69 ck_X11_beats1 cs_X11_beats1 ho.1 rfl rfl (Nat.le_of_ble_eq_true rfl) dX11_isCycle_30 hm (fun r D9 hr => ?_)
    obtain ⟨rfl, e9⟩ := hr
    rw [e9]
    clear e9
    refine am_if_eq (tgt := 58) dX11_isCycle_33 (by decide) (fun h => ?_) (fun h => ?_)
    · replace hT := hT.1 h
      refine am_iconst (v := (nI 0)) dX11_isCycle_58 (by decide) ?_
      exact am_ireturn (ty := .boolean) dX11_isCycle_59 rfl (by decide) hT
    · replace hT := hT.2 h
      refine am_aload_n (x := o) dX11_isCycle_36 rfl ?_
      refine am_iload_n (x := v3) dX11_isCycle_37 rfl ?_
      refine am_iload_n (x := v2) dX11_isCycle_38 rfl ?_
      obtain ⟨x3, hm, hT⟩ := hT
      refine am_callV (av := [.int v3, .int v2]) (st := []) (b := o) cw_X11_beats1 cl_X11_69 ck_X11_beats1 cs_X11_beats1 ho.1 rfl rfl (Nat.le_of_ble_eq_true rfl) dX11_isCycle_39 hm (fun r D9 hr => ?_)
      obtain ⟨rfl, e9⟩ := hr
      rw [e9]
      clear e9
      refine am_if_eq (tgt := 58) dX11_isCycle_42 (by decide) (fun h => ?_) (fun h => ?_)
      · replace hT := hT.1 h
        refine am_iconst (v := (nI 0)) dX11_isCycle_58 (by decide) ?_
        exact am_ireturn (ty := .boolean) dX11_isCycle_59 rfl (by decide) hT
      · replace hT := hT.2 h
        refine am_aload_n (x := o) dX11_isCycle_45 rfl ?_
        refine am_iload_n (x := v1) dX11_isCycle_46 rfl ?_
        refine am_iload_n (x := v3) dX11_isCycle_47 rfl ?_
        obtain ⟨x4, hm, hT⟩ := hT
        refine am_callV (av := [.int v1, .int v3]) (st := []) (b := o) cw_X11_beats1 cl_X11_69 ck_X11_beats1 cs_X11_beats1 ho.1 rfl rfl (Nat.le_of_ble_eq_true rfl) dX11_isCycle_48 hm (fun r D9 hr => ?_)
        obtain ⟨rfl, e9⟩ := hr
        rw [e9]
        clear e9
        refine am_if_eq (tgt := 58) dX11_isCycle_51 (by decide) (fun h => ?_) (fun h => ?_)
        · replace hT := hT.1 h
          refine am_iconst (v := (nI 0)) dX11_isCycle_58 (by decide) ?_
          exact am_ireturn (ty := .boolean) dX11_isCycle_59 rfl (by decide) hT
        · replace hT := hT.2 h
          refine am_iconst (v := (nI 1)) dX11_isCycle_54 (by decide) ?_
          refine am_goto (tgt := 59) dX11_isCycle_55 (by decide) ?_
          exact am_ireturn (ty := .boolean) dX11_isCycle_59 rfl (by decide) hT
  · replace hT := hT.2 h
    refine am_aload_n (x := o) dX11_isCycle_9 rfl ?_
    refine am_iload_n (x := v2) dX11_isCycle_10 rfl ?_
    refine am_iload_n (x := v3) dX11_isCycle_11 rfl ?_
    obtain ⟨x5, hm, hT⟩ := hT
    refine am_callV (av := [.int v2, .int v3]) (st := []) (b := o) cw_X11_beats1 cl_X11_69 ck_X11_beats1 cs_X11_beats1 ho.1 rfl rfl (Nat.le_of_ble_eq_true rfl) dX11_isCycle_12 hm (fun r D9 hr => ?_)
    obtain ⟨rfl, e9⟩ := hr
    rw [e9]
    clear e9
    refine am_if_eq (tgt := 27) dX11_isCycle_15 (by decide) (fun h => ?_) (fun h => ?_)
    · replace hT := hT.1 h
      refine am_aload_n (x := o) dX11_isCycle_27 rfl ?_
      refine am_iload_n (x := v2) dX11_isCycle_28 rfl ?_
      refine am_iload_n (x := v1) dX11_isCycle_29 rfl ?_
      obtain ⟨x6, hm, hT⟩ := hT
      refine am_callV (av := [.int v2, .int v1]) (st := []) (b := o) cw_X11_beats1 cl_X11_69 ck_X11_beats1 cs_X11_beats1 ho.1 rfl rfl (Nat.le_of_ble_eq_true rfl) dX11_isCycle_30 hm (fun r D9 hr => ?_)
      obtain ⟨rfl, e9⟩ := hr
      rw [e9]
      clear e9
      refine am_if_eq (tgt := 58) dX11_isCycle_33 (by decide) (fun h => ?_) (fun h => ?_)
      · replace hT := hT.1 h
        refine am_iconst (v := (nI 0)) dX11_isCycle_58 (by decide) ?_
        exact am_ireturn (ty := .boolean) dX11_isCycle_59 rfl (by decide) hT
      · replace hT := hT.2 h
        refine am_aload_n (x := o) dX11_isCycle_36 rfl ?_
        refine am_iload_n (x := v3) dX11_isCycle_37 rfl ?_
        refine am_iload_n (x := v2) dX11_isCycle_38 rfl ?_
        obtain ⟨x7, hm, hT⟩ := hT
        refine am_callV (av := [.int v3, .int v2]) (st := []) (b := o) cw_X11_beats1 cl_X11_69 ck_X11_beats1 cs_X11_beats1 ho.1 rfl rfl (Nat.le_of_ble_eq_true rfl) dX11_isCycle_39 hm (fun r D9 hr => ?_)
        obtain ⟨rfl, e9⟩ := hr
        rw [e9]
        clear e9
        refine am_if_eq (tgt := 58) dX11_isCycle_42 (by decide) (fun h => ?_) (fun h => ?_)
        · replace hT := hT.1 h
          refine am_iconst (v := (nI 0)) dX11_isCycle_58 (by decide) ?_
          exact am_ireturn (ty := .boolean) dX11_isCycle_59 rfl (by decide) hT
        · replace hT := hT.2 h
          refine am_aload_n (x := o) dX11_isCycle_45 rfl ?_
          refine am_iload_n (x := v1) dX11_isCycle_46 rfl ?_
          refine am_iload_n (x := v3) dX11_isCycle_47 rfl ?_
          obtain ⟨x8, hm, hT⟩ := hT
          refine am_callV (av := [.int v1, .int v3]) (st := []) (b := o) cw_X11_beats1 cl_X11_69 ck_X11_beats1 cs_X11_beats1 ho.1 rfl rfl (Nat.le_of_ble_eq_true rfl) dX11_isCycle_48 hm (fun r D9 hr => ?_)
          obtain ⟨rfl, e9⟩ := hr
          rw [e9]
          clear e9
          refine am_if_eq (tgt := 58) dX11_isCycle_51 (by decide) (fun h => ?_) (fun h => ?_)
          · replace hT := hT.1 h
            refine am_iconst (v := (nI 0)) dX11_isCycle_58 (by decide) ?_
            exact am_ireturn (ty := .boolean) dX11_isCycle_59 rfl (by decide) hT
          · replace hT := hT.2 h
            refine am_iconst (v := (nI 1)) dX11_isCycle_54 (by decide) ?_
            refine am_goto (tgt := 59) dX11_isCycle_55 (by decide) ?_
            exact am_ireturn (ty := .boolean) dX11_isCycle_59 rfl (by decide) hT
    · replace hT := hT.2 h
      refine am_aload_n (x := o) dX11_isCycle_18 rfl ?_
      refine am_iload_n (x := v3) dX11_isCycle_19 rfl ?_
      refine am_iload_n (x := v1) dX11_isCycle_20 rfl ?_
      obtain ⟨x9, hm, hT⟩ := hT
      refine am_callV (av := [.int v3, .int v1]) (st := []) (b := o) cw_X11_beats1 cl_X11_69 ck_X11_beats1 cs_X11_beats1 ho.1 rfl rfl (Nat.le_of_ble_eq_true rfl) dX11_isCycle_21 hm (fun r D9 hr => ?_)
      obtain ⟨rfl, e9⟩ := hr
      rw [e9]
      clear e9
      refine am_if_ne (tgt := 54) dX11_isCycle_24 (by decide) (fun h => ?_) (fun h => ?_)
      · replace hT := hT.1 h
        refine am_iconst (v := (nI 1)) dX11_isCycle_54 (by decide) ?_
        refine am_goto (tgt := 59) dX11_isCycle_55 (by decide) ?_
        exact am_ireturn (ty := .boolean) dX11_isCycle_59 rfl (by decide) hT
      · replace hT := hT.2 h
        refine am_aload_n (x := o) dX11_isCycle_27 rfl ?_
        refine am_iload_n (x := v2) dX11_isCycle_28 rfl ?_
        refine am_iload_n (x := v1) dX11_isCycle_29 rfl ?_
        obtain ⟨x10, hm, hT⟩ := hT
        refine am_callV (av := [.int v2, .int v1]) (st := []) (b := o) cw_X11_beats1 cl_X11_69 ck_X11_beats1 cs_X11_beats1 ho.1 rfl rfl (Nat.le_of_ble_eq_true rfl) dX11_isCycle_30 hm (fun r D9 hr => ?_)
        obtain ⟨rfl, e9⟩ := hr
        rw [e9]
        clear e9
        refine am_if_eq (tgt := 58) dX11_isCycle_33 (by decide) (fun h => ?_) (fun h => ?_)
        · replace hT := hT.1 h
          refine am_iconst (v := (nI 0)) dX11_isCycle_58 (by decide) ?_
          exact am_ireturn (ty := .boolean) dX11_isCycle_59 rfl (by decide) hT
        · replace hT := hT.2 h
          refine am_aload_n (x := o) dX11_isCycle_36 rfl ?_
          refine am_iload_n (x := v3) dX11_isCycle_37 rfl ?_
          refine am_iload_n (x := v2) dX11_isCycle_38 rfl ?_
          obtain ⟨x11, hm, hT⟩ := hT
          refine am_callV (av := [.int v3, .int v2]) (st := []) (b := o) cw_X11_beats1 cl_X11_69 ck_X11_beats1 cs_X11_beats1 ho.1 rfl rfl (Nat.le_of_ble_eq_true rfl) dX11_isCycle_39 hm (fun r D9 hr => ?_)
          obtain ⟨rfl, e9⟩ := hr
          rw [e9]
          clear e9
          refine am_if_eq (tgt := 58) dX11_isCycle_42 (by decide) (fun h => ?_) (fun h => ?_)
          · replace hT := hT.1 h
            refine am_iconst (v := (nI 0)) dX11_isCycle_58 (by decide) ?_
            exact am_ireturn (ty := .boolean) dX11_isCycle_59 rfl (by decide) hT
          · replace hT := hT.2 h
            refine am_aload_n (x := o) dX11_isCycle_45 rfl ?_
            refine am_iload_n (x := v1) dX11_isCycle_46 rfl ?_
            refine am_iload_n (x := v3) dX11_isCycle_47 rfl ?_
            obtain ⟨x12, hm, hT⟩ := hT
            refine am_callV (av := [.int v1, .int v3]) (st := []) (b := o) cw_X11_beats1 cl_X11_69 ck_X11_beats1 cs_X11_beats1 ho.1 rfl rfl (Nat.le_of_ble_eq_true rfl) dX11_isCycle_48 hm (fun r D9 hr => ?_)
            obtain ⟨rfl, e9⟩ := hr
            rw [e9]
            clear e9
            refine am_if_eq (tgt := 58) dX11_isCycle_51 (by decide) (fun h => ?_) (fun h => ?_)
            · replace hT := hT.1 h
              refine am_iconst (v := (nI 0)) dX11_isCycle_58 (by decide) ?_
              exact am_ireturn (ty := .boolean) dX11_isCycle_59 rfl (by decide) hT
            · replace hT := hT.2 h
              refine am_iconst (v := (nI 1)) dX11_isCycle_54 (by decide) ?_
              refine am_goto (tgt := 59) dX11_isCycle_55 (by decide) ?_
              exact am_ireturn (ty := .boolean) dX11_isCycle_59 rfl (by decide) hT
set_option maxRecDepth 20000 in
theorem eX11_reverseTriangle {lay : List am_L} {d : Nat} {D : am_D} {Q : Option Value → am_D → Prop} {o : Nat} {v1 : Int32} {v2 : Int32} {v3 : Int32} (ho : isX11 lay o) (hT : (∃ x1, am_MetP lay d mX11_isPair [.ref o, .int v1, .int v2] D x1 ∧
 ((x1 = nI 0 → Q (some (.int (-1))) D) ∧
 (¬ (x1 = nI 0) → (∃ x2, am_MetP lay d mX11_isPair [.ref o, .int v2, .int v3] D x2 ∧
 ((x2 = nI 0 → Q (some (.int (-1))) D) ∧
 (¬ (x2 = nI 0) → (∃ x3, am_MetP lay d mX11_isPair [.ref o, .int v1, .int v3] D x3 ∧
 ((¬ x3 = nI 0 → (∃ x4, am_MetP lay d mX11_isCycle [.ref o, .int v1, .int v2, .int v3] D x4 ∧
 ((¬ x4 = nI 0 → (∃ D5, am_MetV lay d mX11_keeps [.ref o] D D5 ∧
 (∃ D6, am_MetV lay d mX11_turns [.ref o, .int v1, .int v2] D5 D6 ∧
 (∃ D7, am_MetV lay d mX11_turns [.ref o, .int v2, .int v3] D6 D7 ∧
 (∃ D8, am_MetV lay d mX11_turns [.ref o, .int v1, .int v3] D7 D8 ∧
 (∃ x9, am_MetP lay d mX11_triangles [.ref o] D8 x9 ∧
 Q (some (.int x9)) D8)))))) ∧
 (¬ (¬ x4 = nI 0) → Q (some (.int (-2))) D)))) ∧
 (¬ (¬ x3 = nI 0) → Q (some (.int (-1))) D)))))))))) : am_Met lay (d + 1) mX11_reverseTriangle [.ref o, .int v1, .int v2, .int v3] D Q := by
  refine am_enter (by decide +kernel) rfl (Nat.le_of_ble_eq_true rfl) ?_
  show am_AW lay (d + 1) mX11_reverseTriangle 0 [.ref o, .int v1, .int v2, .int v3] [] D Q
  refine am_aload_n (x := o) dX11_reverseTriangle_0 rfl ?_
  refine am_iload_n (x := v1) dX11_reverseTriangle_1 rfl ?_
  refine am_iload_n (x := v2) dX11_reverseTriangle_2 rfl ?_
  obtain ⟨x1, hm, hT⟩ := hT
  refine am_callV (av := [.int v1, .int v2]) (st := []) (b := o) cw_X11_isPair cl_X11_79 ck_X11_isPair cs_X11_isPair ho.1 rfl rfl (Nat.le_of_ble_eq_true rfl) dX11_reverseTriangle_3 hm (fun r D9 hr => ?_)
  obtain ⟨rfl, e9⟩ := hr
  rw [e9]
  clear e9
  refine am_if_eq (tgt := 27) dX11_reverseTriangle_6 (by decide) (fun h => ?_) (fun h => ?_)
  · replace hT := hT.1 h
    refine am_iconst (v := (-1)) dX11_reverseTriangle_27 (by decide) ?_
    exact am_ireturn (ty := .int) dX11_reverseTriangle_28 rfl rfl hT
  · replace hT := hT.2 h
    refine am_aload_n (x := o) dX11_reverseTriangle_9 rfl ?_
    refine am_iload_n (x := v2) dX11_reverseTriangle_10 rfl ?_
    refine am_iload_n (x := v3) dX11_reverseTriangle_11 rfl ?_
    obtain ⟨x2, hm, hT⟩ := hT
    refine am_callV (av := [.int v2, .int v3]) (st := []) (b := o) cw_X11_isPair cl_X11_79 ck_X11_isPair cs_X11_isPair ho.1 rfl rfl (Nat.le_of_ble_eq_true rfl) dX11_reverseTriangle_12 hm (fun r D9 hr => ?_)
    obtain ⟨rfl, e9⟩ := hr
    rw [e9]
    clear e9
    refine am_if_eq (tgt := 27) dX11_reverseTriangle_15 (by decide) (fun h => ?_) (fun h => ?_)
    · replace hT := hT.1 h
      refine am_iconst (v := (-1)) dX11_reverseTriangle_27 (by decide) ?_
      exact am_ireturn (ty := .int) dX11_reverseTriangle_28 rfl rfl hT
    · replace hT := hT.2 h
      refine am_aload_n (x := o) dX11_reverseTriangle_18 rfl ?_
      refine am_iload_n (x := v1) dX11_reverseTriangle_19 rfl ?_
      refine am_iload_n (x := v3) dX11_reverseTriangle_20 rfl ?_
      obtain ⟨x3, hm, hT⟩ := hT
      refine am_callV (av := [.int v1, .int v3]) (st := []) (b := o) cw_X11_isPair cl_X11_79 ck_X11_isPair cs_X11_isPair ho.1 rfl rfl (Nat.le_of_ble_eq_true rfl) dX11_reverseTriangle_21 hm (fun r D9 hr => ?_)
      obtain ⟨rfl, e9⟩ := hr
      rw [e9]
      clear e9
      refine am_if_ne (tgt := 29) dX11_reverseTriangle_24 (by decide) (fun h => ?_) (fun h => ?_)
      · replace hT := hT.1 h
        refine am_aload_n (x := o) dX11_reverseTriangle_29 rfl ?_
        refine am_iload_n (x := v1) dX11_reverseTriangle_30 rfl ?_
        refine am_iload_n (x := v2) dX11_reverseTriangle_31 rfl ?_
        refine am_iload_n (x := v3) dX11_reverseTriangle_32 rfl ?_
        obtain ⟨x4, hm, hT⟩ := hT
        refine am_callV (av := [.int v1, .int v2, .int v3]) (st := []) (b := o) cw_X11_isCycle cl_X11_82 ck_X11_isCycle cs_X11_isCycle ho.1 rfl rfl (Nat.le_of_ble_eq_true rfl) dX11_reverseTriangle_33 hm (fun r D9 hr => ?_)
        obtain ⟨rfl, e9⟩ := hr
        rw [e9]
        clear e9
        refine am_if_ne (tgt := 42) dX11_reverseTriangle_36 (by decide) (fun h => ?_) (fun h => ?_)
        · replace hT := hT.1 h
          refine am_aload_n (x := o) dX11_reverseTriangle_42 rfl ?_
          obtain ⟨D5, hm, hT⟩ := hT
          refine am_callV (av := []) (st := []) (b := o) cw_X11_keeps cl_X11_76 ck_X11_keeps cs_X11_keeps ho.1 rfl rfl (Nat.le_of_ble_eq_true rfl) dX11_reverseTriangle_43 hm (fun r D9 hr => ?_)
          obtain ⟨rfl, e9⟩ := hr
          rw [e9]
          clear e9
          refine am_aload_n (x := o) dX11_reverseTriangle_46 rfl ?_
          refine am_iload_n (x := v1) dX11_reverseTriangle_47 rfl ?_
          refine am_iload_n (x := v2) dX11_reverseTriangle_48 rfl ?_
          obtain ⟨D6, hm, hT⟩ := hT
          refine am_callV (av := [.int v1, .int v2]) (st := []) (b := o) cw_X11_turns cl_X11_85 ck_X11_turns cs_X11_turns ho.1 rfl rfl (Nat.le_of_ble_eq_true rfl) dX11_reverseTriangle_49 hm (fun r D9 hr => ?_)
          obtain ⟨rfl, e9⟩ := hr
          rw [e9]
          clear e9
          refine am_aload_n (x := o) dX11_reverseTriangle_52 rfl ?_
          refine am_iload_n (x := v2) dX11_reverseTriangle_53 rfl ?_
          refine am_iload_n (x := v3) dX11_reverseTriangle_54 rfl ?_
          obtain ⟨D7, hm, hT⟩ := hT
          refine am_callV (av := [.int v2, .int v3]) (st := []) (b := o) cw_X11_turns cl_X11_85 ck_X11_turns cs_X11_turns ho.1 rfl rfl (Nat.le_of_ble_eq_true rfl) dX11_reverseTriangle_55 hm (fun r D9 hr => ?_)
          obtain ⟨rfl, e9⟩ := hr
          rw [e9]
          clear e9
          refine am_aload_n (x := o) dX11_reverseTriangle_58 rfl ?_
          refine am_iload_n (x := v1) dX11_reverseTriangle_59 rfl ?_
          refine am_iload_n (x := v3) dX11_reverseTriangle_60 rfl ?_
          obtain ⟨D8, hm, hT⟩ := hT
          refine am_callV (av := [.int v1, .int v3]) (st := []) (b := o) cw_X11_turns cl_X11_85 ck_X11_turns cs_X11_turns ho.1 rfl rfl (Nat.le_of_ble_eq_true rfl) dX11_reverseTriangle_61 hm (fun r D9 hr => ?_)
          obtain ⟨rfl, e9⟩ := hr
          rw [e9]
          clear e9
          refine am_aload_n (x := o) dX11_reverseTriangle_64 rfl ?_
          obtain ⟨x9, hm, hT⟩ := hT
          refine am_callV (av := []) (st := []) (b := o) cw_X11_triangles cl_X11_88 ck_X11_triangles cs_X11_triangles ho.1 rfl rfl (Nat.le_of_ble_eq_true rfl) dX11_reverseTriangle_65 hm (fun r D9 hr => ?_)
          obtain ⟨rfl, e9⟩ := hr
          rw [e9]
          clear e9
          exact am_ireturn (ty := .int) dX11_reverseTriangle_68 rfl rfl hT
        · replace hT := hT.2 h
          refine am_bipush (v := (-2)) dX11_reverseTriangle_39 (by decide) ?_
          exact am_ireturn (ty := .int) dX11_reverseTriangle_41 rfl rfl hT
      · replace hT := hT.2 h
        refine am_iconst (v := (-1)) dX11_reverseTriangle_27 (by decide) ?_
        exact am_ireturn (ty := .int) dX11_reverseTriangle_28 rfl rfl hT
set_option maxRecDepth 20000 in
theorem eX11_stepsTo {lay : List am_L} {d : Nat} {D : am_D} {Q : Option Value → am_D → Prop} {o : Nat} {v1 : Int32} (ho : isX11 lay o) (hT : am_AW lay (d + 1) mX11_stepsTo 2 [.ref o, .int v1, .int (nI 0), .null, .null] [] D Q) : am_Met lay (d + 1) mX11_stepsTo [.ref o, .int v1] D Q := by
  refine am_enter (by decide +kernel) rfl (Nat.le_of_ble_eq_true rfl) ?_
  show am_AW lay (d + 1) mX11_stepsTo 0 [.ref o, .int v1, .null, .null, .null] [] D Q
  refine am_iconst (v := (nI 0)) dX11_stepsTo_0 (by decide) ?_
  refine am_set (am_istore_n dX11_stepsTo_1 (by decide)) (L1 := [.ref o, .int v1, .int (nI 0), .null, .null]) rfl ?_
  exact hT
set_option maxRecDepth 20000 in
theorem rX11_stepsTo_2 {lay : List am_L} {d : Nat} {D : am_D} {Q : Option Value → am_D → Prop} {o : Nat} {v1 : Int32} {v2 : Int32} (ho : isX11 lay o) (hT : (∃ x1, am_MetP lay d mX11_n [.ref o] D x1 ∧
 ((x1 ≤ v2 → am_AW lay (d + 1) mX11_stepsTo 35 [.ref o, .int v1, .int (nI 1), .null, .null] [] D Q) ∧
 (¬ (x1 ≤ v2) → ((¬ v2 = v1 → (vp_in v2 10 ∧ ∀ D2, D2 = am_up D (o + 9) (Int32.toNatClampNeg v2) (-4) →
 am_AW lay (d + 1) mX11_stepsTo 2 [.ref o, .int v1, .int (v2 + (nI 1)), .null, .null] [] D2 Q)) ∧
 (¬ (¬ v2 = v1) → (vp_in v2 10 ∧ ∀ D3, D3 = am_up D (o + 9) (Int32.toNatClampNeg v2) (nI 0) →
 am_AW lay (d + 1) mX11_stepsTo 2 [.ref o, .int v1, .int (v2 + (nI 1)), .null, .null] [] D3 Q))))))) : am_AW lay (d + 1) mX11_stepsTo 2 [.ref o, .int v1, .int v2, .null, .null] [] D Q := by
  refine am_iload_n (x := v2) dX11_stepsTo_2 rfl ?_
  refine am_aload_n (x := o) dX11_stepsTo_3 rfl ?_
  obtain ⟨x1, hm, hT⟩ := hT
  refine am_callV (av := []) (st := [.int v2]) (b := o) cw_X11_n cl_X11_92 ck_X11_n cs_X11_n ho.1 rfl rfl (Nat.le_of_ble_eq_true rfl) dX11_stepsTo_4 hm (fun r D9 hr => ?_)
  obtain ⟨rfl, e9⟩ := hr
  rw [e9]
  clear e9
  refine am_icmp_ge (tgt := 33) dX11_stepsTo_7 (by decide) (fun h => ?_) (fun h => ?_)
  · replace hT := hT.1 h
    refine am_iconst (v := (nI 1)) dX11_stepsTo_33 (by decide) ?_
    refine am_set (am_istore_n dX11_stepsTo_34 (by decide)) (L1 := [.ref o, .int v1, .int (nI 1), .null, .null]) rfl ?_
    exact hT
  · replace hT := hT.2 h
    refine am_aload_n (x := o) dX11_stepsTo_10 rfl ?_
    refine am_getR dX11_stepsTo_11 fw_X11_34 ho.1 rfl ?_
    refine am_iload_n (x := v2) dX11_stepsTo_14 rfl ?_
    refine am_iload_n (x := v2) dX11_stepsTo_15 rfl ?_
    refine am_iload_n (x := v1) dX11_stepsTo_16 rfl ?_
    refine am_icmp_ne (tgt := 24) dX11_stepsTo_17 (by decide) (fun h => ?_) (fun h => ?_)
    · replace hT := hT.1 h
      refine am_bipush (v := (-4)) dX11_stepsTo_24 (by decide) ?_
      refine am_iast dX11_stepsTo_26 ho.2.2.2.2.2.2.2.2.2 hT.1 ?_
      obtain ⟨D2, hD⟩ : ∃ z, z = am_up D (o + 9) (Int32.toNatClampNeg v2) (-4) := ⟨_, rfl⟩
      rw [← hD]
      replace hT := hT.2 D2 hD
      clear hD
      refine am_set (am_iinc (x := v2) (c0 := (nI 1)) dX11_stepsTo_27 (by decide) rfl (by decide)) (L1 := [.ref o, .int v1, .int (v2 + (nI 1)), .null, .null]) rfl ?_
      refine am_goto (tgt := 2) dX11_stepsTo_30 (by decide) ?_
      exact hT
    · replace hT := hT.2 h
      refine am_iconst (v := (nI 0)) dX11_stepsTo_20 (by decide) ?_
      refine am_goto (tgt := 26) dX11_stepsTo_21 (by decide) ?_
      refine am_iast dX11_stepsTo_26 ho.2.2.2.2.2.2.2.2.2 hT.1 ?_
      obtain ⟨D3, hD⟩ : ∃ z, z = am_up D (o + 9) (Int32.toNatClampNeg v2) (nI 0) := ⟨_, rfl⟩
      rw [← hD]
      replace hT := hT.2 D3 hD
      clear hD
      refine am_set (am_iinc (x := v2) (c0 := (nI 1)) dX11_stepsTo_27 (by decide) rfl (by decide)) (L1 := [.ref o, .int v1, .int (v2 + (nI 1)), .null, .null]) rfl ?_
      refine am_goto (tgt := 2) dX11_stepsTo_30 (by decide) ?_
      exact hT
set_option maxRecDepth 20000 in
theorem rX11_stepsTo_35 {lay : List am_L} {d : Nat} {D : am_D} {Q : Option Value → am_D → Prop} {o : Nat} {v1 : Int32} {v2 : Int32} (ho : isX11 lay o) (hT : (∃ x1, am_MetP lay d mX11_n [.ref o] D x1 ∧
 ((x1 ≤ v2 → Q none D) ∧
 (¬ (x1 ≤ v2) → am_AW lay (d + 1) mX11_stepsTo 45 [.ref o, .int v1, .int v2, .int (nI 0), .null] [] D Q)))) : am_AW lay (d + 1) mX11_stepsTo 35 [.ref o, .int v1, .int v2, .null, .null] [] D Q := by
  refine am_iload_n (x := v2) dX11_stepsTo_35 rfl ?_
  refine am_aload_n (x := o) dX11_stepsTo_36 rfl ?_
  obtain ⟨x1, hm, hT⟩ := hT
  refine am_callV (av := []) (st := [.int v2]) (b := o) cw_X11_n cl_X11_92 ck_X11_n cs_X11_n ho.1 rfl rfl (Nat.le_of_ble_eq_true rfl) dX11_stepsTo_37 hm (fun r D9 hr => ?_)
  obtain ⟨rfl, e9⟩ := hr
  rw [e9]
  clear e9
  refine am_icmp_ge (tgt := 131) dX11_stepsTo_40 (by decide) (fun h => ?_) (fun h => ?_)
  · replace hT := hT.1 h
    exact am_return dX11_stepsTo_131 rfl hT
  · replace hT := hT.2 h
    refine am_iconst (v := (nI 0)) dX11_stepsTo_43 (by decide) ?_
    refine am_set (am_istore_n dX11_stepsTo_44 (by decide)) (L1 := [.ref o, .int v1, .int v2, .int (nI 0), .null]) rfl ?_
    exact hT
set_option maxRecDepth 20000 in
theorem rX11_stepsTo_45 {lay : List am_L} {d : Nat} {D : am_D} {Q : Option Value → am_D → Prop} {o : Nat} {v1 : Int32} {v2 : Int32} {v3 : Int32} (ho : isX11 lay o) (hT : (∃ x1, am_MetP lay d mX11_n [.ref o] D x1 ∧
 ((x1 ≤ v3 → am_AW lay (d + 1) mX11_stepsTo 35 [.ref o, .int v1, .int (v2 + (nI 1)), .null, .null] [] D Q) ∧
 (¬ (x1 ≤ v3) → am_AW lay (d + 1) mX11_stepsTo 56 [.ref o, .int v1, .int v2, .int v3, .int (nI 0)] [] D Q)))) : am_AW lay (d + 1) mX11_stepsTo 45 [.ref o, .int v1, .int v2, .int v3, .null] [] D Q := by
  refine am_iload_n (x := v3) dX11_stepsTo_45 rfl ?_
  refine am_aload_n (x := o) dX11_stepsTo_46 rfl ?_
  obtain ⟨x1, hm, hT⟩ := hT
  refine am_callV (av := []) (st := [.int v3]) (b := o) cw_X11_n cl_X11_92 ck_X11_n cs_X11_n ho.1 rfl rfl (Nat.le_of_ble_eq_true rfl) dX11_stepsTo_47 hm (fun r D9 hr => ?_)
  obtain ⟨rfl, e9⟩ := hr
  rw [e9]
  clear e9
  refine am_icmp_ge (tgt := 125) dX11_stepsTo_50 (by decide) (fun h => ?_) (fun h => ?_)
  · replace hT := hT.1 h
    refine am_set (am_iinc (x := v2) (c0 := (nI 1)) dX11_stepsTo_125 (by decide) rfl (by decide)) (L1 := [.ref o, .int v1, .int (v2 + (nI 1)), .int v3, .null]) rfl ?_
    refine am_goto (tgt := 35) dX11_stepsTo_128 (by decide) ?_
    refine am_drop [3] (L1 := [.ref o, .int v1, .int (v2 + (nI 1)), .null, .null]) rfl ?_
    exact hT
  · replace hT := hT.2 h
    refine am_iconst (v := (nI 0)) dX11_stepsTo_53 (by decide) ?_
    refine am_set (am_istore dX11_stepsTo_54 (by decide)) (L1 := [.ref o, .int v1, .int v2, .int v3, .int (nI 0)]) rfl ?_
    exact hT
set_option maxRecDepth 20000 in
theorem rX11_stepsTo_56 {lay : List am_L} {d : Nat} {D : am_D} {Q : Option Value → am_D → Prop} {o : Nat} {v1 : Int32} {v2 : Int32} {v3 : Int32} {v4 : Int32} (ho : isX11 lay o) (hT : (∃ x1, am_MetP lay d mX11_n [.ref o] D x1 ∧
 ((x1 ≤ v4 → am_AW lay (d + 1) mX11_stepsTo 45 [.ref o, .int v1, .int v2, .int (v3 + (nI 1)), .null] [] D Q) ∧
 (¬ (x1 ≤ v4) → (vp_in v3 10 ∧ ((nI 0 ≤ (D (o + 9) (Int32.toNatClampNeg v3)) → am_AW lay (d + 1) mX11_stepsTo 45 [.ref o, .int v1, .int v2, .int (v3 + (nI 1)), .null] [] D Q) ∧
 (¬ (nI 0 ≤ (D (o + 9) (Int32.toNatClampNeg v3))) → (vp_in v4 10 ∧ ((¬ (D (o + 9) (Int32.toNatClampNeg v4)) = (v2 - (nI 1)) → (vp_in v3 10 ∧ (vp_in v3 10 ∧ ∀ D2, D2 = am_up D (o + 9) (Int32.toNatClampNeg v3) (D (o + 9) (Int32.toNatClampNeg v3)) →
 am_AW lay (d + 1) mX11_stepsTo 56 [.ref o, .int v1, .int v2, .int v3, .int (v4 + (nI 1))] [] D2 Q))) ∧
 (¬ (¬ (D (o + 9) (Int32.toNatClampNeg v4)) = (v2 - (nI 1))) → (∃ x3, am_MetP lay d mX11_beats1 [.ref o, .int v3, .int v4] D x3 ∧
 ((x3 = nI 0 → (vp_in v3 10 ∧ (vp_in v3 10 ∧ ∀ D4, D4 = am_up D (o + 9) (Int32.toNatClampNeg v3) (D (o + 9) (Int32.toNatClampNeg v3)) →
 am_AW lay (d + 1) mX11_stepsTo 56 [.ref o, .int v1, .int v2, .int v3, .int (v4 + (nI 1))] [] D4 Q))) ∧
 (¬ (x3 = nI 0) → (vp_in v3 10 ∧ ∀ D5, D5 = am_up D (o + 9) (Int32.toNatClampNeg v3) v2 →
 am_AW lay (d + 1) mX11_stepsTo 56 [.ref o, .int v1, .int v2, .int v3, .int (v4 + (nI 1))] [] D5 Q)))))))))))))) : am_AW lay (d + 1) mX11_stepsTo 56 [.ref o, .int v1, .int v2, .int v3, .int v4] [] D Q := by
  refine am_iload (x := v4) dX11_stepsTo_56 rfl ?_
  refine am_aload_n (x := o) dX11_stepsTo_58 rfl ?_
  obtain ⟨x1, hm, hT⟩ := hT
  refine am_callV (av := []) (st := [.int v4]) (b := o) cw_X11_n cl_X11_92 ck_X11_n cs_X11_n ho.1 rfl rfl (Nat.le_of_ble_eq_true rfl) dX11_stepsTo_59 hm (fun r D9 hr => ?_)
  obtain ⟨rfl, e9⟩ := hr
  rw [e9]
  clear e9
  refine am_icmp_ge (tgt := 119) dX11_stepsTo_62 (by decide) (fun h => ?_) (fun h => ?_)
  · replace hT := hT.1 h
    refine am_set (am_iinc (x := v3) (c0 := (nI 1)) dX11_stepsTo_119 (by decide) rfl (by decide)) (L1 := [.ref o, .int v1, .int v2, .int (v3 + (nI 1)), .int v4]) rfl ?_
    refine am_goto (tgt := 45) dX11_stepsTo_122 (by decide) ?_
    refine am_drop [4] (L1 := [.ref o, .int v1, .int v2, .int (v3 + (nI 1)), .null]) rfl ?_
    exact hT
  · replace hT := hT.2 h
    refine am_aload_n (x := o) dX11_stepsTo_65 rfl ?_
    refine am_getR dX11_stepsTo_66 fw_X11_34 ho.1 rfl ?_
    refine am_iload_n (x := v3) dX11_stepsTo_69 rfl ?_
    refine am_iald dX11_stepsTo_70 ho.2.2.2.2.2.2.2.2.2 hT.1 ?_
    replace hT := hT.2
    refine am_if_ge (tgt := 119) dX11_stepsTo_71 (by decide) (fun h => ?_) (fun h => ?_)
    · replace hT := hT.1 h
      refine am_set (am_iinc (x := v3) (c0 := (nI 1)) dX11_stepsTo_119 (by decide) rfl (by decide)) (L1 := [.ref o, .int v1, .int v2, .int (v3 + (nI 1)), .int v4]) rfl ?_
      refine am_goto (tgt := 45) dX11_stepsTo_122 (by decide) ?_
      refine am_drop [4] (L1 := [.ref o, .int v1, .int v2, .int (v3 + (nI 1)), .null]) rfl ?_
      exact hT
    · replace hT := hT.2 h
      refine am_aload_n (x := o) dX11_stepsTo_74 rfl ?_
      refine am_getR dX11_stepsTo_75 fw_X11_34 ho.1 rfl ?_
      refine am_iload_n (x := v3) dX11_stepsTo_78 rfl ?_
      refine am_aload_n (x := o) dX11_stepsTo_79 rfl ?_
      refine am_getR dX11_stepsTo_80 fw_X11_34 ho.1 rfl ?_
      refine am_iload (x := v4) dX11_stepsTo_83 rfl ?_
      refine am_iald dX11_stepsTo_85 ho.2.2.2.2.2.2.2.2.2 hT.1 ?_
      replace hT := hT.2
      refine am_iload_n (x := v2) dX11_stepsTo_86 rfl ?_
      refine am_iconst (v := (nI 1)) dX11_stepsTo_87 (by decide) ?_
      refine am_isub dX11_stepsTo_88 ?_
      refine am_icmp_ne (tgt := 106) dX11_stepsTo_89 (by decide) (fun h => ?_) (fun h => ?_)
      · replace hT := hT.1 h
        refine am_aload_n (x := o) dX11_stepsTo_106 rfl ?_
        refine am_getR dX11_stepsTo_107 fw_X11_34 ho.1 rfl ?_
        refine am_iload_n (x := v3) dX11_stepsTo_110 rfl ?_
        refine am_iald dX11_stepsTo_111 ho.2.2.2.2.2.2.2.2.2 hT.1 ?_
        replace hT := hT.2
        refine am_iast dX11_stepsTo_112 ho.2.2.2.2.2.2.2.2.2 hT.1 ?_
        obtain ⟨D2, hD⟩ : ∃ z, z = am_up D (o + 9) (Int32.toNatClampNeg v3) (D (o + 9) (Int32.toNatClampNeg v3)) := ⟨_, rfl⟩
        rw [← hD]
        replace hT := hT.2 D2 hD
        clear hD
        refine am_set (am_iinc (x := v4) (c0 := (nI 1)) dX11_stepsTo_113 (by decide) rfl (by decide)) (L1 := [.ref o, .int v1, .int v2, .int v3, .int (v4 + (nI 1))]) rfl ?_
        refine am_goto (tgt := 56) dX11_stepsTo_116 (by decide) ?_
        exact hT
      · replace hT := hT.2 h
        refine am_aload_n (x := o) dX11_stepsTo_92 rfl ?_
        refine am_iload_n (x := v3) dX11_stepsTo_93 rfl ?_
        refine am_iload (x := v4) dX11_stepsTo_94 rfl ?_
        obtain ⟨x3, hm, hT⟩ := hT
        refine am_callV (av := [.int v3, .int v4]) (st := [.int v3, .ref (o + 9)]) (b := o) cw_X11_beats1 cl_X11_69 ck_X11_beats1 cs_X11_beats1 ho.1 rfl rfl (Nat.le_of_ble_eq_true rfl) dX11_stepsTo_96 hm (fun r D9 hr => ?_)
        obtain ⟨rfl, e9⟩ := hr
        rw [e9]
        clear e9
        refine am_if_eq (tgt := 106) dX11_stepsTo_99 (by decide) (fun h => ?_) (fun h => ?_)
        · replace hT := hT.1 h
          refine am_aload_n (x := o) dX11_stepsTo_106 rfl ?_
          refine am_getR dX11_stepsTo_107 fw_X11_34 ho.1 rfl ?_
          refine am_iload_n (x := v3) dX11_stepsTo_110 rfl ?_
          refine am_iald dX11_stepsTo_111 ho.2.2.2.2.2.2.2.2.2 hT.1 ?_
          replace hT := hT.2
          refine am_iast dX11_stepsTo_112 ho.2.2.2.2.2.2.2.2.2 hT.1 ?_
          obtain ⟨D4, hD⟩ : ∃ z, z = am_up D (o + 9) (Int32.toNatClampNeg v3) (D (o + 9) (Int32.toNatClampNeg v3)) := ⟨_, rfl⟩
          rw [← hD]
          replace hT := hT.2 D4 hD
          clear hD
          refine am_set (am_iinc (x := v4) (c0 := (nI 1)) dX11_stepsTo_113 (by decide) rfl (by decide)) (L1 := [.ref o, .int v1, .int v2, .int v3, .int (v4 + (nI 1))]) rfl ?_
          refine am_goto (tgt := 56) dX11_stepsTo_116 (by decide) ?_
          exact hT
        · replace hT := hT.2 h
          refine am_iload_n (x := v2) dX11_stepsTo_102 rfl ?_
          refine am_goto (tgt := 112) dX11_stepsTo_103 (by decide) ?_
          refine am_iast dX11_stepsTo_112 ho.2.2.2.2.2.2.2.2.2 hT.1 ?_
          obtain ⟨D5, hD⟩ : ∃ z, z = am_up D (o + 9) (Int32.toNatClampNeg v3) v2 := ⟨_, rfl⟩
          rw [← hD]
          replace hT := hT.2 D5 hD
          clear hD
          refine am_set (am_iinc (x := v4) (c0 := (nI 1)) dX11_stepsTo_113 (by decide) rfl (by decide)) (L1 := [.ref o, .int v1, .int v2, .int v3, .int (v4 + (nI 1))]) rfl ?_
          refine am_goto (tgt := 56) dX11_stepsTo_116 (by decide) ?_
          exact hT
set_option maxRecDepth 20000 in
theorem eX11_reversePath {lay : List am_L} {d : Nat} {D : am_D} {Q : Option Value → am_D → Prop} {o : Nat} {v1 : Int32} {v2 : Int32} (ho : isX11 lay o) (hT : (∃ x1, am_MetP lay d mX11_isPair [.ref o, .int v1, .int v2] D x1 ∧
 ((¬ x1 = nI 0 → (∃ D2, am_MetV lay d mX11_stepsTo [.ref o, .int v2] D D2 ∧
 (vp_in v1 10 ∧ ((nI 0 ≤ (D2 (o + 9) (Int32.toNatClampNeg v1)) → (∃ D3, am_MetV lay d mX11_keeps [.ref o] D2 D3 ∧
 (vp_in v1 10 ∧ am_AW lay (d + 1) mX11_reversePath 42 [.ref o, .int v1, .int v2, .int (D3 (o + 9) (Int32.toNatClampNeg v1)), .int v1, .null] [] D3 Q))) ∧
 (¬ (nI 0 ≤ (D2 (o + 9) (Int32.toNatClampNeg v1))) → Q (some (.int (-2))) D2))))) ∧
 (¬ (¬ x1 = nI 0) → Q (some (.int (-1))) D)))) : am_Met lay (d + 1) mX11_reversePath [.ref o, .int v1, .int v2] D Q := by
  refine am_enter (by decide +kernel) rfl (Nat.le_of_ble_eq_true rfl) ?_
  show am_AW lay (d + 1) mX11_reversePath 0 [.ref o, .int v1, .int v2, .null, .null, .null] [] D Q
  refine am_aload_n (x := o) dX11_reversePath_0 rfl ?_
  refine am_iload_n (x := v1) dX11_reversePath_1 rfl ?_
  refine am_iload_n (x := v2) dX11_reversePath_2 rfl ?_
  obtain ⟨x1, hm, hT⟩ := hT
  refine am_callV (av := [.int v1, .int v2]) (st := []) (b := o) cw_X11_isPair cl_X11_79 ck_X11_isPair cs_X11_isPair ho.1 rfl rfl (Nat.le_of_ble_eq_true rfl) dX11_reversePath_3 hm (fun r D9 hr => ?_)
  obtain ⟨rfl, e9⟩ := hr
  rw [e9]
  clear e9
  refine am_if_ne (tgt := 11) dX11_reversePath_6 (by decide) (fun h => ?_) (fun h => ?_)
  · replace hT := hT.1 h
    refine am_aload_n (x := o) dX11_reversePath_11 rfl ?_
    refine am_iload_n (x := v2) dX11_reversePath_12 rfl ?_
    obtain ⟨D2, hm, hT⟩ := hT
    refine am_callV (av := [.int v2]) (st := []) (b := o) cw_X11_stepsTo cl_X11_95 ck_X11_stepsTo cs_X11_stepsTo ho.1 rfl rfl (Nat.le_of_ble_eq_true rfl) dX11_reversePath_13 hm (fun r D9 hr => ?_)
    obtain ⟨rfl, e9⟩ := hr
    rw [e9]
    clear e9
    refine am_aload_n (x := o) dX11_reversePath_16 rfl ?_
    refine am_getR dX11_reversePath_17 fw_X11_34 ho.1 rfl ?_
    refine am_iload_n (x := v1) dX11_reversePath_20 rfl ?_
    refine am_iald dX11_reversePath_21 ho.2.2.2.2.2.2.2.2.2 hT.1 ?_
    replace hT := hT.2
    refine am_if_ge (tgt := 28) dX11_reversePath_22 (by decide) (fun h => ?_) (fun h => ?_)
    · replace hT := hT.1 h
      refine am_aload_n (x := o) dX11_reversePath_28 rfl ?_
      obtain ⟨D3, hm, hT⟩ := hT
      refine am_callV (av := []) (st := []) (b := o) cw_X11_keeps cl_X11_76 ck_X11_keeps cs_X11_keeps ho.1 rfl rfl (Nat.le_of_ble_eq_true rfl) dX11_reversePath_29 hm (fun r D9 hr => ?_)
      obtain ⟨rfl, e9⟩ := hr
      rw [e9]
      clear e9
      refine am_aload_n (x := o) dX11_reversePath_32 rfl ?_
      refine am_getR dX11_reversePath_33 fw_X11_34 ho.1 rfl ?_
      refine am_iload_n (x := v1) dX11_reversePath_36 rfl ?_
      refine am_iald dX11_reversePath_37 ho.2.2.2.2.2.2.2.2.2 hT.1 ?_
      replace hT := hT.2
      refine am_set (am_istore_n dX11_reversePath_38 (by decide)) (L1 := [.ref o, .int v1, .int v2, .int (D3 (o + 9) (Int32.toNatClampNeg v1)), .null, .null]) rfl ?_
      refine am_iload_n (x := v1) dX11_reversePath_39 rfl ?_
      refine am_set (am_istore dX11_reversePath_40 (by decide)) (L1 := [.ref o, .int v1, .int v2, .int (D3 (o + 9) (Int32.toNatClampNeg v1)), .int v1, .null]) rfl ?_
      exact hT
    · replace hT := hT.2 h
      refine am_bipush (v := (-2)) dX11_reversePath_25 (by decide) ?_
      exact am_ireturn (ty := .int) dX11_reversePath_27 rfl rfl hT
  · replace hT := hT.2 h
    refine am_iconst (v := (-1)) dX11_reversePath_9 (by decide) ?_
    exact am_ireturn (ty := .int) dX11_reversePath_10 rfl rfl hT
set_option maxRecDepth 20000 in
theorem rX11_reversePath_42 {lay : List am_L} {d : Nat} {D : am_D} {Q : Option Value → am_D → Prop} {o : Nat} {v1 : Int32} {v2 : Int32} {v3 : Int32} {v4 : Int32} (ho : isX11 lay o) (hT : ((v4 = v2 → Q (some (.int v3)) D) ∧
 (¬ (v4 = v2) → am_AW lay (d + 1) mX11_reversePath 51 [.ref o, .int v1, .int v2, .int v3, .int v4, .int (nI 0)] [] D Q))) : am_AW lay (d + 1) mX11_reversePath 42 [.ref o, .int v1, .int v2, .int v3, .int v4, .null] [] D Q := by
  refine am_iload (x := v4) dX11_reversePath_42 rfl ?_
  refine am_iload_n (x := v2) dX11_reversePath_44 rfl ?_
  refine am_icmp_eq (tgt := 102) dX11_reversePath_45 (by decide) (fun h => ?_) (fun h => ?_)
  · replace hT := hT.1 h
    refine am_iload_n (x := v3) dX11_reversePath_102 rfl ?_
    exact am_ireturn (ty := .int) dX11_reversePath_103 rfl rfl hT
  · replace hT := hT.2 h
    refine am_iconst (v := (nI 0)) dX11_reversePath_48 (by decide) ?_
    refine am_set (am_istore dX11_reversePath_49 (by decide)) (L1 := [.ref o, .int v1, .int v2, .int v3, .int v4, .int (nI 0)]) rfl ?_
    exact hT
set_option maxRecDepth 20000 in
theorem rX11_reversePath_51 {lay : List am_L} {d : Nat} {D : am_D} {Q : Option Value → am_D → Prop} {o : Nat} {v1 : Int32} {v2 : Int32} {v3 : Int32} {v4 : Int32} {v5 : Int32} (ho : isX11 lay o) (hT : (∃ x1, am_MetP lay d mX11_beats1 [.ref o, .int v4, .int v5] D x1 ∧
 ((x1 = nI 0 → am_AW lay (d + 1) mX11_reversePath 51 [.ref o, .int v1, .int v2, .int v3, .int v4, .int (v5 + (nI 1))] [] D Q) ∧
 (¬ (x1 = nI 0) → (vp_in v5 10 ∧ (vp_in v4 10 ∧ (((D (o + 9) (Int32.toNatClampNeg v5)) = ((D (o + 9) (Int32.toNatClampNeg v4)) - (nI 1)) → (∃ D2, am_MetV lay d mX11_turns [.ref o, .int v4, .int v5] D D2 ∧
 am_AW lay (d + 1) mX11_reversePath 42 [.ref o, .int v1, .int v2, .int v3, .int v5, .null] [] D2 Q)) ∧
 (¬ ((D (o + 9) (Int32.toNatClampNeg v5)) = ((D (o + 9) (Int32.toNatClampNeg v4)) - (nI 1))) → am_AW lay (d + 1) mX11_reversePath 51 [.ref o, .int v1, .int v2, .int v3, .int v4, .int (v5 + (nI 1))] [] D Q)))))))) : am_AW lay (d + 1) mX11_reversePath 51 [.ref o, .int v1, .int v2, .int v3, .int v4, .int v5] [] D Q := by
  refine am_aload_n (x := o) dX11_reversePath_51 rfl ?_
  refine am_iload (x := v4) dX11_reversePath_52 rfl ?_
  refine am_iload (x := v5) dX11_reversePath_54 rfl ?_
  obtain ⟨x1, hm, hT⟩ := hT
  refine am_callV (av := [.int v4, .int v5]) (st := []) (b := o) cw_X11_beats1 cl_X11_69 ck_X11_beats1 cs_X11_beats1 ho.1 rfl rfl (Nat.le_of_ble_eq_true rfl) dX11_reversePath_56 hm (fun r D9 hr => ?_)
  obtain ⟨rfl, e9⟩ := hr
  rw [e9]
  clear e9
  refine am_if_eq (tgt := 81) dX11_reversePath_59 (by decide) (fun h => ?_) (fun h => ?_)
  · replace hT := hT.1 h
    refine am_set (am_iinc (x := v5) (c0 := (nI 1)) dX11_reversePath_81 (by decide) rfl (by decide)) (L1 := [.ref o, .int v1, .int v2, .int v3, .int v4, .int (v5 + (nI 1))]) rfl ?_
    refine am_goto (tgt := 51) dX11_reversePath_84 (by decide) ?_
    exact hT
  · replace hT := hT.2 h
    refine am_aload_n (x := o) dX11_reversePath_62 rfl ?_
    refine am_getR dX11_reversePath_63 fw_X11_34 ho.1 rfl ?_
    refine am_iload (x := v5) dX11_reversePath_66 rfl ?_
    refine am_iald dX11_reversePath_68 ho.2.2.2.2.2.2.2.2.2 hT.1 ?_
    replace hT := hT.2
    refine am_aload_n (x := o) dX11_reversePath_69 rfl ?_
    refine am_getR dX11_reversePath_70 fw_X11_34 ho.1 rfl ?_
    refine am_iload (x := v4) dX11_reversePath_73 rfl ?_
    refine am_iald dX11_reversePath_75 ho.2.2.2.2.2.2.2.2.2 hT.1 ?_
    replace hT := hT.2
    refine am_iconst (v := (nI 1)) dX11_reversePath_76 (by decide) ?_
    refine am_isub dX11_reversePath_77 ?_
    refine am_icmp_eq (tgt := 87) dX11_reversePath_78 (by decide) (fun h => ?_) (fun h => ?_)
    · replace hT := hT.1 h
      refine am_aload_n (x := o) dX11_reversePath_87 rfl ?_
      refine am_iload (x := v4) dX11_reversePath_88 rfl ?_
      refine am_iload (x := v5) dX11_reversePath_90 rfl ?_
      obtain ⟨D2, hm, hT⟩ := hT
      refine am_callV (av := [.int v4, .int v5]) (st := []) (b := o) cw_X11_turns cl_X11_85 ck_X11_turns cs_X11_turns ho.1 rfl rfl (Nat.le_of_ble_eq_true rfl) dX11_reversePath_92 hm (fun r D9 hr => ?_)
      obtain ⟨rfl, e9⟩ := hr
      rw [e9]
      clear e9
      refine am_iload (x := v5) dX11_reversePath_95 rfl ?_
      refine am_set (am_istore dX11_reversePath_97 (by decide)) (L1 := [.ref o, .int v1, .int v2, .int v3, .int v5, .int v5]) rfl ?_
      refine am_goto (tgt := 42) dX11_reversePath_99 (by decide) ?_
      refine am_drop [5] (L1 := [.ref o, .int v1, .int v2, .int v3, .int v5, .null]) rfl ?_
      exact hT
    · replace hT := hT.2 h
      refine am_set (am_iinc (x := v5) (c0 := (nI 1)) dX11_reversePath_81 (by decide) rfl (by decide)) (L1 := [.ref o, .int v1, .int v2, .int v3, .int v4, .int (v5 + (nI 1))]) rfl ?_
      refine am_goto (tgt := 51) dX11_reversePath_84 (by decide) ?_
      exact hT
set_option maxRecDepth 20000 in
theorem eX11_reversePlayer {lay : List am_L} {d : Nat} {D : am_D} {Q : Option Value → am_D → Prop} {o : Nat} {v1 : Int32} (ho : isX11 lay o) (hT : (∃ x1, am_MetP lay d mX11_isPlayer [.ref o, .int v1] D x1 ∧
 ((¬ x1 = nI 0 → (∃ D2, am_MetV lay d mX11_keeps [.ref o] D D2 ∧
 am_AW lay (d + 1) mX11_reversePlayer 16 [.ref o, .int v1, .int (nI 0)] [] D2 Q)) ∧
 (¬ (¬ x1 = nI 0) → Q (some (.int (-1))) D)))) : am_Met lay (d + 1) mX11_reversePlayer [.ref o, .int v1] D Q := by
  refine am_enter (by decide +kernel) rfl (Nat.le_of_ble_eq_true rfl) ?_
  show am_AW lay (d + 1) mX11_reversePlayer 0 [.ref o, .int v1, .null] [] D Q
  refine am_aload_n (x := o) dX11_reversePlayer_0 rfl ?_
  refine am_iload_n (x := v1) dX11_reversePlayer_1 rfl ?_
  obtain ⟨x1, hm, hT⟩ := hT
  refine am_callV (av := [.int v1]) (st := []) (b := o) cw_X11_isPlayer cl_X11_57 ck_X11_isPlayer cs_X11_isPlayer ho.1 rfl rfl (Nat.le_of_ble_eq_true rfl) dX11_reversePlayer_2 hm (fun r D9 hr => ?_)
  obtain ⟨rfl, e9⟩ := hr
  rw [e9]
  clear e9
  refine am_if_ne (tgt := 10) dX11_reversePlayer_5 (by decide) (fun h => ?_) (fun h => ?_)
  · replace hT := hT.1 h
    refine am_aload_n (x := o) dX11_reversePlayer_10 rfl ?_
    obtain ⟨D2, hm, hT⟩ := hT
    refine am_callV (av := []) (st := []) (b := o) cw_X11_keeps cl_X11_76 ck_X11_keeps cs_X11_keeps ho.1 rfl rfl (Nat.le_of_ble_eq_true rfl) dX11_reversePlayer_11 hm (fun r D9 hr => ?_)
    obtain ⟨rfl, e9⟩ := hr
    rw [e9]
    clear e9
    refine am_iconst (v := (nI 0)) dX11_reversePlayer_14 (by decide) ?_
    refine am_set (am_istore_n dX11_reversePlayer_15 (by decide)) (L1 := [.ref o, .int v1, .int (nI 0)]) rfl ?_
    exact hT
  · replace hT := hT.2 h
    refine am_iconst (v := (-1)) dX11_reversePlayer_8 (by decide) ?_
    exact am_ireturn (ty := .int) dX11_reversePlayer_9 rfl rfl hT
set_option maxRecDepth 20000 in
theorem rX11_reversePlayer_16 {lay : List am_L} {d : Nat} {D : am_D} {Q : Option Value → am_D → Prop} {o : Nat} {v1 : Int32} {v2 : Int32} (ho : isX11 lay o) (hT : (∃ x1, am_MetP lay d mX11_n [.ref o] D x1 ∧
 ((x1 ≤ v2 → (∃ x2, am_MetP lay d mX11_beaten [.ref o, .int v1] D x2 ∧
 (∃ x3, am_MetP lay d mX11_count [.int x2] D x3 ∧
 Q (some (.int x3)) D))) ∧
 (¬ (x1 ≤ v2) → ((v2 = v1 → am_AW lay (d + 1) mX11_reversePlayer 16 [.ref o, .int v1, .int (v2 + (nI 1))] [] D Q) ∧
 (¬ (v2 = v1) → (∃ D4, am_MetV lay d mX11_turns [.ref o, .int v1, .int v2] D D4 ∧
 am_AW lay (d + 1) mX11_reversePlayer 16 [.ref o, .int v1, .int (v2 + (nI 1))] [] D4 Q))))))) : am_AW lay (d + 1) mX11_reversePlayer 16 [.ref o, .int v1, .int v2] [] D Q := by
  refine am_iload_n (x := v2) dX11_reversePlayer_16 rfl ?_
  refine am_aload_n (x := o) dX11_reversePlayer_17 rfl ?_
  obtain ⟨x1, hm, hT⟩ := hT
  refine am_callV (av := []) (st := [.int v2]) (b := o) cw_X11_n cl_X11_92 ck_X11_n cs_X11_n ho.1 rfl rfl (Nat.le_of_ble_eq_true rfl) dX11_reversePlayer_18 hm (fun r D9 hr => ?_)
  obtain ⟨rfl, e9⟩ := hr
  rw [e9]
  clear e9
  refine am_icmp_ge (tgt := 41) dX11_reversePlayer_21 (by decide) (fun h => ?_) (fun h => ?_)
  · replace hT := hT.1 h
    refine am_aload_n (x := o) dX11_reversePlayer_41 rfl ?_
    refine am_iload_n (x := v1) dX11_reversePlayer_42 rfl ?_
    obtain ⟨x2, hm, hT⟩ := hT
    refine am_callV (av := [.int v1]) (st := []) (b := o) cw_X11_beaten cl_X11_45 ck_X11_beaten cs_X11_beaten ho.1 rfl rfl (Nat.le_of_ble_eq_true rfl) dX11_reversePlayer_43 hm (fun r D9 hr => ?_)
    obtain ⟨rfl, e9⟩ := hr
    rw [e9]
    clear e9
    obtain ⟨x3, hm, hT⟩ := hT
    refine am_callS (av := [.int x2]) (st := []) cw_X11_count cl_X11_98 ck_X11_count (Nat.le_of_ble_eq_true rfl) dX11_reversePlayer_46 hm (fun r D9 hr => ?_)
    obtain ⟨rfl, e9⟩ := hr
    rw [e9]
    clear e9
    exact am_ireturn (ty := .int) dX11_reversePlayer_49 rfl rfl hT
  · replace hT := hT.2 h
    refine am_iload_n (x := v2) dX11_reversePlayer_24 rfl ?_
    refine am_iload_n (x := v1) dX11_reversePlayer_25 rfl ?_
    refine am_icmp_eq (tgt := 35) dX11_reversePlayer_26 (by decide) (fun h => ?_) (fun h => ?_)
    · replace hT := hT.1 h
      refine am_set (am_iinc (x := v2) (c0 := (nI 1)) dX11_reversePlayer_35 (by decide) rfl (by decide)) (L1 := [.ref o, .int v1, .int (v2 + (nI 1))]) rfl ?_
      refine am_goto (tgt := 16) dX11_reversePlayer_38 (by decide) ?_
      exact hT
    · replace hT := hT.2 h
      refine am_aload_n (x := o) dX11_reversePlayer_29 rfl ?_
      refine am_iload_n (x := v1) dX11_reversePlayer_30 rfl ?_
      refine am_iload_n (x := v2) dX11_reversePlayer_31 rfl ?_
      obtain ⟨D4, hm, hT⟩ := hT
      refine am_callV (av := [.int v1, .int v2]) (st := []) (b := o) cw_X11_turns cl_X11_85 ck_X11_turns cs_X11_turns ho.1 rfl rfl (Nat.le_of_ble_eq_true rfl) dX11_reversePlayer_32 hm (fun r D9 hr => ?_)
      obtain ⟨rfl, e9⟩ := hr
      rw [e9]
      clear e9
      refine am_set (am_iinc (x := v2) (c0 := (nI 1)) dX11_reversePlayer_35 (by decide) rfl (by decide)) (L1 := [.ref o, .int v1, .int (v2 + (nI 1))]) rfl ?_
      refine am_goto (tgt := 16) dX11_reversePlayer_38 (by decide) ?_
      exact hT
set_option maxRecDepth 20000 in
theorem eX11_swapped {lay : List am_L} {d : Nat} {D : am_D} {Q : Option Value → am_D → Prop} {v0 : Int32} {v1 : Int32} {v2 : Int32}  (hT : (∃ x1, am_MetP lay d mX11_has [.int v0, .int v1] D x1 ∧
 ((x1 = nI 0 → (∃ x2, am_MetP lay d mX11_has [.int v0, .int v2] D x2 ∧
 ((x2 = nI 0 → Q (some (.int ((((v0 &&& (((nI 1) <<< (v1 &&& 31)) ^^^ (-1))) &&& (((nI 1) <<< (v2 &&& 31)) ^^^ (-1))) ||| (nI 0)) ||| (nI 0)))) D) ∧
 (¬ (x2 = nI 0) → Q (some (.int ((((v0 &&& (((nI 1) <<< (v1 &&& 31)) ^^^ (-1))) &&& (((nI 1) <<< (v2 &&& 31)) ^^^ (-1))) ||| (nI 0)) ||| ((nI 1) <<< (v1 &&& 31))))) D)))) ∧
 (¬ (x1 = nI 0) → (∃ x3, am_MetP lay d mX11_has [.int v0, .int v2] D x3 ∧
 ((x3 = nI 0 → Q (some (.int ((((v0 &&& (((nI 1) <<< (v1 &&& 31)) ^^^ (-1))) &&& (((nI 1) <<< (v2 &&& 31)) ^^^ (-1))) ||| ((nI 1) <<< (v2 &&& 31))) ||| (nI 0)))) D) ∧
 (¬ (x3 = nI 0) → Q (some (.int ((((v0 &&& (((nI 1) <<< (v1 &&& 31)) ^^^ (-1))) &&& (((nI 1) <<< (v2 &&& 31)) ^^^ (-1))) ||| ((nI 1) <<< (v2 &&& 31))) ||| ((nI 1) <<< (v1 &&& 31))))) D))))))) : am_Met lay (d + 1) mX11_swapped [.int v0, .int v1, .int v2] D Q := by
  refine am_enter (by decide +kernel) rfl (Nat.le_of_ble_eq_true rfl) ?_
  show am_AW lay (d + 1) mX11_swapped 0 [.int v0, .int v1, .int v2, .null] [] D Q
  refine am_iload_n (x := v0) dX11_swapped_0 rfl ?_
  refine am_iconst (v := (nI 1)) dX11_swapped_1 (by decide) ?_
  refine am_iload_n (x := v1) dX11_swapped_2 rfl ?_
  refine am_ishl dX11_swapped_3 ?_
  refine am_iconst (v := (-1)) dX11_swapped_4 (by decide) ?_
  refine am_ixor dX11_swapped_5 ?_
  refine am_iand dX11_swapped_6 ?_
  refine am_iconst (v := (nI 1)) dX11_swapped_7 (by decide) ?_
  refine am_iload_n (x := v2) dX11_swapped_8 rfl ?_
  refine am_ishl dX11_swapped_9 ?_
  refine am_iconst (v := (-1)) dX11_swapped_10 (by decide) ?_
  refine am_ixor dX11_swapped_11 ?_
  refine am_iand dX11_swapped_12 ?_
  refine am_set (am_istore_n dX11_swapped_13 (by decide)) (L1 := [.int v0, .int v1, .int v2, .int ((v0 &&& (((nI 1) <<< (v1 &&& 31)) ^^^ (-1))) &&& (((nI 1) <<< (v2 &&& 31)) ^^^ (-1)))]) rfl ?_
  refine am_iload_n (x := ((v0 &&& (((nI 1) <<< (v1 &&& 31)) ^^^ (-1))) &&& (((nI 1) <<< (v2 &&& 31)) ^^^ (-1)))) dX11_swapped_14 rfl ?_
  refine am_iload_n (x := v0) dX11_swapped_15 rfl ?_
  refine am_iload_n (x := v1) dX11_swapped_16 rfl ?_
  obtain ⟨x1, hm, hT⟩ := hT
  refine am_callS (av := [.int v0, .int v1]) (st := [.int ((v0 &&& (((nI 1) <<< (v1 &&& 31)) ^^^ (-1))) &&& (((nI 1) <<< (v2 &&& 31)) ^^^ (-1)))]) cw_X11_has cl_X11_49 ck_X11_has (Nat.le_of_ble_eq_true rfl) dX11_swapped_17 hm (fun r D9 hr => ?_)
  obtain ⟨rfl, e9⟩ := hr
  rw [e9]
  clear e9
  refine am_if_eq (tgt := 29) dX11_swapped_20 (by decide) (fun h => ?_) (fun h => ?_)
  · replace hT := hT.1 h
    refine am_iconst (v := (nI 0)) dX11_swapped_29 (by decide) ?_
    refine am_ior dX11_swapped_30 ?_
    refine am_iload_n (x := v0) dX11_swapped_31 rfl ?_
    refine am_iload_n (x := v2) dX11_swapped_32 rfl ?_
    obtain ⟨x2, hm, hT⟩ := hT
    refine am_callS (av := [.int v0, .int v2]) (st := [.int (((v0 &&& (((nI 1) <<< (v1 &&& 31)) ^^^ (-1))) &&& (((nI 1) <<< (v2 &&& 31)) ^^^ (-1))) ||| (nI 0))]) cw_X11_has cl_X11_49 ck_X11_has (Nat.le_of_ble_eq_true rfl) dX11_swapped_33 hm (fun r D9 hr => ?_)
    obtain ⟨rfl, e9⟩ := hr
    rw [e9]
    clear e9
    refine am_if_eq (tgt := 45) dX11_swapped_36 (by decide) (fun h => ?_) (fun h => ?_)
    · replace hT := hT.1 h
      refine am_iconst (v := (nI 0)) dX11_swapped_45 (by decide) ?_
      refine am_ior dX11_swapped_46 ?_
      exact am_ireturn (ty := .int) dX11_swapped_47 rfl rfl hT
    · replace hT := hT.2 h
      refine am_iconst (v := (nI 1)) dX11_swapped_39 (by decide) ?_
      refine am_iload_n (x := v1) dX11_swapped_40 rfl ?_
      refine am_ishl dX11_swapped_41 ?_
      refine am_goto (tgt := 46) dX11_swapped_42 (by decide) ?_
      refine am_ior dX11_swapped_46 ?_
      exact am_ireturn (ty := .int) dX11_swapped_47 rfl rfl hT
  · replace hT := hT.2 h
    refine am_iconst (v := (nI 1)) dX11_swapped_23 (by decide) ?_
    refine am_iload_n (x := v2) dX11_swapped_24 rfl ?_
    refine am_ishl dX11_swapped_25 ?_
    refine am_goto (tgt := 30) dX11_swapped_26 (by decide) ?_
    refine am_ior dX11_swapped_30 ?_
    refine am_iload_n (x := v0) dX11_swapped_31 rfl ?_
    refine am_iload_n (x := v2) dX11_swapped_32 rfl ?_
    obtain ⟨x3, hm, hT⟩ := hT
    refine am_callS (av := [.int v0, .int v2]) (st := [.int (((v0 &&& (((nI 1) <<< (v1 &&& 31)) ^^^ (-1))) &&& (((nI 1) <<< (v2 &&& 31)) ^^^ (-1))) ||| ((nI 1) <<< (v2 &&& 31)))]) cw_X11_has cl_X11_49 ck_X11_has (Nat.le_of_ble_eq_true rfl) dX11_swapped_33 hm (fun r D9 hr => ?_)
    obtain ⟨rfl, e9⟩ := hr
    rw [e9]
    clear e9
    refine am_if_eq (tgt := 45) dX11_swapped_36 (by decide) (fun h => ?_) (fun h => ?_)
    · replace hT := hT.1 h
      refine am_iconst (v := (nI 0)) dX11_swapped_45 (by decide) ?_
      refine am_ior dX11_swapped_46 ?_
      exact am_ireturn (ty := .int) dX11_swapped_47 rfl rfl hT
    · replace hT := hT.2 h
      refine am_iconst (v := (nI 1)) dX11_swapped_39 (by decide) ?_
      refine am_iload_n (x := v1) dX11_swapped_40 rfl ?_
      refine am_ishl dX11_swapped_41 ?_
      refine am_goto (tgt := 46) dX11_swapped_42 (by decide) ?_
      refine am_ior dX11_swapped_46 ?_
      exact am_ireturn (ty := .int) dX11_swapped_47 rfl rfl hT
set_option maxRecDepth 20000 in
theorem eX11_exchange {lay : List am_L} {d : Nat} {D : am_D} {Q : Option Value → am_D → Prop} {o : Nat} {v1 : Int32} {v2 : Int32} (ho : isX11 lay o) (hT : (∃ x1, am_MetP lay d mX11_isPlayer [.ref o, .int v1] D x1 ∧
 ((x1 = nI 0 → Q (some (.int (-1))) D) ∧
 (¬ (x1 = nI 0) → (∃ x2, am_MetP lay d mX11_isPlayer [.ref o, .int v2] D x2 ∧
 ((¬ x2 = nI 0 → (∃ D3, am_MetV lay d mX11_keeps [.ref o] D D3 ∧
 (vp_in ((nI 1) + v1) 111 ∧ (vp_in ((nI 1) + v2) 111 ∧ (vp_in ((nI 1) + v1) 111 ∧ ∀ D4, D4 = am_up D3 (o + 1) (Int32.toNatClampNeg ((nI 1) + v1)) (D3 (o + 1) (Int32.toNatClampNeg ((nI 1) + v2))) →
 (vp_in ((nI 1) + v2) 111 ∧ ∀ D5, D5 = am_up D4 (o + 1) (Int32.toNatClampNeg ((nI 1) + v2)) (D3 (o + 1) (Int32.toNatClampNeg ((nI 1) + v1))) →
 am_AW lay (d + 1) mX11_exchange 59 [.ref o, .int v1, .int v2, .int (D3 (o + 1) (Int32.toNatClampNeg ((nI 1) + v1))), .int (nI 0), .null] [] D5 Q)))))) ∧
 (¬ (¬ x2 = nI 0) → Q (some (.int (-1))) D))))))) : am_Met lay (d + 1) mX11_exchange [.ref o, .int v1, .int v2] D Q := by
  refine am_enter (by decide +kernel) rfl (Nat.le_of_ble_eq_true rfl) ?_
  show am_AW lay (d + 1) mX11_exchange 0 [.ref o, .int v1, .int v2, .null, .null, .null] [] D Q
  refine am_aload_n (x := o) dX11_exchange_0 rfl ?_
  refine am_iload_n (x := v1) dX11_exchange_1 rfl ?_
  obtain ⟨x1, hm, hT⟩ := hT
  refine am_callV (av := [.int v1]) (st := []) (b := o) cw_X11_isPlayer cl_X11_57 ck_X11_isPlayer cs_X11_isPlayer ho.1 rfl rfl (Nat.le_of_ble_eq_true rfl) dX11_exchange_2 hm (fun r D9 hr => ?_)
  obtain ⟨rfl, e9⟩ := hr
  rw [e9]
  clear e9
  refine am_if_eq (tgt := 16) dX11_exchange_5 (by decide) (fun h => ?_) (fun h => ?_)
  · replace hT := hT.1 h
    refine am_iconst (v := (-1)) dX11_exchange_16 (by decide) ?_
    exact am_ireturn (ty := .int) dX11_exchange_17 rfl rfl hT
  · replace hT := hT.2 h
    refine am_aload_n (x := o) dX11_exchange_8 rfl ?_
    refine am_iload_n (x := v2) dX11_exchange_9 rfl ?_
    obtain ⟨x2, hm, hT⟩ := hT
    refine am_callV (av := [.int v2]) (st := []) (b := o) cw_X11_isPlayer cl_X11_57 ck_X11_isPlayer cs_X11_isPlayer ho.1 rfl rfl (Nat.le_of_ble_eq_true rfl) dX11_exchange_10 hm (fun r D9 hr => ?_)
    obtain ⟨rfl, e9⟩ := hr
    rw [e9]
    clear e9
    refine am_if_ne (tgt := 18) dX11_exchange_13 (by decide) (fun h => ?_) (fun h => ?_)
    · replace hT := hT.1 h
      refine am_aload_n (x := o) dX11_exchange_18 rfl ?_
      obtain ⟨D3, hm, hT⟩ := hT
      refine am_callV (av := []) (st := []) (b := o) cw_X11_keeps cl_X11_76 ck_X11_keeps cs_X11_keeps ho.1 rfl rfl (Nat.le_of_ble_eq_true rfl) dX11_exchange_19 hm (fun r D9 hr => ?_)
      obtain ⟨rfl, e9⟩ := hr
      rw [e9]
      clear e9
      refine am_aload_n (x := o) dX11_exchange_22 rfl ?_
      refine am_getR dX11_exchange_23 fw_X11_7 ho.1 rfl ?_
      refine am_iconst (v := (nI 1)) dX11_exchange_26 (by decide) ?_
      refine am_iload_n (x := v1) dX11_exchange_27 rfl ?_
      refine am_iadd dX11_exchange_28 ?_
      refine am_iald dX11_exchange_29 ho.2.1 hT.1 ?_
      replace hT := hT.2
      refine am_set (am_istore_n dX11_exchange_30 (by decide)) (L1 := [.ref o, .int v1, .int v2, .int (D3 (o + 1) (Int32.toNatClampNeg ((nI 1) + v1))), .null, .null]) rfl ?_
      refine am_aload_n (x := o) dX11_exchange_31 rfl ?_
      refine am_getR dX11_exchange_32 fw_X11_7 ho.1 rfl ?_
      refine am_iconst (v := (nI 1)) dX11_exchange_35 (by decide) ?_
      refine am_iload_n (x := v1) dX11_exchange_36 rfl ?_
      refine am_iadd dX11_exchange_37 ?_
      refine am_aload_n (x := o) dX11_exchange_38 rfl ?_
      refine am_getR dX11_exchange_39 fw_X11_7 ho.1 rfl ?_
      refine am_iconst (v := (nI 1)) dX11_exchange_42 (by decide) ?_
      refine am_iload_n (x := v2) dX11_exchange_43 rfl ?_
      refine am_iadd dX11_exchange_44 ?_
      refine am_iald dX11_exchange_45 ho.2.1 hT.1 ?_
      replace hT := hT.2
      refine am_iast dX11_exchange_46 ho.2.1 hT.1 ?_
      obtain ⟨D4, hD⟩ : ∃ z, z = am_up D3 (o + 1) (Int32.toNatClampNeg ((nI 1) + v1)) (D3 (o + 1) (Int32.toNatClampNeg ((nI 1) + v2))) := ⟨_, rfl⟩
      rw [← hD]
      replace hT := hT.2 D4 hD
      clear hD
      refine am_aload_n (x := o) dX11_exchange_47 rfl ?_
      refine am_getR dX11_exchange_48 fw_X11_7 ho.1 rfl ?_
      refine am_iconst (v := (nI 1)) dX11_exchange_51 (by decide) ?_
      refine am_iload_n (x := v2) dX11_exchange_52 rfl ?_
      refine am_iadd dX11_exchange_53 ?_
      refine am_iload_n (x := (D3 (o + 1) (Int32.toNatClampNeg ((nI 1) + v1)))) dX11_exchange_54 rfl ?_
      refine am_iast dX11_exchange_55 ho.2.1 hT.1 ?_
      obtain ⟨D5, hD⟩ : ∃ z, z = am_up D4 (o + 1) (Int32.toNatClampNeg ((nI 1) + v2)) (D3 (o + 1) (Int32.toNatClampNeg ((nI 1) + v1))) := ⟨_, rfl⟩
      rw [← hD]
      replace hT := hT.2 D5 hD
      clear hD
      refine am_iconst (v := (nI 0)) dX11_exchange_56 (by decide) ?_
      refine am_set (am_istore dX11_exchange_57 (by decide)) (L1 := [.ref o, .int v1, .int v2, .int (D3 (o + 1) (Int32.toNatClampNeg ((nI 1) + v1))), .int (nI 0), .null]) rfl ?_
      exact hT
    · replace hT := hT.2 h
      refine am_iconst (v := (-1)) dX11_exchange_16 (by decide) ?_
      exact am_ireturn (ty := .int) dX11_exchange_17 rfl rfl hT
set_option maxRecDepth 20000 in
theorem rX11_exchange_59 {lay : List am_L} {d : Nat} {D : am_D} {Q : Option Value → am_D → Prop} {o : Nat} {v1 : Int32} {v2 : Int32} {v3 : Int32} {v4 : Int32} (ho : isX11 lay o) (hT : (∃ x1, am_MetP lay d mX11_n [.ref o] D x1 ∧
 ((x1 ≤ v4 → am_AW lay (d + 1) mX11_exchange 100 [.ref o, .int v1, .int v2, .int v3, .int (nI 0), .null] [] D Q) ∧
 (¬ (x1 ≤ v4) → (vp_in ((nI 1) + v4) 111 ∧ (∃ x2, am_MetP lay d mX11_swapped [.int (D (o + 1) (Int32.toNatClampNeg ((nI 1) + v4))), .int v1, .int v2] D x2 ∧
 (vp_in ((nI 1) + v4) 111 ∧ ∀ D3, D3 = am_up D (o + 1) (Int32.toNatClampNeg ((nI 1) + v4)) x2 →
 am_AW lay (d + 1) mX11_exchange 59 [.ref o, .int v1, .int v2, .int v3, .int (v4 + (nI 1)), .null] [] D3 Q))))))) : am_AW lay (d + 1) mX11_exchange 59 [.ref o, .int v1, .int v2, .int v3, .int v4, .null] [] D Q := by
  refine am_iload (x := v4) dX11_exchange_59 rfl ?_
  refine am_aload_n (x := o) dX11_exchange_61 rfl ?_
  obtain ⟨x1, hm, hT⟩ := hT
  refine am_callV (av := []) (st := [.int v4]) (b := o) cw_X11_n cl_X11_92 ck_X11_n cs_X11_n ho.1 rfl rfl (Nat.le_of_ble_eq_true rfl) dX11_exchange_62 hm (fun r D9 hr => ?_)
  obtain ⟨rfl, e9⟩ := hr
  rw [e9]
  clear e9
  refine am_icmp_ge (tgt := 97) dX11_exchange_65 (by decide) (fun h => ?_) (fun h => ?_)
  · replace hT := hT.1 h
    refine am_iconst (v := (nI 0)) dX11_exchange_97 (by decide) ?_
    refine am_set (am_istore dX11_exchange_98 (by decide)) (L1 := [.ref o, .int v1, .int v2, .int v3, .int (nI 0), .null]) rfl ?_
    exact hT
  · replace hT := hT.2 h
    refine am_aload_n (x := o) dX11_exchange_68 rfl ?_
    refine am_getR dX11_exchange_69 fw_X11_7 ho.1 rfl ?_
    refine am_iconst (v := (nI 1)) dX11_exchange_72 (by decide) ?_
    refine am_iload (x := v4) dX11_exchange_73 rfl ?_
    refine am_iadd dX11_exchange_75 ?_
    refine am_aload_n (x := o) dX11_exchange_76 rfl ?_
    refine am_getR dX11_exchange_77 fw_X11_7 ho.1 rfl ?_
    refine am_iconst (v := (nI 1)) dX11_exchange_80 (by decide) ?_
    refine am_iload (x := v4) dX11_exchange_81 rfl ?_
    refine am_iadd dX11_exchange_83 ?_
    refine am_iald dX11_exchange_84 ho.2.1 hT.1 ?_
    replace hT := hT.2
    refine am_iload_n (x := v1) dX11_exchange_85 rfl ?_
    refine am_iload_n (x := v2) dX11_exchange_86 rfl ?_
    obtain ⟨x2, hm, hT⟩ := hT
    refine am_callS (av := [.int (D (o + 1) (Int32.toNatClampNeg ((nI 1) + v4))), .int v1, .int v2]) (st := [.int ((nI 1) + v4), .ref (o + 1)]) cw_X11_swapped cl_X11_101 ck_X11_swapped (Nat.le_of_ble_eq_true rfl) dX11_exchange_87 hm (fun r D9 hr => ?_)
    obtain ⟨rfl, e9⟩ := hr
    rw [e9]
    clear e9
    refine am_iast dX11_exchange_90 ho.2.1 hT.1 ?_
    obtain ⟨D3, hD⟩ : ∃ z, z = am_up D (o + 1) (Int32.toNatClampNeg ((nI 1) + v4)) x2 := ⟨_, rfl⟩
    rw [← hD]
    replace hT := hT.2 D3 hD
    clear hD
    refine am_set (am_iinc (x := v4) (c0 := (nI 1)) dX11_exchange_91 (by decide) rfl (by decide)) (L1 := [.ref o, .int v1, .int v2, .int v3, .int (v4 + (nI 1)), .null]) rfl ?_
    refine am_goto (tgt := 59) dX11_exchange_94 (by decide) ?_
    exact hT
set_option maxRecDepth 20000 in
theorem rX11_exchange_100 {lay : List am_L} {d : Nat} {D : am_D} {Q : Option Value → am_D → Prop} {o : Nat} {v1 : Int32} {v2 : Int32} {v3 : Int32} {v4 : Int32} (ho : isX11 lay o) (hT : (∃ x1, am_MetP lay d mX11_n [.ref o] D x1 ∧
 ((x1 ≤ v4 → (∃ x2, am_MetP lay d mX11_beaten [.ref o, .int v1] D x2 ∧
 (∃ x3, am_MetP lay d mX11_count [.int x2] D x3 ∧
 Q (some (.int x3)) D))) ∧
 (¬ (x1 ≤ v4) → ((v4 = v1 → am_AW lay (d + 1) mX11_exchange 100 [.ref o, .int v1, .int v2, .int v3, .int (v4 + (nI 1)), .null] [] D Q) ∧
 (¬ (v4 = v1) → ((v4 = v2 → am_AW lay (d + 1) mX11_exchange 100 [.ref o, .int v1, .int v2, .int v3, .int (v4 + (nI 1)), .null] [] D Q) ∧
 (¬ (v4 = v2) → (∃ x4, am_MetP lay d mX11_at [.int v1, .int v4] D x4 ∧
 (vp_in x4 111 ∧ (∃ x5, am_MetP lay d mX11_at [.int v1, .int v4] D x5 ∧
 (∃ x6, am_MetP lay d mX11_at [.int v2, .int v4] D x6 ∧
 (vp_in x6 111 ∧ (vp_in x5 111 ∧ ∀ D7, D7 = am_up D (o + 1) (Int32.toNatClampNeg x5) (D (o + 1) (Int32.toNatClampNeg x6)) →
 (∃ x8, am_MetP lay d mX11_at [.int v4, .int v1] D7 x8 ∧
 (∃ x9, am_MetP lay d mX11_at [.int v2, .int v4] D7 x9 ∧
 (vp_in x9 111 ∧ (vp_in x8 111 ∧ ∀ D10, D10 = am_up D7 (o + 1) (Int32.toNatClampNeg x8) (D7 (o + 1) (Int32.toNatClampNeg x9)) →
 (∃ x11, am_MetP lay d mX11_at [.int v2, .int v4] D10 x11 ∧
 (vp_in x11 111 ∧ ∀ D12, D12 = am_up D10 (o + 1) (Int32.toNatClampNeg x11) (D (o + 1) (Int32.toNatClampNeg x4)) →
 (∃ x13, am_MetP lay d mX11_at [.int v4, .int v2] D12 x13 ∧
 (vp_in x13 111 ∧ ∀ D14, D14 = am_up D12 (o + 1) (Int32.toNatClampNeg x13) (D (o + 1) (Int32.toNatClampNeg x4)) →
 am_AW lay (d + 1) mX11_exchange 100 [.ref o, .int v1, .int v2, .int v3, .int (v4 + (nI 1)), .null] [] D14 Q)))))))))))))))))))))) : am_AW lay (d + 1) mX11_exchange 100 [.ref o, .int v1, .int v2, .int v3, .int v4, .null] [] D Q := by
  refine am_iload (x := v4) dX11_exchange_100 rfl ?_
  refine am_aload_n (x := o) dX11_exchange_102 rfl ?_
  obtain ⟨x1, hm, hT⟩ := hT
  refine am_callV (av := []) (st := [.int v4]) (b := o) cw_X11_n cl_X11_92 ck_X11_n cs_X11_n ho.1 rfl rfl (Nat.le_of_ble_eq_true rfl) dX11_exchange_103 hm (fun r D9 hr => ?_)
  obtain ⟨rfl, e9⟩ := hr
  rw [e9]
  clear e9
  refine am_icmp_ge (tgt := 210) dX11_exchange_106 (by decide) (fun h => ?_) (fun h => ?_)
  · replace hT := hT.1 h
    refine am_aload_n (x := o) dX11_exchange_210 rfl ?_
    refine am_iload_n (x := v1) dX11_exchange_211 rfl ?_
    obtain ⟨x2, hm, hT⟩ := hT
    refine am_callV (av := [.int v1]) (st := []) (b := o) cw_X11_beaten cl_X11_45 ck_X11_beaten cs_X11_beaten ho.1 rfl rfl (Nat.le_of_ble_eq_true rfl) dX11_exchange_212 hm (fun r D9 hr => ?_)
    obtain ⟨rfl, e9⟩ := hr
    rw [e9]
    clear e9
    obtain ⟨x3, hm, hT⟩ := hT
    refine am_callS (av := [.int x2]) (st := []) cw_X11_count cl_X11_98 ck_X11_count (Nat.le_of_ble_eq_true rfl) dX11_exchange_215 hm (fun r D9 hr => ?_)
    obtain ⟨rfl, e9⟩ := hr
    rw [e9]
    clear e9
    exact am_ireturn (ty := .int) dX11_exchange_218 rfl rfl hT
  · replace hT := hT.2 h
    refine am_iload (x := v4) dX11_exchange_109 rfl ?_
    refine am_iload_n (x := v1) dX11_exchange_111 rfl ?_
    refine am_icmp_eq (tgt := 204) dX11_exchange_112 (by decide) (fun h => ?_) (fun h => ?_)
    · replace hT := hT.1 h
      refine am_set (am_iinc (x := v4) (c0 := (nI 1)) dX11_exchange_204 (by decide) rfl (by decide)) (L1 := [.ref o, .int v1, .int v2, .int v3, .int (v4 + (nI 1)), .null]) rfl ?_
      refine am_goto (tgt := 100) dX11_exchange_207 (by decide) ?_
      exact hT
    · replace hT := hT.2 h
      refine am_iload (x := v4) dX11_exchange_115 rfl ?_
      refine am_iload_n (x := v2) dX11_exchange_117 rfl ?_
      refine am_icmp_eq (tgt := 204) dX11_exchange_118 (by decide) (fun h => ?_) (fun h => ?_)
      · replace hT := hT.1 h
        refine am_set (am_iinc (x := v4) (c0 := (nI 1)) dX11_exchange_204 (by decide) rfl (by decide)) (L1 := [.ref o, .int v1, .int v2, .int v3, .int (v4 + (nI 1)), .null]) rfl ?_
        refine am_goto (tgt := 100) dX11_exchange_207 (by decide) ?_
        exact hT
      · replace hT := hT.2 h
        refine am_aload_n (x := o) dX11_exchange_121 rfl ?_
        refine am_getR dX11_exchange_122 fw_X11_7 ho.1 rfl ?_
        refine am_iload_n (x := v1) dX11_exchange_125 rfl ?_
        refine am_iload (x := v4) dX11_exchange_126 rfl ?_
        obtain ⟨x4, hm, hT⟩ := hT
        refine am_callS (av := [.int v1, .int v4]) (st := [.ref (o + 1)]) cw_X11_at cl_X11_61 ck_X11_at (Nat.le_of_ble_eq_true rfl) dX11_exchange_128 hm (fun r D9 hr => ?_)
        obtain ⟨rfl, e9⟩ := hr
        rw [e9]
        clear e9
        refine am_iald dX11_exchange_131 ho.2.1 hT.1 ?_
        replace hT := hT.2
        refine am_set (am_istore dX11_exchange_132 (by decide)) (L1 := [.ref o, .int v1, .int v2, .int v3, .int v4, .int (D (o + 1) (Int32.toNatClampNeg x4))]) rfl ?_
        refine am_aload_n (x := o) dX11_exchange_134 rfl ?_
        refine am_getR dX11_exchange_135 fw_X11_7 ho.1 rfl ?_
        refine am_iload_n (x := v1) dX11_exchange_138 rfl ?_
        refine am_iload (x := v4) dX11_exchange_139 rfl ?_
        obtain ⟨x5, hm, hT⟩ := hT
        refine am_callS (av := [.int v1, .int v4]) (st := [.ref (o + 1)]) cw_X11_at cl_X11_61 ck_X11_at (Nat.le_of_ble_eq_true rfl) dX11_exchange_141 hm (fun r D9 hr => ?_)
        obtain ⟨rfl, e9⟩ := hr
        rw [e9]
        clear e9
        refine am_aload_n (x := o) dX11_exchange_144 rfl ?_
        refine am_getR dX11_exchange_145 fw_X11_7 ho.1 rfl ?_
        refine am_iload_n (x := v2) dX11_exchange_148 rfl ?_
        refine am_iload (x := v4) dX11_exchange_149 rfl ?_
        obtain ⟨x6, hm, hT⟩ := hT
        refine am_callS (av := [.int v2, .int v4]) (st := [.ref (o + 1), .int x5, .ref (o + 1)]) cw_X11_at cl_X11_61 ck_X11_at (Nat.le_of_ble_eq_true rfl) dX11_exchange_151 hm (fun r D9 hr => ?_)
        obtain ⟨rfl, e9⟩ := hr
        rw [e9]
        clear e9
        refine am_iald dX11_exchange_154 ho.2.1 hT.1 ?_
        replace hT := hT.2
        refine am_iast dX11_exchange_155 ho.2.1 hT.1 ?_
        obtain ⟨D7, hD⟩ : ∃ z, z = am_up D (o + 1) (Int32.toNatClampNeg x5) (D (o + 1) (Int32.toNatClampNeg x6)) := ⟨_, rfl⟩
        rw [← hD]
        replace hT := hT.2 D7 hD
        clear hD
        refine am_aload_n (x := o) dX11_exchange_156 rfl ?_
        refine am_getR dX11_exchange_157 fw_X11_7 ho.1 rfl ?_
        refine am_iload (x := v4) dX11_exchange_160 rfl ?_
        refine am_iload_n (x := v1) dX11_exchange_162 rfl ?_
        obtain ⟨x8, hm, hT⟩ := hT
        refine am_callS (av := [.int v4, .int v1]) (st := [.ref (o + 1)]) cw_X11_at cl_X11_61 ck_X11_at (Nat.le_of_ble_eq_true rfl) dX11_exchange_163 hm (fun r D9 hr => ?_)
        obtain ⟨rfl, e9⟩ := hr
        rw [e9]
        clear e9
        refine am_aload_n (x := o) dX11_exchange_166 rfl ?_
        refine am_getR dX11_exchange_167 fw_X11_7 ho.1 rfl ?_
        refine am_iload_n (x := v2) dX11_exchange_170 rfl ?_
        refine am_iload (x := v4) dX11_exchange_171 rfl ?_
        obtain ⟨x9, hm, hT⟩ := hT
        refine am_callS (av := [.int v2, .int v4]) (st := [.ref (o + 1), .int x8, .ref (o + 1)]) cw_X11_at cl_X11_61 ck_X11_at (Nat.le_of_ble_eq_true rfl) dX11_exchange_173 hm (fun r D9 hr => ?_)
        obtain ⟨rfl, e9⟩ := hr
        rw [e9]
        clear e9
        refine am_iald dX11_exchange_176 ho.2.1 hT.1 ?_
        replace hT := hT.2
        refine am_iast dX11_exchange_177 ho.2.1 hT.1 ?_
        obtain ⟨D10, hD⟩ : ∃ z, z = am_up D7 (o + 1) (Int32.toNatClampNeg x8) (D7 (o + 1) (Int32.toNatClampNeg x9)) := ⟨_, rfl⟩
        rw [← hD]
        replace hT := hT.2 D10 hD
        clear hD
        refine am_aload_n (x := o) dX11_exchange_178 rfl ?_
        refine am_getR dX11_exchange_179 fw_X11_7 ho.1 rfl ?_
        refine am_iload_n (x := v2) dX11_exchange_182 rfl ?_
        refine am_iload (x := v4) dX11_exchange_183 rfl ?_
        obtain ⟨x11, hm, hT⟩ := hT
        refine am_callS (av := [.int v2, .int v4]) (st := [.ref (o + 1)]) cw_X11_at cl_X11_61 ck_X11_at (Nat.le_of_ble_eq_true rfl) dX11_exchange_185 hm (fun r D9 hr => ?_)
        obtain ⟨rfl, e9⟩ := hr
        rw [e9]
        clear e9
        refine am_iload (x := (D (o + 1) (Int32.toNatClampNeg x4))) dX11_exchange_188 rfl ?_
        refine am_iast dX11_exchange_190 ho.2.1 hT.1 ?_
        obtain ⟨D12, hD⟩ : ∃ z, z = am_up D10 (o + 1) (Int32.toNatClampNeg x11) (D (o + 1) (Int32.toNatClampNeg x4)) := ⟨_, rfl⟩
        rw [← hD]
        replace hT := hT.2 D12 hD
        clear hD
        refine am_aload_n (x := o) dX11_exchange_191 rfl ?_
        refine am_getR dX11_exchange_192 fw_X11_7 ho.1 rfl ?_
        refine am_iload (x := v4) dX11_exchange_195 rfl ?_
        refine am_iload_n (x := v2) dX11_exchange_197 rfl ?_
        obtain ⟨x13, hm, hT⟩ := hT
        refine am_callS (av := [.int v4, .int v2]) (st := [.ref (o + 1)]) cw_X11_at cl_X11_61 ck_X11_at (Nat.le_of_ble_eq_true rfl) dX11_exchange_198 hm (fun r D9 hr => ?_)
        obtain ⟨rfl, e9⟩ := hr
        rw [e9]
        clear e9
        refine am_iload (x := (D (o + 1) (Int32.toNatClampNeg x4))) dX11_exchange_201 rfl ?_
        refine am_iast dX11_exchange_203 ho.2.1 hT.1 ?_
        obtain ⟨D14, hD⟩ : ∃ z, z = am_up D12 (o + 1) (Int32.toNatClampNeg x13) (D (o + 1) (Int32.toNatClampNeg x4)) := ⟨_, rfl⟩
        rw [← hD]
        replace hT := hT.2 D14 hD
        clear hD
        refine am_set (am_iinc (x := v4) (c0 := (nI 1)) dX11_exchange_204 (by decide) rfl (by decide)) (L1 := [.ref o, .int v1, .int v2, .int v3, .int (v4 + (nI 1)), .int (D (o + 1) (Int32.toNatClampNeg x4))]) rfl ?_
        refine am_goto (tgt := 100) dX11_exchange_207 (by decide) ?_
        refine am_drop [5] (L1 := [.ref o, .int v1, .int v2, .int v3, .int (v4 + (nI 1)), .null]) rfl ?_
        exact hT
set_option maxRecDepth 20000 in
theorem eX11_fails {lay : List am_L} {d : Nat} {D : am_D} {Q : Option Value → am_D → Prop} {o : Nat} (ho : isX11 lay o) (hT : am_AW lay (d + 1) mX11_fails 6 [.ref o, .int (nI 0), .int (nI 0), .int (nI 1), .null, .null, .null] [] D Q) : am_Met lay (d + 1) mX11_fails [.ref o] D Q := by
  refine am_enter (by decide +kernel) rfl (Nat.le_of_ble_eq_true rfl) ?_
  show am_AW lay (d + 1) mX11_fails 0 [.ref o, .null, .null, .null, .null, .null, .null] [] D Q
  refine am_iconst (v := (nI 0)) dX11_fails_0 (by decide) ?_
  refine am_set (am_istore_n dX11_fails_1 (by decide)) (L1 := [.ref o, .int (nI 0), .null, .null, .null, .null, .null]) rfl ?_
  refine am_iconst (v := (nI 0)) dX11_fails_2 (by decide) ?_
  refine am_set (am_istore_n dX11_fails_3 (by decide)) (L1 := [.ref o, .int (nI 0), .int (nI 0), .null, .null, .null, .null]) rfl ?_
  refine am_iconst (v := (nI 1)) dX11_fails_4 (by decide) ?_
  refine am_set (am_istore_n dX11_fails_5 (by decide)) (L1 := [.ref o, .int (nI 0), .int (nI 0), .int (nI 1), .null, .null, .null]) rfl ?_
  exact hT
set_option maxRecDepth 20000 in
theorem rX11_fails_6 {lay : List am_L} {d : Nat} {D : am_D} {Q : Option Value → am_D → Prop} {o : Nat} {v1 : Int32} {v2 : Int32} {v3 : Int32} (ho : isX11 lay o) (hT : (((D o 4) < v3 → Q (some (.int (nI 0))) D) ∧
 (¬ ((D o 4) < v3) → am_AW lay (d + 1) mX11_fails 20 [.ref o, .int v1, .int v2, .int v3, .int (-1), .int (nI 0), .null] [] D Q))) : am_AW lay (d + 1) mX11_fails 6 [.ref o, .int v1, .int v2, .int v3, .null, .null, .null] [] D Q := by
  refine am_iload_n (x := v3) dX11_fails_6 rfl ?_
  refine am_aload_n (x := o) dX11_fails_7 rfl ?_
  refine am_getI dX11_fails_8 fw_X11_105 ho.1 rfl ?_
  refine am_icmp_gt (tgt := 141) dX11_fails_11 (by decide) (fun h => ?_) (fun h => ?_)
  · replace hT := hT.1 h
    refine am_iconst (v := (nI 0)) dX11_fails_141 (by decide) ?_
    exact am_ireturn (ty := .int) dX11_fails_142 rfl rfl hT
  · replace hT := hT.2 h
    refine am_iconst (v := (-1)) dX11_fails_14 (by decide) ?_
    refine am_set (am_istore dX11_fails_15 (by decide)) (L1 := [.ref o, .int v1, .int v2, .int v3, .int (-1), .null, .null]) rfl ?_
    refine am_iconst (v := (nI 0)) dX11_fails_17 (by decide) ?_
    refine am_set (am_istore dX11_fails_18 (by decide)) (L1 := [.ref o, .int v1, .int v2, .int v3, .int (-1), .int (nI 0), .null]) rfl ?_
    exact hT
set_option maxRecDepth 20000 in
theorem rX11_fails_20 {lay : List am_L} {d : Nat} {D : am_D} {Q : Option Value → am_D → Prop} {o : Nat} {v1 : Int32} {v2 : Int32} {v3 : Int32} {v4 : Int32} {v5 : Int32} (ho : isX11 lay o) (hT : (((D o 4) ≤ v5 → (vp_in v4 10 ∧ (((v1 + (D (o + 4) (Int32.toNatClampNeg v4))) < ((v3 * (v3 - (nI 1))) / (nI 2)) → Q (some (.int v3)) D) ∧
 (¬ ((v1 + (D (o + 4) (Int32.toNatClampNeg v4))) < ((v3 * (v3 - (nI 1))) / (nI 2))) → ((¬ v3 = (D o 4) → am_AW lay (d + 1) mX11_fails 6 [.ref o, .int (v1 + (D (o + 4) (Int32.toNatClampNeg v4))), .int (v2 ||| ((nI 1) <<< (v4 &&& 31))), .int (v3 + (nI 1)), .null, .null, .null] [] D Q) ∧
 (¬ (¬ v3 = (D o 4)) → (((v1 + (D (o + 4) (Int32.toNatClampNeg v4))) ≤ ((v3 * (v3 - (nI 1))) / (nI 2)) → am_AW lay (d + 1) mX11_fails 6 [.ref o, .int (v1 + (D (o + 4) (Int32.toNatClampNeg v4))), .int (v2 ||| ((nI 1) <<< (v4 &&& 31))), .int (v3 + (nI 1)), .null, .null, .null] [] D Q) ∧
 (¬ ((v1 + (D (o + 4) (Int32.toNatClampNeg v4))) ≤ ((v3 * (v3 - (nI 1))) / (nI 2))) → Q (some (.int v3)) D)))))))) ∧
 (¬ ((D o 4) ≤ v5) → (∃ x1, am_MetP lay d mX11_has [.int v2, .int v5] D x1 ∧
 ((¬ x1 = nI 0 → (((nI 0) = nI 0 → am_AW lay (d + 1) mX11_fails 20 [.ref o, .int v1, .int v2, .int v3, .int v4, .int (v5 + (nI 1)), .null] [] D Q) ∧
 (¬ ((nI 0) = nI 0) → am_AW lay (d + 1) mX11_fails 20 [.ref o, .int v1, .int v2, .int v3, .int v5, .int (v5 + (nI 1)), .null] [] D Q))) ∧
 (¬ (¬ x1 = nI 0) → ((v4 < nI 0 → (((nI 1) = nI 0 → am_AW lay (d + 1) mX11_fails 20 [.ref o, .int v1, .int v2, .int v3, .int v4, .int (v5 + (nI 1)), .null] [] D Q) ∧
 (¬ ((nI 1) = nI 0) → am_AW lay (d + 1) mX11_fails 20 [.ref o, .int v1, .int v2, .int v3, .int v5, .int (v5 + (nI 1)), .null] [] D Q))) ∧
 (¬ (v4 < nI 0) → (vp_in v5 10 ∧ (vp_in v4 10 ∧ (((D (o + 4) (Int32.toNatClampNeg v4)) ≤ (D (o + 4) (Int32.toNatClampNeg v5)) → (((nI 0) = nI 0 → am_AW lay (d + 1) mX11_fails 20 [.ref o, .int v1, .int v2, .int v3, .int v4, .int (v5 + (nI 1)), .null] [] D Q) ∧
 (¬ ((nI 0) = nI 0) → am_AW lay (d + 1) mX11_fails 20 [.ref o, .int v1, .int v2, .int v3, .int v5, .int (v5 + (nI 1)), .null] [] D Q))) ∧
 (¬ ((D (o + 4) (Int32.toNatClampNeg v4)) ≤ (D (o + 4) (Int32.toNatClampNeg v5))) → (((nI 1) = nI 0 → am_AW lay (d + 1) mX11_fails 20 [.ref o, .int v1, .int v2, .int v3, .int v4, .int (v5 + (nI 1)), .null] [] D Q) ∧
 (¬ ((nI 1) = nI 0) → am_AW lay (d + 1) mX11_fails 20 [.ref o, .int v1, .int v2, .int v3, .int v5, .int (v5 + (nI 1)), .null] [] D Q)))))))))))))) : am_AW lay (d + 1) mX11_fails 20 [.ref o, .int v1, .int v2, .int v3, .int v4, .int v5, .null] [] D Q := by
  refine am_iload (x := v5) dX11_fails_20 rfl ?_
  refine am_aload_n (x := o) dX11_fails_22 rfl ?_
  refine am_getI dX11_fails_23 fw_X11_105 ho.1 rfl ?_
  refine am_icmp_ge (tgt := 87) dX11_fails_26 (by decide) (fun h => ?_) (fun h => ?_)
  · replace hT := hT.1 h
    refine am_iload_n (x := v2) dX11_fails_87 rfl ?_
    refine am_iconst (v := (nI 1)) dX11_fails_88 (by decide) ?_
    refine am_iload (x := v4) dX11_fails_89 rfl ?_
    refine am_ishl dX11_fails_91 ?_
    refine am_ior dX11_fails_92 ?_
    refine am_set (am_istore_n dX11_fails_93 (by decide)) (L1 := [.ref o, .int v1, .int (v2 ||| ((nI 1) <<< (v4 &&& 31))), .int v3, .int v4, .int v5, .null]) rfl ?_
    refine am_iload_n (x := v1) dX11_fails_94 rfl ?_
    refine am_aload_n (x := o) dX11_fails_95 rfl ?_
    refine am_getR dX11_fails_96 fw_X11_19 ho.1 rfl ?_
    refine am_iload (x := v4) dX11_fails_99 rfl ?_
    refine am_iald dX11_fails_101 ho.2.2.2.2.1 hT.1 ?_
    replace hT := hT.2
    refine am_iadd dX11_fails_102 ?_
    refine am_set (am_istore_n dX11_fails_103 (by decide)) (L1 := [.ref o, .int (v1 + (D (o + 4) (Int32.toNatClampNeg v4))), .int (v2 ||| ((nI 1) <<< (v4 &&& 31))), .int v3, .int v4, .int v5, .null]) rfl ?_
    refine am_iload_n (x := v3) dX11_fails_104 rfl ?_
    refine am_iload_n (x := v3) dX11_fails_105 rfl ?_
    refine am_iconst (v := (nI 1)) dX11_fails_106 (by decide) ?_
    refine am_isub dX11_fails_107 ?_
    refine am_imul dX11_fails_108 ?_
    refine am_iconst (v := (nI 2)) dX11_fails_109 (by decide) ?_
    refine am_idiv dX11_fails_110 (by decide) ?_
    refine am_set (am_istore dX11_fails_111 (by decide)) (L1 := [.ref o, .int (v1 + (D (o + 4) (Int32.toNatClampNeg v4))), .int (v2 ||| ((nI 1) <<< (v4 &&& 31))), .int v3, .int v4, .int ((v3 * (v3 - (nI 1))) / (nI 2)), .null]) rfl ?_
    refine am_iload_n (x := (v1 + (D (o + 4) (Int32.toNatClampNeg v4)))) dX11_fails_113 rfl ?_
    refine am_iload (x := ((v3 * (v3 - (nI 1))) / (nI 2))) dX11_fails_114 rfl ?_
    refine am_icmp_lt (tgt := 133) dX11_fails_116 (by decide) (fun h => ?_) (fun h => ?_)
    · replace hT := hT.1 h
      refine am_iload_n (x := v3) dX11_fails_133 rfl ?_
      exact am_ireturn (ty := .int) dX11_fails_134 rfl rfl hT
    · replace hT := hT.2 h
      refine am_iload_n (x := v3) dX11_fails_119 rfl ?_
      refine am_aload_n (x := o) dX11_fails_120 rfl ?_
      refine am_getI dX11_fails_121 fw_X11_105 ho.1 rfl ?_
      refine am_icmp_ne (tgt := 135) dX11_fails_124 (by decide) (fun h => ?_) (fun h => ?_)
      · replace hT := hT.1 h
        refine am_set (am_iinc (x := v3) (c0 := (nI 1)) dX11_fails_135 (by decide) rfl (by decide)) (L1 := [.ref o, .int (v1 + (D (o + 4) (Int32.toNatClampNeg v4))), .int (v2 ||| ((nI 1) <<< (v4 &&& 31))), .int (v3 + (nI 1)), .int v4, .int ((v3 * (v3 - (nI 1))) / (nI 2)), .null]) rfl ?_
        refine am_goto (tgt := 6) dX11_fails_138 (by decide) ?_
        refine am_drop [4, 5] (L1 := [.ref o, .int (v1 + (D (o + 4) (Int32.toNatClampNeg v4))), .int (v2 ||| ((nI 1) <<< (v4 &&& 31))), .int (v3 + (nI 1)), .null, .null, .null]) rfl ?_
        exact hT
      · replace hT := hT.2 h
        refine am_iload_n (x := (v1 + (D (o + 4) (Int32.toNatClampNeg v4)))) dX11_fails_127 rfl ?_
        refine am_iload (x := ((v3 * (v3 - (nI 1))) / (nI 2))) dX11_fails_128 rfl ?_
        refine am_icmp_le (tgt := 135) dX11_fails_130 (by decide) (fun h => ?_) (fun h => ?_)
        · replace hT := hT.1 h
          refine am_set (am_iinc (x := v3) (c0 := (nI 1)) dX11_fails_135 (by decide) rfl (by decide)) (L1 := [.ref o, .int (v1 + (D (o + 4) (Int32.toNatClampNeg v4))), .int (v2 ||| ((nI 1) <<< (v4 &&& 31))), .int (v3 + (nI 1)), .int v4, .int ((v3 * (v3 - (nI 1))) / (nI 2)), .null]) rfl ?_
          refine am_goto (tgt := 6) dX11_fails_138 (by decide) ?_
          refine am_drop [4, 5] (L1 := [.ref o, .int (v1 + (D (o + 4) (Int32.toNatClampNeg v4))), .int (v2 ||| ((nI 1) <<< (v4 &&& 31))), .int (v3 + (nI 1)), .null, .null, .null]) rfl ?_
          exact hT
        · replace hT := hT.2 h
          refine am_iload_n (x := v3) dX11_fails_133 rfl ?_
          exact am_ireturn (ty := .int) dX11_fails_134 rfl rfl hT
  · replace hT := hT.2 h
    refine am_iload_n (x := v2) dX11_fails_29 rfl ?_
    refine am_iload (x := v5) dX11_fails_30 rfl ?_
    obtain ⟨x1, hm, hT⟩ := hT
    refine am_callS (av := [.int v2, .int v5]) (st := []) cw_X11_has cl_X11_49 ck_X11_has (Nat.le_of_ble_eq_true rfl) dX11_fails_32 hm (fun r D9 hr => ?_)
    obtain ⟨rfl, e9⟩ := hr
    rw [e9]
    clear e9
    refine am_if_ne (tgt := 64) dX11_fails_35 (by decide) (fun h => ?_) (fun h => ?_)
    · replace hT := hT.1 h
      refine am_iconst (v := (nI 0)) dX11_fails_64 (by decide) ?_
      refine am_set (am_istore dX11_fails_65 (by decide)) (L1 := [.ref o, .int v1, .int v2, .int v3, .int v4, .int v5, .int (nI 0)]) rfl ?_
      refine am_iload (x := (nI 0)) dX11_fails_67 rfl ?_
      refine am_if_eq (tgt := 77) dX11_fails_69 (by decide) (fun h => ?_) (fun h => ?_)
      · replace hT := hT.1 h
        refine am_iload (x := v4) dX11_fails_77 rfl ?_
        refine am_set (am_istore dX11_fails_79 (by decide)) (L1 := [.ref o, .int v1, .int v2, .int v3, .int v4, .int v5, .int (nI 0)]) rfl ?_
        refine am_set (am_iinc (x := v5) (c0 := (nI 1)) dX11_fails_81 (by decide) rfl (by decide)) (L1 := [.ref o, .int v1, .int v2, .int v3, .int v4, .int (v5 + (nI 1)), .int (nI 0)]) rfl ?_
        refine am_goto (tgt := 20) dX11_fails_84 (by decide) ?_
        refine am_drop [6] (L1 := [.ref o, .int v1, .int v2, .int v3, .int v4, .int (v5 + (nI 1)), .null]) rfl ?_
        exact hT
      · replace hT := hT.2 h
        refine am_iload (x := v5) dX11_fails_72 rfl ?_
        refine am_goto (tgt := 79) dX11_fails_74 (by decide) ?_
        refine am_set (am_istore dX11_fails_79 (by decide)) (L1 := [.ref o, .int v1, .int v2, .int v3, .int v5, .int v5, .int (nI 0)]) rfl ?_
        refine am_set (am_iinc (x := v5) (c0 := (nI 1)) dX11_fails_81 (by decide) rfl (by decide)) (L1 := [.ref o, .int v1, .int v2, .int v3, .int v5, .int (v5 + (nI 1)), .int (nI 0)]) rfl ?_
        refine am_goto (tgt := 20) dX11_fails_84 (by decide) ?_
        refine am_drop [6] (L1 := [.ref o, .int v1, .int v2, .int v3, .int v5, .int (v5 + (nI 1)), .null]) rfl ?_
        exact hT
    · replace hT := hT.2 h
      refine am_iload (x := v4) dX11_fails_38 rfl ?_
      refine am_if_lt (tgt := 60) dX11_fails_40 (by decide) (fun h => ?_) (fun h => ?_)
      · replace hT := hT.1 h
        refine am_iconst (v := (nI 1)) dX11_fails_60 (by decide) ?_
        refine am_goto (tgt := 65) dX11_fails_61 (by decide) ?_
        refine am_set (am_istore dX11_fails_65 (by decide)) (L1 := [.ref o, .int v1, .int v2, .int v3, .int v4, .int v5, .int (nI 1)]) rfl ?_
        refine am_iload (x := (nI 1)) dX11_fails_67 rfl ?_
        refine am_if_eq (tgt := 77) dX11_fails_69 (by decide) (fun h => ?_) (fun h => ?_)
        · replace hT := hT.1 h
          refine am_iload (x := v4) dX11_fails_77 rfl ?_
          refine am_set (am_istore dX11_fails_79 (by decide)) (L1 := [.ref o, .int v1, .int v2, .int v3, .int v4, .int v5, .int (nI 1)]) rfl ?_
          refine am_set (am_iinc (x := v5) (c0 := (nI 1)) dX11_fails_81 (by decide) rfl (by decide)) (L1 := [.ref o, .int v1, .int v2, .int v3, .int v4, .int (v5 + (nI 1)), .int (nI 1)]) rfl ?_
          refine am_goto (tgt := 20) dX11_fails_84 (by decide) ?_
          refine am_drop [6] (L1 := [.ref o, .int v1, .int v2, .int v3, .int v4, .int (v5 + (nI 1)), .null]) rfl ?_
          exact hT
        · replace hT := hT.2 h
          refine am_iload (x := v5) dX11_fails_72 rfl ?_
          refine am_goto (tgt := 79) dX11_fails_74 (by decide) ?_
          refine am_set (am_istore dX11_fails_79 (by decide)) (L1 := [.ref o, .int v1, .int v2, .int v3, .int v5, .int v5, .int (nI 1)]) rfl ?_
          refine am_set (am_iinc (x := v5) (c0 := (nI 1)) dX11_fails_81 (by decide) rfl (by decide)) (L1 := [.ref o, .int v1, .int v2, .int v3, .int v5, .int (v5 + (nI 1)), .int (nI 1)]) rfl ?_
          refine am_goto (tgt := 20) dX11_fails_84 (by decide) ?_
          refine am_drop [6] (L1 := [.ref o, .int v1, .int v2, .int v3, .int v5, .int (v5 + (nI 1)), .null]) rfl ?_
          exact hT
      · replace hT := hT.2 h
        refine am_aload_n (x := o) dX11_fails_43 rfl ?_
        refine am_getR dX11_fails_44 fw_X11_19 ho.1 rfl ?_
        refine am_iload (x := v5) dX11_fails_47 rfl ?_
        refine am_iald dX11_fails_49 ho.2.2.2.2.1 hT.1 ?_
        replace hT := hT.2
        refine am_aload_n (x := o) dX11_fails_50 rfl ?_
        refine am_getR dX11_fails_51 fw_X11_19 ho.1 rfl ?_
        refine am_iload (x := v4) dX11_fails_54 rfl ?_
        refine am_iald dX11_fails_56 ho.2.2.2.2.1 hT.1 ?_
        replace hT := hT.2
        refine am_icmp_ge (tgt := 64) dX11_fails_57 (by decide) (fun h => ?_) (fun h => ?_)
        · replace hT := hT.1 h
          refine am_iconst (v := (nI 0)) dX11_fails_64 (by decide) ?_
          refine am_set (am_istore dX11_fails_65 (by decide)) (L1 := [.ref o, .int v1, .int v2, .int v3, .int v4, .int v5, .int (nI 0)]) rfl ?_
          refine am_iload (x := (nI 0)) dX11_fails_67 rfl ?_
          refine am_if_eq (tgt := 77) dX11_fails_69 (by decide) (fun h => ?_) (fun h => ?_)
          · replace hT := hT.1 h
            refine am_iload (x := v4) dX11_fails_77 rfl ?_
            refine am_set (am_istore dX11_fails_79 (by decide)) (L1 := [.ref o, .int v1, .int v2, .int v3, .int v4, .int v5, .int (nI 0)]) rfl ?_
            refine am_set (am_iinc (x := v5) (c0 := (nI 1)) dX11_fails_81 (by decide) rfl (by decide)) (L1 := [.ref o, .int v1, .int v2, .int v3, .int v4, .int (v5 + (nI 1)), .int (nI 0)]) rfl ?_
            refine am_goto (tgt := 20) dX11_fails_84 (by decide) ?_
            refine am_drop [6] (L1 := [.ref o, .int v1, .int v2, .int v3, .int v4, .int (v5 + (nI 1)), .null]) rfl ?_
            exact hT
          · replace hT := hT.2 h
            refine am_iload (x := v5) dX11_fails_72 rfl ?_
            refine am_goto (tgt := 79) dX11_fails_74 (by decide) ?_
            refine am_set (am_istore dX11_fails_79 (by decide)) (L1 := [.ref o, .int v1, .int v2, .int v3, .int v5, .int v5, .int (nI 0)]) rfl ?_
            refine am_set (am_iinc (x := v5) (c0 := (nI 1)) dX11_fails_81 (by decide) rfl (by decide)) (L1 := [.ref o, .int v1, .int v2, .int v3, .int v5, .int (v5 + (nI 1)), .int (nI 0)]) rfl ?_
            refine am_goto (tgt := 20) dX11_fails_84 (by decide) ?_
            refine am_drop [6] (L1 := [.ref o, .int v1, .int v2, .int v3, .int v5, .int (v5 + (nI 1)), .null]) rfl ?_
            exact hT
        · replace hT := hT.2 h
          refine am_iconst (v := (nI 1)) dX11_fails_60 (by decide) ?_
          refine am_goto (tgt := 65) dX11_fails_61 (by decide) ?_
          refine am_set (am_istore dX11_fails_65 (by decide)) (L1 := [.ref o, .int v1, .int v2, .int v3, .int v4, .int v5, .int (nI 1)]) rfl ?_
          refine am_iload (x := (nI 1)) dX11_fails_67 rfl ?_
          refine am_if_eq (tgt := 77) dX11_fails_69 (by decide) (fun h => ?_) (fun h => ?_)
          · replace hT := hT.1 h
            refine am_iload (x := v4) dX11_fails_77 rfl ?_
            refine am_set (am_istore dX11_fails_79 (by decide)) (L1 := [.ref o, .int v1, .int v2, .int v3, .int v4, .int v5, .int (nI 1)]) rfl ?_
            refine am_set (am_iinc (x := v5) (c0 := (nI 1)) dX11_fails_81 (by decide) rfl (by decide)) (L1 := [.ref o, .int v1, .int v2, .int v3, .int v4, .int (v5 + (nI 1)), .int (nI 1)]) rfl ?_
            refine am_goto (tgt := 20) dX11_fails_84 (by decide) ?_
            refine am_drop [6] (L1 := [.ref o, .int v1, .int v2, .int v3, .int v4, .int (v5 + (nI 1)), .null]) rfl ?_
            exact hT
          · replace hT := hT.2 h
            refine am_iload (x := v5) dX11_fails_72 rfl ?_
            refine am_goto (tgt := 79) dX11_fails_74 (by decide) ?_
            refine am_set (am_istore dX11_fails_79 (by decide)) (L1 := [.ref o, .int v1, .int v2, .int v3, .int v5, .int v5, .int (nI 1)]) rfl ?_
            refine am_set (am_iinc (x := v5) (c0 := (nI 1)) dX11_fails_81 (by decide) rfl (by decide)) (L1 := [.ref o, .int v1, .int v2, .int v3, .int v5, .int (v5 + (nI 1)), .int (nI 1)]) rfl ?_
            refine am_goto (tgt := 20) dX11_fails_84 (by decide) ?_
            refine am_drop [6] (L1 := [.ref o, .int v1, .int v2, .int v3, .int v5, .int (v5 + (nI 1)), .null]) rfl ?_
            exact hT
set_option maxRecDepth 20000 in
theorem eX11_construct {lay : List am_L} {d : Nat} {D : am_D} {Q : Option Value → am_D → Prop} {o : Nat} (ho : isX11 lay o) (hT : (((D o 4) < (nI 2) → Q (some (.int (-2))) D) ∧
 (¬ ((D o 4) < (nI 2)) → (∃ x1, am_MetP lay d mX11_fails [.ref o] D x1 ∧
 ((x1 = nI 0 → (∃ D2, am_MetV lay d mX11_keeps [.ref o] D D2 ∧
 (∃ D3, am_MetV lay d mX11_begins [.ref o, .int (D2 o 4)] D2 D3 ∧
 (∃ x4, am_MetP lay d mX11_all [.ref o] D3 x4 ∧
 am_AW lay (d + 1) mX11_construct 37 [.ref o, .int x4, .int (nI 0), .null, .null, .null, .null] [] D3 Q)))) ∧
 (¬ (x1 = nI 0) → Q (some (.int (-2))) D)))))) : am_Met lay (d + 1) mX11_construct [.ref o] D Q := by
  refine am_enter (by decide +kernel) rfl (Nat.le_of_ble_eq_true rfl) ?_
  show am_AW lay (d + 1) mX11_construct 0 [.ref o, .null, .null, .null, .null, .null, .null] [] D Q
  refine am_aload_n (x := o) dX11_construct_0 rfl ?_
  refine am_getI dX11_construct_1 fw_X11_105 ho.1 rfl ?_
  refine am_iconst (v := (nI 2)) dX11_construct_4 (by decide) ?_
  refine am_icmp_lt (tgt := 15) dX11_construct_5 (by decide) (fun h => ?_) (fun h => ?_)
  · replace hT := hT.1 h
    refine am_bipush (v := (-2)) dX11_construct_15 (by decide) ?_
    exact am_ireturn (ty := .int) dX11_construct_17 rfl rfl hT
  · replace hT := hT.2 h
    refine am_aload_n (x := o) dX11_construct_8 rfl ?_
    obtain ⟨x1, hm, hT⟩ := hT
    refine am_callV (av := []) (st := []) (b := o) cw_X11_fails cl_X11_108 ck_X11_fails cs_X11_fails ho.1 rfl rfl (Nat.le_of_ble_eq_true rfl) dX11_construct_9 hm (fun r D9 hr => ?_)
    obtain ⟨rfl, e9⟩ := hr
    rw [e9]
    clear e9
    refine am_if_eq (tgt := 18) dX11_construct_12 (by decide) (fun h => ?_) (fun h => ?_)
    · replace hT := hT.1 h
      refine am_aload_n (x := o) dX11_construct_18 rfl ?_
      obtain ⟨D2, hm, hT⟩ := hT
      refine am_callV (av := []) (st := []) (b := o) cw_X11_keeps cl_X11_76 ck_X11_keeps cs_X11_keeps ho.1 rfl rfl (Nat.le_of_ble_eq_true rfl) dX11_construct_19 hm (fun r D9 hr => ?_)
      obtain ⟨rfl, e9⟩ := hr
      rw [e9]
      clear e9
      refine am_aload_n (x := o) dX11_construct_22 rfl ?_
      refine am_aload_n (x := o) dX11_construct_23 rfl ?_
      refine am_getI dX11_construct_24 fw_X11_105 ho.1 rfl ?_
      obtain ⟨D3, hm, hT⟩ := hT
      refine am_callV (av := [.int (D2 o 4)]) (st := []) (b := o) cw_X11_begins cl_X11_37 ck_X11_begins cs_X11_begins ho.1 rfl rfl (Nat.le_of_ble_eq_true rfl) dX11_construct_27 hm (fun r D9 hr => ?_)
      obtain ⟨rfl, e9⟩ := hr
      rw [e9]
      clear e9
      refine am_aload_n (x := o) dX11_construct_30 rfl ?_
      obtain ⟨x4, hm, hT⟩ := hT
      refine am_callV (av := []) (st := []) (b := o) cw_X11_all cl_X11_111 ck_X11_all cs_X11_all ho.1 rfl rfl (Nat.le_of_ble_eq_true rfl) dX11_construct_31 hm (fun r D9 hr => ?_)
      obtain ⟨rfl, e9⟩ := hr
      rw [e9]
      clear e9
      refine am_set (am_istore_n dX11_construct_34 (by decide)) (L1 := [.ref o, .int x4, .null, .null, .null, .null, .null]) rfl ?_
      refine am_iconst (v := (nI 0)) dX11_construct_35 (by decide) ?_
      refine am_set (am_istore_n dX11_construct_36 (by decide)) (L1 := [.ref o, .int x4, .int (nI 0), .null, .null, .null, .null]) rfl ?_
      exact hT
    · replace hT := hT.2 h
      refine am_bipush (v := (-2)) dX11_construct_15 (by decide) ?_
      exact am_ireturn (ty := .int) dX11_construct_17 rfl rfl hT
set_option maxRecDepth 20000 in
theorem rX11_construct_37 {lay : List am_L} {d : Nat} {D : am_D} {Q : Option Value → am_D → Prop} {o : Nat} {v1 : Int32} {v2 : Int32} (ho : isX11 lay o) (hT : (((D o 4) ≤ v2 → am_AW lay (d + 1) mX11_construct 63 [.ref o, .int v1, .int v2, .null, .null, .null, .null] [] D Q) ∧
 (¬ ((D o 4) ≤ v2) → (vp_in v2 10 ∧ (vp_in v2 10 ∧ ∀ D1, D1 = am_up D (o + 9) (Int32.toNatClampNeg v2) (D (o + 4) (Int32.toNatClampNeg v2)) →
 am_AW lay (d + 1) mX11_construct 37 [.ref o, .int v1, .int (v2 + (nI 1)), .null, .null, .null, .null] [] D1 Q))))) : am_AW lay (d + 1) mX11_construct 37 [.ref o, .int v1, .int v2, .null, .null, .null, .null] [] D Q := by
  refine am_iload_n (x := v2) dX11_construct_37 rfl ?_
  refine am_aload_n (x := o) dX11_construct_38 rfl ?_
  refine am_getI dX11_construct_39 fw_X11_105 ho.1 rfl ?_
  refine am_icmp_ge (tgt := 63) dX11_construct_42 (by decide) (fun h => ?_) (fun h => ?_)
  · replace hT := hT.1 h
    exact hT
  · replace hT := hT.2 h
    refine am_aload_n (x := o) dX11_construct_45 rfl ?_
    refine am_getR dX11_construct_46 fw_X11_34 ho.1 rfl ?_
    refine am_iload_n (x := v2) dX11_construct_49 rfl ?_
    refine am_aload_n (x := o) dX11_construct_50 rfl ?_
    refine am_getR dX11_construct_51 fw_X11_19 ho.1 rfl ?_
    refine am_iload_n (x := v2) dX11_construct_54 rfl ?_
    refine am_iald dX11_construct_55 ho.2.2.2.2.1 hT.1 ?_
    replace hT := hT.2
    refine am_iast dX11_construct_56 ho.2.2.2.2.2.2.2.2.2 hT.1 ?_
    obtain ⟨D1, hD⟩ : ∃ z, z = am_up D (o + 9) (Int32.toNatClampNeg v2) (D (o + 4) (Int32.toNatClampNeg v2)) := ⟨_, rfl⟩
    rw [← hD]
    replace hT := hT.2 D1 hD
    clear hD
    refine am_set (am_iinc (x := v2) (c0 := (nI 1)) dX11_construct_57 (by decide) rfl (by decide)) (L1 := [.ref o, .int v1, .int (v2 + (nI 1)), .null, .null, .null, .null]) rfl ?_
    refine am_goto (tgt := 37) dX11_construct_60 (by decide) ?_
    exact hT
set_option maxRecDepth 20000 in
theorem rX11_construct_63 {lay : List am_L} {d : Nat} {D : am_D} {Q : Option Value → am_D → Prop} {o : Nat} {v1 : Int32} {v2 : Int32} (ho : isX11 lay o) (hT : ((v1 = nI 0 → Q (some (.int (D o 4))) D) ∧
 (¬ (v1 = nI 0) → am_AW lay (d + 1) mX11_construct 71 [.ref o, .int v1, .int (-1), .int (nI 0), .null, .null, .null] [] D Q))) : am_AW lay (d + 1) mX11_construct 63 [.ref o, .int v1, .int v2, .null, .null, .null, .null] [] D Q := by
  refine am_iload_n (x := v1) dX11_construct_63 rfl ?_
  refine am_if_eq (tgt := 273) dX11_construct_64 (by decide) (fun h => ?_) (fun h => ?_)
  · replace hT := hT.1 h
    refine am_aload_n (x := o) dX11_construct_273 rfl ?_
    refine am_getI dX11_construct_274 fw_X11_105 ho.1 rfl ?_
    exact am_ireturn (ty := .int) dX11_construct_277 rfl rfl hT
  · replace hT := hT.2 h
    refine am_iconst (v := (-1)) dX11_construct_67 (by decide) ?_
    refine am_set (am_istore_n dX11_construct_68 (by decide)) (L1 := [.ref o, .int v1, .int (-1), .null, .null, .null, .null]) rfl ?_
    refine am_iconst (v := (nI 0)) dX11_construct_69 (by decide) ?_
    refine am_set (am_istore_n dX11_construct_70 (by decide)) (L1 := [.ref o, .int v1, .int (-1), .int (nI 0), .null, .null, .null]) rfl ?_
    exact hT
set_option maxRecDepth 20000 in
theorem rX11_construct_71 {lay : List am_L} {d : Nat} {D : am_D} {Q : Option Value → am_D → Prop} {o : Nat} {v1 : Int32} {v2 : Int32} {v3 : Int32} (ho : isX11 lay o) (hT : (((D o 4) ≤ v3 → am_AW lay (d + 1) mX11_construct 131 [.ref o, .int (v1 &&& (((nI 1) <<< (v2 &&& 31)) ^^^ (-1))), .int v2, .int (v1 &&& (((nI 1) <<< (v2 &&& 31)) ^^^ (-1))), .int (nI 0), .null, .null] [] D Q) ∧
 (¬ ((D o 4) ≤ v3) → (∃ x1, am_MetP lay d mX11_has [.int v1, .int v3] D x1 ∧
 ((x1 = nI 0 → am_AW lay (d + 1) mX11_construct 71 [.ref o, .int v1, .int v2, .int (v3 + (nI 1)), .null, .null, .null] [] D Q) ∧
 (¬ (x1 = nI 0) → ((v2 < nI 0 → am_AW lay (d + 1) mX11_construct 71 [.ref o, .int v1, .int v3, .int (v3 + (nI 1)), .null, .null, .null] [] D Q) ∧
 (¬ (v2 < nI 0) → (vp_in v3 10 ∧ (vp_in v2 10 ∧ (((D (o + 9) (Int32.toNatClampNeg v3)) < (D (o + 9) (Int32.toNatClampNeg v2)) → am_AW lay (d + 1) mX11_construct 71 [.ref o, .int v1, .int v2, .int (v3 + (nI 1)), .null, .null, .null] [] D Q) ∧
 (¬ ((D (o + 9) (Int32.toNatClampNeg v3)) < (D (o + 9) (Int32.toNatClampNeg v2))) → am_AW lay (d + 1) mX11_construct 71 [.ref o, .int v1, .int v3, .int (v3 + (nI 1)), .null, .null, .null] [] D Q)))))))))))) : am_AW lay (d + 1) mX11_construct 71 [.ref o, .int v1, .int v2, .int v3, .null, .null, .null] [] D Q := by
  refine am_iload_n (x := v3) dX11_construct_71 rfl ?_
  refine am_aload_n (x := o) dX11_construct_72 rfl ?_
  refine am_getI dX11_construct_73 fw_X11_105 ho.1 rfl ?_
  refine am_icmp_ge (tgt := 118) dX11_construct_76 (by decide) (fun h => ?_) (fun h => ?_)
  · replace hT := hT.1 h
    refine am_iload_n (x := v1) dX11_construct_118 rfl ?_
    refine am_iconst (v := (nI 1)) dX11_construct_119 (by decide) ?_
    refine am_iload_n (x := v2) dX11_construct_120 rfl ?_
    refine am_ishl dX11_construct_121 ?_
    refine am_iconst (v := (-1)) dX11_construct_122 (by decide) ?_
    refine am_ixor dX11_construct_123 ?_
    refine am_iand dX11_construct_124 ?_
    refine am_set (am_istore_n dX11_construct_125 (by decide)) (L1 := [.ref o, .int (v1 &&& (((nI 1) <<< (v2 &&& 31)) ^^^ (-1))), .int v2, .int v3, .null, .null, .null]) rfl ?_
    refine am_iload_n (x := (v1 &&& (((nI 1) <<< (v2 &&& 31)) ^^^ (-1)))) dX11_construct_126 rfl ?_
    refine am_set (am_istore_n dX11_construct_127 (by decide)) (L1 := [.ref o, .int (v1 &&& (((nI 1) <<< (v2 &&& 31)) ^^^ (-1))), .int v2, .int (v1 &&& (((nI 1) <<< (v2 &&& 31)) ^^^ (-1))), .null, .null, .null]) rfl ?_
    refine am_iconst (v := (nI 0)) dX11_construct_128 (by decide) ?_
    refine am_set (am_istore dX11_construct_129 (by decide)) (L1 := [.ref o, .int (v1 &&& (((nI 1) <<< (v2 &&& 31)) ^^^ (-1))), .int v2, .int (v1 &&& (((nI 1) <<< (v2 &&& 31)) ^^^ (-1))), .int (nI 0), .null, .null]) rfl ?_
    exact hT
  · replace hT := hT.2 h
    refine am_iload_n (x := v1) dX11_construct_79 rfl ?_
    refine am_iload_n (x := v3) dX11_construct_80 rfl ?_
    obtain ⟨x1, hm, hT⟩ := hT
    refine am_callS (av := [.int v1, .int v3]) (st := []) cw_X11_has cl_X11_49 ck_X11_has (Nat.le_of_ble_eq_true rfl) dX11_construct_81 hm (fun r D9 hr => ?_)
    obtain ⟨rfl, e9⟩ := hr
    rw [e9]
    clear e9
    refine am_if_eq (tgt := 110) dX11_construct_84 (by decide) (fun h => ?_) (fun h => ?_)
    · replace hT := hT.1 h
      refine am_iload_n (x := v2) dX11_construct_110 rfl ?_
      refine am_set (am_istore_n dX11_construct_111 (by decide)) (L1 := [.ref o, .int v1, .int v2, .int v3, .null, .null, .null]) rfl ?_
      refine am_set (am_iinc (x := v3) (c0 := (nI 1)) dX11_construct_112 (by decide) rfl (by decide)) (L1 := [.ref o, .int v1, .int v2, .int (v3 + (nI 1)), .null, .null, .null]) rfl ?_
      refine am_goto (tgt := 71) dX11_construct_115 (by decide) ?_
      exact hT
    · replace hT := hT.2 h
      refine am_iload_n (x := v2) dX11_construct_87 rfl ?_
      refine am_if_lt (tgt := 106) dX11_construct_88 (by decide) (fun h => ?_) (fun h => ?_)
      · replace hT := hT.1 h
        refine am_iload_n (x := v3) dX11_construct_106 rfl ?_
        refine am_goto (tgt := 111) dX11_construct_107 (by decide) ?_
        refine am_set (am_istore_n dX11_construct_111 (by decide)) (L1 := [.ref o, .int v1, .int v3, .int v3, .null, .null, .null]) rfl ?_
        refine am_set (am_iinc (x := v3) (c0 := (nI 1)) dX11_construct_112 (by decide) rfl (by decide)) (L1 := [.ref o, .int v1, .int v3, .int (v3 + (nI 1)), .null, .null, .null]) rfl ?_
        refine am_goto (tgt := 71) dX11_construct_115 (by decide) ?_
        exact hT
      · replace hT := hT.2 h
        refine am_aload_n (x := o) dX11_construct_91 rfl ?_
        refine am_getR dX11_construct_92 fw_X11_34 ho.1 rfl ?_
        refine am_iload_n (x := v3) dX11_construct_95 rfl ?_
        refine am_iald dX11_construct_96 ho.2.2.2.2.2.2.2.2.2 hT.1 ?_
        replace hT := hT.2
        refine am_aload_n (x := o) dX11_construct_97 rfl ?_
        refine am_getR dX11_construct_98 fw_X11_34 ho.1 rfl ?_
        refine am_iload_n (x := v2) dX11_construct_101 rfl ?_
        refine am_iald dX11_construct_102 ho.2.2.2.2.2.2.2.2.2 hT.1 ?_
        replace hT := hT.2
        refine am_icmp_lt (tgt := 110) dX11_construct_103 (by decide) (fun h => ?_) (fun h => ?_)
        · replace hT := hT.1 h
          refine am_iload_n (x := v2) dX11_construct_110 rfl ?_
          refine am_set (am_istore_n dX11_construct_111 (by decide)) (L1 := [.ref o, .int v1, .int v2, .int v3, .null, .null, .null]) rfl ?_
          refine am_set (am_iinc (x := v3) (c0 := (nI 1)) dX11_construct_112 (by decide) rfl (by decide)) (L1 := [.ref o, .int v1, .int v2, .int (v3 + (nI 1)), .null, .null, .null]) rfl ?_
          refine am_goto (tgt := 71) dX11_construct_115 (by decide) ?_
          exact hT
        · replace hT := hT.2 h
          refine am_iload_n (x := v3) dX11_construct_106 rfl ?_
          refine am_goto (tgt := 111) dX11_construct_107 (by decide) ?_
          refine am_set (am_istore_n dX11_construct_111 (by decide)) (L1 := [.ref o, .int v1, .int v3, .int v3, .null, .null, .null]) rfl ?_
          refine am_set (am_iinc (x := v3) (c0 := (nI 1)) dX11_construct_112 (by decide) rfl (by decide)) (L1 := [.ref o, .int v1, .int v3, .int (v3 + (nI 1)), .null, .null, .null]) rfl ?_
          refine am_goto (tgt := 71) dX11_construct_115 (by decide) ?_
          exact hT
set_option maxRecDepth 20000 in
theorem rX11_construct_131 {lay : List am_L} {d : Nat} {D : am_D} {Q : Option Value → am_D → Prop} {o : Nat} {v1 : Int32} {v2 : Int32} {v3 : Int32} {v4 : Int32} (ho : isX11 lay o) (hT : (vp_in v2 10 ∧ (((D (o + 9) (Int32.toNatClampNeg v2)) ≤ v4 → am_AW lay (d + 1) mX11_construct 228 [.ref o, .int v1, .int v2, .int v3, .int (nI 0), .null, .null] [] D Q) ∧
 (¬ ((D (o + 9) (Int32.toNatClampNeg v2)) ≤ v4) → am_AW lay (d + 1) mX11_construct 148 [.ref o, .int v1, .int v2, .int v3, .int v4, .int (-1), .int (nI 0)] [] D Q)))) : am_AW lay (d + 1) mX11_construct 131 [.ref o, .int v1, .int v2, .int v3, .int v4, .null, .null] [] D Q := by
  refine am_iload (x := v4) dX11_construct_131 rfl ?_
  refine am_aload_n (x := o) dX11_construct_133 rfl ?_
  refine am_getR dX11_construct_134 fw_X11_34 ho.1 rfl ?_
  refine am_iload_n (x := v2) dX11_construct_137 rfl ?_
  refine am_iald dX11_construct_138 ho.2.2.2.2.2.2.2.2.2 hT.1 ?_
  replace hT := hT.2
  refine am_icmp_ge (tgt := 225) dX11_construct_139 (by decide) (fun h => ?_) (fun h => ?_)
  · replace hT := hT.1 h
    refine am_iconst (v := (nI 0)) dX11_construct_225 (by decide) ?_
    refine am_set (am_istore dX11_construct_226 (by decide)) (L1 := [.ref o, .int v1, .int v2, .int v3, .int (nI 0), .null, .null]) rfl ?_
    exact hT
  · replace hT := hT.2 h
    refine am_iconst (v := (-1)) dX11_construct_142 (by decide) ?_
    refine am_set (am_istore dX11_construct_143 (by decide)) (L1 := [.ref o, .int v1, .int v2, .int v3, .int v4, .int (-1), .null]) rfl ?_
    refine am_iconst (v := (nI 0)) dX11_construct_145 (by decide) ?_
    refine am_set (am_istore dX11_construct_146 (by decide)) (L1 := [.ref o, .int v1, .int v2, .int v3, .int v4, .int (-1), .int (nI 0)]) rfl ?_
    exact hT
set_option maxRecDepth 20000 in
theorem rX11_construct_228 {lay : List am_L} {d : Nat} {D : am_D} {Q : Option Value → am_D → Prop} {o : Nat} {v1 : Int32} {v2 : Int32} {v3 : Int32} {v4 : Int32} (ho : isX11 lay o) (hT : (((D o 4) ≤ v4 → am_AW lay (d + 1) mX11_construct 63 [.ref o, .int v1, .int v2, .null, .null, .null, .null] [] D Q) ∧
 (¬ ((D o 4) ≤ v4) → (∃ x1, am_MetP lay d mX11_has [.int v3, .int v4] D x1 ∧
 ((x1 = nI 0 → am_AW lay (d + 1) mX11_construct 228 [.ref o, .int v1, .int v2, .int v3, .int (v4 + (nI 1)), .null, .null] [] D Q) ∧
 (¬ (x1 = nI 0) → (∃ D2, am_MetV lay d mX11_wins [.ref o, .int v4, .int v2] D D2 ∧
 (vp_in v4 10 ∧ (vp_in v4 10 ∧ ∀ D3, D3 = am_up D2 (o + 9) (Int32.toNatClampNeg v4) ((D2 (o + 9) (Int32.toNatClampNeg v4)) - (nI 1)) →
 am_AW lay (d + 1) mX11_construct 228 [.ref o, .int v1, .int v2, .int v3, .int (v4 + (nI 1)), .null, .null] [] D3 Q))))))))) : am_AW lay (d + 1) mX11_construct 228 [.ref o, .int v1, .int v2, .int v3, .int v4, .null, .null] [] D Q := by
  refine am_iload (x := v4) dX11_construct_228 rfl ?_
  refine am_aload_n (x := o) dX11_construct_230 rfl ?_
  refine am_getI dX11_construct_231 fw_X11_105 ho.1 rfl ?_
  refine am_icmp_ge (tgt := 270) dX11_construct_234 (by decide) (fun h => ?_) (fun h => ?_)
  · replace hT := hT.1 h
    refine am_goto (tgt := 63) dX11_construct_270 (by decide) ?_
    refine am_drop [3, 4] (L1 := [.ref o, .int v1, .int v2, .null, .null, .null, .null]) rfl ?_
    exact hT
  · replace hT := hT.2 h
    refine am_iload_n (x := v3) dX11_construct_237 rfl ?_
    refine am_iload (x := v4) dX11_construct_238 rfl ?_
    obtain ⟨x1, hm, hT⟩ := hT
    refine am_callS (av := [.int v3, .int v4]) (st := []) cw_X11_has cl_X11_49 ck_X11_has (Nat.le_of_ble_eq_true rfl) dX11_construct_240 hm (fun r D9 hr => ?_)
    obtain ⟨rfl, e9⟩ := hr
    rw [e9]
    clear e9
    refine am_if_eq (tgt := 264) dX11_construct_243 (by decide) (fun h => ?_) (fun h => ?_)
    · replace hT := hT.1 h
      refine am_set (am_iinc (x := v4) (c0 := (nI 1)) dX11_construct_264 (by decide) rfl (by decide)) (L1 := [.ref o, .int v1, .int v2, .int v3, .int (v4 + (nI 1)), .null, .null]) rfl ?_
      refine am_goto (tgt := 228) dX11_construct_267 (by decide) ?_
      exact hT
    · replace hT := hT.2 h
      refine am_aload_n (x := o) dX11_construct_246 rfl ?_
      refine am_iload (x := v4) dX11_construct_247 rfl ?_
      refine am_iload_n (x := v2) dX11_construct_249 rfl ?_
      obtain ⟨D2, hm, hT⟩ := hT
      refine am_callV (av := [.int v4, .int v2]) (st := []) (b := o) cw_X11_wins cl_X11_72 ck_X11_wins cs_X11_wins ho.1 rfl rfl (Nat.le_of_ble_eq_true rfl) dX11_construct_250 hm (fun r D9 hr => ?_)
      obtain ⟨rfl, e9⟩ := hr
      rw [e9]
      clear e9
      refine am_aload_n (x := o) dX11_construct_253 rfl ?_
      refine am_getR dX11_construct_254 fw_X11_34 ho.1 rfl ?_
      refine am_iload (x := v4) dX11_construct_257 rfl ?_
      refine am_dup2 dX11_construct_259 rfl rfl ?_
      refine am_iald dX11_construct_260 ho.2.2.2.2.2.2.2.2.2 hT.1 ?_
      replace hT := hT.2
      refine am_iconst (v := (nI 1)) dX11_construct_261 (by decide) ?_
      refine am_isub dX11_construct_262 ?_
      refine am_iast dX11_construct_263 ho.2.2.2.2.2.2.2.2.2 hT.1 ?_
      obtain ⟨D3, hD⟩ : ∃ z, z = am_up D2 (o + 9) (Int32.toNatClampNeg v4) ((D2 (o + 9) (Int32.toNatClampNeg v4)) - (nI 1)) := ⟨_, rfl⟩
      rw [← hD]
      replace hT := hT.2 D3 hD
      clear hD
      refine am_set (am_iinc (x := v4) (c0 := (nI 1)) dX11_construct_264 (by decide) rfl (by decide)) (L1 := [.ref o, .int v1, .int v2, .int v3, .int (v4 + (nI 1)), .null, .null]) rfl ?_
      refine am_goto (tgt := 228) dX11_construct_267 (by decide) ?_
      exact hT
set_option maxRecDepth 20000 in
theorem rX11_construct_148 {lay : List am_L} {d : Nat} {D : am_D} {Q : Option Value → am_D → Prop} {o : Nat} {v1 : Int32} {v2 : Int32} {v3 : Int32} {v4 : Int32} {v5 : Int32} {v6 : Int32} (ho : isX11 lay o) (hT : (((D o 4) ≤ v6 → (∃ D1, am_MetV lay d mX11_wins [.ref o, .int v2, .int v5] D D1 ∧
 am_AW lay (d + 1) mX11_construct 131 [.ref o, .int v1, .int v2, .int (v3 &&& (((nI 1) <<< (v5 &&& 31)) ^^^ (-1))), .int (v4 + (nI 1)), .null, .null] [] D1 Q)) ∧
 (¬ ((D o 4) ≤ v6) → (∃ x2, am_MetP lay d mX11_has [.int v3, .int v6] D x2 ∧
 ((x2 = nI 0 → am_AW lay (d + 1) mX11_construct 148 [.ref o, .int v1, .int v2, .int v3, .int v4, .int v5, .int (v6 + (nI 1))] [] D Q) ∧
 (¬ (x2 = nI 0) → ((v5 < nI 0 → am_AW lay (d + 1) mX11_construct 148 [.ref o, .int v1, .int v2, .int v3, .int v4, .int v6, .int (v6 + (nI 1))] [] D Q) ∧
 (¬ (v5 < nI 0) → (vp_in v6 10 ∧ (vp_in v5 10 ∧ (((D (o + 9) (Int32.toNatClampNeg v5)) ≤ (D (o + 9) (Int32.toNatClampNeg v6)) → am_AW lay (d + 1) mX11_construct 148 [.ref o, .int v1, .int v2, .int v3, .int v4, .int v5, .int (v6 + (nI 1))] [] D Q) ∧
 (¬ ((D (o + 9) (Int32.toNatClampNeg v5)) ≤ (D (o + 9) (Int32.toNatClampNeg v6))) → am_AW lay (d + 1) mX11_construct 148 [.ref o, .int v1, .int v2, .int v3, .int v4, .int v6, .int (v6 + (nI 1))] [] D Q)))))))))))) : am_AW lay (d + 1) mX11_construct 148 [.ref o, .int v1, .int v2, .int v3, .int v4, .int v5, .int v6] [] D Q := by
  refine am_iload (x := v6) dX11_construct_148 rfl ?_
  refine am_aload_n (x := o) dX11_construct_150 rfl ?_
  refine am_getI dX11_construct_151 fw_X11_105 ho.1 rfl ?_
  refine am_icmp_ge (tgt := 203) dX11_construct_154 (by decide) (fun h => ?_) (fun h => ?_)
  · replace hT := hT.1 h
    refine am_iload_n (x := v3) dX11_construct_203 rfl ?_
    refine am_iconst (v := (nI 1)) dX11_construct_204 (by decide) ?_
    refine am_iload (x := v5) dX11_construct_205 rfl ?_
    refine am_ishl dX11_construct_207 ?_
    refine am_iconst (v := (-1)) dX11_construct_208 (by decide) ?_
    refine am_ixor dX11_construct_209 ?_
    refine am_iand dX11_construct_210 ?_
    refine am_set (am_istore_n dX11_construct_211 (by decide)) (L1 := [.ref o, .int v1, .int v2, .int (v3 &&& (((nI 1) <<< (v5 &&& 31)) ^^^ (-1))), .int v4, .int v5, .int v6]) rfl ?_
    refine am_aload_n (x := o) dX11_construct_212 rfl ?_
    refine am_iload_n (x := v2) dX11_construct_213 rfl ?_
    refine am_iload (x := v5) dX11_construct_214 rfl ?_
    obtain ⟨D1, hm, hT⟩ := hT
    refine am_callV (av := [.int v2, .int v5]) (st := []) (b := o) cw_X11_wins cl_X11_72 ck_X11_wins cs_X11_wins ho.1 rfl rfl (Nat.le_of_ble_eq_true rfl) dX11_construct_216 hm (fun r D9 hr => ?_)
    obtain ⟨rfl, e9⟩ := hr
    rw [e9]
    clear e9
    refine am_set (am_iinc (x := v4) (c0 := (nI 1)) dX11_construct_219 (by decide) rfl (by decide)) (L1 := [.ref o, .int v1, .int v2, .int (v3 &&& (((nI 1) <<< (v5 &&& 31)) ^^^ (-1))), .int (v4 + (nI 1)), .int v5, .int v6]) rfl ?_
    refine am_goto (tgt := 131) dX11_construct_222 (by decide) ?_
    refine am_drop [5, 6] (L1 := [.ref o, .int v1, .int v2, .int (v3 &&& (((nI 1) <<< (v5 &&& 31)) ^^^ (-1))), .int (v4 + (nI 1)), .null, .null]) rfl ?_
    exact hT
  · replace hT := hT.2 h
    refine am_iload_n (x := v3) dX11_construct_157 rfl ?_
    refine am_iload (x := v6) dX11_construct_158 rfl ?_
    obtain ⟨x2, hm, hT⟩ := hT
    refine am_callS (av := [.int v3, .int v6]) (st := []) cw_X11_has cl_X11_49 ck_X11_has (Nat.le_of_ble_eq_true rfl) dX11_construct_160 hm (fun r D9 hr => ?_)
    obtain ⟨rfl, e9⟩ := hr
    rw [e9]
    clear e9
    refine am_if_eq (tgt := 193) dX11_construct_163 (by decide) (fun h => ?_) (fun h => ?_)
    · replace hT := hT.1 h
      refine am_iload (x := v5) dX11_construct_193 rfl ?_
      refine am_set (am_istore dX11_construct_195 (by decide)) (L1 := [.ref o, .int v1, .int v2, .int v3, .int v4, .int v5, .int v6]) rfl ?_
      refine am_set (am_iinc (x := v6) (c0 := (nI 1)) dX11_construct_197 (by decide) rfl (by decide)) (L1 := [.ref o, .int v1, .int v2, .int v3, .int v4, .int v5, .int (v6 + (nI 1))]) rfl ?_
      refine am_goto (tgt := 148) dX11_construct_200 (by decide) ?_
      exact hT
    · replace hT := hT.2 h
      refine am_iload (x := v5) dX11_construct_166 rfl ?_
      refine am_if_lt (tgt := 188) dX11_construct_168 (by decide) (fun h => ?_) (fun h => ?_)
      · replace hT := hT.1 h
        refine am_iload (x := v6) dX11_construct_188 rfl ?_
        refine am_goto (tgt := 195) dX11_construct_190 (by decide) ?_
        refine am_set (am_istore dX11_construct_195 (by decide)) (L1 := [.ref o, .int v1, .int v2, .int v3, .int v4, .int v6, .int v6]) rfl ?_
        refine am_set (am_iinc (x := v6) (c0 := (nI 1)) dX11_construct_197 (by decide) rfl (by decide)) (L1 := [.ref o, .int v1, .int v2, .int v3, .int v4, .int v6, .int (v6 + (nI 1))]) rfl ?_
        refine am_goto (tgt := 148) dX11_construct_200 (by decide) ?_
        exact hT
      · replace hT := hT.2 h
        refine am_aload_n (x := o) dX11_construct_171 rfl ?_
        refine am_getR dX11_construct_172 fw_X11_34 ho.1 rfl ?_
        refine am_iload (x := v6) dX11_construct_175 rfl ?_
        refine am_iald dX11_construct_177 ho.2.2.2.2.2.2.2.2.2 hT.1 ?_
        replace hT := hT.2
        refine am_aload_n (x := o) dX11_construct_178 rfl ?_
        refine am_getR dX11_construct_179 fw_X11_34 ho.1 rfl ?_
        refine am_iload (x := v5) dX11_construct_182 rfl ?_
        refine am_iald dX11_construct_184 ho.2.2.2.2.2.2.2.2.2 hT.1 ?_
        replace hT := hT.2
        refine am_icmp_ge (tgt := 193) dX11_construct_185 (by decide) (fun h => ?_) (fun h => ?_)
        · replace hT := hT.1 h
          refine am_iload (x := v5) dX11_construct_193 rfl ?_
          refine am_set (am_istore dX11_construct_195 (by decide)) (L1 := [.ref o, .int v1, .int v2, .int v3, .int v4, .int v5, .int v6]) rfl ?_
          refine am_set (am_iinc (x := v6) (c0 := (nI 1)) dX11_construct_197 (by decide) rfl (by decide)) (L1 := [.ref o, .int v1, .int v2, .int v3, .int v4, .int v5, .int (v6 + (nI 1))]) rfl ?_
          refine am_goto (tgt := 148) dX11_construct_200 (by decide) ?_
          exact hT
        · replace hT := hT.2 h
          refine am_iload (x := v6) dX11_construct_188 rfl ?_
          refine am_goto (tgt := 195) dX11_construct_190 (by decide) ?_
          refine am_set (am_istore dX11_construct_195 (by decide)) (L1 := [.ref o, .int v1, .int v2, .int v3, .int v4, .int v6, .int v6]) rfl ?_
          refine am_set (am_iinc (x := v6) (c0 := (nI 1)) dX11_construct_197 (by decide) rfl (by decide)) (L1 := [.ref o, .int v1, .int v2, .int v3, .int v4, .int v6, .int (v6 + (nI 1))]) rfl ?_
          refine am_goto (tgt := 148) dX11_construct_200 (by decide) ?_
          exact hT
set_option maxRecDepth 20000 in
theorem eX11_faultOf {lay : List am_L} {d : Nat} {D : am_D} {Q : Option Value → am_D → Prop} {o : Nat} (ho : isX11 lay o) (hT : am_AW lay (d + 1) mX11_faultOf 2 [.ref o, .int (nI 0), .null] [] D Q) : am_Met lay (d + 1) mX11_faultOf [.ref o] D Q := by
  refine am_enter (by decide +kernel) rfl (Nat.le_of_ble_eq_true rfl) ?_
  show am_AW lay (d + 1) mX11_faultOf 0 [.ref o, .null, .null] [] D Q
  refine am_iconst (v := (nI 0)) dX11_faultOf_0 (by decide) ?_
  refine am_set (am_istore_n dX11_faultOf_1 (by decide)) (L1 := [.ref o, .int (nI 0), .null]) rfl ?_
  exact hT
set_option maxRecDepth 20000 in
theorem rX11_faultOf_2 {lay : List am_L} {d : Nat} {D : am_D} {Q : Option Value → am_D → Prop} {o : Nat} {v1 : Int32} (ho : isX11 lay o) (hT : (((D o 6) ≤ v1 → Q (some (.int (-4))) D) ∧
 (¬ ((D o 6) ≤ v1) → (((D o 6) < (v1 + (nI 4)) → ((¬ (nI 0) = nI 0 → am_AW lay (d + 1) mX11_faultOf 2 [.ref o, .int (v1 + (nI 4)), .null] [] D Q) ∧
 (¬ (¬ (nI 0) = nI 0) → Q (some (.int v1)) D))) ∧
 (¬ ((D o 6) < (v1 + (nI 4))) → (vp_in v1 120 ∧ (∃ x1, am_MetP lay d mX11_isPlayer [.ref o, .int ((D (o + 5) (Int32.toNatClampNeg v1)) - (nI 48))] D x1 ∧
 ((x1 = nI 0 → ((¬ (nI 0) = nI 0 → am_AW lay (d + 1) mX11_faultOf 2 [.ref o, .int (v1 + (nI 4)), .null] [] D Q) ∧
 (¬ (¬ (nI 0) = nI 0) → Q (some (.int v1)) D))) ∧
 (¬ (x1 = nI 0) → (vp_in (v1 + (nI 1)) 120 ∧ (((D (o + 5) (Int32.toNatClampNeg (v1 + (nI 1)))) = (nI 60) → (vp_in (v1 + (nI 2)) 120 ∧ (∃ x2, am_MetP lay d mX11_isPlayer [.ref o, .int ((D (o + 5) (Int32.toNatClampNeg (v1 + (nI 2)))) - (nI 48))] D x2 ∧
 ((x2 = nI 0 → ((¬ (nI 0) = nI 0 → am_AW lay (d + 1) mX11_faultOf 2 [.ref o, .int (v1 + (nI 4)), .null] [] D Q) ∧
 (¬ (¬ (nI 0) = nI 0) → Q (some (.int v1)) D))) ∧
 (¬ (x2 = nI 0) → (vp_in v1 120 ∧ (vp_in (v1 + (nI 2)) 120 ∧ (((D (o + 5) (Int32.toNatClampNeg v1)) = (D (o + 5) (Int32.toNatClampNeg (v1 + (nI 2)))) → ((¬ (nI 0) = nI 0 → am_AW lay (d + 1) mX11_faultOf 2 [.ref o, .int (v1 + (nI 4)), .null] [] D Q) ∧
 (¬ (¬ (nI 0) = nI 0) → Q (some (.int v1)) D))) ∧
 (¬ ((D (o + 5) (Int32.toNatClampNeg v1)) = (D (o + 5) (Int32.toNatClampNeg (v1 + (nI 2))))) → (vp_in (v1 + (nI 3)) 120 ∧ ((¬ (D (o + 5) (Int32.toNatClampNeg (v1 + (nI 3)))) = (nI 59) → ((¬ (nI 0) = nI 0 → am_AW lay (d + 1) mX11_faultOf 2 [.ref o, .int (v1 + (nI 4)), .null] [] D Q) ∧
 (¬ (¬ (nI 0) = nI 0) → Q (some (.int v1)) D))) ∧
 (¬ (¬ (D (o + 5) (Int32.toNatClampNeg (v1 + (nI 3)))) = (nI 59)) → ((¬ (nI 1) = nI 0 → am_AW lay (d + 1) mX11_faultOf 2 [.ref o, .int (v1 + (nI 4)), .null] [] D Q) ∧
 (¬ (¬ (nI 1) = nI 0) → Q (some (.int v1)) D)))))))))))))) ∧
 (¬ ((D (o + 5) (Int32.toNatClampNeg (v1 + (nI 1)))) = (nI 60)) → (vp_in (v1 + (nI 1)) 120 ∧ ((¬ (D (o + 5) (Int32.toNatClampNeg (v1 + (nI 1)))) = (nI 62) → ((¬ (nI 0) = nI 0 → am_AW lay (d + 1) mX11_faultOf 2 [.ref o, .int (v1 + (nI 4)), .null] [] D Q) ∧
 (¬ (¬ (nI 0) = nI 0) → Q (some (.int v1)) D))) ∧
 (¬ (¬ (D (o + 5) (Int32.toNatClampNeg (v1 + (nI 1)))) = (nI 62)) → (vp_in (v1 + (nI 2)) 120 ∧ (∃ x3, am_MetP lay d mX11_isPlayer [.ref o, .int ((D (o + 5) (Int32.toNatClampNeg (v1 + (nI 2)))) - (nI 48))] D x3 ∧
 ((x3 = nI 0 → ((¬ (nI 0) = nI 0 → am_AW lay (d + 1) mX11_faultOf 2 [.ref o, .int (v1 + (nI 4)), .null] [] D Q) ∧
 (¬ (¬ (nI 0) = nI 0) → Q (some (.int v1)) D))) ∧
 (¬ (x3 = nI 0) → (vp_in v1 120 ∧ (vp_in (v1 + (nI 2)) 120 ∧ (((D (o + 5) (Int32.toNatClampNeg v1)) = (D (o + 5) (Int32.toNatClampNeg (v1 + (nI 2)))) → ((¬ (nI 0) = nI 0 → am_AW lay (d + 1) mX11_faultOf 2 [.ref o, .int (v1 + (nI 4)), .null] [] D Q) ∧
 (¬ (¬ (nI 0) = nI 0) → Q (some (.int v1)) D))) ∧
 (¬ ((D (o + 5) (Int32.toNatClampNeg v1)) = (D (o + 5) (Int32.toNatClampNeg (v1 + (nI 2))))) → (vp_in (v1 + (nI 3)) 120 ∧ ((¬ (D (o + 5) (Int32.toNatClampNeg (v1 + (nI 3)))) = (nI 59) → ((¬ (nI 0) = nI 0 → am_AW lay (d + 1) mX11_faultOf 2 [.ref o, .int (v1 + (nI 4)), .null] [] D Q) ∧
 (¬ (¬ (nI 0) = nI 0) → Q (some (.int v1)) D))) ∧
 (¬ (¬ (D (o + 5) (Int32.toNatClampNeg (v1 + (nI 3)))) = (nI 59)) → ((¬ (nI 1) = nI 0 → am_AW lay (d + 1) mX11_faultOf 2 [.ref o, .int (v1 + (nI 4)), .null] [] D Q) ∧
 (¬ (¬ (nI 1) = nI 0) → Q (some (.int v1)) D)))))))))))))))))))))))))))) : am_AW lay (d + 1) mX11_faultOf 2 [.ref o, .int v1, .null] [] D Q := by
  refine am_iload_n (x := v1) dX11_faultOf_2 rfl ?_
  refine am_aload_n (x := o) dX11_faultOf_3 rfl ?_
  refine am_getI dX11_faultOf_4 fw_X11_114 ho.1 rfl ?_
  refine am_icmp_ge (tgt := 128) dX11_faultOf_7 (by decide) (fun h => ?_) (fun h => ?_)
  · replace hT := hT.1 h
    refine am_bipush (v := (-4)) dX11_faultOf_128 (by decide) ?_
    exact am_ireturn (ty := .int) dX11_faultOf_130 rfl rfl hT
  · replace hT := hT.2 h
    refine am_iload_n (x := v1) dX11_faultOf_10 rfl ?_
    refine am_iconst (v := (nI 4)) dX11_faultOf_11 (by decide) ?_
    refine am_iadd dX11_faultOf_12 ?_
    refine am_aload_n (x := o) dX11_faultOf_13 rfl ?_
    refine am_getI dX11_faultOf_14 fw_X11_114 ho.1 rfl ?_
    refine am_icmp_gt (tgt := 114) dX11_faultOf_17 (by decide) (fun h => ?_) (fun h => ?_)
    · replace hT := hT.1 h
      refine am_iconst (v := (nI 0)) dX11_faultOf_114 (by decide) ?_
      refine am_set (am_istore_n dX11_faultOf_115 (by decide)) (L1 := [.ref o, .int v1, .int (nI 0)]) rfl ?_
      refine am_iload_n (x := (nI 0)) dX11_faultOf_116 rfl ?_
      refine am_if_ne (tgt := 122) dX11_faultOf_117 (by decide) (fun h => ?_) (fun h => ?_)
      · replace hT := hT.1 h
        refine am_set (am_iinc (x := v1) (c0 := (nI 4)) dX11_faultOf_122 (by decide) rfl (by decide)) (L1 := [.ref o, .int (v1 + (nI 4)), .int (nI 0)]) rfl ?_
        refine am_goto (tgt := 2) dX11_faultOf_125 (by decide) ?_
        refine am_drop [2] (L1 := [.ref o, .int (v1 + (nI 4)), .null]) rfl ?_
        exact hT
      · replace hT := hT.2 h
        refine am_iload_n (x := v1) dX11_faultOf_120 rfl ?_
        exact am_ireturn (ty := .int) dX11_faultOf_121 rfl rfl hT
    · replace hT := hT.2 h
      refine am_aload_n (x := o) dX11_faultOf_20 rfl ?_
      refine am_aload_n (x := o) dX11_faultOf_21 rfl ?_
      refine am_getR dX11_faultOf_22 fw_X11_22 ho.1 rfl ?_
      refine am_iload_n (x := v1) dX11_faultOf_25 rfl ?_
      refine am_iald dX11_faultOf_26 ho.2.2.2.2.2.1 hT.1 ?_
      replace hT := hT.2
      refine am_bipush (v := (nI 48)) dX11_faultOf_27 (by decide) ?_
      refine am_isub dX11_faultOf_29 ?_
      obtain ⟨x1, hm, hT⟩ := hT
      refine am_callV (av := [.int ((D (o + 5) (Int32.toNatClampNeg v1)) - (nI 48))]) (st := []) (b := o) cw_X11_isPlayer cl_X11_57 ck_X11_isPlayer cs_X11_isPlayer ho.1 rfl rfl (Nat.le_of_ble_eq_true rfl) dX11_faultOf_30 hm (fun r D9 hr => ?_)
      obtain ⟨rfl, e9⟩ := hr
      rw [e9]
      clear e9
      refine am_if_eq (tgt := 114) dX11_faultOf_33 (by decide) (fun h => ?_) (fun h => ?_)
      · replace hT := hT.1 h
        refine am_iconst (v := (nI 0)) dX11_faultOf_114 (by decide) ?_
        refine am_set (am_istore_n dX11_faultOf_115 (by decide)) (L1 := [.ref o, .int v1, .int (nI 0)]) rfl ?_
        refine am_iload_n (x := (nI 0)) dX11_faultOf_116 rfl ?_
        refine am_if_ne (tgt := 122) dX11_faultOf_117 (by decide) (fun h => ?_) (fun h => ?_)
        · replace hT := hT.1 h
          refine am_set (am_iinc (x := v1) (c0 := (nI 4)) dX11_faultOf_122 (by decide) rfl (by decide)) (L1 := [.ref o, .int (v1 + (nI 4)), .int (nI 0)]) rfl ?_
          refine am_goto (tgt := 2) dX11_faultOf_125 (by decide) ?_
          refine am_drop [2] (L1 := [.ref o, .int (v1 + (nI 4)), .null]) rfl ?_
          exact hT
        · replace hT := hT.2 h
          refine am_iload_n (x := v1) dX11_faultOf_120 rfl ?_
          exact am_ireturn (ty := .int) dX11_faultOf_121 rfl rfl hT
      · replace hT := hT.2 h
        refine am_aload_n (x := o) dX11_faultOf_36 rfl ?_
        refine am_getR dX11_faultOf_37 fw_X11_22 ho.1 rfl ?_
        refine am_iload_n (x := v1) dX11_faultOf_40 rfl ?_
        refine am_iconst (v := (nI 1)) dX11_faultOf_41 (by decide) ?_
        refine am_iadd dX11_faultOf_42 ?_
        refine am_iald dX11_faultOf_43 ho.2.2.2.2.2.1 hT.1 ?_
        replace hT := hT.2
        refine am_bipush (v := (nI 60)) dX11_faultOf_44 (by decide) ?_
        refine am_icmp_eq (tgt := 62) dX11_faultOf_46 (by decide) (fun h => ?_) (fun h => ?_)
        · replace hT := hT.1 h
          refine am_aload_n (x := o) dX11_faultOf_62 rfl ?_
          refine am_aload_n (x := o) dX11_faultOf_63 rfl ?_
          refine am_getR dX11_faultOf_64 fw_X11_22 ho.1 rfl ?_
          refine am_iload_n (x := v1) dX11_faultOf_67 rfl ?_
          refine am_iconst (v := (nI 2)) dX11_faultOf_68 (by decide) ?_
          refine am_iadd dX11_faultOf_69 ?_
          refine am_iald dX11_faultOf_70 ho.2.2.2.2.2.1 hT.1 ?_
          replace hT := hT.2
          refine am_bipush (v := (nI 48)) dX11_faultOf_71 (by decide) ?_
          refine am_isub dX11_faultOf_73 ?_
          obtain ⟨x2, hm, hT⟩ := hT
          refine am_callV (av := [.int ((D (o + 5) (Int32.toNatClampNeg (v1 + (nI 2)))) - (nI 48))]) (st := []) (b := o) cw_X11_isPlayer cl_X11_57 ck_X11_isPlayer cs_X11_isPlayer ho.1 rfl rfl (Nat.le_of_ble_eq_true rfl) dX11_faultOf_74 hm (fun r D9 hr => ?_)
          obtain ⟨rfl, e9⟩ := hr
          rw [e9]
          clear e9
          refine am_if_eq (tgt := 114) dX11_faultOf_77 (by decide) (fun h => ?_) (fun h => ?_)
          · replace hT := hT.1 h
            refine am_iconst (v := (nI 0)) dX11_faultOf_114 (by decide) ?_
            refine am_set (am_istore_n dX11_faultOf_115 (by decide)) (L1 := [.ref o, .int v1, .int (nI 0)]) rfl ?_
            refine am_iload_n (x := (nI 0)) dX11_faultOf_116 rfl ?_
            refine am_if_ne (tgt := 122) dX11_faultOf_117 (by decide) (fun h => ?_) (fun h => ?_)
            · replace hT := hT.1 h
              refine am_set (am_iinc (x := v1) (c0 := (nI 4)) dX11_faultOf_122 (by decide) rfl (by decide)) (L1 := [.ref o, .int (v1 + (nI 4)), .int (nI 0)]) rfl ?_
              refine am_goto (tgt := 2) dX11_faultOf_125 (by decide) ?_
              refine am_drop [2] (L1 := [.ref o, .int (v1 + (nI 4)), .null]) rfl ?_
              exact hT
            · replace hT := hT.2 h
              refine am_iload_n (x := v1) dX11_faultOf_120 rfl ?_
              exact am_ireturn (ty := .int) dX11_faultOf_121 rfl rfl hT
          · replace hT := hT.2 h
            refine am_aload_n (x := o) dX11_faultOf_80 rfl ?_
            refine am_getR dX11_faultOf_81 fw_X11_22 ho.1 rfl ?_
            refine am_iload_n (x := v1) dX11_faultOf_84 rfl ?_
            refine am_iald dX11_faultOf_85 ho.2.2.2.2.2.1 hT.1 ?_
            replace hT := hT.2
            refine am_aload_n (x := o) dX11_faultOf_86 rfl ?_
            refine am_getR dX11_faultOf_87 fw_X11_22 ho.1 rfl ?_
            refine am_iload_n (x := v1) dX11_faultOf_90 rfl ?_
            refine am_iconst (v := (nI 2)) dX11_faultOf_91 (by decide) ?_
            refine am_iadd dX11_faultOf_92 ?_
            refine am_iald dX11_faultOf_93 ho.2.2.2.2.2.1 hT.1 ?_
            replace hT := hT.2
            refine am_icmp_eq (tgt := 114) dX11_faultOf_94 (by decide) (fun h => ?_) (fun h => ?_)
            · replace hT := hT.1 h
              refine am_iconst (v := (nI 0)) dX11_faultOf_114 (by decide) ?_
              refine am_set (am_istore_n dX11_faultOf_115 (by decide)) (L1 := [.ref o, .int v1, .int (nI 0)]) rfl ?_
              refine am_iload_n (x := (nI 0)) dX11_faultOf_116 rfl ?_
              refine am_if_ne (tgt := 122) dX11_faultOf_117 (by decide) (fun h => ?_) (fun h => ?_)
              · replace hT := hT.1 h
                refine am_set (am_iinc (x := v1) (c0 := (nI 4)) dX11_faultOf_122 (by decide) rfl (by decide)) (L1 := [.ref o, .int (v1 + (nI 4)), .int (nI 0)]) rfl ?_
                refine am_goto (tgt := 2) dX11_faultOf_125 (by decide) ?_
                refine am_drop [2] (L1 := [.ref o, .int (v1 + (nI 4)), .null]) rfl ?_
                exact hT
              · replace hT := hT.2 h
                refine am_iload_n (x := v1) dX11_faultOf_120 rfl ?_
                exact am_ireturn (ty := .int) dX11_faultOf_121 rfl rfl hT
            · replace hT := hT.2 h
              refine am_aload_n (x := o) dX11_faultOf_97 rfl ?_
              refine am_getR dX11_faultOf_98 fw_X11_22 ho.1 rfl ?_
              refine am_iload_n (x := v1) dX11_faultOf_101 rfl ?_
              refine am_iconst (v := (nI 3)) dX11_faultOf_102 (by decide) ?_
              refine am_iadd dX11_faultOf_103 ?_
              refine am_iald dX11_faultOf_104 ho.2.2.2.2.2.1 hT.1 ?_
              replace hT := hT.2
              refine am_bipush (v := (nI 59)) dX11_faultOf_105 (by decide) ?_
              refine am_icmp_ne (tgt := 114) dX11_faultOf_107 (by decide) (fun h => ?_) (fun h => ?_)
              · replace hT := hT.1 h
                refine am_iconst (v := (nI 0)) dX11_faultOf_114 (by decide) ?_
                refine am_set (am_istore_n dX11_faultOf_115 (by decide)) (L1 := [.ref o, .int v1, .int (nI 0)]) rfl ?_
                refine am_iload_n (x := (nI 0)) dX11_faultOf_116 rfl ?_
                refine am_if_ne (tgt := 122) dX11_faultOf_117 (by decide) (fun h => ?_) (fun h => ?_)
                · replace hT := hT.1 h
                  refine am_set (am_iinc (x := v1) (c0 := (nI 4)) dX11_faultOf_122 (by decide) rfl (by decide)) (L1 := [.ref o, .int (v1 + (nI 4)), .int (nI 0)]) rfl ?_
                  refine am_goto (tgt := 2) dX11_faultOf_125 (by decide) ?_
                  refine am_drop [2] (L1 := [.ref o, .int (v1 + (nI 4)), .null]) rfl ?_
                  exact hT
                · replace hT := hT.2 h
                  refine am_iload_n (x := v1) dX11_faultOf_120 rfl ?_
                  exact am_ireturn (ty := .int) dX11_faultOf_121 rfl rfl hT
              · replace hT := hT.2 h
                refine am_iconst (v := (nI 1)) dX11_faultOf_110 (by decide) ?_
                refine am_goto (tgt := 115) dX11_faultOf_111 (by decide) ?_
                refine am_set (am_istore_n dX11_faultOf_115 (by decide)) (L1 := [.ref o, .int v1, .int (nI 1)]) rfl ?_
                refine am_iload_n (x := (nI 1)) dX11_faultOf_116 rfl ?_
                refine am_if_ne (tgt := 122) dX11_faultOf_117 (by decide) (fun h => ?_) (fun h => ?_)
                · replace hT := hT.1 h
                  refine am_set (am_iinc (x := v1) (c0 := (nI 4)) dX11_faultOf_122 (by decide) rfl (by decide)) (L1 := [.ref o, .int (v1 + (nI 4)), .int (nI 1)]) rfl ?_
                  refine am_goto (tgt := 2) dX11_faultOf_125 (by decide) ?_
                  refine am_drop [2] (L1 := [.ref o, .int (v1 + (nI 4)), .null]) rfl ?_
                  exact hT
                · replace hT := hT.2 h
                  refine am_iload_n (x := v1) dX11_faultOf_120 rfl ?_
                  exact am_ireturn (ty := .int) dX11_faultOf_121 rfl rfl hT
        · replace hT := hT.2 h
          refine am_aload_n (x := o) dX11_faultOf_49 rfl ?_
          refine am_getR dX11_faultOf_50 fw_X11_22 ho.1 rfl ?_
          refine am_iload_n (x := v1) dX11_faultOf_53 rfl ?_
          refine am_iconst (v := (nI 1)) dX11_faultOf_54 (by decide) ?_
          refine am_iadd dX11_faultOf_55 ?_
          refine am_iald dX11_faultOf_56 ho.2.2.2.2.2.1 hT.1 ?_
          replace hT := hT.2
          refine am_bipush (v := (nI 62)) dX11_faultOf_57 (by decide) ?_
          refine am_icmp_ne (tgt := 114) dX11_faultOf_59 (by decide) (fun h => ?_) (fun h => ?_)
          · replace hT := hT.1 h
            refine am_iconst (v := (nI 0)) dX11_faultOf_114 (by decide) ?_
            refine am_set (am_istore_n dX11_faultOf_115 (by decide)) (L1 := [.ref o, .int v1, .int (nI 0)]) rfl ?_
            refine am_iload_n (x := (nI 0)) dX11_faultOf_116 rfl ?_
            refine am_if_ne (tgt := 122) dX11_faultOf_117 (by decide) (fun h => ?_) (fun h => ?_)
            · replace hT := hT.1 h
              refine am_set (am_iinc (x := v1) (c0 := (nI 4)) dX11_faultOf_122 (by decide) rfl (by decide)) (L1 := [.ref o, .int (v1 + (nI 4)), .int (nI 0)]) rfl ?_
              refine am_goto (tgt := 2) dX11_faultOf_125 (by decide) ?_
              refine am_drop [2] (L1 := [.ref o, .int (v1 + (nI 4)), .null]) rfl ?_
              exact hT
            · replace hT := hT.2 h
              refine am_iload_n (x := v1) dX11_faultOf_120 rfl ?_
              exact am_ireturn (ty := .int) dX11_faultOf_121 rfl rfl hT
          · replace hT := hT.2 h
            refine am_aload_n (x := o) dX11_faultOf_62 rfl ?_
            refine am_aload_n (x := o) dX11_faultOf_63 rfl ?_
            refine am_getR dX11_faultOf_64 fw_X11_22 ho.1 rfl ?_
            refine am_iload_n (x := v1) dX11_faultOf_67 rfl ?_
            refine am_iconst (v := (nI 2)) dX11_faultOf_68 (by decide) ?_
            refine am_iadd dX11_faultOf_69 ?_
            refine am_iald dX11_faultOf_70 ho.2.2.2.2.2.1 hT.1 ?_
            replace hT := hT.2
            refine am_bipush (v := (nI 48)) dX11_faultOf_71 (by decide) ?_
            refine am_isub dX11_faultOf_73 ?_
            obtain ⟨x3, hm, hT⟩ := hT
            refine am_callV (av := [.int ((D (o + 5) (Int32.toNatClampNeg (v1 + (nI 2)))) - (nI 48))]) (st := []) (b := o) cw_X11_isPlayer cl_X11_57 ck_X11_isPlayer cs_X11_isPlayer ho.1 rfl rfl (Nat.le_of_ble_eq_true rfl) dX11_faultOf_74 hm (fun r D9 hr => ?_)
            obtain ⟨rfl, e9⟩ := hr
            rw [e9]
            clear e9
            refine am_if_eq (tgt := 114) dX11_faultOf_77 (by decide) (fun h => ?_) (fun h => ?_)
            · replace hT := hT.1 h
              refine am_iconst (v := (nI 0)) dX11_faultOf_114 (by decide) ?_
              refine am_set (am_istore_n dX11_faultOf_115 (by decide)) (L1 := [.ref o, .int v1, .int (nI 0)]) rfl ?_
              refine am_iload_n (x := (nI 0)) dX11_faultOf_116 rfl ?_
              refine am_if_ne (tgt := 122) dX11_faultOf_117 (by decide) (fun h => ?_) (fun h => ?_)
              · replace hT := hT.1 h
                refine am_set (am_iinc (x := v1) (c0 := (nI 4)) dX11_faultOf_122 (by decide) rfl (by decide)) (L1 := [.ref o, .int (v1 + (nI 4)), .int (nI 0)]) rfl ?_
                refine am_goto (tgt := 2) dX11_faultOf_125 (by decide) ?_
                refine am_drop [2] (L1 := [.ref o, .int (v1 + (nI 4)), .null]) rfl ?_
                exact hT
              · replace hT := hT.2 h
                refine am_iload_n (x := v1) dX11_faultOf_120 rfl ?_
                exact am_ireturn (ty := .int) dX11_faultOf_121 rfl rfl hT
            · replace hT := hT.2 h
              refine am_aload_n (x := o) dX11_faultOf_80 rfl ?_
              refine am_getR dX11_faultOf_81 fw_X11_22 ho.1 rfl ?_
              refine am_iload_n (x := v1) dX11_faultOf_84 rfl ?_
              refine am_iald dX11_faultOf_85 ho.2.2.2.2.2.1 hT.1 ?_
              replace hT := hT.2
              refine am_aload_n (x := o) dX11_faultOf_86 rfl ?_
              refine am_getR dX11_faultOf_87 fw_X11_22 ho.1 rfl ?_
              refine am_iload_n (x := v1) dX11_faultOf_90 rfl ?_
              refine am_iconst (v := (nI 2)) dX11_faultOf_91 (by decide) ?_
              refine am_iadd dX11_faultOf_92 ?_
              refine am_iald dX11_faultOf_93 ho.2.2.2.2.2.1 hT.1 ?_
              replace hT := hT.2
              refine am_icmp_eq (tgt := 114) dX11_faultOf_94 (by decide) (fun h => ?_) (fun h => ?_)
              · replace hT := hT.1 h
                refine am_iconst (v := (nI 0)) dX11_faultOf_114 (by decide) ?_
                refine am_set (am_istore_n dX11_faultOf_115 (by decide)) (L1 := [.ref o, .int v1, .int (nI 0)]) rfl ?_
                refine am_iload_n (x := (nI 0)) dX11_faultOf_116 rfl ?_
                refine am_if_ne (tgt := 122) dX11_faultOf_117 (by decide) (fun h => ?_) (fun h => ?_)
                · replace hT := hT.1 h
                  refine am_set (am_iinc (x := v1) (c0 := (nI 4)) dX11_faultOf_122 (by decide) rfl (by decide)) (L1 := [.ref o, .int (v1 + (nI 4)), .int (nI 0)]) rfl ?_
                  refine am_goto (tgt := 2) dX11_faultOf_125 (by decide) ?_
                  refine am_drop [2] (L1 := [.ref o, .int (v1 + (nI 4)), .null]) rfl ?_
                  exact hT
                · replace hT := hT.2 h
                  refine am_iload_n (x := v1) dX11_faultOf_120 rfl ?_
                  exact am_ireturn (ty := .int) dX11_faultOf_121 rfl rfl hT
              · replace hT := hT.2 h
                refine am_aload_n (x := o) dX11_faultOf_97 rfl ?_
                refine am_getR dX11_faultOf_98 fw_X11_22 ho.1 rfl ?_
                refine am_iload_n (x := v1) dX11_faultOf_101 rfl ?_
                refine am_iconst (v := (nI 3)) dX11_faultOf_102 (by decide) ?_
                refine am_iadd dX11_faultOf_103 ?_
                refine am_iald dX11_faultOf_104 ho.2.2.2.2.2.1 hT.1 ?_
                replace hT := hT.2
                refine am_bipush (v := (nI 59)) dX11_faultOf_105 (by decide) ?_
                refine am_icmp_ne (tgt := 114) dX11_faultOf_107 (by decide) (fun h => ?_) (fun h => ?_)
                · replace hT := hT.1 h
                  refine am_iconst (v := (nI 0)) dX11_faultOf_114 (by decide) ?_
                  refine am_set (am_istore_n dX11_faultOf_115 (by decide)) (L1 := [.ref o, .int v1, .int (nI 0)]) rfl ?_
                  refine am_iload_n (x := (nI 0)) dX11_faultOf_116 rfl ?_
                  refine am_if_ne (tgt := 122) dX11_faultOf_117 (by decide) (fun h => ?_) (fun h => ?_)
                  · replace hT := hT.1 h
                    refine am_set (am_iinc (x := v1) (c0 := (nI 4)) dX11_faultOf_122 (by decide) rfl (by decide)) (L1 := [.ref o, .int (v1 + (nI 4)), .int (nI 0)]) rfl ?_
                    refine am_goto (tgt := 2) dX11_faultOf_125 (by decide) ?_
                    refine am_drop [2] (L1 := [.ref o, .int (v1 + (nI 4)), .null]) rfl ?_
                    exact hT
                  · replace hT := hT.2 h
                    refine am_iload_n (x := v1) dX11_faultOf_120 rfl ?_
                    exact am_ireturn (ty := .int) dX11_faultOf_121 rfl rfl hT
                · replace hT := hT.2 h
                  refine am_iconst (v := (nI 1)) dX11_faultOf_110 (by decide) ?_
                  refine am_goto (tgt := 115) dX11_faultOf_111 (by decide) ?_
                  refine am_set (am_istore_n dX11_faultOf_115 (by decide)) (L1 := [.ref o, .int v1, .int (nI 1)]) rfl ?_
                  refine am_iload_n (x := (nI 1)) dX11_faultOf_116 rfl ?_
                  refine am_if_ne (tgt := 122) dX11_faultOf_117 (by decide) (fun h => ?_) (fun h => ?_)
                  · replace hT := hT.1 h
                    refine am_set (am_iinc (x := v1) (c0 := (nI 4)) dX11_faultOf_122 (by decide) rfl (by decide)) (L1 := [.ref o, .int (v1 + (nI 4)), .int (nI 1)]) rfl ?_
                    refine am_goto (tgt := 2) dX11_faultOf_125 (by decide) ?_
                    refine am_drop [2] (L1 := [.ref o, .int (v1 + (nI 4)), .null]) rfl ?_
                    exact hT
                  · replace hT := hT.2 h
                    refine am_iload_n (x := v1) dX11_faultOf_120 rfl ?_
                    exact am_ireturn (ty := .int) dX11_faultOf_121 rfl rfl hT
set_option maxRecDepth 20000 in
theorem eX11_enter {lay : List am_L} {d : Nat} {D : am_D} {Q : Option Value → am_D → Prop} {o : Nat} (ho : isX11 lay o) (hT : (∃ x1, am_MetP lay d mX11_faultOf [.ref o] D x1 ∧
 ((x1 = (-4) → (∃ D2, am_MetV lay d mX11_keeps [.ref o] D D2 ∧
 am_AW lay (d + 1) mX11_enter 18 [.ref o, .int (nI 0), .null] [] D2 Q)) ∧
 (¬ (x1 = (-4)) → Q (some (.int (-2))) D)))) : am_Met lay (d + 1) mX11_enter [.ref o] D Q := by
  refine am_enter (by decide +kernel) rfl (Nat.le_of_ble_eq_true rfl) ?_
  show am_AW lay (d + 1) mX11_enter 0 [.ref o, .null, .null] [] D Q
  refine am_aload_n (x := o) dX11_enter_0 rfl ?_
  obtain ⟨x1, hm, hT⟩ := hT
  refine am_callV (av := []) (st := []) (b := o) cw_X11_faultOf cl_X11_117 ck_X11_faultOf cs_X11_faultOf ho.1 rfl rfl (Nat.le_of_ble_eq_true rfl) dX11_enter_1 hm (fun r D9 hr => ?_)
  obtain ⟨rfl, e9⟩ := hr
  rw [e9]
  clear e9
  refine am_bipush (v := (-4)) dX11_enter_4 (by decide) ?_
  refine am_icmp_eq (tgt := 12) dX11_enter_6 (by decide) (fun h => ?_) (fun h => ?_)
  · replace hT := hT.1 h
    refine am_aload_n (x := o) dX11_enter_12 rfl ?_
    obtain ⟨D2, hm, hT⟩ := hT
    refine am_callV (av := []) (st := []) (b := o) cw_X11_keeps cl_X11_76 ck_X11_keeps cs_X11_keeps ho.1 rfl rfl (Nat.le_of_ble_eq_true rfl) dX11_enter_13 hm (fun r D9 hr => ?_)
    obtain ⟨rfl, e9⟩ := hr
    rw [e9]
    clear e9
    refine am_iconst (v := (nI 0)) dX11_enter_16 (by decide) ?_
    refine am_set (am_istore_n dX11_enter_17 (by decide)) (L1 := [.ref o, .int (nI 0), .null]) rfl ?_
    exact hT
  · replace hT := hT.2 h
    refine am_bipush (v := (-2)) dX11_enter_9 (by decide) ?_
    exact am_ireturn (ty := .int) dX11_enter_11 rfl rfl hT
set_option maxRecDepth 20000 in
theorem rX11_enter_18 {lay : List am_L} {d : Nat} {D : am_D} {Q : Option Value → am_D → Prop} {o : Nat} {v1 : Int32} (ho : isX11 lay o) (hT : (((D o 6) ≤ v1 → Q (some (.int ((D o 6) / (nI 4)))) D) ∧
 (¬ ((D o 6) ≤ v1) → (vp_in (v1 + (nI 1)) 120 ∧ ((¬ (D (o + 5) (Int32.toNatClampNeg (v1 + (nI 1)))) = (nI 62) → (((nI 0) = nI 0 → (vp_in (v1 + (nI 2)) 120 ∧ (((nI 0) = nI 0 → (vp_in v1 120 ∧ (∃ D1, am_MetV lay d mX11_wins [.ref o, .int ((D (o + 5) (Int32.toNatClampNeg (v1 + (nI 2)))) - (nI 48)), .int ((D (o + 5) (Int32.toNatClampNeg v1)) - (nI 48))] D D1 ∧
 am_AW lay (d + 1) mX11_enter 18 [.ref o, .int (v1 + (nI 4)), .null] [] D1 Q))) ∧
 (¬ ((nI 0) = nI 0) → (vp_in (v1 + (nI 2)) 120 ∧ (∃ D2, am_MetV lay d mX11_wins [.ref o, .int ((D (o + 5) (Int32.toNatClampNeg (v1 + (nI 2)))) - (nI 48)), .int ((D (o + 5) (Int32.toNatClampNeg (v1 + (nI 2)))) - (nI 48))] D D2 ∧
 am_AW lay (d + 1) mX11_enter 18 [.ref o, .int (v1 + (nI 4)), .null] [] D2 Q)))))) ∧
 (¬ ((nI 0) = nI 0) → (vp_in v1 120 ∧ (((nI 0) = nI 0 → (vp_in v1 120 ∧ (∃ D3, am_MetV lay d mX11_wins [.ref o, .int ((D (o + 5) (Int32.toNatClampNeg v1)) - (nI 48)), .int ((D (o + 5) (Int32.toNatClampNeg v1)) - (nI 48))] D D3 ∧
 am_AW lay (d + 1) mX11_enter 18 [.ref o, .int (v1 + (nI 4)), .null] [] D3 Q))) ∧
 (¬ ((nI 0) = nI 0) → (vp_in (v1 + (nI 2)) 120 ∧ (∃ D4, am_MetV lay d mX11_wins [.ref o, .int ((D (o + 5) (Int32.toNatClampNeg v1)) - (nI 48)), .int ((D (o + 5) (Int32.toNatClampNeg (v1 + (nI 2)))) - (nI 48))] D D4 ∧
 am_AW lay (d + 1) mX11_enter 18 [.ref o, .int (v1 + (nI 4)), .null] [] D4 Q)))))))) ∧
 (¬ (¬ (D (o + 5) (Int32.toNatClampNeg (v1 + (nI 1)))) = (nI 62)) → (((nI 1) = nI 0 → (vp_in (v1 + (nI 2)) 120 ∧ (((nI 1) = nI 0 → (vp_in v1 120 ∧ (∃ D5, am_MetV lay d mX11_wins [.ref o, .int ((D (o + 5) (Int32.toNatClampNeg (v1 + (nI 2)))) - (nI 48)), .int ((D (o + 5) (Int32.toNatClampNeg v1)) - (nI 48))] D D5 ∧
 am_AW lay (d + 1) mX11_enter 18 [.ref o, .int (v1 + (nI 4)), .null] [] D5 Q))) ∧
 (¬ ((nI 1) = nI 0) → (vp_in (v1 + (nI 2)) 120 ∧ (∃ D6, am_MetV lay d mX11_wins [.ref o, .int ((D (o + 5) (Int32.toNatClampNeg (v1 + (nI 2)))) - (nI 48)), .int ((D (o + 5) (Int32.toNatClampNeg (v1 + (nI 2)))) - (nI 48))] D D6 ∧
 am_AW lay (d + 1) mX11_enter 18 [.ref o, .int (v1 + (nI 4)), .null] [] D6 Q)))))) ∧
 (¬ ((nI 1) = nI 0) → (vp_in v1 120 ∧ (((nI 1) = nI 0 → (vp_in v1 120 ∧ (∃ D7, am_MetV lay d mX11_wins [.ref o, .int ((D (o + 5) (Int32.toNatClampNeg v1)) - (nI 48)), .int ((D (o + 5) (Int32.toNatClampNeg v1)) - (nI 48))] D D7 ∧
 am_AW lay (d + 1) mX11_enter 18 [.ref o, .int (v1 + (nI 4)), .null] [] D7 Q))) ∧
 (¬ ((nI 1) = nI 0) → (vp_in (v1 + (nI 2)) 120 ∧ (∃ D8, am_MetV lay d mX11_wins [.ref o, .int ((D (o + 5) (Int32.toNatClampNeg v1)) - (nI 48)), .int ((D (o + 5) (Int32.toNatClampNeg (v1 + (nI 2)))) - (nI 48))] D D8 ∧
 am_AW lay (d + 1) mX11_enter 18 [.ref o, .int (v1 + (nI 4)), .null] [] D8 Q))))))))))))) : am_AW lay (d + 1) mX11_enter 18 [.ref o, .int v1, .null] [] D Q := by
  refine am_iload_n (x := v1) dX11_enter_18 rfl ?_
  refine am_aload_n (x := o) dX11_enter_19 rfl ?_
  refine am_getI dX11_enter_20 fw_X11_114 ho.1 rfl ?_
  refine am_icmp_ge (tgt := 93) dX11_enter_23 (by decide) (fun h => ?_) (fun h => ?_)
  · replace hT := hT.1 h
    refine am_aload_n (x := o) dX11_enter_93 rfl ?_
    refine am_getI dX11_enter_94 fw_X11_114 ho.1 rfl ?_
    refine am_iconst (v := (nI 4)) dX11_enter_97 (by decide) ?_
    refine am_idiv dX11_enter_98 (by decide) ?_
    exact am_ireturn (ty := .int) dX11_enter_99 rfl rfl hT
  · replace hT := hT.2 h
    refine am_aload_n (x := o) dX11_enter_26 rfl ?_
    refine am_getR dX11_enter_27 fw_X11_22 ho.1 rfl ?_
    refine am_iload_n (x := v1) dX11_enter_30 rfl ?_
    refine am_iconst (v := (nI 1)) dX11_enter_31 (by decide) ?_
    refine am_iadd dX11_enter_32 ?_
    refine am_iald dX11_enter_33 ho.2.2.2.2.2.1 hT.1 ?_
    replace hT := hT.2
    refine am_bipush (v := (nI 62)) dX11_enter_34 (by decide) ?_
    refine am_icmp_ne (tgt := 43) dX11_enter_36 (by decide) (fun h => ?_) (fun h => ?_)
    · replace hT := hT.1 h
      refine am_iconst (v := (nI 0)) dX11_enter_43 (by decide) ?_
      refine am_set (am_istore_n dX11_enter_44 (by decide)) (L1 := [.ref o, .int v1, .int (nI 0)]) rfl ?_
      refine am_aload_n (x := o) dX11_enter_45 rfl ?_
      refine am_aload_n (x := o) dX11_enter_46 rfl ?_
      refine am_getR dX11_enter_47 fw_X11_22 ho.1 rfl ?_
      refine am_iload_n (x := (nI 0)) dX11_enter_50 rfl ?_
      refine am_if_eq (tgt := 58) dX11_enter_51 (by decide) (fun h => ?_) (fun h => ?_)
      · replace hT := hT.1 h
        refine am_iload_n (x := v1) dX11_enter_58 rfl ?_
        refine am_iconst (v := (nI 2)) dX11_enter_59 (by decide) ?_
        refine am_iadd dX11_enter_60 ?_
        refine am_iald dX11_enter_61 ho.2.2.2.2.2.1 hT.1 ?_
        replace hT := hT.2
        refine am_bipush (v := (nI 48)) dX11_enter_62 (by decide) ?_
        refine am_isub dX11_enter_64 ?_
        refine am_aload_n (x := o) dX11_enter_65 rfl ?_
        refine am_getR dX11_enter_66 fw_X11_22 ho.1 rfl ?_
        refine am_iload_n (x := (nI 0)) dX11_enter_69 rfl ?_
        refine am_if_eq (tgt := 79) dX11_enter_70 (by decide) (fun h => ?_) (fun h => ?_)
        · replace hT := hT.1 h
          refine am_iload_n (x := v1) dX11_enter_79 rfl ?_
          refine am_iald dX11_enter_80 ho.2.2.2.2.2.1 hT.1 ?_
          replace hT := hT.2
          refine am_bipush (v := (nI 48)) dX11_enter_81 (by decide) ?_
          refine am_isub dX11_enter_83 ?_
          obtain ⟨D1, hm, hT⟩ := hT
          refine am_callV (av := [.int ((D (o + 5) (Int32.toNatClampNeg (v1 + (nI 2)))) - (nI 48)), .int ((D (o + 5) (Int32.toNatClampNeg v1)) - (nI 48))]) (st := []) (b := o) cw_X11_wins cl_X11_72 ck_X11_wins cs_X11_wins ho.1 rfl rfl (Nat.le_of_ble_eq_true rfl) dX11_enter_84 hm (fun r D9 hr => ?_)
          obtain ⟨rfl, e9⟩ := hr
          rw [e9]
          clear e9
          refine am_set (am_iinc (x := v1) (c0 := (nI 4)) dX11_enter_87 (by decide) rfl (by decide)) (L1 := [.ref o, .int (v1 + (nI 4)), .int (nI 0)]) rfl ?_
          refine am_goto (tgt := 18) dX11_enter_90 (by decide) ?_
          refine am_drop [2] (L1 := [.ref o, .int (v1 + (nI 4)), .null]) rfl ?_
          exact hT
        · replace hT := hT.2 h
          refine am_iload_n (x := v1) dX11_enter_73 rfl ?_
          refine am_iconst (v := (nI 2)) dX11_enter_74 (by decide) ?_
          refine am_iadd dX11_enter_75 ?_
          refine am_goto (tgt := 80) dX11_enter_76 (by decide) ?_
          refine am_iald dX11_enter_80 ho.2.2.2.2.2.1 hT.1 ?_
          replace hT := hT.2
          refine am_bipush (v := (nI 48)) dX11_enter_81 (by decide) ?_
          refine am_isub dX11_enter_83 ?_
          obtain ⟨D2, hm, hT⟩ := hT
          refine am_callV (av := [.int ((D (o + 5) (Int32.toNatClampNeg (v1 + (nI 2)))) - (nI 48)), .int ((D (o + 5) (Int32.toNatClampNeg (v1 + (nI 2)))) - (nI 48))]) (st := []) (b := o) cw_X11_wins cl_X11_72 ck_X11_wins cs_X11_wins ho.1 rfl rfl (Nat.le_of_ble_eq_true rfl) dX11_enter_84 hm (fun r D9 hr => ?_)
          obtain ⟨rfl, e9⟩ := hr
          rw [e9]
          clear e9
          refine am_set (am_iinc (x := v1) (c0 := (nI 4)) dX11_enter_87 (by decide) rfl (by decide)) (L1 := [.ref o, .int (v1 + (nI 4)), .int (nI 0)]) rfl ?_
          refine am_goto (tgt := 18) dX11_enter_90 (by decide) ?_
          refine am_drop [2] (L1 := [.ref o, .int (v1 + (nI 4)), .null]) rfl ?_
          exact hT
      · replace hT := hT.2 h
        refine am_iload_n (x := v1) dX11_enter_54 rfl ?_
        refine am_goto (tgt := 61) dX11_enter_55 (by decide) ?_
        refine am_iald dX11_enter_61 ho.2.2.2.2.2.1 hT.1 ?_
        replace hT := hT.2
        refine am_bipush (v := (nI 48)) dX11_enter_62 (by decide) ?_
        refine am_isub dX11_enter_64 ?_
        refine am_aload_n (x := o) dX11_enter_65 rfl ?_
        refine am_getR dX11_enter_66 fw_X11_22 ho.1 rfl ?_
        refine am_iload_n (x := (nI 0)) dX11_enter_69 rfl ?_
        refine am_if_eq (tgt := 79) dX11_enter_70 (by decide) (fun h => ?_) (fun h => ?_)
        · replace hT := hT.1 h
          refine am_iload_n (x := v1) dX11_enter_79 rfl ?_
          refine am_iald dX11_enter_80 ho.2.2.2.2.2.1 hT.1 ?_
          replace hT := hT.2
          refine am_bipush (v := (nI 48)) dX11_enter_81 (by decide) ?_
          refine am_isub dX11_enter_83 ?_
          obtain ⟨D3, hm, hT⟩ := hT
          refine am_callV (av := [.int ((D (o + 5) (Int32.toNatClampNeg v1)) - (nI 48)), .int ((D (o + 5) (Int32.toNatClampNeg v1)) - (nI 48))]) (st := []) (b := o) cw_X11_wins cl_X11_72 ck_X11_wins cs_X11_wins ho.1 rfl rfl (Nat.le_of_ble_eq_true rfl) dX11_enter_84 hm (fun r D9 hr => ?_)
          obtain ⟨rfl, e9⟩ := hr
          rw [e9]
          clear e9
          refine am_set (am_iinc (x := v1) (c0 := (nI 4)) dX11_enter_87 (by decide) rfl (by decide)) (L1 := [.ref o, .int (v1 + (nI 4)), .int (nI 0)]) rfl ?_
          refine am_goto (tgt := 18) dX11_enter_90 (by decide) ?_
          refine am_drop [2] (L1 := [.ref o, .int (v1 + (nI 4)), .null]) rfl ?_
          exact hT
        · replace hT := hT.2 h
          refine am_iload_n (x := v1) dX11_enter_73 rfl ?_
          refine am_iconst (v := (nI 2)) dX11_enter_74 (by decide) ?_
          refine am_iadd dX11_enter_75 ?_
          refine am_goto (tgt := 80) dX11_enter_76 (by decide) ?_
          refine am_iald dX11_enter_80 ho.2.2.2.2.2.1 hT.1 ?_
          replace hT := hT.2
          refine am_bipush (v := (nI 48)) dX11_enter_81 (by decide) ?_
          refine am_isub dX11_enter_83 ?_
          obtain ⟨D4, hm, hT⟩ := hT
          refine am_callV (av := [.int ((D (o + 5) (Int32.toNatClampNeg v1)) - (nI 48)), .int ((D (o + 5) (Int32.toNatClampNeg (v1 + (nI 2)))) - (nI 48))]) (st := []) (b := o) cw_X11_wins cl_X11_72 ck_X11_wins cs_X11_wins ho.1 rfl rfl (Nat.le_of_ble_eq_true rfl) dX11_enter_84 hm (fun r D9 hr => ?_)
          obtain ⟨rfl, e9⟩ := hr
          rw [e9]
          clear e9
          refine am_set (am_iinc (x := v1) (c0 := (nI 4)) dX11_enter_87 (by decide) rfl (by decide)) (L1 := [.ref o, .int (v1 + (nI 4)), .int (nI 0)]) rfl ?_
          refine am_goto (tgt := 18) dX11_enter_90 (by decide) ?_
          refine am_drop [2] (L1 := [.ref o, .int (v1 + (nI 4)), .null]) rfl ?_
          exact hT
    · replace hT := hT.2 h
      refine am_iconst (v := (nI 1)) dX11_enter_39 (by decide) ?_
      refine am_goto (tgt := 44) dX11_enter_40 (by decide) ?_
      refine am_set (am_istore_n dX11_enter_44 (by decide)) (L1 := [.ref o, .int v1, .int (nI 1)]) rfl ?_
      refine am_aload_n (x := o) dX11_enter_45 rfl ?_
      refine am_aload_n (x := o) dX11_enter_46 rfl ?_
      refine am_getR dX11_enter_47 fw_X11_22 ho.1 rfl ?_
      refine am_iload_n (x := (nI 1)) dX11_enter_50 rfl ?_
      refine am_if_eq (tgt := 58) dX11_enter_51 (by decide) (fun h => ?_) (fun h => ?_)
      · replace hT := hT.1 h
        refine am_iload_n (x := v1) dX11_enter_58 rfl ?_
        refine am_iconst (v := (nI 2)) dX11_enter_59 (by decide) ?_
        refine am_iadd dX11_enter_60 ?_
        refine am_iald dX11_enter_61 ho.2.2.2.2.2.1 hT.1 ?_
        replace hT := hT.2
        refine am_bipush (v := (nI 48)) dX11_enter_62 (by decide) ?_
        refine am_isub dX11_enter_64 ?_
        refine am_aload_n (x := o) dX11_enter_65 rfl ?_
        refine am_getR dX11_enter_66 fw_X11_22 ho.1 rfl ?_
        refine am_iload_n (x := (nI 1)) dX11_enter_69 rfl ?_
        refine am_if_eq (tgt := 79) dX11_enter_70 (by decide) (fun h => ?_) (fun h => ?_)
        · replace hT := hT.1 h
          refine am_iload_n (x := v1) dX11_enter_79 rfl ?_
          refine am_iald dX11_enter_80 ho.2.2.2.2.2.1 hT.1 ?_
          replace hT := hT.2
          refine am_bipush (v := (nI 48)) dX11_enter_81 (by decide) ?_
          refine am_isub dX11_enter_83 ?_
          obtain ⟨D5, hm, hT⟩ := hT
          refine am_callV (av := [.int ((D (o + 5) (Int32.toNatClampNeg (v1 + (nI 2)))) - (nI 48)), .int ((D (o + 5) (Int32.toNatClampNeg v1)) - (nI 48))]) (st := []) (b := o) cw_X11_wins cl_X11_72 ck_X11_wins cs_X11_wins ho.1 rfl rfl (Nat.le_of_ble_eq_true rfl) dX11_enter_84 hm (fun r D9 hr => ?_)
          obtain ⟨rfl, e9⟩ := hr
          rw [e9]
          clear e9
          refine am_set (am_iinc (x := v1) (c0 := (nI 4)) dX11_enter_87 (by decide) rfl (by decide)) (L1 := [.ref o, .int (v1 + (nI 4)), .int (nI 1)]) rfl ?_
          refine am_goto (tgt := 18) dX11_enter_90 (by decide) ?_
          refine am_drop [2] (L1 := [.ref o, .int (v1 + (nI 4)), .null]) rfl ?_
          exact hT
        · replace hT := hT.2 h
          refine am_iload_n (x := v1) dX11_enter_73 rfl ?_
          refine am_iconst (v := (nI 2)) dX11_enter_74 (by decide) ?_
          refine am_iadd dX11_enter_75 ?_
          refine am_goto (tgt := 80) dX11_enter_76 (by decide) ?_
          refine am_iald dX11_enter_80 ho.2.2.2.2.2.1 hT.1 ?_
          replace hT := hT.2
          refine am_bipush (v := (nI 48)) dX11_enter_81 (by decide) ?_
          refine am_isub dX11_enter_83 ?_
          obtain ⟨D6, hm, hT⟩ := hT
          refine am_callV (av := [.int ((D (o + 5) (Int32.toNatClampNeg (v1 + (nI 2)))) - (nI 48)), .int ((D (o + 5) (Int32.toNatClampNeg (v1 + (nI 2)))) - (nI 48))]) (st := []) (b := o) cw_X11_wins cl_X11_72 ck_X11_wins cs_X11_wins ho.1 rfl rfl (Nat.le_of_ble_eq_true rfl) dX11_enter_84 hm (fun r D9 hr => ?_)
          obtain ⟨rfl, e9⟩ := hr
          rw [e9]
          clear e9
          refine am_set (am_iinc (x := v1) (c0 := (nI 4)) dX11_enter_87 (by decide) rfl (by decide)) (L1 := [.ref o, .int (v1 + (nI 4)), .int (nI 1)]) rfl ?_
          refine am_goto (tgt := 18) dX11_enter_90 (by decide) ?_
          refine am_drop [2] (L1 := [.ref o, .int (v1 + (nI 4)), .null]) rfl ?_
          exact hT
      · replace hT := hT.2 h
        refine am_iload_n (x := v1) dX11_enter_54 rfl ?_
        refine am_goto (tgt := 61) dX11_enter_55 (by decide) ?_
        refine am_iald dX11_enter_61 ho.2.2.2.2.2.1 hT.1 ?_
        replace hT := hT.2
        refine am_bipush (v := (nI 48)) dX11_enter_62 (by decide) ?_
        refine am_isub dX11_enter_64 ?_
        refine am_aload_n (x := o) dX11_enter_65 rfl ?_
        refine am_getR dX11_enter_66 fw_X11_22 ho.1 rfl ?_
        refine am_iload_n (x := (nI 1)) dX11_enter_69 rfl ?_
        refine am_if_eq (tgt := 79) dX11_enter_70 (by decide) (fun h => ?_) (fun h => ?_)
        · replace hT := hT.1 h
          refine am_iload_n (x := v1) dX11_enter_79 rfl ?_
          refine am_iald dX11_enter_80 ho.2.2.2.2.2.1 hT.1 ?_
          replace hT := hT.2
          refine am_bipush (v := (nI 48)) dX11_enter_81 (by decide) ?_
          refine am_isub dX11_enter_83 ?_
          obtain ⟨D7, hm, hT⟩ := hT
          refine am_callV (av := [.int ((D (o + 5) (Int32.toNatClampNeg v1)) - (nI 48)), .int ((D (o + 5) (Int32.toNatClampNeg v1)) - (nI 48))]) (st := []) (b := o) cw_X11_wins cl_X11_72 ck_X11_wins cs_X11_wins ho.1 rfl rfl (Nat.le_of_ble_eq_true rfl) dX11_enter_84 hm (fun r D9 hr => ?_)
          obtain ⟨rfl, e9⟩ := hr
          rw [e9]
          clear e9
          refine am_set (am_iinc (x := v1) (c0 := (nI 4)) dX11_enter_87 (by decide) rfl (by decide)) (L1 := [.ref o, .int (v1 + (nI 4)), .int (nI 1)]) rfl ?_
          refine am_goto (tgt := 18) dX11_enter_90 (by decide) ?_
          refine am_drop [2] (L1 := [.ref o, .int (v1 + (nI 4)), .null]) rfl ?_
          exact hT
        · replace hT := hT.2 h
          refine am_iload_n (x := v1) dX11_enter_73 rfl ?_
          refine am_iconst (v := (nI 2)) dX11_enter_74 (by decide) ?_
          refine am_iadd dX11_enter_75 ?_
          refine am_goto (tgt := 80) dX11_enter_76 (by decide) ?_
          refine am_iald dX11_enter_80 ho.2.2.2.2.2.1 hT.1 ?_
          replace hT := hT.2
          refine am_bipush (v := (nI 48)) dX11_enter_81 (by decide) ?_
          refine am_isub dX11_enter_83 ?_
          obtain ⟨D8, hm, hT⟩ := hT
          refine am_callV (av := [.int ((D (o + 5) (Int32.toNatClampNeg v1)) - (nI 48)), .int ((D (o + 5) (Int32.toNatClampNeg (v1 + (nI 2)))) - (nI 48))]) (st := []) (b := o) cw_X11_wins cl_X11_72 ck_X11_wins cs_X11_wins ho.1 rfl rfl (Nat.le_of_ble_eq_true rfl) dX11_enter_84 hm (fun r D9 hr => ?_)
          obtain ⟨rfl, e9⟩ := hr
          rw [e9]
          clear e9
          refine am_set (am_iinc (x := v1) (c0 := (nI 4)) dX11_enter_87 (by decide) rfl (by decide)) (L1 := [.ref o, .int (v1 + (nI 4)), .int (nI 1)]) rfl ?_
          refine am_goto (tgt := 18) dX11_enter_90 (by decide) ?_
          refine am_drop [2] (L1 := [.ref o, .int (v1 + (nI 4)), .null]) rfl ?_
          exact hT
set_option maxRecDepth 20000 in
theorem eX11_recall {lay : List am_L} {d : Nat} {D : am_D} {Q : Option Value → am_D → Prop} {o : Nat} (ho : isX11 lay o) (hT : (∃ D1, am_MetV lay d mX11_keeps [.ref o] D D1 ∧
 (∃ D2, am_MetV lay d mX11_copies [.ref (o + 2), .ref (o + 1)] D1 D2 ∧
 (∃ x3, am_MetP lay d mX11_n [.ref o] D2 x3 ∧
 Q (some (.int x3)) D2)))) : am_Met lay (d + 1) mX11_recall [.ref o] D Q := by
  refine am_enter (by decide +kernel) rfl (Nat.le_of_ble_eq_true rfl) ?_
  show am_AW lay (d + 1) mX11_recall 0 [.ref o] [] D Q
  refine am_aload_n (x := o) dX11_recall_0 rfl ?_
  obtain ⟨D1, hm, hT⟩ := hT
  refine am_callV (av := []) (st := []) (b := o) cw_X11_keeps cl_X11_76 ck_X11_keeps cs_X11_keeps ho.1 rfl rfl (Nat.le_of_ble_eq_true rfl) dX11_recall_1 hm (fun r D9 hr => ?_)
  obtain ⟨rfl, e9⟩ := hr
  rw [e9]
  clear e9
  refine am_aload_n (x := o) dX11_recall_4 rfl ?_
  refine am_getR dX11_recall_5 fw_X11_13 ho.1 rfl ?_
  refine am_aload_n (x := o) dX11_recall_8 rfl ?_
  refine am_getR dX11_recall_9 fw_X11_7 ho.1 rfl ?_
  obtain ⟨D2, hm, hT⟩ := hT
  refine am_callS (av := [.ref (o + 2), .ref (o + 1)]) (st := []) cw_X11_copies cl_X11_41 ck_X11_copies (Nat.le_of_ble_eq_true rfl) dX11_recall_12 hm (fun r D9 hr => ?_)
  obtain ⟨rfl, e9⟩ := hr
  rw [e9]
  clear e9
  refine am_aload_n (x := o) dX11_recall_15 rfl ?_
  obtain ⟨x3, hm, hT⟩ := hT
  refine am_callV (av := []) (st := []) (b := o) cw_X11_n cl_X11_92 ck_X11_n cs_X11_n ho.1 rfl rfl (Nat.le_of_ble_eq_true rfl) dX11_recall_16 hm (fun r D9 hr => ?_)
  obtain ⟨rfl, e9⟩ := hr
  rw [e9]
  clear e9
  exact am_ireturn (ty := .int) dX11_recall_19 rfl rfl hT
set_option maxRecDepth 20000 in
theorem eX11_undo {lay : List am_L} {d : Nat} {D : am_D} {Q : Option Value → am_D → Prop} {o : Nat} (ho : isX11 lay o) (hT : ((¬ (D o 3) = nI 0 → (∀ D1, D1 = am_up D o 3 ((D o 3) - (nI 1)) →
 am_AW lay d mX11_undo 22 [.ref o, .int (nI 0)] [] D1 Q)) ∧
 (¬ (¬ (D o 3) = nI 0) → Q (some (.int (-2))) D))) : am_Met lay d mX11_undo [.ref o] D Q := by
  refine am_enter (by decide +kernel) rfl (Nat.le_of_ble_eq_true rfl) ?_
  show am_AW lay d mX11_undo 0 [.ref o, .null] [] D Q
  refine am_aload_n (x := o) dX11_undo_0 rfl ?_
  refine am_getI dX11_undo_1 fw_X11_65 ho.1 rfl ?_
  refine am_if_ne (tgt := 10) dX11_undo_4 (by decide) (fun h => ?_) (fun h => ?_)
  · replace hT := hT.1 h
    refine am_aload_n (x := o) dX11_undo_10 rfl ?_
    refine am_dup dX11_undo_11 rfl ?_
    refine am_getI dX11_undo_12 fw_X11_65 ho.1 rfl ?_
    refine am_iconst (v := (nI 1)) dX11_undo_15 (by decide) ?_
    refine am_isub dX11_undo_16 ?_
    refine am_putI dX11_undo_17 fw_X11_65 fp_X11_3 ho.1 rfl ?_
    obtain ⟨D1, hD⟩ : ∃ z, z = am_up D o 3 ((D o 3) - (nI 1)) := ⟨_, rfl⟩
    rw [← hD]
    replace hT := hT D1 hD
    clear hD
    refine am_iconst (v := (nI 0)) dX11_undo_20 (by decide) ?_
    refine am_set (am_istore_n dX11_undo_21 (by decide)) (L1 := [.ref o, .int (nI 0)]) rfl ?_
    exact hT
  · replace hT := hT.2 h
    refine am_bipush (v := (-2)) dX11_undo_7 (by decide) ?_
    exact am_ireturn (ty := .int) dX11_undo_9 rfl rfl hT
set_option maxRecDepth 20000 in
theorem rX11_undo_22 {lay : List am_L} {d : Nat} {D : am_D} {Q : Option Value → am_D → Prop} {o : Nat} {v1 : Int32} (ho : isX11 lay o) (hT : (((nI 111) ≤ v1 → Q (some (.int (D o 3))) D) ∧
 (¬ ((nI 111) ≤ v1) → (vp_in (((nI 111) * (D o 3)) + v1) 888 ∧ (vp_in v1 111 ∧ ∀ D1, D1 = am_up D (o + 1) (Int32.toNatClampNeg v1) (D (o + 3) (Int32.toNatClampNeg (((nI 111) * (D o 3)) + v1))) →
 am_AW lay d mX11_undo 22 [.ref o, .int (v1 + (nI 1))] [] D1 Q))))) : am_AW lay d mX11_undo 22 [.ref o, .int v1] [] D Q := by
  refine am_iload_n (x := v1) dX11_undo_22 rfl ?_
  refine am_bipush (v := (nI 111)) dX11_undo_23 (by decide) ?_
  refine am_icmp_ge (tgt := 54) dX11_undo_25 (by decide) (fun h => ?_) (fun h => ?_)
  · replace hT := hT.1 h
    refine am_aload_n (x := o) dX11_undo_54 rfl ?_
    refine am_getI dX11_undo_55 fw_X11_65 ho.1 rfl ?_
    exact am_ireturn (ty := .int) dX11_undo_58 rfl rfl hT
  · replace hT := hT.2 h
    refine am_aload_n (x := o) dX11_undo_28 rfl ?_
    refine am_getR dX11_undo_29 fw_X11_7 ho.1 rfl ?_
    refine am_iload_n (x := v1) dX11_undo_32 rfl ?_
    refine am_aload_n (x := o) dX11_undo_33 rfl ?_
    refine am_getR dX11_undo_34 fw_X11_16 ho.1 rfl ?_
    refine am_bipush (v := (nI 111)) dX11_undo_37 (by decide) ?_
    refine am_aload_n (x := o) dX11_undo_39 rfl ?_
    refine am_getI dX11_undo_40 fw_X11_65 ho.1 rfl ?_
    refine am_imul dX11_undo_43 ?_
    refine am_iload_n (x := v1) dX11_undo_44 rfl ?_
    refine am_iadd dX11_undo_45 ?_
    refine am_iald dX11_undo_46 ho.2.2.2.1 hT.1 ?_
    replace hT := hT.2
    refine am_iast dX11_undo_47 ho.2.1 hT.1 ?_
    obtain ⟨D1, hD⟩ : ∃ z, z = am_up D (o + 1) (Int32.toNatClampNeg v1) (D (o + 3) (Int32.toNatClampNeg (((nI 111) * (D o 3)) + v1))) := ⟨_, rfl⟩
    rw [← hD]
    replace hT := hT.2 D1 hD
    clear hD
    refine am_set (am_iinc (x := v1) (c0 := (nI 1)) dX11_undo_48 (by decide) rfl (by decide)) (L1 := [.ref o, .int (v1 + (nI 1))]) rfl ?_
    refine am_goto (tgt := 22) dX11_undo_51 (by decide) ?_
    exact hT
set_option maxRecDepth 20000 in
theorem eX11_append {lay : List am_L} {d : Nat} {D : am_D} {Q : Option Value → am_D → Prop} {o : Nat} {v1 : Int32} (ho : isX11 lay o) (hT : (∃ x1, am_MetP lay d mX11_in [.int v1, .int (nI 0), .int (nI 9)] D x1 ∧
 ((¬ x1 = nI 0 → ((¬ (D o 4) = (nI 10) → (vp_in (D o 4) 10 ∧ ∀ D2, D2 = am_up D (o + 4) (Int32.toNatClampNeg (D o 4)) v1 →
 (∀ D3, D3 = am_up D2 o 4 ((D2 o 4) + (nI 1)) →
 Q (some (.int (D3 o 4))) D3))) ∧
 (¬ (¬ (D o 4) = (nI 10)) → Q (some (.int (-3))) D))) ∧
 (¬ (¬ x1 = nI 0) → Q (some (.int (-1))) D)))) : am_Met lay (d + 1) mX11_append [.ref o, .int v1] D Q := by
  refine am_enter (by decide +kernel) rfl (Nat.le_of_ble_eq_true rfl) ?_
  show am_AW lay (d + 1) mX11_append 0 [.ref o, .int v1] [] D Q
  refine am_iload_n (x := v1) dX11_append_0 rfl ?_
  refine am_iconst (v := (nI 0)) dX11_append_1 (by decide) ?_
  refine am_bipush (v := (nI 9)) dX11_append_2 (by decide) ?_
  obtain ⟨x1, hm, hT⟩ := hT
  refine am_callS (av := [.int v1, .int (nI 0), .int (nI 9)]) (st := []) cw_X11_in cl_X11_53 ck_X11_in (Nat.le_of_ble_eq_true rfl) dX11_append_4 hm (fun r D9 hr => ?_)
  obtain ⟨rfl, e9⟩ := hr
  rw [e9]
  clear e9
  refine am_if_ne (tgt := 12) dX11_append_7 (by decide) (fun h => ?_) (fun h => ?_)
  · replace hT := hT.1 h
    refine am_aload_n (x := o) dX11_append_12 rfl ?_
    refine am_getI dX11_append_13 fw_X11_105 ho.1 rfl ?_
    refine am_bipush (v := (nI 10)) dX11_append_16 (by decide) ?_
    refine am_icmp_ne (tgt := 24) dX11_append_18 (by decide) (fun h => ?_) (fun h => ?_)
    · replace hT := hT.1 h
      refine am_aload_n (x := o) dX11_append_24 rfl ?_
      refine am_getR dX11_append_25 fw_X11_19 ho.1 rfl ?_
      refine am_aload_n (x := o) dX11_append_28 rfl ?_
      refine am_getI dX11_append_29 fw_X11_105 ho.1 rfl ?_
      refine am_iload_n (x := v1) dX11_append_32 rfl ?_
      refine am_iast dX11_append_33 ho.2.2.2.2.1 hT.1 ?_
      obtain ⟨D2, hD⟩ : ∃ z, z = am_up D (o + 4) (Int32.toNatClampNeg (D o 4)) v1 := ⟨_, rfl⟩
      rw [← hD]
      replace hT := hT.2 D2 hD
      clear hD
      refine am_aload_n (x := o) dX11_append_34 rfl ?_
      refine am_dup dX11_append_35 rfl ?_
      refine am_getI dX11_append_36 fw_X11_105 ho.1 rfl ?_
      refine am_iconst (v := (nI 1)) dX11_append_39 (by decide) ?_
      refine am_iadd dX11_append_40 ?_
      refine am_putI dX11_append_41 fw_X11_105 fp_X11_4 ho.1 rfl ?_
      obtain ⟨D3, hD⟩ : ∃ z, z = am_up D2 o 4 ((D2 o 4) + (nI 1)) := ⟨_, rfl⟩
      rw [← hD]
      replace hT := hT D3 hD
      clear hD
      refine am_aload_n (x := o) dX11_append_44 rfl ?_
      refine am_getI dX11_append_45 fw_X11_105 ho.1 rfl ?_
      exact am_ireturn (ty := .int) dX11_append_48 rfl rfl hT
    · replace hT := hT.2 h
      refine am_bipush (v := (-3)) dX11_append_21 (by decide) ?_
      exact am_ireturn (ty := .int) dX11_append_23 rfl rfl hT
  · replace hT := hT.2 h
    refine am_iconst (v := (-1)) dX11_append_10 (by decide) ?_
    exact am_ireturn (ty := .int) dX11_append_11 rfl rfl hT
set_option maxRecDepth 20000 in
theorem eX11_clearSequence {lay : List am_L} {d : Nat} {D : am_D} {Q : Option Value → am_D → Prop} {o : Nat} (ho : isX11 lay o) (hT : (∀ D1, D1 = am_up D o 4 (nI 0) →
 Q (some (.int (D o 4))) D1)) : am_Met lay d mX11_clearSequence [.ref o] D Q := by
  refine am_enter (by decide +kernel) rfl (Nat.le_of_ble_eq_true rfl) ?_
  show am_AW lay d mX11_clearSequence 0 [.ref o, .null] [] D Q
  refine am_aload_n (x := o) dX11_clearSequence_0 rfl ?_
  refine am_getI dX11_clearSequence_1 fw_X11_105 ho.1 rfl ?_
  refine am_set (am_istore_n dX11_clearSequence_4 (by decide)) (L1 := [.ref o, .int (D o 4)]) rfl ?_
  refine am_aload_n (x := o) dX11_clearSequence_5 rfl ?_
  refine am_iconst (v := (nI 0)) dX11_clearSequence_6 (by decide) ?_
  refine am_putI dX11_clearSequence_7 fw_X11_105 fp_X11_4 ho.1 rfl ?_
  obtain ⟨D1, hD⟩ : ∃ z, z = am_up D o 4 (nI 0) := ⟨_, rfl⟩
  rw [← hD]
  replace hT := hT D1 hD
  clear hD
  refine am_iload_n (x := (D o 4)) dX11_clearSequence_10 rfl ?_
  exact am_ireturn (ty := .int) dX11_clearSequence_11 rfl rfl hT
set_option maxRecDepth 20000 in
theorem eX11_checkSequence {lay : List am_L} {d : Nat} {D : am_D} {Q : Option Value → am_D → Prop} {o : Nat} (ho : isX11 lay o) (hT : (((nI 2) ≤ (D o 4) → (∃ x1, am_MetP lay d mX11_fails [.ref o] D x1 ∧
 Q (some (.int x1)) D)) ∧
 (¬ ((nI 2) ≤ (D o 4)) → Q (some (.int (-2))) D))) : am_Met lay (d + 1) mX11_checkSequence [.ref o] D Q := by
  refine am_enter (by decide +kernel) rfl (Nat.le_of_ble_eq_true rfl) ?_
  show am_AW lay (d + 1) mX11_checkSequence 0 [.ref o] [] D Q
  refine am_aload_n (x := o) dX11_checkSequence_0 rfl ?_
  refine am_getI dX11_checkSequence_1 fw_X11_105 ho.1 rfl ?_
  refine am_iconst (v := (nI 2)) dX11_checkSequence_4 (by decide) ?_
  refine am_icmp_ge (tgt := 13) dX11_checkSequence_5 (by decide) (fun h => ?_) (fun h => ?_)
  · replace hT := hT.1 h
    refine am_aload_n (x := o) dX11_checkSequence_13 rfl ?_
    obtain ⟨x1, hm, hT⟩ := hT
    refine am_callV (av := []) (st := []) (b := o) cw_X11_fails cl_X11_108 ck_X11_fails cs_X11_fails ho.1 rfl rfl (Nat.le_of_ble_eq_true rfl) dX11_checkSequence_14 hm (fun r D9 hr => ?_)
    obtain ⟨rfl, e9⟩ := hr
    rw [e9]
    clear e9
    exact am_ireturn (ty := .int) dX11_checkSequence_17 rfl rfl hT
  · replace hT := hT.2 h
    refine am_bipush (v := (-2)) dX11_checkSequence_8 (by decide) ?_
    refine am_goto (tgt := 17) dX11_checkSequence_10 (by decide) ?_
    exact am_ireturn (ty := .int) dX11_checkSequence_17 rfl rfl hT
set_option maxRecDepth 20000 in
theorem eX11_type {lay : List am_L} {d : Nat} {D : am_D} {Q : Option Value → am_D → Prop} {o : Nat} {v1 : Int32} (ho : isX11 lay o) (hT : (∃ x1, am_MetP lay d mX11_in [.int v1, .int (nI 32), .int (nI 126)] D x1 ∧
 ((¬ x1 = nI 0 → ((¬ (D o 6) = (nI 120) → (vp_in (D o 6) 120 ∧ ∀ D2, D2 = am_up D (o + 5) (Int32.toNatClampNeg (D o 6)) v1 →
 (∀ D3, D3 = am_up D2 o 6 ((D2 o 6) + (nI 1)) →
 Q (some (.int (D3 o 6))) D3))) ∧
 (¬ (¬ (D o 6) = (nI 120)) → Q (some (.int (-3))) D))) ∧
 (¬ (¬ x1 = nI 0) → Q (some (.int (-1))) D)))) : am_Met lay (d + 1) mX11_type [.ref o, .int v1] D Q := by
  refine am_enter (by decide +kernel) rfl (Nat.le_of_ble_eq_true rfl) ?_
  show am_AW lay (d + 1) mX11_type 0 [.ref o, .int v1] [] D Q
  refine am_iload_n (x := v1) dX11_type_0 rfl ?_
  refine am_bipush (v := (nI 32)) dX11_type_1 (by decide) ?_
  refine am_bipush (v := (nI 126)) dX11_type_3 (by decide) ?_
  obtain ⟨x1, hm, hT⟩ := hT
  refine am_callS (av := [.int v1, .int (nI 32), .int (nI 126)]) (st := []) cw_X11_in cl_X11_53 ck_X11_in (Nat.le_of_ble_eq_true rfl) dX11_type_5 hm (fun r D9 hr => ?_)
  obtain ⟨rfl, e9⟩ := hr
  rw [e9]
  clear e9
  refine am_if_ne (tgt := 13) dX11_type_8 (by decide) (fun h => ?_) (fun h => ?_)
  · replace hT := hT.1 h
    refine am_aload_n (x := o) dX11_type_13 rfl ?_
    refine am_getI dX11_type_14 fw_X11_114 ho.1 rfl ?_
    refine am_bipush (v := (nI 120)) dX11_type_17 (by decide) ?_
    refine am_icmp_ne (tgt := 25) dX11_type_19 (by decide) (fun h => ?_) (fun h => ?_)
    · replace hT := hT.1 h
      refine am_aload_n (x := o) dX11_type_25 rfl ?_
      refine am_getR dX11_type_26 fw_X11_22 ho.1 rfl ?_
      refine am_aload_n (x := o) dX11_type_29 rfl ?_
      refine am_getI dX11_type_30 fw_X11_114 ho.1 rfl ?_
      refine am_iload_n (x := v1) dX11_type_33 rfl ?_
      refine am_iast dX11_type_34 ho.2.2.2.2.2.1 hT.1 ?_
      obtain ⟨D2, hD⟩ : ∃ z, z = am_up D (o + 5) (Int32.toNatClampNeg (D o 6)) v1 := ⟨_, rfl⟩
      rw [← hD]
      replace hT := hT.2 D2 hD
      clear hD
      refine am_aload_n (x := o) dX11_type_35 rfl ?_
      refine am_dup dX11_type_36 rfl ?_
      refine am_getI dX11_type_37 fw_X11_114 ho.1 rfl ?_
      refine am_iconst (v := (nI 1)) dX11_type_40 (by decide) ?_
      refine am_iadd dX11_type_41 ?_
      refine am_putI dX11_type_42 fw_X11_114 fp_X11_6 ho.1 rfl ?_
      obtain ⟨D3, hD⟩ : ∃ z, z = am_up D2 o 6 ((D2 o 6) + (nI 1)) := ⟨_, rfl⟩
      rw [← hD]
      replace hT := hT D3 hD
      clear hD
      refine am_aload_n (x := o) dX11_type_45 rfl ?_
      refine am_getI dX11_type_46 fw_X11_114 ho.1 rfl ?_
      exact am_ireturn (ty := .int) dX11_type_49 rfl rfl hT
    · replace hT := hT.2 h
      refine am_bipush (v := (-3)) dX11_type_22 (by decide) ?_
      exact am_ireturn (ty := .int) dX11_type_24 rfl rfl hT
  · replace hT := hT.2 h
    refine am_iconst (v := (-1)) dX11_type_11 (by decide) ?_
    exact am_ireturn (ty := .int) dX11_type_12 rfl rfl hT
set_option maxRecDepth 20000 in
theorem eX11_clearText {lay : List am_L} {d : Nat} {D : am_D} {Q : Option Value → am_D → Prop} {o : Nat} (ho : isX11 lay o) (hT : (∀ D1, D1 = am_up D o 6 (nI 0) →
 Q (some (.int (D o 6))) D1)) : am_Met lay d mX11_clearText [.ref o] D Q := by
  refine am_enter (by decide +kernel) rfl (Nat.le_of_ble_eq_true rfl) ?_
  show am_AW lay d mX11_clearText 0 [.ref o, .null] [] D Q
  refine am_aload_n (x := o) dX11_clearText_0 rfl ?_
  refine am_getI dX11_clearText_1 fw_X11_114 ho.1 rfl ?_
  refine am_set (am_istore_n dX11_clearText_4 (by decide)) (L1 := [.ref o, .int (D o 6)]) rfl ?_
  refine am_aload_n (x := o) dX11_clearText_5 rfl ?_
  refine am_iconst (v := (nI 0)) dX11_clearText_6 (by decide) ?_
  refine am_putI dX11_clearText_7 fw_X11_114 fp_X11_6 ho.1 rfl ?_
  obtain ⟨D1, hD⟩ : ∃ z, z = am_up D o 6 (nI 0) := ⟨_, rfl⟩
  rw [← hD]
  replace hT := hT D1 hD
  clear hD
  refine am_iload_n (x := (D o 6)) dX11_clearText_10 rfl ?_
  exact am_ireturn (ty := .int) dX11_clearText_11 rfl rfl hT
set_option maxRecDepth 20000 in
theorem eX11_fault {lay : List am_L} {d : Nat} {D : am_D} {Q : Option Value → am_D → Prop} {o : Nat} (ho : isX11 lay o) (hT : (∃ x1, am_MetP lay d mX11_faultOf [.ref o] D x1 ∧
 Q (some (.int x1)) D)) : am_Met lay (d + 1) mX11_fault [.ref o] D Q := by
  refine am_enter (by decide +kernel) rfl (Nat.le_of_ble_eq_true rfl) ?_
  show am_AW lay (d + 1) mX11_fault 0 [.ref o] [] D Q
  refine am_aload_n (x := o) dX11_fault_0 rfl ?_
  obtain ⟨x1, hm, hT⟩ := hT
  refine am_callV (av := []) (st := []) (b := o) cw_X11_faultOf cl_X11_117 ck_X11_faultOf cs_X11_faultOf ho.1 rfl rfl (Nat.le_of_ble_eq_true rfl) dX11_fault_1 hm (fun r D9 hr => ?_)
  obtain ⟨rfl, e9⟩ := hr
  rw [e9]
  clear e9
  exact am_ireturn (ty := .int) dX11_fault_4 rfl rfl hT
set_option maxRecDepth 20000 in
theorem eX11_players {lay : List am_L} {d : Nat} {D : am_D} {Q : Option Value → am_D → Prop} {o : Nat} (ho : isX11 lay o) (hT : (∃ x1, am_MetP lay d mX11_n [.ref o] D x1 ∧
 Q (some (.int x1)) D)) : am_Met lay (d + 1) mX11_players [.ref o] D Q := by
  refine am_enter (by decide +kernel) rfl (Nat.le_of_ble_eq_true rfl) ?_
  show am_AW lay (d + 1) mX11_players 0 [.ref o] [] D Q
  refine am_aload_n (x := o) dX11_players_0 rfl ?_
  obtain ⟨x1, hm, hT⟩ := hT
  refine am_callV (av := []) (st := []) (b := o) cw_X11_n cl_X11_92 ck_X11_n cs_X11_n ho.1 rfl rfl (Nat.le_of_ble_eq_true rfl) dX11_players_1 hm (fun r D9 hr => ?_)
  obtain ⟨rfl, e9⟩ := hr
  rw [e9]
  clear e9
  exact am_ireturn (ty := .int) dX11_players_4 rfl rfl hT
set_option maxRecDepth 20000 in
theorem eX11_beats {lay : List am_L} {d : Nat} {D : am_D} {Q : Option Value → am_D → Prop} {o : Nat} {v1 : Int32} {v2 : Int32} (ho : isX11 lay o) (hT : (∃ x1, am_MetP lay d mX11_isPlayer [.ref o, .int v1] D x1 ∧
 ((x1 = nI 0 → Q (some (.int (-1))) D) ∧
 (¬ (x1 = nI 0) → (∃ x2, am_MetP lay d mX11_isPlayer [.ref o, .int v2] D x2 ∧
 ((¬ x2 = nI 0 → (∃ x3, am_MetP lay d mX11_beats1 [.ref o, .int v1, .int v2] D x3 ∧
 ((x3 = nI 0 → Q (some (.int (nI 0))) D) ∧
 (¬ (x3 = nI 0) → Q (some (.int (nI 1))) D)))) ∧
 (¬ (¬ x2 = nI 0) → Q (some (.int (-1))) D))))))) : am_Met lay (d + 1) mX11_beats [.ref o, .int v1, .int v2] D Q := by
  refine am_enter (by decide +kernel) rfl (Nat.le_of_ble_eq_true rfl) ?_
  show am_AW lay (d + 1) mX11_beats 0 [.ref o, .int v1, .int v2] [] D Q
  refine am_aload_n (x := o) dX11_beats_0 rfl ?_
  refine am_iload_n (x := v1) dX11_beats_1 rfl ?_
  obtain ⟨x1, hm, hT⟩ := hT
  refine am_callV (av := [.int v1]) (st := []) (b := o) cw_X11_isPlayer cl_X11_57 ck_X11_isPlayer cs_X11_isPlayer ho.1 rfl rfl (Nat.le_of_ble_eq_true rfl) dX11_beats_2 hm (fun r D9 hr => ?_)
  obtain ⟨rfl, e9⟩ := hr
  rw [e9]
  clear e9
  refine am_if_eq (tgt := 16) dX11_beats_5 (by decide) (fun h => ?_) (fun h => ?_)
  · replace hT := hT.1 h
    refine am_iconst (v := (-1)) dX11_beats_16 (by decide) ?_
    refine am_goto (tgt := 34) dX11_beats_17 (by decide) ?_
    exact am_ireturn (ty := .int) dX11_beats_34 rfl rfl hT
  · replace hT := hT.2 h
    refine am_aload_n (x := o) dX11_beats_8 rfl ?_
    refine am_iload_n (x := v2) dX11_beats_9 rfl ?_
    obtain ⟨x2, hm, hT⟩ := hT
    refine am_callV (av := [.int v2]) (st := []) (b := o) cw_X11_isPlayer cl_X11_57 ck_X11_isPlayer cs_X11_isPlayer ho.1 rfl rfl (Nat.le_of_ble_eq_true rfl) dX11_beats_10 hm (fun r D9 hr => ?_)
    obtain ⟨rfl, e9⟩ := hr
    rw [e9]
    clear e9
    refine am_if_ne (tgt := 20) dX11_beats_13 (by decide) (fun h => ?_) (fun h => ?_)
    · replace hT := hT.1 h
      refine am_aload_n (x := o) dX11_beats_20 rfl ?_
      refine am_iload_n (x := v1) dX11_beats_21 rfl ?_
      refine am_iload_n (x := v2) dX11_beats_22 rfl ?_
      obtain ⟨x3, hm, hT⟩ := hT
      refine am_callV (av := [.int v1, .int v2]) (st := []) (b := o) cw_X11_beats1 cl_X11_69 ck_X11_beats1 cs_X11_beats1 ho.1 rfl rfl (Nat.le_of_ble_eq_true rfl) dX11_beats_23 hm (fun r D9 hr => ?_)
      obtain ⟨rfl, e9⟩ := hr
      rw [e9]
      clear e9
      refine am_if_eq (tgt := 33) dX11_beats_26 (by decide) (fun h => ?_) (fun h => ?_)
      · replace hT := hT.1 h
        refine am_iconst (v := (nI 0)) dX11_beats_33 (by decide) ?_
        exact am_ireturn (ty := .int) dX11_beats_34 rfl rfl hT
      · replace hT := hT.2 h
        refine am_iconst (v := (nI 1)) dX11_beats_29 (by decide) ?_
        refine am_goto (tgt := 34) dX11_beats_30 (by decide) ?_
        exact am_ireturn (ty := .int) dX11_beats_34 rfl rfl hT
    · replace hT := hT.2 h
      refine am_iconst (v := (-1)) dX11_beats_16 (by decide) ?_
      refine am_goto (tgt := 34) dX11_beats_17 (by decide) ?_
      exact am_ireturn (ty := .int) dX11_beats_34 rfl rfl hT
set_option maxRecDepth 20000 in
theorem eX11_weight {lay : List am_L} {d : Nat} {D : am_D} {Q : Option Value → am_D → Prop} {o : Nat} {v1 : Int32} {v2 : Int32} (ho : isX11 lay o) (hT : (∃ x1, am_MetP lay d mX11_isPair [.ref o, .int v1, .int v2] D x1 ∧
 ((x1 = nI 0 → Q (some (.int (-1))) D) ∧
 (¬ (x1 = nI 0) → (∃ x2, am_MetP lay d mX11_at [.int v1, .int v2] D x2 ∧
 (vp_in x2 111 ∧ Q (some (.int (D (o + 1) (Int32.toNatClampNeg x2)))) D)))))) : am_Met lay (d + 1) mX11_weight [.ref o, .int v1, .int v2] D Q := by
  refine am_enter (by decide +kernel) rfl (Nat.le_of_ble_eq_true rfl) ?_
  show am_AW lay (d + 1) mX11_weight 0 [.ref o, .int v1, .int v2] [] D Q
  refine am_aload_n (x := o) dX11_weight_0 rfl ?_
  refine am_iload_n (x := v1) dX11_weight_1 rfl ?_
  refine am_iload_n (x := v2) dX11_weight_2 rfl ?_
  obtain ⟨x1, hm, hT⟩ := hT
  refine am_callV (av := [.int v1, .int v2]) (st := []) (b := o) cw_X11_isPair cl_X11_79 ck_X11_isPair cs_X11_isPair ho.1 rfl rfl (Nat.le_of_ble_eq_true rfl) dX11_weight_3 hm (fun r D9 hr => ?_)
  obtain ⟨rfl, e9⟩ := hr
  rw [e9]
  clear e9
  refine am_if_eq (tgt := 22) dX11_weight_6 (by decide) (fun h => ?_) (fun h => ?_)
  · replace hT := hT.1 h
    refine am_iconst (v := (-1)) dX11_weight_22 (by decide) ?_
    exact am_ireturn (ty := .int) dX11_weight_23 rfl rfl hT
  · replace hT := hT.2 h
    refine am_aload_n (x := o) dX11_weight_9 rfl ?_
    refine am_getR dX11_weight_10 fw_X11_7 ho.1 rfl ?_
    refine am_iload_n (x := v1) dX11_weight_13 rfl ?_
    refine am_iload_n (x := v2) dX11_weight_14 rfl ?_
    obtain ⟨x2, hm, hT⟩ := hT
    refine am_callS (av := [.int v1, .int v2]) (st := [.ref (o + 1)]) cw_X11_at cl_X11_61 ck_X11_at (Nat.le_of_ble_eq_true rfl) dX11_weight_15 hm (fun r D9 hr => ?_)
    obtain ⟨rfl, e9⟩ := hr
    rw [e9]
    clear e9
    refine am_iald dX11_weight_18 ho.2.1 hT.1 ?_
    replace hT := hT.2
    refine am_goto (tgt := 23) dX11_weight_19 (by decide) ?_
    exact am_ireturn (ty := .int) dX11_weight_23 rfl rfl hT
set_option maxRecDepth 20000 in
theorem eX11_score {lay : List am_L} {d : Nat} {D : am_D} {Q : Option Value → am_D → Prop} {o : Nat} {v1 : Int32} (ho : isX11 lay o) (hT : (∃ x1, am_MetP lay d mX11_isPlayer [.ref o, .int v1] D x1 ∧
 ((x1 = nI 0 → Q (some (.int (-1))) D) ∧
 (¬ (x1 = nI 0) → (∃ x2, am_MetP lay d mX11_beaten [.ref o, .int v1] D x2 ∧
 (∃ x3, am_MetP lay d mX11_count [.int x2] D x3 ∧
 Q (some (.int x3)) D)))))) : am_Met lay (d + 1) mX11_score [.ref o, .int v1] D Q := by
  refine am_enter (by decide +kernel) rfl (Nat.le_of_ble_eq_true rfl) ?_
  show am_AW lay (d + 1) mX11_score 0 [.ref o, .int v1] [] D Q
  refine am_aload_n (x := o) dX11_score_0 rfl ?_
  refine am_iload_n (x := v1) dX11_score_1 rfl ?_
  obtain ⟨x1, hm, hT⟩ := hT
  refine am_callV (av := [.int v1]) (st := []) (b := o) cw_X11_isPlayer cl_X11_57 ck_X11_isPlayer cs_X11_isPlayer ho.1 rfl rfl (Nat.le_of_ble_eq_true rfl) dX11_score_2 hm (fun r D9 hr => ?_)
  obtain ⟨rfl, e9⟩ := hr
  rw [e9]
  clear e9
  refine am_if_eq (tgt := 19) dX11_score_5 (by decide) (fun h => ?_) (fun h => ?_)
  · replace hT := hT.1 h
    refine am_iconst (v := (-1)) dX11_score_19 (by decide) ?_
    exact am_ireturn (ty := .int) dX11_score_20 rfl rfl hT
  · replace hT := hT.2 h
    refine am_aload_n (x := o) dX11_score_8 rfl ?_
    refine am_iload_n (x := v1) dX11_score_9 rfl ?_
    obtain ⟨x2, hm, hT⟩ := hT
    refine am_callV (av := [.int v1]) (st := []) (b := o) cw_X11_beaten cl_X11_45 ck_X11_beaten cs_X11_beaten ho.1 rfl rfl (Nat.le_of_ble_eq_true rfl) dX11_score_10 hm (fun r D9 hr => ?_)
    obtain ⟨rfl, e9⟩ := hr
    rw [e9]
    clear e9
    obtain ⟨x3, hm, hT⟩ := hT
    refine am_callS (av := [.int x2]) (st := []) cw_X11_count cl_X11_98 ck_X11_count (Nat.le_of_ble_eq_true rfl) dX11_score_13 hm (fun r D9 hr => ?_)
    obtain ⟨rfl, e9⟩ := hr
    rw [e9]
    clear e9
    refine am_goto (tgt := 20) dX11_score_16 (by decide) ?_
    exact am_ireturn (ty := .int) dX11_score_20 rfl rfl hT
set_option maxRecDepth 20000 in
theorem eX11_scoreAt {lay : List am_L} {d : Nat} {D : am_D} {Q : Option Value → am_D → Prop} {o : Nat} {v1 : Int32} (ho : isX11 lay o) (hT : (∃ x1, am_MetP lay d mX11_isPlayer [.ref o, .int v1] D x1 ∧
 ((¬ x1 = nI 0 → am_AW lay (d + 1) mX11_scoreAt 14 [.ref o, .int v1, .int (nI 0), .int (nI 0), .null, .null, .null] [] D Q) ∧
 (¬ (¬ x1 = nI 0) → Q (some (.int (-1))) D)))) : am_Met lay (d + 1) mX11_scoreAt [.ref o, .int v1] D Q := by
  refine am_enter (by decide +kernel) rfl (Nat.le_of_ble_eq_true rfl) ?_
  show am_AW lay (d + 1) mX11_scoreAt 0 [.ref o, .int v1, .null, .null, .null, .null, .null] [] D Q
  refine am_aload_n (x := o) dX11_scoreAt_0 rfl ?_
  refine am_iload_n (x := v1) dX11_scoreAt_1 rfl ?_
  obtain ⟨x1, hm, hT⟩ := hT
  refine am_callV (av := [.int v1]) (st := []) (b := o) cw_X11_isPlayer cl_X11_57 ck_X11_isPlayer cs_X11_isPlayer ho.1 rfl rfl (Nat.le_of_ble_eq_true rfl) dX11_scoreAt_2 hm (fun r D9 hr => ?_)
  obtain ⟨rfl, e9⟩ := hr
  rw [e9]
  clear e9
  refine am_if_ne (tgt := 10) dX11_scoreAt_5 (by decide) (fun h => ?_) (fun h => ?_)
  · replace hT := hT.1 h
    refine am_iconst (v := (nI 0)) dX11_scoreAt_10 (by decide) ?_
    refine am_set (am_istore_n dX11_scoreAt_11 (by decide)) (L1 := [.ref o, .int v1, .int (nI 0), .null, .null, .null, .null]) rfl ?_
    refine am_iconst (v := (nI 0)) dX11_scoreAt_12 (by decide) ?_
    refine am_set (am_istore_n dX11_scoreAt_13 (by decide)) (L1 := [.ref o, .int v1, .int (nI 0), .int (nI 0), .null, .null, .null]) rfl ?_
    exact hT
  · replace hT := hT.2 h
    refine am_iconst (v := (-1)) dX11_scoreAt_8 (by decide) ?_
    exact am_ireturn (ty := .int) dX11_scoreAt_9 rfl rfl hT
set_option maxRecDepth 20000 in
theorem rX11_scoreAt_14 {lay : List am_L} {d : Nat} {D : am_D} {Q : Option Value → am_D → Prop} {o : Nat} {v1 : Int32} {v2 : Int32} {v3 : Int32} (ho : isX11 lay o) (hT : (∃ x1, am_MetP lay d mX11_n [.ref o] D x1 ∧
 ((x1 ≤ v3 → Q (some (.int v2)) D) ∧
 (¬ (x1 ≤ v3) → am_AW lay (d + 1) mX11_scoreAt 28 [.ref o, .int v1, .int v2, .int v3, .int (nI 0), .int (nI 0), .null] [] D Q)))) : am_AW lay (d + 1) mX11_scoreAt 14 [.ref o, .int v1, .int v2, .int v3, .null, .null, .null] [] D Q := by
  refine am_iload_n (x := v3) dX11_scoreAt_14 rfl ?_
  refine am_aload_n (x := o) dX11_scoreAt_15 rfl ?_
  obtain ⟨x1, hm, hT⟩ := hT
  refine am_callV (av := []) (st := [.int v3]) (b := o) cw_X11_n cl_X11_92 ck_X11_n cs_X11_n ho.1 rfl rfl (Nat.le_of_ble_eq_true rfl) dX11_scoreAt_16 hm (fun r D9 hr => ?_)
  obtain ⟨rfl, e9⟩ := hr
  rw [e9]
  clear e9
  refine am_icmp_ge (tgt := 114) dX11_scoreAt_19 (by decide) (fun h => ?_) (fun h => ?_)
  · replace hT := hT.1 h
    refine am_iload_n (x := v2) dX11_scoreAt_114 rfl ?_
    exact am_ireturn (ty := .int) dX11_scoreAt_115 rfl rfl hT
  · replace hT := hT.2 h
    refine am_iconst (v := (nI 0)) dX11_scoreAt_22 (by decide) ?_
    refine am_set (am_istore dX11_scoreAt_23 (by decide)) (L1 := [.ref o, .int v1, .int v2, .int v3, .int (nI 0), .null, .null]) rfl ?_
    refine am_iconst (v := (nI 0)) dX11_scoreAt_25 (by decide) ?_
    refine am_set (am_istore dX11_scoreAt_26 (by decide)) (L1 := [.ref o, .int v1, .int v2, .int v3, .int (nI 0), .int (nI 0), .null]) rfl ?_
    exact hT
set_option maxRecDepth 20000 in
theorem rX11_scoreAt_28 {lay : List am_L} {d : Nat} {D : am_D} {Q : Option Value → am_D → Prop} {o : Nat} {v1 : Int32} {v2 : Int32} {v3 : Int32} {v4 : Int32} {v5 : Int32} (ho : isX11 lay o) (hT : (∃ x1, am_MetP lay d mX11_n [.ref o] D x1 ∧
 ((x1 ≤ v5 → ((¬ v4 = v1 → am_AW lay (d + 1) mX11_scoreAt 14 [.ref o, .int v1, .int v2, .int (v3 + (nI 1)), .null, .null, .null] [] D Q) ∧
 (¬ (¬ v4 = v1) → (∃ x2, am_MetP lay d mX11_beaten [.ref o, .int v3] D x2 ∧
 (∃ x3, am_MetP lay d mX11_count [.int x2] D x3 ∧
 am_AW lay (d + 1) mX11_scoreAt 14 [.ref o, .int v1, .int x3, .int (v3 + (nI 1)), .null, .null, .null] [] D Q))))) ∧
 (¬ (x1 ≤ v5) → (∃ x4, am_MetP lay d mX11_beaten [.ref o, .int v3] D x4 ∧
 (∃ x5, am_MetP lay d mX11_count [.int x4] D x5 ∧
 (∃ x6, am_MetP lay d mX11_beaten [.ref o, .int v5] D x6 ∧
 (∃ x7, am_MetP lay d mX11_count [.int x6] D x7 ∧
 ((nI 0 < (x5 - x7) → am_AW lay (d + 1) mX11_scoreAt 28 [.ref o, .int v1, .int v2, .int v3, .int (v4 + (nI 1)), .int (v5 + (nI 1)), .null] [] D Q) ∧
 (¬ (nI 0 < (x5 - x7)) → ((¬ (x5 - x7) = nI 0 → am_AW lay (d + 1) mX11_scoreAt 28 [.ref o, .int v1, .int v2, .int v3, .int (v4 + (nI 0)), .int (v5 + (nI 1)), .null] [] D Q) ∧
 (¬ (¬ (x5 - x7) = nI 0) → ((v3 ≤ v5 → am_AW lay (d + 1) mX11_scoreAt 28 [.ref o, .int v1, .int v2, .int v3, .int (v4 + (nI 0)), .int (v5 + (nI 1)), .null] [] D Q) ∧
 (¬ (v3 ≤ v5) → am_AW lay (d + 1) mX11_scoreAt 28 [.ref o, .int v1, .int v2, .int v3, .int (v4 + (nI 1)), .int (v5 + (nI 1)), .null] [] D Q)))))))))))))) : am_AW lay (d + 1) mX11_scoreAt 28 [.ref o, .int v1, .int v2, .int v3, .int v4, .int v5, .null] [] D Q := by
  refine am_iload (x := v5) dX11_scoreAt_28 rfl ?_
  refine am_aload_n (x := o) dX11_scoreAt_30 rfl ?_
  obtain ⟨x1, hm, hT⟩ := hT
  refine am_callV (av := []) (st := [.int v5]) (b := o) cw_X11_n cl_X11_92 ck_X11_n cs_X11_n ho.1 rfl rfl (Nat.le_of_ble_eq_true rfl) dX11_scoreAt_31 hm (fun r D9 hr => ?_)
  obtain ⟨rfl, e9⟩ := hr
  rw [e9]
  clear e9
  refine am_icmp_ge (tgt := 89) dX11_scoreAt_34 (by decide) (fun h => ?_) (fun h => ?_)
  · replace hT := hT.1 h
    refine am_iload (x := v4) dX11_scoreAt_89 rfl ?_
    refine am_iload_n (x := v1) dX11_scoreAt_91 rfl ?_
    refine am_icmp_ne (tgt := 106) dX11_scoreAt_92 (by decide) (fun h => ?_) (fun h => ?_)
    · replace hT := hT.1 h
      refine am_iload_n (x := v2) dX11_scoreAt_106 rfl ?_
      refine am_set (am_istore_n dX11_scoreAt_107 (by decide)) (L1 := [.ref o, .int v1, .int v2, .int v3, .int v4, .int v5, .null]) rfl ?_
      refine am_set (am_iinc (x := v3) (c0 := (nI 1)) dX11_scoreAt_108 (by decide) rfl (by decide)) (L1 := [.ref o, .int v1, .int v2, .int (v3 + (nI 1)), .int v4, .int v5, .null]) rfl ?_
      refine am_goto (tgt := 14) dX11_scoreAt_111 (by decide) ?_
      refine am_drop [4, 5] (L1 := [.ref o, .int v1, .int v2, .int (v3 + (nI 1)), .null, .null, .null]) rfl ?_
      exact hT
    · replace hT := hT.2 h
      refine am_aload_n (x := o) dX11_scoreAt_95 rfl ?_
      refine am_iload_n (x := v3) dX11_scoreAt_96 rfl ?_
      obtain ⟨x2, hm, hT⟩ := hT
      refine am_callV (av := [.int v3]) (st := []) (b := o) cw_X11_beaten cl_X11_45 ck_X11_beaten cs_X11_beaten ho.1 rfl rfl (Nat.le_of_ble_eq_true rfl) dX11_scoreAt_97 hm (fun r D9 hr => ?_)
      obtain ⟨rfl, e9⟩ := hr
      rw [e9]
      clear e9
      obtain ⟨x3, hm, hT⟩ := hT
      refine am_callS (av := [.int x2]) (st := []) cw_X11_count cl_X11_98 ck_X11_count (Nat.le_of_ble_eq_true rfl) dX11_scoreAt_100 hm (fun r D9 hr => ?_)
      obtain ⟨rfl, e9⟩ := hr
      rw [e9]
      clear e9
      refine am_goto (tgt := 107) dX11_scoreAt_103 (by decide) ?_
      refine am_set (am_istore_n dX11_scoreAt_107 (by decide)) (L1 := [.ref o, .int v1, .int x3, .int v3, .int v4, .int v5, .null]) rfl ?_
      refine am_set (am_iinc (x := v3) (c0 := (nI 1)) dX11_scoreAt_108 (by decide) rfl (by decide)) (L1 := [.ref o, .int v1, .int x3, .int (v3 + (nI 1)), .int v4, .int v5, .null]) rfl ?_
      refine am_goto (tgt := 14) dX11_scoreAt_111 (by decide) ?_
      refine am_drop [4, 5] (L1 := [.ref o, .int v1, .int x3, .int (v3 + (nI 1)), .null, .null, .null]) rfl ?_
      exact hT
  · replace hT := hT.2 h
    refine am_aload_n (x := o) dX11_scoreAt_37 rfl ?_
    refine am_iload_n (x := v3) dX11_scoreAt_38 rfl ?_
    obtain ⟨x4, hm, hT⟩ := hT
    refine am_callV (av := [.int v3]) (st := []) (b := o) cw_X11_beaten cl_X11_45 ck_X11_beaten cs_X11_beaten ho.1 rfl rfl (Nat.le_of_ble_eq_true rfl) dX11_scoreAt_39 hm (fun r D9 hr => ?_)
    obtain ⟨rfl, e9⟩ := hr
    rw [e9]
    clear e9
    obtain ⟨x5, hm, hT⟩ := hT
    refine am_callS (av := [.int x4]) (st := []) cw_X11_count cl_X11_98 ck_X11_count (Nat.le_of_ble_eq_true rfl) dX11_scoreAt_42 hm (fun r D9 hr => ?_)
    obtain ⟨rfl, e9⟩ := hr
    rw [e9]
    clear e9
    refine am_aload_n (x := o) dX11_scoreAt_45 rfl ?_
    refine am_iload (x := v5) dX11_scoreAt_46 rfl ?_
    obtain ⟨x6, hm, hT⟩ := hT
    refine am_callV (av := [.int v5]) (st := [.int x5]) (b := o) cw_X11_beaten cl_X11_45 ck_X11_beaten cs_X11_beaten ho.1 rfl rfl (Nat.le_of_ble_eq_true rfl) dX11_scoreAt_48 hm (fun r D9 hr => ?_)
    obtain ⟨rfl, e9⟩ := hr
    rw [e9]
    clear e9
    obtain ⟨x7, hm, hT⟩ := hT
    refine am_callS (av := [.int x6]) (st := [.int x5]) cw_X11_count cl_X11_98 ck_X11_count (Nat.le_of_ble_eq_true rfl) dX11_scoreAt_51 hm (fun r D9 hr => ?_)
    obtain ⟨rfl, e9⟩ := hr
    rw [e9]
    clear e9
    refine am_isub dX11_scoreAt_54 ?_
    refine am_set (am_istore dX11_scoreAt_55 (by decide)) (L1 := [.ref o, .int v1, .int v2, .int v3, .int v4, .int v5, .int (x5 - x7)]) rfl ?_
    refine am_iload (x := v4) dX11_scoreAt_57 rfl ?_
    refine am_iload (x := (x5 - x7)) dX11_scoreAt_59 rfl ?_
    refine am_if_gt (tgt := 75) dX11_scoreAt_61 (by decide) (fun h => ?_) (fun h => ?_)
    · replace hT := hT.1 h
      refine am_iconst (v := (nI 1)) dX11_scoreAt_75 (by decide) ?_
      refine am_goto (tgt := 80) dX11_scoreAt_76 (by decide) ?_
      refine am_iadd dX11_scoreAt_80 ?_
      refine am_set (am_istore dX11_scoreAt_81 (by decide)) (L1 := [.ref o, .int v1, .int v2, .int v3, .int (v4 + (nI 1)), .int v5, .int (x5 - x7)]) rfl ?_
      refine am_set (am_iinc (x := v5) (c0 := (nI 1)) dX11_scoreAt_83 (by decide) rfl (by decide)) (L1 := [.ref o, .int v1, .int v2, .int v3, .int (v4 + (nI 1)), .int (v5 + (nI 1)), .int (x5 - x7)]) rfl ?_
      refine am_goto (tgt := 28) dX11_scoreAt_86 (by decide) ?_
      refine am_drop [6] (L1 := [.ref o, .int v1, .int v2, .int v3, .int (v4 + (nI 1)), .int (v5 + (nI 1)), .null]) rfl ?_
      exact hT
    · replace hT := hT.2 h
      refine am_iload (x := (x5 - x7)) dX11_scoreAt_64 rfl ?_
      refine am_if_ne (tgt := 79) dX11_scoreAt_66 (by decide) (fun h => ?_) (fun h => ?_)
      · replace hT := hT.1 h
        refine am_iconst (v := (nI 0)) dX11_scoreAt_79 (by decide) ?_
        refine am_iadd dX11_scoreAt_80 ?_
        refine am_set (am_istore dX11_scoreAt_81 (by decide)) (L1 := [.ref o, .int v1, .int v2, .int v3, .int (v4 + (nI 0)), .int v5, .int (x5 - x7)]) rfl ?_
        refine am_set (am_iinc (x := v5) (c0 := (nI 1)) dX11_scoreAt_83 (by decide) rfl (by decide)) (L1 := [.ref o, .int v1, .int v2, .int v3, .int (v4 + (nI 0)), .int (v5 + (nI 1)), .int (x5 - x7)]) rfl ?_
        refine am_goto (tgt := 28) dX11_scoreAt_86 (by decide) ?_
        refine am_drop [6] (L1 := [.ref o, .int v1, .int v2, .int v3, .int (v4 + (nI 0)), .int (v5 + (nI 1)), .null]) rfl ?_
        exact hT
      · replace hT := hT.2 h
        refine am_iload (x := v5) dX11_scoreAt_69 rfl ?_
        refine am_iload_n (x := v3) dX11_scoreAt_71 rfl ?_
        refine am_icmp_ge (tgt := 79) dX11_scoreAt_72 (by decide) (fun h => ?_) (fun h => ?_)
        · replace hT := hT.1 h
          refine am_iconst (v := (nI 0)) dX11_scoreAt_79 (by decide) ?_
          refine am_iadd dX11_scoreAt_80 ?_
          refine am_set (am_istore dX11_scoreAt_81 (by decide)) (L1 := [.ref o, .int v1, .int v2, .int v3, .int (v4 + (nI 0)), .int v5, .int (x5 - x7)]) rfl ?_
          refine am_set (am_iinc (x := v5) (c0 := (nI 1)) dX11_scoreAt_83 (by decide) rfl (by decide)) (L1 := [.ref o, .int v1, .int v2, .int v3, .int (v4 + (nI 0)), .int (v5 + (nI 1)), .int (x5 - x7)]) rfl ?_
          refine am_goto (tgt := 28) dX11_scoreAt_86 (by decide) ?_
          refine am_drop [6] (L1 := [.ref o, .int v1, .int v2, .int v3, .int (v4 + (nI 0)), .int (v5 + (nI 1)), .null]) rfl ?_
          exact hT
        · replace hT := hT.2 h
          refine am_iconst (v := (nI 1)) dX11_scoreAt_75 (by decide) ?_
          refine am_goto (tgt := 80) dX11_scoreAt_76 (by decide) ?_
          refine am_iadd dX11_scoreAt_80 ?_
          refine am_set (am_istore dX11_scoreAt_81 (by decide)) (L1 := [.ref o, .int v1, .int v2, .int v3, .int (v4 + (nI 1)), .int v5, .int (x5 - x7)]) rfl ?_
          refine am_set (am_iinc (x := v5) (c0 := (nI 1)) dX11_scoreAt_83 (by decide) rfl (by decide)) (L1 := [.ref o, .int v1, .int v2, .int v3, .int (v4 + (nI 1)), .int (v5 + (nI 1)), .int (x5 - x7)]) rfl ?_
          refine am_goto (tgt := 28) dX11_scoreAt_86 (by decide) ?_
          refine am_drop [6] (L1 := [.ref o, .int v1, .int v2, .int v3, .int (v4 + (nI 1)), .int (v5 + (nI 1)), .null]) rfl ?_
          exact hT
set_option maxRecDepth 20000 in
theorem eX11_triangles {lay : List am_L} {d : Nat} {D : am_D} {Q : Option Value → am_D → Prop} {o : Nat} (ho : isX11 lay o) (hT : am_AW lay (d + 1) mX11_triangles 4 [.ref o, .int (nI 0), .int (nI 0), .null, .null] [] D Q) : am_Met lay (d + 1) mX11_triangles [.ref o] D Q := by
  refine am_enter (by decide +kernel) rfl (Nat.le_of_ble_eq_true rfl) ?_
  show am_AW lay (d + 1) mX11_triangles 0 [.ref o, .null, .null, .null, .null] [] D Q
  refine am_iconst (v := (nI 0)) dX11_triangles_0 (by decide) ?_
  refine am_set (am_istore_n dX11_triangles_1 (by decide)) (L1 := [.ref o, .int (nI 0), .null, .null, .null]) rfl ?_
  refine am_iconst (v := (nI 0)) dX11_triangles_2 (by decide) ?_
  refine am_set (am_istore_n dX11_triangles_3 (by decide)) (L1 := [.ref o, .int (nI 0), .int (nI 0), .null, .null]) rfl ?_
  exact hT
set_option maxRecDepth 20000 in
theorem rX11_triangles_4 {lay : List am_L} {d : Nat} {D : am_D} {Q : Option Value → am_D → Prop} {o : Nat} {v1 : Int32} {v2 : Int32} (ho : isX11 lay o) (hT : (∃ x1, am_MetP lay d mX11_n [.ref o] D x1 ∧
 ((x1 ≤ v2 → Q (some (.int v1)) D) ∧
 (¬ (x1 ≤ v2) → am_AW lay (d + 1) mX11_triangles 16 [.ref o, .int v1, .int v2, .int (v2 + (nI 1)), .null] [] D Q)))) : am_AW lay (d + 1) mX11_triangles 4 [.ref o, .int v1, .int v2, .null, .null] [] D Q := by
  refine am_iload_n (x := v2) dX11_triangles_4 rfl ?_
  refine am_aload_n (x := o) dX11_triangles_5 rfl ?_
  obtain ⟨x1, hm, hT⟩ := hT
  refine am_callV (av := []) (st := [.int v2]) (b := o) cw_X11_n cl_X11_92 ck_X11_n cs_X11_n ho.1 rfl rfl (Nat.le_of_ble_eq_true rfl) dX11_triangles_6 hm (fun r D9 hr => ?_)
  obtain ⟨rfl, e9⟩ := hr
  rw [e9]
  clear e9
  refine am_icmp_ge (tgt := 75) dX11_triangles_9 (by decide) (fun h => ?_) (fun h => ?_)
  · replace hT := hT.1 h
    refine am_iload_n (x := v1) dX11_triangles_75 rfl ?_
    exact am_ireturn (ty := .int) dX11_triangles_76 rfl rfl hT
  · replace hT := hT.2 h
    refine am_iload_n (x := v2) dX11_triangles_12 rfl ?_
    refine am_iconst (v := (nI 1)) dX11_triangles_13 (by decide) ?_
    refine am_iadd dX11_triangles_14 ?_
    refine am_set (am_istore_n dX11_triangles_15 (by decide)) (L1 := [.ref o, .int v1, .int v2, .int (v2 + (nI 1)), .null]) rfl ?_
    exact hT
set_option maxRecDepth 20000 in
theorem rX11_triangles_16 {lay : List am_L} {d : Nat} {D : am_D} {Q : Option Value → am_D → Prop} {o : Nat} {v1 : Int32} {v2 : Int32} {v3 : Int32} (ho : isX11 lay o) (hT : (∃ x1, am_MetP lay d mX11_n [.ref o] D x1 ∧
 ((x1 ≤ v3 → am_AW lay (d + 1) mX11_triangles 4 [.ref o, .int v1, .int (v2 + (nI 1)), .null, .null] [] D Q) ∧
 (¬ (x1 ≤ v3) → am_AW lay (d + 1) mX11_triangles 29 [.ref o, .int v1, .int v2, .int v3, .int (v3 + (nI 1))] [] D Q)))) : am_AW lay (d + 1) mX11_triangles 16 [.ref o, .int v1, .int v2, .int v3, .null] [] D Q := by
  refine am_iload_n (x := v3) dX11_triangles_16 rfl ?_
  refine am_aload_n (x := o) dX11_triangles_17 rfl ?_
  obtain ⟨x1, hm, hT⟩ := hT
  refine am_callV (av := []) (st := [.int v3]) (b := o) cw_X11_n cl_X11_92 ck_X11_n cs_X11_n ho.1 rfl rfl (Nat.le_of_ble_eq_true rfl) dX11_triangles_18 hm (fun r D9 hr => ?_)
  obtain ⟨rfl, e9⟩ := hr
  rw [e9]
  clear e9
  refine am_icmp_ge (tgt := 69) dX11_triangles_21 (by decide) (fun h => ?_) (fun h => ?_)
  · replace hT := hT.1 h
    refine am_set (am_iinc (x := v2) (c0 := (nI 1)) dX11_triangles_69 (by decide) rfl (by decide)) (L1 := [.ref o, .int v1, .int (v2 + (nI 1)), .int v3, .null]) rfl ?_
    refine am_goto (tgt := 4) dX11_triangles_72 (by decide) ?_
    refine am_drop [3] (L1 := [.ref o, .int v1, .int (v2 + (nI 1)), .null, .null]) rfl ?_
    exact hT
  · replace hT := hT.2 h
    refine am_iload_n (x := v3) dX11_triangles_24 rfl ?_
    refine am_iconst (v := (nI 1)) dX11_triangles_25 (by decide) ?_
    refine am_iadd dX11_triangles_26 ?_
    refine am_set (am_istore dX11_triangles_27 (by decide)) (L1 := [.ref o, .int v1, .int v2, .int v3, .int (v3 + (nI 1))]) rfl ?_
    exact hT
set_option maxRecDepth 20000 in
theorem rX11_triangles_29 {lay : List am_L} {d : Nat} {D : am_D} {Q : Option Value → am_D → Prop} {o : Nat} {v1 : Int32} {v2 : Int32} {v3 : Int32} {v4 : Int32} (ho : isX11 lay o) (hT : (∃ x1, am_MetP lay d mX11_n [.ref o] D x1 ∧
 ((x1 ≤ v4 → am_AW lay (d + 1) mX11_triangles 16 [.ref o, .int v1, .int v2, .int (v3 + (nI 1)), .null] [] D Q) ∧
 (¬ (x1 ≤ v4) → (∃ x2, am_MetP lay d mX11_isCycle [.ref o, .int v2, .int v3, .int v4] D x2 ∧
 ((x2 = nI 0 → am_AW lay (d + 1) mX11_triangles 29 [.ref o, .int (v1 + (nI 0)), .int v2, .int v3, .int (v4 + (nI 1))] [] D Q) ∧
 (¬ (x2 = nI 0) → am_AW lay (d + 1) mX11_triangles 29 [.ref o, .int (v1 + (nI 1)), .int v2, .int v3, .int (v4 + (nI 1))] [] D Q))))))) : am_AW lay (d + 1) mX11_triangles 29 [.ref o, .int v1, .int v2, .int v3, .int v4] [] D Q := by
  refine am_iload (x := v4) dX11_triangles_29 rfl ?_
  refine am_aload_n (x := o) dX11_triangles_31 rfl ?_
  obtain ⟨x1, hm, hT⟩ := hT
  refine am_callV (av := []) (st := [.int v4]) (b := o) cw_X11_n cl_X11_92 ck_X11_n cs_X11_n ho.1 rfl rfl (Nat.le_of_ble_eq_true rfl) dX11_triangles_32 hm (fun r D9 hr => ?_)
  obtain ⟨rfl, e9⟩ := hr
  rw [e9]
  clear e9
  refine am_icmp_ge (tgt := 63) dX11_triangles_35 (by decide) (fun h => ?_) (fun h => ?_)
  · replace hT := hT.1 h
    refine am_set (am_iinc (x := v3) (c0 := (nI 1)) dX11_triangles_63 (by decide) rfl (by decide)) (L1 := [.ref o, .int v1, .int v2, .int (v3 + (nI 1)), .int v4]) rfl ?_
    refine am_goto (tgt := 16) dX11_triangles_66 (by decide) ?_
    refine am_drop [4] (L1 := [.ref o, .int v1, .int v2, .int (v3 + (nI 1)), .null]) rfl ?_
    exact hT
  · replace hT := hT.2 h
    refine am_iload_n (x := v1) dX11_triangles_38 rfl ?_
    refine am_aload_n (x := o) dX11_triangles_39 rfl ?_
    refine am_iload_n (x := v2) dX11_triangles_40 rfl ?_
    refine am_iload_n (x := v3) dX11_triangles_41 rfl ?_
    refine am_iload (x := v4) dX11_triangles_42 rfl ?_
    obtain ⟨x2, hm, hT⟩ := hT
    refine am_callV (av := [.int v2, .int v3, .int v4]) (st := [.int v1]) (b := o) cw_X11_isCycle cl_X11_82 ck_X11_isCycle cs_X11_isCycle ho.1 rfl rfl (Nat.le_of_ble_eq_true rfl) dX11_triangles_44 hm (fun r D9 hr => ?_)
    obtain ⟨rfl, e9⟩ := hr
    rw [e9]
    clear e9
    refine am_if_eq (tgt := 54) dX11_triangles_47 (by decide) (fun h => ?_) (fun h => ?_)
    · replace hT := hT.1 h
      refine am_iconst (v := (nI 0)) dX11_triangles_54 (by decide) ?_
      refine am_iadd dX11_triangles_55 ?_
      refine am_set (am_istore_n dX11_triangles_56 (by decide)) (L1 := [.ref o, .int (v1 + (nI 0)), .int v2, .int v3, .int v4]) rfl ?_
      refine am_set (am_iinc (x := v4) (c0 := (nI 1)) dX11_triangles_57 (by decide) rfl (by decide)) (L1 := [.ref o, .int (v1 + (nI 0)), .int v2, .int v3, .int (v4 + (nI 1))]) rfl ?_
      refine am_goto (tgt := 29) dX11_triangles_60 (by decide) ?_
      exact hT
    · replace hT := hT.2 h
      refine am_iconst (v := (nI 1)) dX11_triangles_50 (by decide) ?_
      refine am_goto (tgt := 55) dX11_triangles_51 (by decide) ?_
      refine am_iadd dX11_triangles_55 ?_
      refine am_set (am_istore_n dX11_triangles_56 (by decide)) (L1 := [.ref o, .int (v1 + (nI 1)), .int v2, .int v3, .int v4]) rfl ?_
      refine am_set (am_iinc (x := v4) (c0 := (nI 1)) dX11_triangles_57 (by decide) rfl (by decide)) (L1 := [.ref o, .int (v1 + (nI 1)), .int v2, .int v3, .int (v4 + (nI 1))]) rfl ?_
      refine am_goto (tgt := 29) dX11_triangles_60 (by decide) ?_
      exact hT
set_option maxRecDepth 20000 in
theorem eX11_distance {lay : List am_L} {d : Nat} {D : am_D} {Q : Option Value → am_D → Prop} {o : Nat} {v1 : Int32} {v2 : Int32} (ho : isX11 lay o) (hT : (∃ x1, am_MetP lay d mX11_isPlayer [.ref o, .int v1] D x1 ∧
 ((x1 = nI 0 → Q (some (.int (-1))) D) ∧
 (¬ (x1 = nI 0) → (∃ x2, am_MetP lay d mX11_isPlayer [.ref o, .int v2] D x2 ∧
 ((¬ x2 = nI 0 → (∃ D3, am_MetV lay d mX11_stepsTo [.ref o, .int v2] D D3 ∧
 (vp_in v1 10 ∧ Q (some (.int (D3 (o + 9) (Int32.toNatClampNeg v1)))) D3))) ∧
 (¬ (¬ x2 = nI 0) → Q (some (.int (-1))) D))))))) : am_Met lay (d + 1) mX11_distance [.ref o, .int v1, .int v2] D Q := by
  refine am_enter (by decide +kernel) rfl (Nat.le_of_ble_eq_true rfl) ?_
  show am_AW lay (d + 1) mX11_distance 0 [.ref o, .int v1, .int v2] [] D Q
  refine am_aload_n (x := o) dX11_distance_0 rfl ?_
  refine am_iload_n (x := v1) dX11_distance_1 rfl ?_
  obtain ⟨x1, hm, hT⟩ := hT
  refine am_callV (av := [.int v1]) (st := []) (b := o) cw_X11_isPlayer cl_X11_57 ck_X11_isPlayer cs_X11_isPlayer ho.1 rfl rfl (Nat.le_of_ble_eq_true rfl) dX11_distance_2 hm (fun r D9 hr => ?_)
  obtain ⟨rfl, e9⟩ := hr
  rw [e9]
  clear e9
  refine am_if_eq (tgt := 16) dX11_distance_5 (by decide) (fun h => ?_) (fun h => ?_)
  · replace hT := hT.1 h
    refine am_iconst (v := (-1)) dX11_distance_16 (by decide) ?_
    exact am_ireturn (ty := .int) dX11_distance_17 rfl rfl hT
  · replace hT := hT.2 h
    refine am_aload_n (x := o) dX11_distance_8 rfl ?_
    refine am_iload_n (x := v2) dX11_distance_9 rfl ?_
    obtain ⟨x2, hm, hT⟩ := hT
    refine am_callV (av := [.int v2]) (st := []) (b := o) cw_X11_isPlayer cl_X11_57 ck_X11_isPlayer cs_X11_isPlayer ho.1 rfl rfl (Nat.le_of_ble_eq_true rfl) dX11_distance_10 hm (fun r D9 hr => ?_)
    obtain ⟨rfl, e9⟩ := hr
    rw [e9]
    clear e9
    refine am_if_ne (tgt := 18) dX11_distance_13 (by decide) (fun h => ?_) (fun h => ?_)
    · replace hT := hT.1 h
      refine am_aload_n (x := o) dX11_distance_18 rfl ?_
      refine am_iload_n (x := v2) dX11_distance_19 rfl ?_
      obtain ⟨D3, hm, hT⟩ := hT
      refine am_callV (av := [.int v2]) (st := []) (b := o) cw_X11_stepsTo cl_X11_95 ck_X11_stepsTo cs_X11_stepsTo ho.1 rfl rfl (Nat.le_of_ble_eq_true rfl) dX11_distance_20 hm (fun r D9 hr => ?_)
      obtain ⟨rfl, e9⟩ := hr
      rw [e9]
      clear e9
      refine am_aload_n (x := o) dX11_distance_23 rfl ?_
      refine am_getR dX11_distance_24 fw_X11_34 ho.1 rfl ?_
      refine am_iload_n (x := v1) dX11_distance_27 rfl ?_
      refine am_iald dX11_distance_28 ho.2.2.2.2.2.2.2.2.2 hT.1 ?_
      replace hT := hT.2
      exact am_ireturn (ty := .int) dX11_distance_29 rfl rfl hT
    · replace hT := hT.2 h
      refine am_iconst (v := (-1)) dX11_distance_16 (by decide) ?_
      exact am_ireturn (ty := .int) dX11_distance_17 rfl rfl hT
set_option maxRecDepth 20000 in
theorem eX11_reaches {lay : List am_L} {d : Nat} {D : am_D} {Q : Option Value → am_D → Prop} {o : Nat} (ho : isX11 lay o) (hT : am_AW lay (d + 1) mX11_reaches 2 [.ref o, .int (nI 0), .null, .null] [] D Q) : am_Met lay (d + 1) mX11_reaches [.ref o] D Q := by
  refine am_enter (by decide +kernel) rfl (Nat.le_of_ble_eq_true rfl) ?_
  show am_AW lay (d + 1) mX11_reaches 0 [.ref o, .null, .null, .null] [] D Q
  refine am_iconst (v := (nI 0)) dX11_reaches_0 (by decide) ?_
  refine am_set (am_istore_n dX11_reaches_1 (by decide)) (L1 := [.ref o, .int (nI 0), .null, .null]) rfl ?_
  exact hT
set_option maxRecDepth 20000 in
theorem rX11_reaches_2 {lay : List am_L} {d : Nat} {D : am_D} {Q : Option Value → am_D → Prop} {o : Nat} {v1 : Int32} (ho : isX11 lay o) (hT : (∃ x1, am_MetP lay d mX11_n [.ref o] D x1 ∧
 ((x1 ≤ v1 → am_AW lay (d + 1) mX11_reaches 27 [.ref o, .int (nI 1), .null, .null] [] D Q) ∧
 (¬ (x1 ≤ v1) → (vp_in v1 10 ∧ ∀ D2, D2 = am_up D (o + 8) (Int32.toNatClampNeg v1) ((nI 1) <<< (v1 &&& 31)) →
 am_AW lay (d + 1) mX11_reaches 2 [.ref o, .int (v1 + (nI 1)), .null, .null] [] D2 Q))))) : am_AW lay (d + 1) mX11_reaches 2 [.ref o, .int v1, .null, .null] [] D Q := by
  refine am_iload_n (x := v1) dX11_reaches_2 rfl ?_
  refine am_aload_n (x := o) dX11_reaches_3 rfl ?_
  obtain ⟨x1, hm, hT⟩ := hT
  refine am_callV (av := []) (st := [.int v1]) (b := o) cw_X11_n cl_X11_92 ck_X11_n cs_X11_n ho.1 rfl rfl (Nat.le_of_ble_eq_true rfl) dX11_reaches_4 hm (fun r D9 hr => ?_)
  obtain ⟨rfl, e9⟩ := hr
  rw [e9]
  clear e9
  refine am_icmp_ge (tgt := 25) dX11_reaches_7 (by decide) (fun h => ?_) (fun h => ?_)
  · replace hT := hT.1 h
    refine am_iconst (v := (nI 1)) dX11_reaches_25 (by decide) ?_
    refine am_set (am_istore_n dX11_reaches_26 (by decide)) (L1 := [.ref o, .int (nI 1), .null, .null]) rfl ?_
    exact hT
  · replace hT := hT.2 h
    refine am_aload_n (x := o) dX11_reaches_10 rfl ?_
    refine am_getR dX11_reaches_11 fw_X11_31 ho.1 rfl ?_
    refine am_iload_n (x := v1) dX11_reaches_14 rfl ?_
    refine am_iconst (v := (nI 1)) dX11_reaches_15 (by decide) ?_
    refine am_iload_n (x := v1) dX11_reaches_16 rfl ?_
    refine am_ishl dX11_reaches_17 ?_
    refine am_iast dX11_reaches_18 ho.2.2.2.2.2.2.2.2.1 hT.1 ?_
    obtain ⟨D2, hD⟩ : ∃ z, z = am_up D (o + 8) (Int32.toNatClampNeg v1) ((nI 1) <<< (v1 &&& 31)) := ⟨_, rfl⟩
    rw [← hD]
    replace hT := hT.2 D2 hD
    clear hD
    refine am_set (am_iinc (x := v1) (c0 := (nI 1)) dX11_reaches_19 (by decide) rfl (by decide)) (L1 := [.ref o, .int (v1 + (nI 1)), .null, .null]) rfl ?_
    refine am_goto (tgt := 2) dX11_reaches_22 (by decide) ?_
    exact hT
set_option maxRecDepth 20000 in
theorem rX11_reaches_27 {lay : List am_L} {d : Nat} {D : am_D} {Q : Option Value → am_D → Prop} {o : Nat} {v1 : Int32} (ho : isX11 lay o) (hT : (∃ x1, am_MetP lay d mX11_n [.ref o] D x1 ∧
 ((x1 ≤ v1 → Q none D) ∧
 (¬ (x1 ≤ v1) → am_AW lay (d + 1) mX11_reaches 37 [.ref o, .int v1, .int (nI 0), .null] [] D Q)))) : am_AW lay (d + 1) mX11_reaches 27 [.ref o, .int v1, .null, .null] [] D Q := by
  refine am_iload_n (x := v1) dX11_reaches_27 rfl ?_
  refine am_aload_n (x := o) dX11_reaches_28 rfl ?_
  obtain ⟨x1, hm, hT⟩ := hT
  refine am_callV (av := []) (st := [.int v1]) (b := o) cw_X11_n cl_X11_92 ck_X11_n cs_X11_n ho.1 rfl rfl (Nat.le_of_ble_eq_true rfl) dX11_reaches_29 hm (fun r D9 hr => ?_)
  obtain ⟨rfl, e9⟩ := hr
  rw [e9]
  clear e9
  refine am_icmp_ge (tgt := 104) dX11_reaches_32 (by decide) (fun h => ?_) (fun h => ?_)
  · replace hT := hT.1 h
    exact am_return dX11_reaches_104 rfl hT
  · replace hT := hT.2 h
    refine am_iconst (v := (nI 0)) dX11_reaches_35 (by decide) ?_
    refine am_set (am_istore_n dX11_reaches_36 (by decide)) (L1 := [.ref o, .int v1, .int (nI 0), .null]) rfl ?_
    exact hT
set_option maxRecDepth 20000 in
theorem rX11_reaches_37 {lay : List am_L} {d : Nat} {D : am_D} {Q : Option Value → am_D → Prop} {o : Nat} {v1 : Int32} {v2 : Int32} (ho : isX11 lay o) (hT : (∃ x1, am_MetP lay d mX11_n [.ref o] D x1 ∧
 ((x1 ≤ v2 → am_AW lay (d + 1) mX11_reaches 27 [.ref o, .int (v1 + (nI 1)), .null, .null] [] D Q) ∧
 (¬ (x1 ≤ v2) → am_AW lay (d + 1) mX11_reaches 47 [.ref o, .int v1, .int v2, .int (nI 0)] [] D Q)))) : am_AW lay (d + 1) mX11_reaches 37 [.ref o, .int v1, .int v2, .null] [] D Q := by
  refine am_iload_n (x := v2) dX11_reaches_37 rfl ?_
  refine am_aload_n (x := o) dX11_reaches_38 rfl ?_
  obtain ⟨x1, hm, hT⟩ := hT
  refine am_callV (av := []) (st := [.int v2]) (b := o) cw_X11_n cl_X11_92 ck_X11_n cs_X11_n ho.1 rfl rfl (Nat.le_of_ble_eq_true rfl) dX11_reaches_39 hm (fun r D9 hr => ?_)
  obtain ⟨rfl, e9⟩ := hr
  rw [e9]
  clear e9
  refine am_icmp_ge (tgt := 98) dX11_reaches_42 (by decide) (fun h => ?_) (fun h => ?_)
  · replace hT := hT.1 h
    refine am_set (am_iinc (x := v1) (c0 := (nI 1)) dX11_reaches_98 (by decide) rfl (by decide)) (L1 := [.ref o, .int (v1 + (nI 1)), .int v2, .null]) rfl ?_
    refine am_goto (tgt := 27) dX11_reaches_101 (by decide) ?_
    refine am_drop [2] (L1 := [.ref o, .int (v1 + (nI 1)), .null, .null]) rfl ?_
    exact hT
  · replace hT := hT.2 h
    refine am_iconst (v := (nI 0)) dX11_reaches_45 (by decide) ?_
    refine am_set (am_istore_n dX11_reaches_46 (by decide)) (L1 := [.ref o, .int v1, .int v2, .int (nI 0)]) rfl ?_
    exact hT
set_option maxRecDepth 20000 in
theorem rX11_reaches_47 {lay : List am_L} {d : Nat} {D : am_D} {Q : Option Value → am_D → Prop} {o : Nat} {v1 : Int32} {v2 : Int32} {v3 : Int32} (ho : isX11 lay o) (hT : (∃ x1, am_MetP lay d mX11_n [.ref o] D x1 ∧
 ((x1 ≤ v3 → am_AW lay (d + 1) mX11_reaches 37 [.ref o, .int v1, .int (v2 + (nI 1)), .null] [] D Q) ∧
 (¬ (x1 ≤ v3) → (vp_in v2 10 ∧ (vp_in v2 10 ∧ (∃ x2, am_MetP lay d mX11_has [.int (D (o + 8) (Int32.toNatClampNeg v2)), .int v3] D x2 ∧
 ((x2 = nI 0 → (vp_in v2 10 ∧ ∀ D3, D3 = am_up D (o + 8) (Int32.toNatClampNeg v2) ((D (o + 8) (Int32.toNatClampNeg v2)) ||| (nI 0)) →
 am_AW lay (d + 1) mX11_reaches 47 [.ref o, .int v1, .int v2, .int (v3 + (nI 1))] [] D3 Q)) ∧
 (¬ (x2 = nI 0) → (∃ x4, am_MetP lay d mX11_beaten [.ref o, .int v3] D x4 ∧
 (vp_in v2 10 ∧ ∀ D5, D5 = am_up D (o + 8) (Int32.toNatClampNeg v2) ((D (o + 8) (Int32.toNatClampNeg v2)) ||| x4) →
 am_AW lay (d + 1) mX11_reaches 47 [.ref o, .int v1, .int v2, .int (v3 + (nI 1))] [] D5 Q))))))))))) : am_AW lay (d + 1) mX11_reaches 47 [.ref o, .int v1, .int v2, .int v3] [] D Q := by
  refine am_iload_n (x := v3) dX11_reaches_47 rfl ?_
  refine am_aload_n (x := o) dX11_reaches_48 rfl ?_
  obtain ⟨x1, hm, hT⟩ := hT
  refine am_callV (av := []) (st := [.int v3]) (b := o) cw_X11_n cl_X11_92 ck_X11_n cs_X11_n ho.1 rfl rfl (Nat.le_of_ble_eq_true rfl) dX11_reaches_49 hm (fun r D9 hr => ?_)
  obtain ⟨rfl, e9⟩ := hr
  rw [e9]
  clear e9
  refine am_icmp_ge (tgt := 92) dX11_reaches_52 (by decide) (fun h => ?_) (fun h => ?_)
  · replace hT := hT.1 h
    refine am_set (am_iinc (x := v2) (c0 := (nI 1)) dX11_reaches_92 (by decide) rfl (by decide)) (L1 := [.ref o, .int v1, .int (v2 + (nI 1)), .int v3]) rfl ?_
    refine am_goto (tgt := 37) dX11_reaches_95 (by decide) ?_
    refine am_drop [3] (L1 := [.ref o, .int v1, .int (v2 + (nI 1)), .null]) rfl ?_
    exact hT
  · replace hT := hT.2 h
    refine am_aload_n (x := o) dX11_reaches_55 rfl ?_
    refine am_getR dX11_reaches_56 fw_X11_31 ho.1 rfl ?_
    refine am_iload_n (x := v2) dX11_reaches_59 rfl ?_
    refine am_dup2 dX11_reaches_60 rfl rfl ?_
    refine am_iald dX11_reaches_61 ho.2.2.2.2.2.2.2.2.1 hT.1 ?_
    replace hT := hT.2
    refine am_aload_n (x := o) dX11_reaches_62 rfl ?_
    refine am_getR dX11_reaches_63 fw_X11_31 ho.1 rfl ?_
    refine am_iload_n (x := v2) dX11_reaches_66 rfl ?_
    refine am_iald dX11_reaches_67 ho.2.2.2.2.2.2.2.2.1 hT.1 ?_
    replace hT := hT.2
    refine am_iload_n (x := v3) dX11_reaches_68 rfl ?_
    obtain ⟨x2, hm, hT⟩ := hT
    refine am_callS (av := [.int (D (o + 8) (Int32.toNatClampNeg v2)), .int v3]) (st := [.int (D (o + 8) (Int32.toNatClampNeg v2)), .int v2, .ref (o + 8)]) cw_X11_has cl_X11_49 ck_X11_has (Nat.le_of_ble_eq_true rfl) dX11_reaches_69 hm (fun r D9 hr => ?_)
    obtain ⟨rfl, e9⟩ := hr
    rw [e9]
    clear e9
    refine am_if_eq (tgt := 83) dX11_reaches_72 (by decide) (fun h => ?_) (fun h => ?_)
    · replace hT := hT.1 h
      refine am_iconst (v := (nI 0)) dX11_reaches_83 (by decide) ?_
      refine am_ior dX11_reaches_84 ?_
      refine am_iast dX11_reaches_85 ho.2.2.2.2.2.2.2.2.1 hT.1 ?_
      obtain ⟨D3, hD⟩ : ∃ z, z = am_up D (o + 8) (Int32.toNatClampNeg v2) ((D (o + 8) (Int32.toNatClampNeg v2)) ||| (nI 0)) := ⟨_, rfl⟩
      rw [← hD]
      replace hT := hT.2 D3 hD
      clear hD
      refine am_set (am_iinc (x := v3) (c0 := (nI 1)) dX11_reaches_86 (by decide) rfl (by decide)) (L1 := [.ref o, .int v1, .int v2, .int (v3 + (nI 1))]) rfl ?_
      refine am_goto (tgt := 47) dX11_reaches_89 (by decide) ?_
      exact hT
    · replace hT := hT.2 h
      refine am_aload_n (x := o) dX11_reaches_75 rfl ?_
      refine am_iload_n (x := v3) dX11_reaches_76 rfl ?_
      obtain ⟨x4, hm, hT⟩ := hT
      refine am_callV (av := [.int v3]) (st := [.int (D (o + 8) (Int32.toNatClampNeg v2)), .int v2, .ref (o + 8)]) (b := o) cw_X11_beaten cl_X11_45 ck_X11_beaten cs_X11_beaten ho.1 rfl rfl (Nat.le_of_ble_eq_true rfl) dX11_reaches_77 hm (fun r D9 hr => ?_)
      obtain ⟨rfl, e9⟩ := hr
      rw [e9]
      clear e9
      refine am_goto (tgt := 84) dX11_reaches_80 (by decide) ?_
      refine am_ior dX11_reaches_84 ?_
      refine am_iast dX11_reaches_85 ho.2.2.2.2.2.2.2.2.1 hT.1 ?_
      obtain ⟨D5, hD⟩ : ∃ z, z = am_up D (o + 8) (Int32.toNatClampNeg v2) ((D (o + 8) (Int32.toNatClampNeg v2)) ||| x4) := ⟨_, rfl⟩
      rw [← hD]
      replace hT := hT.2 D5 hD
      clear hD
      refine am_set (am_iinc (x := v3) (c0 := (nI 1)) dX11_reaches_86 (by decide) rfl (by decide)) (L1 := [.ref o, .int v1, .int v2, .int (v3 + (nI 1))]) rfl ?_
      refine am_goto (tgt := 47) dX11_reaches_89 (by decide) ?_
      exact hT
set_option maxRecDepth 20000 in
theorem eX11_isLowest {lay : List am_L} {d : Nat} {D : am_D} {Q : Option Value → am_D → Prop} {o : Nat} {v1 : Int32} (ho : isX11 lay o) (hT : am_AW lay (d + 1) mX11_isLowest 4 [.ref o, .int v1, .int (nI 1), .int (nI 0)] [] D Q) : am_Met lay (d + 1) mX11_isLowest [.ref o, .int v1] D Q := by
  refine am_enter (by decide +kernel) rfl (Nat.le_of_ble_eq_true rfl) ?_
  show am_AW lay (d + 1) mX11_isLowest 0 [.ref o, .int v1, .null, .null] [] D Q
  refine am_iconst (v := (nI 1)) dX11_isLowest_0 (by decide) ?_
  refine am_set (am_istore_n dX11_isLowest_1 (by decide)) (L1 := [.ref o, .int v1, .int (nI 1), .null]) rfl ?_
  refine am_iconst (v := (nI 0)) dX11_isLowest_2 (by decide) ?_
  refine am_set (am_istore_n dX11_isLowest_3 (by decide)) (L1 := [.ref o, .int v1, .int (nI 1), .int (nI 0)]) rfl ?_
  exact hT
set_option maxRecDepth 20000 in
theorem rX11_isLowest_4 {lay : List am_L} {d : Nat} {D : am_D} {Q : Option Value → am_D → Prop} {o : Nat} {v1 : Int32} {v2 : Int32} {v3 : Int32} (ho : isX11 lay o) (hT : ((v1 ≤ v3 → (narrow .boolean (.int v2) = .int v2 ∧ Q (some (.int v2)) D)) ∧
 (¬ (v1 ≤ v3) → ((v2 = nI 0 → am_AW lay (d + 1) mX11_isLowest 4 [.ref o, .int v1, .int (nI 0), .int (v3 + (nI 1))] [] D Q) ∧
 (¬ (v2 = nI 0) → (vp_in v1 10 ∧ (∃ x1, am_MetP lay d mX11_has [.int (D (o + 8) (Int32.toNatClampNeg v1)), .int v3] D x1 ∧
 ((x1 = nI 0 → am_AW lay (d + 1) mX11_isLowest 4 [.ref o, .int v1, .int (nI 1), .int (v3 + (nI 1))] [] D Q) ∧
 (¬ (x1 = nI 0) → (vp_in v3 10 ∧ (∃ x2, am_MetP lay d mX11_has [.int (D (o + 8) (Int32.toNatClampNeg v3)), .int v1] D x2 ∧
 ((¬ x2 = nI 0 → am_AW lay (d + 1) mX11_isLowest 4 [.ref o, .int v1, .int (nI 0), .int (v3 + (nI 1))] [] D Q) ∧
 (¬ (¬ x2 = nI 0) → am_AW lay (d + 1) mX11_isLowest 4 [.ref o, .int v1, .int (nI 1), .int (v3 + (nI 1))] [] D Q))))))))))))) : am_AW lay (d + 1) mX11_isLowest 4 [.ref o, .int v1, .int v2, .int v3] [] D Q := by
  refine am_iload_n (x := v3) dX11_isLowest_4 rfl ?_
  refine am_iload_n (x := v1) dX11_isLowest_5 rfl ?_
  refine am_icmp_ge (tgt := 51) dX11_isLowest_6 (by decide) (fun h => ?_) (fun h => ?_)
  · replace hT := hT.1 h
    refine am_iload_n (x := v2) dX11_isLowest_51 rfl ?_
    exact am_ireturn (ty := .boolean) dX11_isLowest_52 rfl hT.1 hT.2
  · replace hT := hT.2 h
    refine am_iload_n (x := v2) dX11_isLowest_9 rfl ?_
    refine am_if_eq (tgt := 43) dX11_isLowest_10 (by decide) (fun h => ?_) (fun h => ?_)
    · replace hT := hT.1 h
      refine am_iconst (v := (nI 0)) dX11_isLowest_43 (by decide) ?_
      refine am_set (am_istore_n dX11_isLowest_44 (by decide)) (L1 := [.ref o, .int v1, .int (nI 0), .int v3]) rfl ?_
      refine am_set (am_iinc (x := v3) (c0 := (nI 1)) dX11_isLowest_45 (by decide) rfl (by decide)) (L1 := [.ref o, .int v1, .int (nI 0), .int (v3 + (nI 1))]) rfl ?_
      refine am_goto (tgt := 4) dX11_isLowest_48 (by decide) ?_
      exact hT
    · replace hT := hT.2 h
      refine am_aload_n (x := o) dX11_isLowest_13 rfl ?_
      refine am_getR dX11_isLowest_14 fw_X11_31 ho.1 rfl ?_
      refine am_iload_n (x := v1) dX11_isLowest_17 rfl ?_
      refine am_iald dX11_isLowest_18 ho.2.2.2.2.2.2.2.2.1 hT.1 ?_
      replace hT := hT.2
      refine am_iload_n (x := v3) dX11_isLowest_19 rfl ?_
      obtain ⟨x1, hm, hT⟩ := hT
      refine am_callS (av := [.int (D (o + 8) (Int32.toNatClampNeg v1)), .int v3]) (st := []) cw_X11_has cl_X11_49 ck_X11_has (Nat.le_of_ble_eq_true rfl) dX11_isLowest_20 hm (fun r D9 hr => ?_)
      obtain ⟨rfl, e9⟩ := hr
      rw [e9]
      clear e9
      refine am_if_eq (tgt := 39) dX11_isLowest_23 (by decide) (fun h => ?_) (fun h => ?_)
      · replace hT := hT.1 h
        refine am_iconst (v := (nI 1)) dX11_isLowest_39 (by decide) ?_
        refine am_goto (tgt := 44) dX11_isLowest_40 (by decide) ?_
        refine am_set (am_istore_n dX11_isLowest_44 (by decide)) (L1 := [.ref o, .int v1, .int (nI 1), .int v3]) rfl ?_
        refine am_set (am_iinc (x := v3) (c0 := (nI 1)) dX11_isLowest_45 (by decide) rfl (by decide)) (L1 := [.ref o, .int v1, .int (nI 1), .int (v3 + (nI 1))]) rfl ?_
        refine am_goto (tgt := 4) dX11_isLowest_48 (by decide) ?_
        exact hT
      · replace hT := hT.2 h
        refine am_aload_n (x := o) dX11_isLowest_26 rfl ?_
        refine am_getR dX11_isLowest_27 fw_X11_31 ho.1 rfl ?_
        refine am_iload_n (x := v3) dX11_isLowest_30 rfl ?_
        refine am_iald dX11_isLowest_31 ho.2.2.2.2.2.2.2.2.1 hT.1 ?_
        replace hT := hT.2
        refine am_iload_n (x := v1) dX11_isLowest_32 rfl ?_
        obtain ⟨x2, hm, hT⟩ := hT
        refine am_callS (av := [.int (D (o + 8) (Int32.toNatClampNeg v3)), .int v1]) (st := []) cw_X11_has cl_X11_49 ck_X11_has (Nat.le_of_ble_eq_true rfl) dX11_isLowest_33 hm (fun r D9 hr => ?_)
        obtain ⟨rfl, e9⟩ := hr
        rw [e9]
        clear e9
        refine am_if_ne (tgt := 43) dX11_isLowest_36 (by decide) (fun h => ?_) (fun h => ?_)
        · replace hT := hT.1 h
          refine am_iconst (v := (nI 0)) dX11_isLowest_43 (by decide) ?_
          refine am_set (am_istore_n dX11_isLowest_44 (by decide)) (L1 := [.ref o, .int v1, .int (nI 0), .int v3]) rfl ?_
          refine am_set (am_iinc (x := v3) (c0 := (nI 1)) dX11_isLowest_45 (by decide) rfl (by decide)) (L1 := [.ref o, .int v1, .int (nI 0), .int (v3 + (nI 1))]) rfl ?_
          refine am_goto (tgt := 4) dX11_isLowest_48 (by decide) ?_
          exact hT
        · replace hT := hT.2 h
          refine am_iconst (v := (nI 1)) dX11_isLowest_39 (by decide) ?_
          refine am_goto (tgt := 44) dX11_isLowest_40 (by decide) ?_
          refine am_set (am_istore_n dX11_isLowest_44 (by decide)) (L1 := [.ref o, .int v1, .int (nI 1), .int v3]) rfl ?_
          refine am_set (am_iinc (x := v3) (c0 := (nI 1)) dX11_isLowest_45 (by decide) rfl (by decide)) (L1 := [.ref o, .int v1, .int (nI 1), .int (v3 + (nI 1))]) rfl ?_
          refine am_goto (tgt := 4) dX11_isLowest_48 (by decide) ?_
          exact hT
set_option maxRecDepth 20000 in
theorem eX11_components {lay : List am_L} {d : Nat} {D : am_D} {Q : Option Value → am_D → Prop} {o : Nat} (ho : isX11 lay o) (hT : (∃ D1, am_MetV lay d mX11_reaches [.ref o] D D1 ∧
 am_AW lay (d + 1) mX11_components 8 [.ref o, .int (nI 0), .int (nI 0)] [] D1 Q)) : am_Met lay (d + 1) mX11_components [.ref o] D Q := by
  refine am_enter (by decide +kernel) rfl (Nat.le_of_ble_eq_true rfl) ?_
  show am_AW lay (d + 1) mX11_components 0 [.ref o, .null, .null] [] D Q
  refine am_aload_n (x := o) dX11_components_0 rfl ?_
  obtain ⟨D1, hm, hT⟩ := hT
  refine am_callV (av := []) (st := []) (b := o) cw_X11_reaches cl_X11_120 ck_X11_reaches cs_X11_reaches ho.1 rfl rfl (Nat.le_of_ble_eq_true rfl) dX11_components_1 hm (fun r D9 hr => ?_)
  obtain ⟨rfl, e9⟩ := hr
  rw [e9]
  clear e9
  refine am_iconst (v := (nI 0)) dX11_components_4 (by decide) ?_
  refine am_set (am_istore_n dX11_components_5 (by decide)) (L1 := [.ref o, .int (nI 0), .null]) rfl ?_
  refine am_iconst (v := (nI 0)) dX11_components_6 (by decide) ?_
  refine am_set (am_istore_n dX11_components_7 (by decide)) (L1 := [.ref o, .int (nI 0), .int (nI 0)]) rfl ?_
  exact hT
set_option maxRecDepth 20000 in
theorem rX11_components_8 {lay : List am_L} {d : Nat} {D : am_D} {Q : Option Value → am_D → Prop} {o : Nat} {v1 : Int32} {v2 : Int32} (ho : isX11 lay o) (hT : (∃ x1, am_MetP lay d mX11_n [.ref o] D x1 ∧
 ((x1 ≤ v2 → Q (some (.int v1)) D) ∧
 (¬ (x1 ≤ v2) → (∃ x2, am_MetP lay d mX11_isLowest [.ref o, .int v2] D x2 ∧
 ((x2 = nI 0 → am_AW lay (d + 1) mX11_components 8 [.ref o, .int (v1 + (nI 0)), .int (v2 + (nI 1))] [] D Q) ∧
 (¬ (x2 = nI 0) → am_AW lay (d + 1) mX11_components 8 [.ref o, .int (v1 + (nI 1)), .int (v2 + (nI 1))] [] D Q))))))) : am_AW lay (d + 1) mX11_components 8 [.ref o, .int v1, .int v2] [] D Q := by
  refine am_iload_n (x := v2) dX11_components_8 rfl ?_
  refine am_aload_n (x := o) dX11_components_9 rfl ?_
  obtain ⟨x1, hm, hT⟩ := hT
  refine am_callV (av := []) (st := [.int v2]) (b := o) cw_X11_n cl_X11_92 ck_X11_n cs_X11_n ho.1 rfl rfl (Nat.le_of_ble_eq_true rfl) dX11_components_10 hm (fun r D9 hr => ?_)
  obtain ⟨rfl, e9⟩ := hr
  rw [e9]
  clear e9
  refine am_icmp_ge (tgt := 38) dX11_components_13 (by decide) (fun h => ?_) (fun h => ?_)
  · replace hT := hT.1 h
    refine am_iload_n (x := v1) dX11_components_38 rfl ?_
    exact am_ireturn (ty := .int) dX11_components_39 rfl rfl hT
  · replace hT := hT.2 h
    refine am_iload_n (x := v1) dX11_components_16 rfl ?_
    refine am_aload_n (x := o) dX11_components_17 rfl ?_
    refine am_iload_n (x := v2) dX11_components_18 rfl ?_
    obtain ⟨x2, hm, hT⟩ := hT
    refine am_callV (av := [.int v2]) (st := [.int v1]) (b := o) cw_X11_isLowest cl_X11_123 ck_X11_isLowest cs_X11_isLowest ho.1 rfl rfl (Nat.le_of_ble_eq_true rfl) dX11_components_19 hm (fun r D9 hr => ?_)
    obtain ⟨rfl, e9⟩ := hr
    rw [e9]
    clear e9
    refine am_if_eq (tgt := 29) dX11_components_22 (by decide) (fun h => ?_) (fun h => ?_)
    · replace hT := hT.1 h
      refine am_iconst (v := (nI 0)) dX11_components_29 (by decide) ?_
      refine am_iadd dX11_components_30 ?_
      refine am_set (am_istore_n dX11_components_31 (by decide)) (L1 := [.ref o, .int (v1 + (nI 0)), .int v2]) rfl ?_
      refine am_set (am_iinc (x := v2) (c0 := (nI 1)) dX11_components_32 (by decide) rfl (by decide)) (L1 := [.ref o, .int (v1 + (nI 0)), .int (v2 + (nI 1))]) rfl ?_
      refine am_goto (tgt := 8) dX11_components_35 (by decide) ?_
      exact hT
    · replace hT := hT.2 h
      refine am_iconst (v := (nI 1)) dX11_components_25 (by decide) ?_
      refine am_goto (tgt := 30) dX11_components_26 (by decide) ?_
      refine am_iadd dX11_components_30 ?_
      refine am_set (am_istore_n dX11_components_31 (by decide)) (L1 := [.ref o, .int (v1 + (nI 1)), .int v2]) rfl ?_
      refine am_set (am_iinc (x := v2) (c0 := (nI 1)) dX11_components_32 (by decide) rfl (by decide)) (L1 := [.ref o, .int (v1 + (nI 1)), .int (v2 + (nI 1))]) rfl ?_
      refine am_goto (tgt := 8) dX11_components_35 (by decide) ?_
      exact hT
set_option maxRecDepth 20000 in
theorem eX11_componentAt {lay : List am_L} {d : Nat} {D : am_D} {Q : Option Value → am_D → Prop} {o : Nat} {v1 : Int32} (ho : isX11 lay o) (hT : am_AW lay (d + 1) mX11_componentAt 4 [.ref o, .int v1, .int (nI 0), .int (nI 0)] [] D Q) : am_Met lay (d + 1) mX11_componentAt [.ref o, .int v1] D Q := by
  refine am_enter (by decide +kernel) rfl (Nat.le_of_ble_eq_true rfl) ?_
  show am_AW lay (d + 1) mX11_componentAt 0 [.ref o, .int v1, .null, .null] [] D Q
  refine am_iconst (v := (nI 0)) dX11_componentAt_0 (by decide) ?_
  refine am_set (am_istore_n dX11_componentAt_1 (by decide)) (L1 := [.ref o, .int v1, .int (nI 0), .null]) rfl ?_
  refine am_iconst (v := (nI 0)) dX11_componentAt_2 (by decide) ?_
  refine am_set (am_istore_n dX11_componentAt_3 (by decide)) (L1 := [.ref o, .int v1, .int (nI 0), .int (nI 0)]) rfl ?_
  exact hT
set_option maxRecDepth 20000 in
theorem rX11_componentAt_4 {lay : List am_L} {d : Nat} {D : am_D} {Q : Option Value → am_D → Prop} {o : Nat} {v1 : Int32} {v2 : Int32} {v3 : Int32} (ho : isX11 lay o) (hT : (∃ x1, am_MetP lay d mX11_n [.ref o] D x1 ∧
 ((x1 ≤ v3 → Q (some (.int v2)) D) ∧
 (¬ (x1 ≤ v3) → (∃ x2, am_MetP lay d mX11_isLowest [.ref o, .int v3] D x2 ∧
 ((x2 = nI 0 → am_AW lay (d + 1) mX11_componentAt 4 [.ref o, .int v1, .int (v2 + (nI 0)), .int (v3 + (nI 1))] [] D Q) ∧
 (¬ (x2 = nI 0) → (vp_in v3 10 ∧ (∃ x3, am_MetP lay d mX11_has [.int (D (o + 8) (Int32.toNatClampNeg v3)), .int v1] D x3 ∧
 ((x3 = nI 0 → am_AW lay (d + 1) mX11_componentAt 4 [.ref o, .int v1, .int (v2 + (nI 0)), .int (v3 + (nI 1))] [] D Q) ∧
 (¬ (x3 = nI 0) → (vp_in v1 10 ∧ (∃ x4, am_MetP lay d mX11_has [.int (D (o + 8) (Int32.toNatClampNeg v1)), .int v3] D x4 ∧
 ((¬ x4 = nI 0 → am_AW lay (d + 1) mX11_componentAt 4 [.ref o, .int v1, .int (v2 + (nI 0)), .int (v3 + (nI 1))] [] D Q) ∧
 (¬ (¬ x4 = nI 0) → am_AW lay (d + 1) mX11_componentAt 4 [.ref o, .int v1, .int (v2 + (nI 1)), .int (v3 + (nI 1))] [] D Q))))))))))))))) : am_AW lay (d + 1) mX11_componentAt 4 [.ref o, .int v1, .int v2, .int v3] [] D Q := by
  refine am_iload_n (x := v3) dX11_componentAt_4 rfl ?_
  refine am_aload_n (x := o) dX11_componentAt_5 rfl ?_
  obtain ⟨x1, hm, hT⟩ := hT
  refine am_callV (av := []) (st := [.int v3]) (b := o) cw_X11_n cl_X11_92 ck_X11_n cs_X11_n ho.1 rfl rfl (Nat.le_of_ble_eq_true rfl) dX11_componentAt_6 hm (fun r D9 hr => ?_)
  obtain ⟨rfl, e9⟩ := hr
  rw [e9]
  clear e9
  refine am_icmp_ge (tgt := 60) dX11_componentAt_9 (by decide) (fun h => ?_) (fun h => ?_)
  · replace hT := hT.1 h
    refine am_iload_n (x := v2) dX11_componentAt_60 rfl ?_
    exact am_ireturn (ty := .int) dX11_componentAt_61 rfl rfl hT
  · replace hT := hT.2 h
    refine am_iload_n (x := v2) dX11_componentAt_12 rfl ?_
    refine am_aload_n (x := o) dX11_componentAt_13 rfl ?_
    refine am_iload_n (x := v3) dX11_componentAt_14 rfl ?_
    obtain ⟨x2, hm, hT⟩ := hT
    refine am_callV (av := [.int v3]) (st := [.int v2]) (b := o) cw_X11_isLowest cl_X11_123 ck_X11_isLowest cs_X11_isLowest ho.1 rfl rfl (Nat.le_of_ble_eq_true rfl) dX11_componentAt_15 hm (fun r D9 hr => ?_)
    obtain ⟨rfl, e9⟩ := hr
    rw [e9]
    clear e9
    refine am_if_eq (tgt := 51) dX11_componentAt_18 (by decide) (fun h => ?_) (fun h => ?_)
    · replace hT := hT.1 h
      refine am_iconst (v := (nI 0)) dX11_componentAt_51 (by decide) ?_
      refine am_iadd dX11_componentAt_52 ?_
      refine am_set (am_istore_n dX11_componentAt_53 (by decide)) (L1 := [.ref o, .int v1, .int (v2 + (nI 0)), .int v3]) rfl ?_
      refine am_set (am_iinc (x := v3) (c0 := (nI 1)) dX11_componentAt_54 (by decide) rfl (by decide)) (L1 := [.ref o, .int v1, .int (v2 + (nI 0)), .int (v3 + (nI 1))]) rfl ?_
      refine am_goto (tgt := 4) dX11_componentAt_57 (by decide) ?_
      exact hT
    · replace hT := hT.2 h
      refine am_aload_n (x := o) dX11_componentAt_21 rfl ?_
      refine am_getR dX11_componentAt_22 fw_X11_31 ho.1 rfl ?_
      refine am_iload_n (x := v3) dX11_componentAt_25 rfl ?_
      refine am_iald dX11_componentAt_26 ho.2.2.2.2.2.2.2.2.1 hT.1 ?_
      replace hT := hT.2
      refine am_iload_n (x := v1) dX11_componentAt_27 rfl ?_
      obtain ⟨x3, hm, hT⟩ := hT
      refine am_callS (av := [.int (D (o + 8) (Int32.toNatClampNeg v3)), .int v1]) (st := [.int v2]) cw_X11_has cl_X11_49 ck_X11_has (Nat.le_of_ble_eq_true rfl) dX11_componentAt_28 hm (fun r D9 hr => ?_)
      obtain ⟨rfl, e9⟩ := hr
      rw [e9]
      clear e9
      refine am_if_eq (tgt := 51) dX11_componentAt_31 (by decide) (fun h => ?_) (fun h => ?_)
      · replace hT := hT.1 h
        refine am_iconst (v := (nI 0)) dX11_componentAt_51 (by decide) ?_
        refine am_iadd dX11_componentAt_52 ?_
        refine am_set (am_istore_n dX11_componentAt_53 (by decide)) (L1 := [.ref o, .int v1, .int (v2 + (nI 0)), .int v3]) rfl ?_
        refine am_set (am_iinc (x := v3) (c0 := (nI 1)) dX11_componentAt_54 (by decide) rfl (by decide)) (L1 := [.ref o, .int v1, .int (v2 + (nI 0)), .int (v3 + (nI 1))]) rfl ?_
        refine am_goto (tgt := 4) dX11_componentAt_57 (by decide) ?_
        exact hT
      · replace hT := hT.2 h
        refine am_aload_n (x := o) dX11_componentAt_34 rfl ?_
        refine am_getR dX11_componentAt_35 fw_X11_31 ho.1 rfl ?_
        refine am_iload_n (x := v1) dX11_componentAt_38 rfl ?_
        refine am_iald dX11_componentAt_39 ho.2.2.2.2.2.2.2.2.1 hT.1 ?_
        replace hT := hT.2
        refine am_iload_n (x := v3) dX11_componentAt_40 rfl ?_
        obtain ⟨x4, hm, hT⟩ := hT
        refine am_callS (av := [.int (D (o + 8) (Int32.toNatClampNeg v1)), .int v3]) (st := [.int v2]) cw_X11_has cl_X11_49 ck_X11_has (Nat.le_of_ble_eq_true rfl) dX11_componentAt_41 hm (fun r D9 hr => ?_)
        obtain ⟨rfl, e9⟩ := hr
        rw [e9]
        clear e9
        refine am_if_ne (tgt := 51) dX11_componentAt_44 (by decide) (fun h => ?_) (fun h => ?_)
        · replace hT := hT.1 h
          refine am_iconst (v := (nI 0)) dX11_componentAt_51 (by decide) ?_
          refine am_iadd dX11_componentAt_52 ?_
          refine am_set (am_istore_n dX11_componentAt_53 (by decide)) (L1 := [.ref o, .int v1, .int (v2 + (nI 0)), .int v3]) rfl ?_
          refine am_set (am_iinc (x := v3) (c0 := (nI 1)) dX11_componentAt_54 (by decide) rfl (by decide)) (L1 := [.ref o, .int v1, .int (v2 + (nI 0)), .int (v3 + (nI 1))]) rfl ?_
          refine am_goto (tgt := 4) dX11_componentAt_57 (by decide) ?_
          exact hT
        · replace hT := hT.2 h
          refine am_iconst (v := (nI 1)) dX11_componentAt_47 (by decide) ?_
          refine am_goto (tgt := 52) dX11_componentAt_48 (by decide) ?_
          refine am_iadd dX11_componentAt_52 ?_
          refine am_set (am_istore_n dX11_componentAt_53 (by decide)) (L1 := [.ref o, .int v1, .int (v2 + (nI 1)), .int v3]) rfl ?_
          refine am_set (am_iinc (x := v3) (c0 := (nI 1)) dX11_componentAt_54 (by decide) rfl (by decide)) (L1 := [.ref o, .int v1, .int (v2 + (nI 1)), .int (v3 + (nI 1))]) rfl ?_
          refine am_goto (tgt := 4) dX11_componentAt_57 (by decide) ?_
          exact hT
set_option maxRecDepth 20000 in
theorem eX11_componentOf {lay : List am_L} {d : Nat} {D : am_D} {Q : Option Value → am_D → Prop} {o : Nat} {v1 : Int32} (ho : isX11 lay o) (hT : (∃ x1, am_MetP lay d mX11_isPlayer [.ref o, .int v1] D x1 ∧
 ((¬ x1 = nI 0 → (∃ D2, am_MetV lay d mX11_reaches [.ref o] D D2 ∧
 (∃ x3, am_MetP lay d mX11_componentAt [.ref o, .int v1] D2 x3 ∧
 Q (some (.int x3)) D2))) ∧
 (¬ (¬ x1 = nI 0) → Q (some (.int (-1))) D)))) : am_Met lay (d + 1) mX11_componentOf [.ref o, .int v1] D Q := by
  refine am_enter (by decide +kernel) rfl (Nat.le_of_ble_eq_true rfl) ?_
  show am_AW lay (d + 1) mX11_componentOf 0 [.ref o, .int v1] [] D Q
  refine am_aload_n (x := o) dX11_componentOf_0 rfl ?_
  refine am_iload_n (x := v1) dX11_componentOf_1 rfl ?_
  obtain ⟨x1, hm, hT⟩ := hT
  refine am_callV (av := [.int v1]) (st := []) (b := o) cw_X11_isPlayer cl_X11_57 ck_X11_isPlayer cs_X11_isPlayer ho.1 rfl rfl (Nat.le_of_ble_eq_true rfl) dX11_componentOf_2 hm (fun r D9 hr => ?_)
  obtain ⟨rfl, e9⟩ := hr
  rw [e9]
  clear e9
  refine am_if_ne (tgt := 10) dX11_componentOf_5 (by decide) (fun h => ?_) (fun h => ?_)
  · replace hT := hT.1 h
    refine am_aload_n (x := o) dX11_componentOf_10 rfl ?_
    obtain ⟨D2, hm, hT⟩ := hT
    refine am_callV (av := []) (st := []) (b := o) cw_X11_reaches cl_X11_120 ck_X11_reaches cs_X11_reaches ho.1 rfl rfl (Nat.le_of_ble_eq_true rfl) dX11_componentOf_11 hm (fun r D9 hr => ?_)
    obtain ⟨rfl, e9⟩ := hr
    rw [e9]
    clear e9
    refine am_aload_n (x := o) dX11_componentOf_14 rfl ?_
    refine am_iload_n (x := v1) dX11_componentOf_15 rfl ?_
    obtain ⟨x3, hm, hT⟩ := hT
    refine am_callV (av := [.int v1]) (st := []) (b := o) cw_X11_componentAt cl_X11_126 ck_X11_componentAt cs_X11_componentAt ho.1 rfl rfl (Nat.le_of_ble_eq_true rfl) dX11_componentOf_16 hm (fun r D9 hr => ?_)
    obtain ⟨rfl, e9⟩ := hr
    rw [e9]
    clear e9
    exact am_ireturn (ty := .int) dX11_componentOf_19 rfl rfl hT
  · replace hT := hT.2 h
    refine am_iconst (v := (-1)) dX11_componentOf_8 (by decide) ?_
    exact am_ireturn (ty := .int) dX11_componentOf_9 rfl rfl hT
set_option maxRecDepth 20000 in
theorem eX11_countsPaths {lay : List am_L} {d : Nat} {D : am_D} {Q : Option Value → am_D → Prop} {o : Nat} (ho : isX11 lay o) (hT : am_AW lay (d + 1) mX11_countsPaths 2 [.ref o, .int (nI 1), .null, .null, .null, .null] [] D Q) : am_Met lay (d + 1) mX11_countsPaths [.ref o] D Q := by
  refine am_enter (by decide +kernel) rfl (Nat.le_of_ble_eq_true rfl) ?_
  show am_AW lay (d + 1) mX11_countsPaths 0 [.ref o, .null, .null, .null, .null, .null] [] D Q
  refine am_iconst (v := (nI 1)) dX11_countsPaths_0 (by decide) ?_
  refine am_set (am_istore_n dX11_countsPaths_1 (by decide)) (L1 := [.ref o, .int (nI 1), .null, .null, .null, .null]) rfl ?_
  exact hT
set_option maxRecDepth 20000 in
theorem rX11_countsPaths_2 {lay : List am_L} {d : Nat} {D : am_D} {Q : Option Value → am_D → Prop} {o : Nat} {v1 : Int32} (ho : isX11 lay o) (hT : (∃ x1, am_MetP lay d mX11_all [.ref o] D x1 ∧
 ((x1 < v1 → Q none D) ∧
 (¬ (x1 < v1) → am_AW lay (d + 1) mX11_countsPaths 12 [.ref o, .int v1, .int (nI 0), .null, .null, .null] [] D Q)))) : am_AW lay (d + 1) mX11_countsPaths 2 [.ref o, .int v1, .null, .null, .null, .null] [] D Q := by
  refine am_iload_n (x := v1) dX11_countsPaths_2 rfl ?_
  refine am_aload_n (x := o) dX11_countsPaths_3 rfl ?_
  obtain ⟨x1, hm, hT⟩ := hT
  refine am_callV (av := []) (st := [.int v1]) (b := o) cw_X11_all cl_X11_111 ck_X11_all cs_X11_all ho.1 rfl rfl (Nat.le_of_ble_eq_true rfl) dX11_countsPaths_4 hm (fun r D9 hr => ?_)
  obtain ⟨rfl, e9⟩ := hr
  rw [e9]
  clear e9
  refine am_icmp_gt (tgt := 134) dX11_countsPaths_7 (by decide) (fun h => ?_) (fun h => ?_)
  · replace hT := hT.1 h
    exact am_return dX11_countsPaths_134 rfl hT
  · replace hT := hT.2 h
    refine am_iconst (v := (nI 0)) dX11_countsPaths_10 (by decide) ?_
    refine am_set (am_istore_n dX11_countsPaths_11 (by decide)) (L1 := [.ref o, .int v1, .int (nI 0), .null, .null, .null]) rfl ?_
    exact hT
set_option maxRecDepth 20000 in
theorem rX11_countsPaths_12 {lay : List am_L} {d : Nat} {D : am_D} {Q : Option Value → am_D → Prop} {o : Nat} {v1 : Int32} {v2 : Int32} (ho : isX11 lay o) (hT : (∃ x1, am_MetP lay d mX11_n [.ref o] D x1 ∧
 ((x1 ≤ v2 → am_AW lay (d + 1) mX11_countsPaths 2 [.ref o, .int (v1 + (nI 1)), .null, .null, .null, .null] [] D Q) ∧
 (¬ (x1 ≤ v2) → (∃ x2, am_MetP lay d mX11_has [.int v1, .int v2] D x2 ∧
 ((x2 = nI 0 → am_AW lay (d + 1) mX11_countsPaths 50 [.ref o, .int v1, .int v2, .int (v1 &&& (((nI 1) <<< (v2 &&& 31)) ^^^ (-1))), .int (nI 0), .int (nI 0)] [] D Q) ∧
 (¬ (x2 = nI 0) → ((¬ (v1 &&& (((nI 1) <<< (v2 &&& 31)) ^^^ (-1))) = nI 0 → am_AW lay (d + 1) mX11_countsPaths 50 [.ref o, .int v1, .int v2, .int (v1 &&& (((nI 1) <<< (v2 &&& 31)) ^^^ (-1))), .int (nI 0), .int (nI 0)] [] D Q) ∧
 (¬ (¬ (v1 &&& (((nI 1) <<< (v2 &&& 31)) ^^^ (-1))) = nI 0) → am_AW lay (d + 1) mX11_countsPaths 50 [.ref o, .int v1, .int v2, .int (v1 &&& (((nI 1) <<< (v2 &&& 31)) ^^^ (-1))), .int (nI 1), .int (nI 0)] [] D Q))))))))) : am_AW lay (d + 1) mX11_countsPaths 12 [.ref o, .int v1, .int v2, .null, .null, .null] [] D Q := by
  refine am_iload_n (x := v2) dX11_countsPaths_12 rfl ?_
  refine am_aload_n (x := o) dX11_countsPaths_13 rfl ?_
  obtain ⟨x1, hm, hT⟩ := hT
  refine am_callV (av := []) (st := [.int v2]) (b := o) cw_X11_n cl_X11_92 ck_X11_n cs_X11_n ho.1 rfl rfl (Nat.le_of_ble_eq_true rfl) dX11_countsPaths_14 hm (fun r D9 hr => ?_)
  obtain ⟨rfl, e9⟩ := hr
  rw [e9]
  clear e9
  refine am_icmp_ge (tgt := 128) dX11_countsPaths_17 (by decide) (fun h => ?_) (fun h => ?_)
  · replace hT := hT.1 h
    refine am_set (am_iinc (x := v1) (c0 := (nI 1)) dX11_countsPaths_128 (by decide) rfl (by decide)) (L1 := [.ref o, .int (v1 + (nI 1)), .int v2, .null, .null, .null]) rfl ?_
    refine am_goto (tgt := 2) dX11_countsPaths_131 (by decide) ?_
    refine am_drop [2] (L1 := [.ref o, .int (v1 + (nI 1)), .null, .null, .null, .null]) rfl ?_
    exact hT
  · replace hT := hT.2 h
    refine am_iload_n (x := v1) dX11_countsPaths_20 rfl ?_
    refine am_iconst (v := (nI 1)) dX11_countsPaths_21 (by decide) ?_
    refine am_iload_n (x := v2) dX11_countsPaths_22 rfl ?_
    refine am_ishl dX11_countsPaths_23 ?_
    refine am_iconst (v := (-1)) dX11_countsPaths_24 (by decide) ?_
    refine am_ixor dX11_countsPaths_25 ?_
    refine am_iand dX11_countsPaths_26 ?_
    refine am_set (am_istore_n dX11_countsPaths_27 (by decide)) (L1 := [.ref o, .int v1, .int v2, .int (v1 &&& (((nI 1) <<< (v2 &&& 31)) ^^^ (-1))), .null, .null]) rfl ?_
    refine am_iload_n (x := v1) dX11_countsPaths_28 rfl ?_
    refine am_iload_n (x := v2) dX11_countsPaths_29 rfl ?_
    obtain ⟨x2, hm, hT⟩ := hT
    refine am_callS (av := [.int v1, .int v2]) (st := []) cw_X11_has cl_X11_49 ck_X11_has (Nat.le_of_ble_eq_true rfl) dX11_countsPaths_30 hm (fun r D9 hr => ?_)
    obtain ⟨rfl, e9⟩ := hr
    rw [e9]
    clear e9
    refine am_if_eq (tgt := 44) dX11_countsPaths_33 (by decide) (fun h => ?_) (fun h => ?_)
    · replace hT := hT.1 h
      refine am_iconst (v := (nI 0)) dX11_countsPaths_44 (by decide) ?_
      refine am_set (am_istore dX11_countsPaths_45 (by decide)) (L1 := [.ref o, .int v1, .int v2, .int (v1 &&& (((nI 1) <<< (v2 &&& 31)) ^^^ (-1))), .int (nI 0), .null]) rfl ?_
      refine am_iconst (v := (nI 0)) dX11_countsPaths_47 (by decide) ?_
      refine am_set (am_istore dX11_countsPaths_48 (by decide)) (L1 := [.ref o, .int v1, .int v2, .int (v1 &&& (((nI 1) <<< (v2 &&& 31)) ^^^ (-1))), .int (nI 0), .int (nI 0)]) rfl ?_
      exact hT
    · replace hT := hT.2 h
      refine am_iload_n (x := (v1 &&& (((nI 1) <<< (v2 &&& 31)) ^^^ (-1)))) dX11_countsPaths_36 rfl ?_
      refine am_if_ne (tgt := 44) dX11_countsPaths_37 (by decide) (fun h => ?_) (fun h => ?_)
      · replace hT := hT.1 h
        refine am_iconst (v := (nI 0)) dX11_countsPaths_44 (by decide) ?_
        refine am_set (am_istore dX11_countsPaths_45 (by decide)) (L1 := [.ref o, .int v1, .int v2, .int (v1 &&& (((nI 1) <<< (v2 &&& 31)) ^^^ (-1))), .int (nI 0), .null]) rfl ?_
        refine am_iconst (v := (nI 0)) dX11_countsPaths_47 (by decide) ?_
        refine am_set (am_istore dX11_countsPaths_48 (by decide)) (L1 := [.ref o, .int v1, .int v2, .int (v1 &&& (((nI 1) <<< (v2 &&& 31)) ^^^ (-1))), .int (nI 0), .int (nI 0)]) rfl ?_
        exact hT
      · replace hT := hT.2 h
        refine am_iconst (v := (nI 1)) dX11_countsPaths_40 (by decide) ?_
        refine am_goto (tgt := 45) dX11_countsPaths_41 (by decide) ?_
        refine am_set (am_istore dX11_countsPaths_45 (by decide)) (L1 := [.ref o, .int v1, .int v2, .int (v1 &&& (((nI 1) <<< (v2 &&& 31)) ^^^ (-1))), .int (nI 1), .null]) rfl ?_
        refine am_iconst (v := (nI 0)) dX11_countsPaths_47 (by decide) ?_
        refine am_set (am_istore dX11_countsPaths_48 (by decide)) (L1 := [.ref o, .int v1, .int v2, .int (v1 &&& (((nI 1) <<< (v2 &&& 31)) ^^^ (-1))), .int (nI 1), .int (nI 0)]) rfl ?_
        exact hT
set_option maxRecDepth 20000 in
theorem rX11_countsPaths_50 {lay : List am_L} {d : Nat} {D : am_D} {Q : Option Value → am_D → Prop} {o : Nat} {v1 : Int32} {v2 : Int32} {v3 : Int32} {v4 : Int32} {v5 : Int32} (ho : isX11 lay o) (hT : (∃ x1, am_MetP lay d mX11_n [.ref o] D x1 ∧
 ((x1 ≤ v5 → (vp_in (((nI 10) * v1) + v2) 10240 ∧ ∀ D2, D2 = am_up D (o + 6) (Int32.toNatClampNeg (((nI 10) * v1) + v2)) v4 →
 am_AW lay (d + 1) mX11_countsPaths 12 [.ref o, .int v1, .int (v2 + (nI 1)), .null, .null, .null] [] D2 Q)) ∧
 (¬ (x1 ≤ v5) → (∃ x3, am_MetP lay d mX11_has [.int v1, .int v2] D x3 ∧
 ((x3 = nI 0 → (vp_in (((nI 10) * v1) + v2) 10240 ∧ ∀ D4, D4 = am_up D (o + 6) (Int32.toNatClampNeg (((nI 10) * v1) + v2)) v4 →
 am_AW lay (d + 1) mX11_countsPaths 12 [.ref o, .int v1, .int (v2 + (nI 1)), .null, .null, .null] [] D4 Q)) ∧
 (¬ (x3 = nI 0) → (∃ x5, am_MetP lay d mX11_beaten [.ref o, .int v2] D x5 ∧
 (∃ x6, am_MetP lay d mX11_has [.int (v3 &&& x5), .int v5] D x6 ∧
 ((x6 = nI 0 → am_AW lay (d + 1) mX11_countsPaths 50 [.ref o, .int v1, .int v2, .int v3, .int (v4 + (nI 0)), .int (v5 + (nI 1))] [] D Q) ∧
 (¬ (x6 = nI 0) → (vp_in (((nI 10) * v3) + v5) 10240 ∧ am_AW lay (d + 1) mX11_countsPaths 50 [.ref o, .int v1, .int v2, .int v3, .int (v4 + (D (o + 6) (Int32.toNatClampNeg (((nI 10) * v3) + v5)))), .int (v5 + (nI 1))] [] D Q)))))))))))) : am_AW lay (d + 1) mX11_countsPaths 50 [.ref o, .int v1, .int v2, .int v3, .int v4, .int v5] [] D Q := by
  refine am_iload (x := v5) dX11_countsPaths_50 rfl ?_
  refine am_aload_n (x := o) dX11_countsPaths_52 rfl ?_
  obtain ⟨x1, hm, hT⟩ := hT
  refine am_callV (av := []) (st := [.int v5]) (b := o) cw_X11_n cl_X11_92 ck_X11_n cs_X11_n ho.1 rfl rfl (Nat.le_of_ble_eq_true rfl) dX11_countsPaths_53 hm (fun r D9 hr => ?_)
  obtain ⟨rfl, e9⟩ := hr
  rw [e9]
  clear e9
  refine am_icmp_ge (tgt := 109) dX11_countsPaths_56 (by decide) (fun h => ?_) (fun h => ?_)
  · replace hT := hT.1 h
    refine am_aload_n (x := o) dX11_countsPaths_109 rfl ?_
    refine am_getR dX11_countsPaths_110 fw_X11_25 ho.1 rfl ?_
    refine am_bipush (v := (nI 10)) dX11_countsPaths_113 (by decide) ?_
    refine am_iload_n (x := v1) dX11_countsPaths_115 rfl ?_
    refine am_imul dX11_countsPaths_116 ?_
    refine am_iload_n (x := v2) dX11_countsPaths_117 rfl ?_
    refine am_iadd dX11_countsPaths_118 ?_
    refine am_iload (x := v4) dX11_countsPaths_119 rfl ?_
    refine am_iast dX11_countsPaths_121 ho.2.2.2.2.2.2.1 hT.1 ?_
    obtain ⟨D2, hD⟩ : ∃ z, z = am_up D (o + 6) (Int32.toNatClampNeg (((nI 10) * v1) + v2)) v4 := ⟨_, rfl⟩
    rw [← hD]
    replace hT := hT.2 D2 hD
    clear hD
    refine am_set (am_iinc (x := v2) (c0 := (nI 1)) dX11_countsPaths_122 (by decide) rfl (by decide)) (L1 := [.ref o, .int v1, .int (v2 + (nI 1)), .int v3, .int v4, .int v5]) rfl ?_
    refine am_goto (tgt := 12) dX11_countsPaths_125 (by decide) ?_
    refine am_drop [3, 4, 5] (L1 := [.ref o, .int v1, .int (v2 + (nI 1)), .null, .null, .null]) rfl ?_
    exact hT
  · replace hT := hT.2 h
    refine am_iload_n (x := v1) dX11_countsPaths_59 rfl ?_
    refine am_iload_n (x := v2) dX11_countsPaths_60 rfl ?_
    obtain ⟨x3, hm, hT⟩ := hT
    refine am_callS (av := [.int v1, .int v2]) (st := []) cw_X11_has cl_X11_49 ck_X11_has (Nat.le_of_ble_eq_true rfl) dX11_countsPaths_61 hm (fun r D9 hr => ?_)
    obtain ⟨rfl, e9⟩ := hr
    rw [e9]
    clear e9
    refine am_if_eq (tgt := 109) dX11_countsPaths_64 (by decide) (fun h => ?_) (fun h => ?_)
    · replace hT := hT.1 h
      refine am_aload_n (x := o) dX11_countsPaths_109 rfl ?_
      refine am_getR dX11_countsPaths_110 fw_X11_25 ho.1 rfl ?_
      refine am_bipush (v := (nI 10)) dX11_countsPaths_113 (by decide) ?_
      refine am_iload_n (x := v1) dX11_countsPaths_115 rfl ?_
      refine am_imul dX11_countsPaths_116 ?_
      refine am_iload_n (x := v2) dX11_countsPaths_117 rfl ?_
      refine am_iadd dX11_countsPaths_118 ?_
      refine am_iload (x := v4) dX11_countsPaths_119 rfl ?_
      refine am_iast dX11_countsPaths_121 ho.2.2.2.2.2.2.1 hT.1 ?_
      obtain ⟨D4, hD⟩ : ∃ z, z = am_up D (o + 6) (Int32.toNatClampNeg (((nI 10) * v1) + v2)) v4 := ⟨_, rfl⟩
      rw [← hD]
      replace hT := hT.2 D4 hD
      clear hD
      refine am_set (am_iinc (x := v2) (c0 := (nI 1)) dX11_countsPaths_122 (by decide) rfl (by decide)) (L1 := [.ref o, .int v1, .int (v2 + (nI 1)), .int v3, .int v4, .int v5]) rfl ?_
      refine am_goto (tgt := 12) dX11_countsPaths_125 (by decide) ?_
      refine am_drop [3, 4, 5] (L1 := [.ref o, .int v1, .int (v2 + (nI 1)), .null, .null, .null]) rfl ?_
      exact hT
    · replace hT := hT.2 h
      refine am_iload (x := v4) dX11_countsPaths_67 rfl ?_
      refine am_iload_n (x := v3) dX11_countsPaths_69 rfl ?_
      refine am_aload_n (x := o) dX11_countsPaths_70 rfl ?_
      refine am_iload_n (x := v2) dX11_countsPaths_71 rfl ?_
      obtain ⟨x5, hm, hT⟩ := hT
      refine am_callV (av := [.int v2]) (st := [.int v3, .int v4]) (b := o) cw_X11_beaten cl_X11_45 ck_X11_beaten cs_X11_beaten ho.1 rfl rfl (Nat.le_of_ble_eq_true rfl) dX11_countsPaths_72 hm (fun r D9 hr => ?_)
      obtain ⟨rfl, e9⟩ := hr
      rw [e9]
      clear e9
      refine am_iand dX11_countsPaths_75 ?_
      refine am_iload (x := v5) dX11_countsPaths_76 rfl ?_
      obtain ⟨x6, hm, hT⟩ := hT
      refine am_callS (av := [.int (v3 &&& x5), .int v5]) (st := [.int v4]) cw_X11_has cl_X11_49 ck_X11_has (Nat.le_of_ble_eq_true rfl) dX11_countsPaths_78 hm (fun r D9 hr => ?_)
      obtain ⟨rfl, e9⟩ := hr
      rw [e9]
      clear e9
      refine am_if_eq (tgt := 99) dX11_countsPaths_81 (by decide) (fun h => ?_) (fun h => ?_)
      · replace hT := hT.1 h
        refine am_iconst (v := (nI 0)) dX11_countsPaths_99 (by decide) ?_
        refine am_iadd dX11_countsPaths_100 ?_
        refine am_set (am_istore dX11_countsPaths_101 (by decide)) (L1 := [.ref o, .int v1, .int v2, .int v3, .int (v4 + (nI 0)), .int v5]) rfl ?_
        refine am_set (am_iinc (x := v5) (c0 := (nI 1)) dX11_countsPaths_103 (by decide) rfl (by decide)) (L1 := [.ref o, .int v1, .int v2, .int v3, .int (v4 + (nI 0)), .int (v5 + (nI 1))]) rfl ?_
        refine am_goto (tgt := 50) dX11_countsPaths_106 (by decide) ?_
        exact hT
      · replace hT := hT.2 h
        refine am_aload_n (x := o) dX11_countsPaths_84 rfl ?_
        refine am_getR dX11_countsPaths_85 fw_X11_25 ho.1 rfl ?_
        refine am_bipush (v := (nI 10)) dX11_countsPaths_88 (by decide) ?_
        refine am_iload_n (x := v3) dX11_countsPaths_90 rfl ?_
        refine am_imul dX11_countsPaths_91 ?_
        refine am_iload (x := v5) dX11_countsPaths_92 rfl ?_
        refine am_iadd dX11_countsPaths_94 ?_
        refine am_iald dX11_countsPaths_95 ho.2.2.2.2.2.2.1 hT.1 ?_
        replace hT := hT.2
        refine am_goto (tgt := 100) dX11_countsPaths_96 (by decide) ?_
        refine am_iadd dX11_countsPaths_100 ?_
        refine am_set (am_istore dX11_countsPaths_101 (by decide)) (L1 := [.ref o, .int v1, .int v2, .int v3, .int (v4 + (D (o + 6) (Int32.toNatClampNeg (((nI 10) * v3) + v5)))), .int v5]) rfl ?_
        refine am_set (am_iinc (x := v5) (c0 := (nI 1)) dX11_countsPaths_103 (by decide) rfl (by decide)) (L1 := [.ref o, .int v1, .int v2, .int v3, .int (v4 + (D (o + 6) (Int32.toNatClampNeg (((nI 10) * v3) + v5)))), .int (v5 + (nI 1))]) rfl ?_
        refine am_goto (tgt := 50) dX11_countsPaths_106 (by decide) ?_
        exact hT
set_option maxRecDepth 20000 in
theorem eX11_spanningPaths {lay : List am_L} {d : Nat} {D : am_D} {Q : Option Value → am_D → Prop} {o : Nat} (ho : isX11 lay o) (hT : (∃ D1, am_MetV lay d mX11_countsPaths [.ref o] D D1 ∧
 am_AW lay (d + 1) mX11_spanningPaths 8 [.ref o, .int (nI 0), .int (nI 0)] [] D1 Q)) : am_Met lay (d + 1) mX11_spanningPaths [.ref o] D Q := by
  refine am_enter (by decide +kernel) rfl (Nat.le_of_ble_eq_true rfl) ?_
  show am_AW lay (d + 1) mX11_spanningPaths 0 [.ref o, .null, .null] [] D Q
  refine am_aload_n (x := o) dX11_spanningPaths_0 rfl ?_
  obtain ⟨D1, hm, hT⟩ := hT
  refine am_callV (av := []) (st := []) (b := o) cw_X11_countsPaths cl_X11_129 ck_X11_countsPaths cs_X11_countsPaths ho.1 rfl rfl (Nat.le_of_ble_eq_true rfl) dX11_spanningPaths_1 hm (fun r D9 hr => ?_)
  obtain ⟨rfl, e9⟩ := hr
  rw [e9]
  clear e9
  refine am_iconst (v := (nI 0)) dX11_spanningPaths_4 (by decide) ?_
  refine am_set (am_istore_n dX11_spanningPaths_5 (by decide)) (L1 := [.ref o, .int (nI 0), .null]) rfl ?_
  refine am_iconst (v := (nI 0)) dX11_spanningPaths_6 (by decide) ?_
  refine am_set (am_istore_n dX11_spanningPaths_7 (by decide)) (L1 := [.ref o, .int (nI 0), .int (nI 0)]) rfl ?_
  exact hT
set_option maxRecDepth 20000 in
theorem rX11_spanningPaths_8 {lay : List am_L} {d : Nat} {D : am_D} {Q : Option Value → am_D → Prop} {o : Nat} {v1 : Int32} {v2 : Int32} (ho : isX11 lay o) (hT : (∃ x1, am_MetP lay d mX11_n [.ref o] D x1 ∧
 ((x1 ≤ v2 → Q (some (.int v1)) D) ∧
 (¬ (x1 ≤ v2) → (∃ x2, am_MetP lay d mX11_all [.ref o] D x2 ∧
 (vp_in (((nI 10) * x2) + v2) 10240 ∧ am_AW lay (d + 1) mX11_spanningPaths 8 [.ref o, .int (v1 + (D (o + 6) (Int32.toNatClampNeg (((nI 10) * x2) + v2)))), .int (v2 + (nI 1))] [] D Q)))))) : am_AW lay (d + 1) mX11_spanningPaths 8 [.ref o, .int v1, .int v2] [] D Q := by
  refine am_iload_n (x := v2) dX11_spanningPaths_8 rfl ?_
  refine am_aload_n (x := o) dX11_spanningPaths_9 rfl ?_
  obtain ⟨x1, hm, hT⟩ := hT
  refine am_callV (av := []) (st := [.int v2]) (b := o) cw_X11_n cl_X11_92 ck_X11_n cs_X11_n ho.1 rfl rfl (Nat.le_of_ble_eq_true rfl) dX11_spanningPaths_10 hm (fun r D9 hr => ?_)
  obtain ⟨rfl, e9⟩ := hr
  rw [e9]
  clear e9
  refine am_icmp_ge (tgt := 39) dX11_spanningPaths_13 (by decide) (fun h => ?_) (fun h => ?_)
  · replace hT := hT.1 h
    refine am_iload_n (x := v1) dX11_spanningPaths_39 rfl ?_
    exact am_ireturn (ty := .int) dX11_spanningPaths_40 rfl rfl hT
  · replace hT := hT.2 h
    refine am_iload_n (x := v1) dX11_spanningPaths_16 rfl ?_
    refine am_aload_n (x := o) dX11_spanningPaths_17 rfl ?_
    refine am_getR dX11_spanningPaths_18 fw_X11_25 ho.1 rfl ?_
    refine am_bipush (v := (nI 10)) dX11_spanningPaths_21 (by decide) ?_
    refine am_aload_n (x := o) dX11_spanningPaths_23 rfl ?_
    obtain ⟨x2, hm, hT⟩ := hT
    refine am_callV (av := []) (st := [.int (nI 10), .ref (o + 6), .int v1]) (b := o) cw_X11_all cl_X11_111 ck_X11_all cs_X11_all ho.1 rfl rfl (Nat.le_of_ble_eq_true rfl) dX11_spanningPaths_24 hm (fun r D9 hr => ?_)
    obtain ⟨rfl, e9⟩ := hr
    rw [e9]
    clear e9
    refine am_imul dX11_spanningPaths_27 ?_
    refine am_iload_n (x := v2) dX11_spanningPaths_28 rfl ?_
    refine am_iadd dX11_spanningPaths_29 ?_
    refine am_iald dX11_spanningPaths_30 ho.2.2.2.2.2.2.1 hT.1 ?_
    replace hT := hT.2
    refine am_iadd dX11_spanningPaths_31 ?_
    refine am_set (am_istore_n dX11_spanningPaths_32 (by decide)) (L1 := [.ref o, .int (v1 + (D (o + 6) (Int32.toNatClampNeg (((nI 10) * x2) + v2)))), .int v2]) rfl ?_
    refine am_set (am_iinc (x := v2) (c0 := (nI 1)) dX11_spanningPaths_33 (by decide) rfl (by decide)) (L1 := [.ref o, .int (v1 + (D (o + 6) (Int32.toNatClampNeg (((nI 10) * x2) + v2)))), .int (v2 + (nI 1))]) rfl ?_
    refine am_goto (tgt := 8) dX11_spanningPaths_36 (by decide) ?_
    exact hT
set_option maxRecDepth 20000 in
theorem eX11_pathAt {lay : List am_L} {d : Nat} {D : am_D} {Q : Option Value → am_D → Prop} {o : Nat} {v1 : Int32} (ho : isX11 lay o) (hT : (∃ x1, am_MetP lay d mX11_isPlayer [.ref o, .int v1] D x1 ∧
 ((¬ x1 = nI 0 → (∃ D2, am_MetV lay d mX11_countsPaths [.ref o] D D2 ∧
 (∃ x3, am_MetP lay d mX11_all [.ref o] D2 x3 ∧
 (∃ x4, am_MetP lay d mX11_all [.ref o] D2 x4 ∧
 am_AW lay (d + 1) mX11_pathAt 30 [.ref o, .int v1, .int x3, .int x4, .int (nI 0), .int (nI 0)] [] D2 Q)))) ∧
 (¬ (¬ x1 = nI 0) → Q (some (.int (-1))) D)))) : am_Met lay (d + 1) mX11_pathAt [.ref o, .int v1] D Q := by
  refine am_enter (by decide +kernel) rfl (Nat.le_of_ble_eq_true rfl) ?_
  show am_AW lay (d + 1) mX11_pathAt 0 [.ref o, .int v1, .null, .null, .null, .null] [] D Q
  refine am_aload_n (x := o) dX11_pathAt_0 rfl ?_
  refine am_iload_n (x := v1) dX11_pathAt_1 rfl ?_
  obtain ⟨x1, hm, hT⟩ := hT
  refine am_callV (av := [.int v1]) (st := []) (b := o) cw_X11_isPlayer cl_X11_57 ck_X11_isPlayer cs_X11_isPlayer ho.1 rfl rfl (Nat.le_of_ble_eq_true rfl) dX11_pathAt_2 hm (fun r D9 hr => ?_)
  obtain ⟨rfl, e9⟩ := hr
  rw [e9]
  clear e9
  refine am_if_ne (tgt := 10) dX11_pathAt_5 (by decide) (fun h => ?_) (fun h => ?_)
  · replace hT := hT.1 h
    refine am_aload_n (x := o) dX11_pathAt_10 rfl ?_
    obtain ⟨D2, hm, hT⟩ := hT
    refine am_callV (av := []) (st := []) (b := o) cw_X11_countsPaths cl_X11_129 ck_X11_countsPaths cs_X11_countsPaths ho.1 rfl rfl (Nat.le_of_ble_eq_true rfl) dX11_pathAt_11 hm (fun r D9 hr => ?_)
    obtain ⟨rfl, e9⟩ := hr
    rw [e9]
    clear e9
    refine am_aload_n (x := o) dX11_pathAt_14 rfl ?_
    obtain ⟨x3, hm, hT⟩ := hT
    refine am_callV (av := []) (st := []) (b := o) cw_X11_all cl_X11_111 ck_X11_all cs_X11_all ho.1 rfl rfl (Nat.le_of_ble_eq_true rfl) dX11_pathAt_15 hm (fun r D9 hr => ?_)
    obtain ⟨rfl, e9⟩ := hr
    rw [e9]
    clear e9
    refine am_set (am_istore_n dX11_pathAt_18 (by decide)) (L1 := [.ref o, .int v1, .int x3, .null, .null, .null]) rfl ?_
    refine am_aload_n (x := o) dX11_pathAt_19 rfl ?_
    obtain ⟨x4, hm, hT⟩ := hT
    refine am_callV (av := []) (st := []) (b := o) cw_X11_all cl_X11_111 ck_X11_all cs_X11_all ho.1 rfl rfl (Nat.le_of_ble_eq_true rfl) dX11_pathAt_20 hm (fun r D9 hr => ?_)
    obtain ⟨rfl, e9⟩ := hr
    rw [e9]
    clear e9
    refine am_set (am_istore_n dX11_pathAt_23 (by decide)) (L1 := [.ref o, .int v1, .int x3, .int x4, .null, .null]) rfl ?_
    refine am_iconst (v := (nI 0)) dX11_pathAt_24 (by decide) ?_
    refine am_set (am_istore dX11_pathAt_25 (by decide)) (L1 := [.ref o, .int v1, .int x3, .int x4, .int (nI 0), .null]) rfl ?_
    refine am_iconst (v := (nI 0)) dX11_pathAt_27 (by decide) ?_
    refine am_set (am_istore dX11_pathAt_28 (by decide)) (L1 := [.ref o, .int v1, .int x3, .int x4, .int (nI 0), .int (nI 0)]) rfl ?_
    exact hT
  · replace hT := hT.2 h
    refine am_iconst (v := (-1)) dX11_pathAt_8 (by decide) ?_
    exact am_ireturn (ty := .int) dX11_pathAt_9 rfl rfl hT
set_option maxRecDepth 20000 in
theorem rX11_pathAt_30 {lay : List am_L} {d : Nat} {D : am_D} {Q : Option Value → am_D → Prop} {o : Nat} {v1 : Int32} {v2 : Int32} {v3 : Int32} {v4 : Int32} {v5 : Int32} (ho : isX11 lay o) (hT : ((v1 < v5 → Q (some (.int v4)) D) ∧
 (¬ (v1 < v5) → am_AW lay (d + 1) mX11_pathAt 39 [.ref o, .int v1, .int v2, .int v3, .int (nI 0), .int v5] [] D Q))) : am_AW lay (d + 1) mX11_pathAt 30 [.ref o, .int v1, .int v2, .int v3, .int v4, .int v5] [] D Q := by
  refine am_iload (x := v5) dX11_pathAt_30 rfl ?_
  refine am_iload_n (x := v1) dX11_pathAt_32 rfl ?_
  refine am_icmp_gt (tgt := 93) dX11_pathAt_33 (by decide) (fun h => ?_) (fun h => ?_)
  · replace hT := hT.1 h
    refine am_iload (x := v4) dX11_pathAt_93 rfl ?_
    exact am_ireturn (ty := .int) dX11_pathAt_95 rfl rfl hT
  · replace hT := hT.2 h
    refine am_iconst (v := (nI 0)) dX11_pathAt_36 (by decide) ?_
    refine am_set (am_istore dX11_pathAt_37 (by decide)) (L1 := [.ref o, .int v1, .int v2, .int v3, .int (nI 0), .int v5]) rfl ?_
    exact hT
set_option maxRecDepth 20000 in
theorem rX11_pathAt_39 {lay : List am_L} {d : Nat} {D : am_D} {Q : Option Value → am_D → Prop} {o : Nat} {v1 : Int32} {v2 : Int32} {v3 : Int32} {v4 : Int32} {v5 : Int32} (ho : isX11 lay o) (hT : (∃ x1, am_MetP lay d mX11_has [.int v3, .int v4] D x1 ∧
 ((x1 = nI 0 → am_AW lay (d + 1) mX11_pathAt 39 [.ref o, .int v1, .int v2, .int v3, .int (v4 + (nI 1)), .int v5] [] D Q) ∧
 (¬ (x1 = nI 0) → (vp_in (((nI 10) * v2) + v4) 10240 ∧ ((¬ (D (o + 6) (Int32.toNatClampNeg (((nI 10) * v2) + v4))) = nI 0 → (∃ x2, am_MetP lay d mX11_beaten [.ref o, .int v4] D x2 ∧
 am_AW lay (d + 1) mX11_pathAt 30 [.ref o, .int v1, .int (v2 &&& (((nI 1) <<< (v4 &&& 31)) ^^^ (-1))), .int ((v2 &&& (((nI 1) <<< (v4 &&& 31)) ^^^ (-1))) &&& x2), .int v4, .int (v5 + (nI 1))] [] D Q)) ∧
 (¬ (¬ (D (o + 6) (Int32.toNatClampNeg (((nI 10) * v2) + v4))) = nI 0) → am_AW lay (d + 1) mX11_pathAt 39 [.ref o, .int v1, .int v2, .int v3, .int (v4 + (nI 1)), .int v5] [] D Q))))))) : am_AW lay (d + 1) mX11_pathAt 39 [.ref o, .int v1, .int v2, .int v3, .int v4, .int v5] [] D Q := by
  refine am_iload_n (x := v3) dX11_pathAt_39 rfl ?_
  refine am_iload (x := v4) dX11_pathAt_40 rfl ?_
  obtain ⟨x1, hm, hT⟩ := hT
  refine am_callS (av := [.int v3, .int v4]) (st := []) cw_X11_has cl_X11_49 ck_X11_has (Nat.le_of_ble_eq_true rfl) dX11_pathAt_42 hm (fun r D9 hr => ?_)
  obtain ⟨rfl, e9⟩ := hr
  rw [e9]
  clear e9
  refine am_if_eq (tgt := 63) dX11_pathAt_45 (by decide) (fun h => ?_) (fun h => ?_)
  · replace hT := hT.1 h
    refine am_set (am_iinc (x := v4) (c0 := (nI 1)) dX11_pathAt_63 (by decide) rfl (by decide)) (L1 := [.ref o, .int v1, .int v2, .int v3, .int (v4 + (nI 1)), .int v5]) rfl ?_
    refine am_goto (tgt := 39) dX11_pathAt_66 (by decide) ?_
    exact hT
  · replace hT := hT.2 h
    refine am_aload_n (x := o) dX11_pathAt_48 rfl ?_
    refine am_getR dX11_pathAt_49 fw_X11_25 ho.1 rfl ?_
    refine am_bipush (v := (nI 10)) dX11_pathAt_52 (by decide) ?_
    refine am_iload_n (x := v2) dX11_pathAt_54 rfl ?_
    refine am_imul dX11_pathAt_55 ?_
    refine am_iload (x := v4) dX11_pathAt_56 rfl ?_
    refine am_iadd dX11_pathAt_58 ?_
    refine am_iald dX11_pathAt_59 ho.2.2.2.2.2.2.1 hT.1 ?_
    replace hT := hT.2
    refine am_if_ne (tgt := 69) dX11_pathAt_60 (by decide) (fun h => ?_) (fun h => ?_)
    · replace hT := hT.1 h
      refine am_iload_n (x := v2) dX11_pathAt_69 rfl ?_
      refine am_iconst (v := (nI 1)) dX11_pathAt_70 (by decide) ?_
      refine am_iload (x := v4) dX11_pathAt_71 rfl ?_
      refine am_ishl dX11_pathAt_73 ?_
      refine am_iconst (v := (-1)) dX11_pathAt_74 (by decide) ?_
      refine am_ixor dX11_pathAt_75 ?_
      refine am_iand dX11_pathAt_76 ?_
      refine am_set (am_istore_n dX11_pathAt_77 (by decide)) (L1 := [.ref o, .int v1, .int (v2 &&& (((nI 1) <<< (v4 &&& 31)) ^^^ (-1))), .int v3, .int v4, .int v5]) rfl ?_
      refine am_iload_n (x := (v2 &&& (((nI 1) <<< (v4 &&& 31)) ^^^ (-1)))) dX11_pathAt_78 rfl ?_
      refine am_aload_n (x := o) dX11_pathAt_79 rfl ?_
      refine am_iload (x := v4) dX11_pathAt_80 rfl ?_
      obtain ⟨x2, hm, hT⟩ := hT
      refine am_callV (av := [.int v4]) (st := [.int (v2 &&& (((nI 1) <<< (v4 &&& 31)) ^^^ (-1)))]) (b := o) cw_X11_beaten cl_X11_45 ck_X11_beaten cs_X11_beaten ho.1 rfl rfl (Nat.le_of_ble_eq_true rfl) dX11_pathAt_82 hm (fun r D9 hr => ?_)
      obtain ⟨rfl, e9⟩ := hr
      rw [e9]
      clear e9
      refine am_iand dX11_pathAt_85 ?_
      refine am_set (am_istore_n dX11_pathAt_86 (by decide)) (L1 := [.ref o, .int v1, .int (v2 &&& (((nI 1) <<< (v4 &&& 31)) ^^^ (-1))), .int ((v2 &&& (((nI 1) <<< (v4 &&& 31)) ^^^ (-1))) &&& x2), .int v4, .int v5]) rfl ?_
      refine am_set (am_iinc (x := v5) (c0 := (nI 1)) dX11_pathAt_87 (by decide) rfl (by decide)) (L1 := [.ref o, .int v1, .int (v2 &&& (((nI 1) <<< (v4 &&& 31)) ^^^ (-1))), .int ((v2 &&& (((nI 1) <<< (v4 &&& 31)) ^^^ (-1))) &&& x2), .int v4, .int (v5 + (nI 1))]) rfl ?_
      refine am_goto (tgt := 30) dX11_pathAt_90 (by decide) ?_
      exact hT
    · replace hT := hT.2 h
      refine am_set (am_iinc (x := v4) (c0 := (nI 1)) dX11_pathAt_63 (by decide) rfl (by decide)) (L1 := [.ref o, .int v1, .int v2, .int v3, .int (v4 + (nI 1)), .int v5]) rfl ?_
      refine am_goto (tgt := 39) dX11_pathAt_66 (by decide) ?_
      exact hT
set_option maxRecDepth 20000 in
theorem eX11_closes {lay : List am_L} {d : Nat} {D : am_D} {Q : Option Value → am_D → Prop} {o : Nat} {v1 : Int32} {v2 : Int32} (ho : isX11 lay o) (hT : (∃ x1, am_MetP lay d mX11_all [.ref o] D x1 ∧
 am_AW lay (d + 1) mX11_closes 5 [.ref o, .int v1, .int v2, .int x1, .null, .null, .null] [] D Q)) : am_Met lay (d + 1) mX11_closes [.ref o, .int v1, .int v2] D Q := by
  refine am_enter (by decide +kernel) rfl (Nat.le_of_ble_eq_true rfl) ?_
  show am_AW lay (d + 1) mX11_closes 0 [.ref o, .int v1, .int v2, .null, .null, .null, .null] [] D Q
  refine am_aload_n (x := o) dX11_closes_0 rfl ?_
  obtain ⟨x1, hm, hT⟩ := hT
  refine am_callV (av := []) (st := []) (b := o) cw_X11_all cl_X11_111 ck_X11_all cs_X11_all ho.1 rfl rfl (Nat.le_of_ble_eq_true rfl) dX11_closes_1 hm (fun r D9 hr => ?_)
  obtain ⟨rfl, e9⟩ := hr
  rw [e9]
  clear e9
  refine am_set (am_istore_n dX11_closes_4 (by decide)) (L1 := [.ref o, .int v1, .int v2, .int x1, .null, .null, .null]) rfl ?_
  exact hT
set_option maxRecDepth 20000 in
theorem rX11_closes_5 {lay : List am_L} {d : Nat} {D : am_D} {Q : Option Value → am_D → Prop} {o : Nat} {v1 : Int32} {v2 : Int32} {v3 : Int32} (ho : isX11 lay o) (hT : ((v3 ≤ nI 0 → Q none D) ∧
 (¬ (v3 ≤ nI 0) → am_AW lay (d + 1) mX11_closes 12 [.ref o, .int v1, .int v2, .int v3, .int (nI 0), .null, .null] [] D Q))) : am_AW lay (d + 1) mX11_closes 5 [.ref o, .int v1, .int v2, .int v3, .null, .null, .null] [] D Q := by
  refine am_iload_n (x := v3) dX11_closes_5 rfl ?_
  refine am_if_le (tgt := 173) dX11_closes_6 (by decide) (fun h => ?_) (fun h => ?_)
  · replace hT := hT.1 h
    exact am_return dX11_closes_173 rfl hT
  · replace hT := hT.2 h
    refine am_iconst (v := (nI 0)) dX11_closes_9 (by decide) ?_
    refine am_set (am_istore dX11_closes_10 (by decide)) (L1 := [.ref o, .int v1, .int v2, .int v3, .int (nI 0), .null, .null]) rfl ?_
    exact hT
set_option maxRecDepth 20000 in
theorem rX11_closes_12 {lay : List am_L} {d : Nat} {D : am_D} {Q : Option Value → am_D → Prop} {o : Nat} {v1 : Int32} {v2 : Int32} {v3 : Int32} {v4 : Int32} (ho : isX11 lay o) (hT : (∃ x1, am_MetP lay d mX11_n [.ref o] D x1 ∧
 ((x1 ≤ v4 → am_AW lay (d + 1) mX11_closes 5 [.ref o, .int v1, .int v2, .int (v3 + (-1)), .null, .null, .null] [] D Q) ∧
 (¬ (x1 ≤ v4) → (∃ x2, am_MetP lay d mX11_has [.int v3, .int v4] D x2 ∧
 ((x2 = nI 0 → (∃ x3, am_MetP lay d mX11_has [.int v3, .int v4] D x3 ∧
 ((x3 = nI 0 → (((nI 0) = nI 0 → (vp_in (((nI 10) * v3) + v4) 10240 ∧ ∀ D4, D4 = am_up D (o + 6) (Int32.toNatClampNeg (((nI 10) * v3) + v4)) (nI 0) →
 am_AW lay (d + 1) mX11_closes 12 [.ref o, .int v1, .int v2, .int v3, .int (v4 + (nI 1)), .null, .null] [] D4 Q)) ∧
 (¬ ((nI 0) = nI 0) → (vp_in (((nI 10) * v3) + v4) 10240 ∧ ∀ D5, D5 = am_up D (o + 6) (Int32.toNatClampNeg (((nI 10) * v3) + v4)) (nI 1) →
 am_AW lay (d + 1) mX11_closes 12 [.ref o, .int v1, .int v2, .int v3, .int (v4 + (nI 1)), .null, .null] [] D5 Q)))) ∧
 (¬ (x3 = nI 0) → (∃ x6, am_MetP lay d mX11_count [.int v3] D x6 ∧
 ((v2 ≤ x6 → (((nI 0) = nI 0 → (vp_in (((nI 10) * v3) + v4) 10240 ∧ ∀ D7, D7 = am_up D (o + 6) (Int32.toNatClampNeg (((nI 10) * v3) + v4)) (nI 0) →
 am_AW lay (d + 1) mX11_closes 12 [.ref o, .int v1, .int v2, .int v3, .int (v4 + (nI 1)), .null, .null] [] D7 Q)) ∧
 (¬ ((nI 0) = nI 0) → (vp_in (((nI 10) * v3) + v4) 10240 ∧ ∀ D8, D8 = am_up D (o + 6) (Int32.toNatClampNeg (((nI 10) * v3) + v4)) (nI 1) →
 am_AW lay (d + 1) mX11_closes 12 [.ref o, .int v1, .int v2, .int v3, .int (v4 + (nI 1)), .null, .null] [] D8 Q)))) ∧
 (¬ (v2 ≤ x6) → am_AW lay (d + 1) mX11_closes 73 [.ref o, .int v1, .int v2, .int v3, .int v4, .int (nI 0), .int (nI 0)] [] D Q))))))) ∧
 (¬ (x2 = nI 0) → (∃ x9, am_MetP lay d mX11_count [.int v3] D x9 ∧
 ((¬ x9 = v2 → (∃ x10, am_MetP lay d mX11_has [.int v3, .int v4] D x10 ∧
 ((x10 = nI 0 → (((nI 0) = nI 0 → (vp_in (((nI 10) * v3) + v4) 10240 ∧ ∀ D11, D11 = am_up D (o + 6) (Int32.toNatClampNeg (((nI 10) * v3) + v4)) (nI 0) →
 am_AW lay (d + 1) mX11_closes 12 [.ref o, .int v1, .int v2, .int v3, .int (v4 + (nI 1)), .null, .null] [] D11 Q)) ∧
 (¬ ((nI 0) = nI 0) → (vp_in (((nI 10) * v3) + v4) 10240 ∧ ∀ D12, D12 = am_up D (o + 6) (Int32.toNatClampNeg (((nI 10) * v3) + v4)) (nI 1) →
 am_AW lay (d + 1) mX11_closes 12 [.ref o, .int v1, .int v2, .int v3, .int (v4 + (nI 1)), .null, .null] [] D12 Q)))) ∧
 (¬ (x10 = nI 0) → (∃ x13, am_MetP lay d mX11_count [.int v3] D x13 ∧
 ((v2 ≤ x13 → (((nI 0) = nI 0 → (vp_in (((nI 10) * v3) + v4) 10240 ∧ ∀ D14, D14 = am_up D (o + 6) (Int32.toNatClampNeg (((nI 10) * v3) + v4)) (nI 0) →
 am_AW lay (d + 1) mX11_closes 12 [.ref o, .int v1, .int v2, .int v3, .int (v4 + (nI 1)), .null, .null] [] D14 Q)) ∧
 (¬ ((nI 0) = nI 0) → (vp_in (((nI 10) * v3) + v4) 10240 ∧ ∀ D15, D15 = am_up D (o + 6) (Int32.toNatClampNeg (((nI 10) * v3) + v4)) (nI 1) →
 am_AW lay (d + 1) mX11_closes 12 [.ref o, .int v1, .int v2, .int v3, .int (v4 + (nI 1)), .null, .null] [] D15 Q)))) ∧
 (¬ (v2 ≤ x13) → am_AW lay (d + 1) mX11_closes 73 [.ref o, .int v1, .int v2, .int v3, .int v4, .int (nI 0), .int (nI 0)] [] D Q))))))) ∧
 (¬ (¬ x9 = v2) → (∃ x16, am_MetP lay d mX11_beats1 [.ref o, .int v4, .int v1] D x16 ∧
 ((x16 = nI 0 → (vp_in (((nI 10) * v3) + v4) 10240 ∧ ∀ D17, D17 = am_up D (o + 6) (Int32.toNatClampNeg (((nI 10) * v3) + v4)) (nI 0) →
 am_AW lay (d + 1) mX11_closes 12 [.ref o, .int v1, .int v2, .int v3, .int (v4 + (nI 1)), .null, .null] [] D17 Q)) ∧
 (¬ (x16 = nI 0) → (vp_in (((nI 10) * v3) + v4) 10240 ∧ ∀ D18, D18 = am_up D (o + 6) (Int32.toNatClampNeg (((nI 10) * v3) + v4)) (nI 1) →
 am_AW lay (d + 1) mX11_closes 12 [.ref o, .int v1, .int v2, .int v3, .int (v4 + (nI 1)), .null, .null] [] D18 Q)))))))))))))) : am_AW lay (d + 1) mX11_closes 12 [.ref o, .int v1, .int v2, .int v3, .int v4, .null, .null] [] D Q := by
  refine am_iload (x := v4) dX11_closes_12 rfl ?_
  refine am_aload_n (x := o) dX11_closes_14 rfl ?_
  obtain ⟨x1, hm, hT⟩ := hT
  refine am_callV (av := []) (st := [.int v4]) (b := o) cw_X11_n cl_X11_92 ck_X11_n cs_X11_n ho.1 rfl rfl (Nat.le_of_ble_eq_true rfl) dX11_closes_15 hm (fun r D9 hr => ?_)
  obtain ⟨rfl, e9⟩ := hr
  rw [e9]
  clear e9
  refine am_icmp_ge (tgt := 167) dX11_closes_18 (by decide) (fun h => ?_) (fun h => ?_)
  · replace hT := hT.1 h
    refine am_set (am_iinc (x := v3) (c0 := (-1)) dX11_closes_167 (by decide) rfl (by decide)) (L1 := [.ref o, .int v1, .int v2, .int (v3 + (-1)), .int v4, .null, .null]) rfl ?_
    refine am_goto (tgt := 5) dX11_closes_170 (by decide) ?_
    refine am_drop [4] (L1 := [.ref o, .int v1, .int v2, .int (v3 + (-1)), .null, .null, .null]) rfl ?_
    exact hT
  · replace hT := hT.2 h
    refine am_iconst (v := (nI 0)) dX11_closes_21 (by decide) ?_
    refine am_set (am_istore dX11_closes_22 (by decide)) (L1 := [.ref o, .int v1, .int v2, .int v3, .int v4, .int (nI 0), .null]) rfl ?_
    refine am_iload_n (x := v3) dX11_closes_24 rfl ?_
    refine am_iload (x := v4) dX11_closes_25 rfl ?_
    obtain ⟨x2, hm, hT⟩ := hT
    refine am_callS (av := [.int v3, .int v4]) (st := []) cw_X11_has cl_X11_49 ck_X11_has (Nat.le_of_ble_eq_true rfl) dX11_closes_27 hm (fun r D9 hr => ?_)
    obtain ⟨rfl, e9⟩ := hr
    rw [e9]
    clear e9
    refine am_if_eq (tgt := 53) dX11_closes_30 (by decide) (fun h => ?_) (fun h => ?_)
    · replace hT := hT.1 h
      refine am_iload_n (x := v3) dX11_closes_53 rfl ?_
      refine am_iload (x := v4) dX11_closes_54 rfl ?_
      obtain ⟨x3, hm, hT⟩ := hT
      refine am_callS (av := [.int v3, .int v4]) (st := []) cw_X11_has cl_X11_49 ck_X11_has (Nat.le_of_ble_eq_true rfl) dX11_closes_56 hm (fun r D9 hr => ?_)
      obtain ⟨rfl, e9⟩ := hr
      rw [e9]
      clear e9
      refine am_if_eq (tgt := 139) dX11_closes_59 (by decide) (fun h => ?_) (fun h => ?_)
      · replace hT := hT.1 h
        refine am_aload_n (x := o) dX11_closes_139 rfl ?_
        refine am_getR dX11_closes_140 fw_X11_25 ho.1 rfl ?_
        refine am_bipush (v := (nI 10)) dX11_closes_143 (by decide) ?_
        refine am_iload_n (x := v3) dX11_closes_145 rfl ?_
        refine am_imul dX11_closes_146 ?_
        refine am_iload (x := v4) dX11_closes_147 rfl ?_
        refine am_iadd dX11_closes_149 ?_
        refine am_iload (x := (nI 0)) dX11_closes_150 rfl ?_
        refine am_if_eq (tgt := 159) dX11_closes_152 (by decide) (fun h => ?_) (fun h => ?_)
        · replace hT := hT.1 h
          refine am_iconst (v := (nI 0)) dX11_closes_159 (by decide) ?_
          refine am_iast dX11_closes_160 ho.2.2.2.2.2.2.1 hT.1 ?_
          obtain ⟨D4, hD⟩ : ∃ z, z = am_up D (o + 6) (Int32.toNatClampNeg (((nI 10) * v3) + v4)) (nI 0) := ⟨_, rfl⟩
          rw [← hD]
          replace hT := hT.2 D4 hD
          clear hD
          refine am_set (am_iinc (x := v4) (c0 := (nI 1)) dX11_closes_161 (by decide) rfl (by decide)) (L1 := [.ref o, .int v1, .int v2, .int v3, .int (v4 + (nI 1)), .int (nI 0), .null]) rfl ?_
          refine am_goto (tgt := 12) dX11_closes_164 (by decide) ?_
          refine am_drop [5] (L1 := [.ref o, .int v1, .int v2, .int v3, .int (v4 + (nI 1)), .null, .null]) rfl ?_
          exact hT
        · replace hT := hT.2 h
          refine am_iconst (v := (nI 1)) dX11_closes_155 (by decide) ?_
          refine am_goto (tgt := 160) dX11_closes_156 (by decide) ?_
          refine am_iast dX11_closes_160 ho.2.2.2.2.2.2.1 hT.1 ?_
          obtain ⟨D5, hD⟩ : ∃ z, z = am_up D (o + 6) (Int32.toNatClampNeg (((nI 10) * v3) + v4)) (nI 1) := ⟨_, rfl⟩
          rw [← hD]
          replace hT := hT.2 D5 hD
          clear hD
          refine am_set (am_iinc (x := v4) (c0 := (nI 1)) dX11_closes_161 (by decide) rfl (by decide)) (L1 := [.ref o, .int v1, .int v2, .int v3, .int (v4 + (nI 1)), .int (nI 0), .null]) rfl ?_
          refine am_goto (tgt := 12) dX11_closes_164 (by decide) ?_
          refine am_drop [5] (L1 := [.ref o, .int v1, .int v2, .int v3, .int (v4 + (nI 1)), .null, .null]) rfl ?_
          exact hT
      · replace hT := hT.2 h
        refine am_iload_n (x := v3) dX11_closes_62 rfl ?_
        obtain ⟨x6, hm, hT⟩ := hT
        refine am_callS (av := [.int v3]) (st := []) cw_X11_count cl_X11_98 ck_X11_count (Nat.le_of_ble_eq_true rfl) dX11_closes_63 hm (fun r D9 hr => ?_)
        obtain ⟨rfl, e9⟩ := hr
        rw [e9]
        clear e9
        refine am_iload_n (x := v2) dX11_closes_66 rfl ?_
        refine am_icmp_ge (tgt := 139) dX11_closes_67 (by decide) (fun h => ?_) (fun h => ?_)
        · replace hT := hT.1 h
          refine am_aload_n (x := o) dX11_closes_139 rfl ?_
          refine am_getR dX11_closes_140 fw_X11_25 ho.1 rfl ?_
          refine am_bipush (v := (nI 10)) dX11_closes_143 (by decide) ?_
          refine am_iload_n (x := v3) dX11_closes_145 rfl ?_
          refine am_imul dX11_closes_146 ?_
          refine am_iload (x := v4) dX11_closes_147 rfl ?_
          refine am_iadd dX11_closes_149 ?_
          refine am_iload (x := (nI 0)) dX11_closes_150 rfl ?_
          refine am_if_eq (tgt := 159) dX11_closes_152 (by decide) (fun h => ?_) (fun h => ?_)
          · replace hT := hT.1 h
            refine am_iconst (v := (nI 0)) dX11_closes_159 (by decide) ?_
            refine am_iast dX11_closes_160 ho.2.2.2.2.2.2.1 hT.1 ?_
            obtain ⟨D7, hD⟩ : ∃ z, z = am_up D (o + 6) (Int32.toNatClampNeg (((nI 10) * v3) + v4)) (nI 0) := ⟨_, rfl⟩
            rw [← hD]
            replace hT := hT.2 D7 hD
            clear hD
            refine am_set (am_iinc (x := v4) (c0 := (nI 1)) dX11_closes_161 (by decide) rfl (by decide)) (L1 := [.ref o, .int v1, .int v2, .int v3, .int (v4 + (nI 1)), .int (nI 0), .null]) rfl ?_
            refine am_goto (tgt := 12) dX11_closes_164 (by decide) ?_
            refine am_drop [5] (L1 := [.ref o, .int v1, .int v2, .int v3, .int (v4 + (nI 1)), .null, .null]) rfl ?_
            exact hT
          · replace hT := hT.2 h
            refine am_iconst (v := (nI 1)) dX11_closes_155 (by decide) ?_
            refine am_goto (tgt := 160) dX11_closes_156 (by decide) ?_
            refine am_iast dX11_closes_160 ho.2.2.2.2.2.2.1 hT.1 ?_
            obtain ⟨D8, hD⟩ : ∃ z, z = am_up D (o + 6) (Int32.toNatClampNeg (((nI 10) * v3) + v4)) (nI 1) := ⟨_, rfl⟩
            rw [← hD]
            replace hT := hT.2 D8 hD
            clear hD
            refine am_set (am_iinc (x := v4) (c0 := (nI 1)) dX11_closes_161 (by decide) rfl (by decide)) (L1 := [.ref o, .int v1, .int v2, .int v3, .int (v4 + (nI 1)), .int (nI 0), .null]) rfl ?_
            refine am_goto (tgt := 12) dX11_closes_164 (by decide) ?_
            refine am_drop [5] (L1 := [.ref o, .int v1, .int v2, .int v3, .int (v4 + (nI 1)), .null, .null]) rfl ?_
            exact hT
        · replace hT := hT.2 h
          refine am_iconst (v := (nI 0)) dX11_closes_70 (by decide) ?_
          refine am_set (am_istore dX11_closes_71 (by decide)) (L1 := [.ref o, .int v1, .int v2, .int v3, .int v4, .int (nI 0), .int (nI 0)]) rfl ?_
          exact hT
    · replace hT := hT.2 h
      refine am_iload_n (x := v3) dX11_closes_33 rfl ?_
      obtain ⟨x9, hm, hT⟩ := hT
      refine am_callS (av := [.int v3]) (st := []) cw_X11_count cl_X11_98 ck_X11_count (Nat.le_of_ble_eq_true rfl) dX11_closes_34 hm (fun r D9 hr => ?_)
      obtain ⟨rfl, e9⟩ := hr
      rw [e9]
      clear e9
      refine am_iload_n (x := v2) dX11_closes_37 rfl ?_
      refine am_icmp_ne (tgt := 53) dX11_closes_38 (by decide) (fun h => ?_) (fun h => ?_)
      · replace hT := hT.1 h
        refine am_iload_n (x := v3) dX11_closes_53 rfl ?_
        refine am_iload (x := v4) dX11_closes_54 rfl ?_
        obtain ⟨x10, hm, hT⟩ := hT
        refine am_callS (av := [.int v3, .int v4]) (st := []) cw_X11_has cl_X11_49 ck_X11_has (Nat.le_of_ble_eq_true rfl) dX11_closes_56 hm (fun r D9 hr => ?_)
        obtain ⟨rfl, e9⟩ := hr
        rw [e9]
        clear e9
        refine am_if_eq (tgt := 139) dX11_closes_59 (by decide) (fun h => ?_) (fun h => ?_)
        · replace hT := hT.1 h
          refine am_aload_n (x := o) dX11_closes_139 rfl ?_
          refine am_getR dX11_closes_140 fw_X11_25 ho.1 rfl ?_
          refine am_bipush (v := (nI 10)) dX11_closes_143 (by decide) ?_
          refine am_iload_n (x := v3) dX11_closes_145 rfl ?_
          refine am_imul dX11_closes_146 ?_
          refine am_iload (x := v4) dX11_closes_147 rfl ?_
          refine am_iadd dX11_closes_149 ?_
          refine am_iload (x := (nI 0)) dX11_closes_150 rfl ?_
          refine am_if_eq (tgt := 159) dX11_closes_152 (by decide) (fun h => ?_) (fun h => ?_)
          · replace hT := hT.1 h
            refine am_iconst (v := (nI 0)) dX11_closes_159 (by decide) ?_
            refine am_iast dX11_closes_160 ho.2.2.2.2.2.2.1 hT.1 ?_
            obtain ⟨D11, hD⟩ : ∃ z, z = am_up D (o + 6) (Int32.toNatClampNeg (((nI 10) * v3) + v4)) (nI 0) := ⟨_, rfl⟩
            rw [← hD]
            replace hT := hT.2 D11 hD
            clear hD
            refine am_set (am_iinc (x := v4) (c0 := (nI 1)) dX11_closes_161 (by decide) rfl (by decide)) (L1 := [.ref o, .int v1, .int v2, .int v3, .int (v4 + (nI 1)), .int (nI 0), .null]) rfl ?_
            refine am_goto (tgt := 12) dX11_closes_164 (by decide) ?_
            refine am_drop [5] (L1 := [.ref o, .int v1, .int v2, .int v3, .int (v4 + (nI 1)), .null, .null]) rfl ?_
            exact hT
          · replace hT := hT.2 h
            refine am_iconst (v := (nI 1)) dX11_closes_155 (by decide) ?_
            refine am_goto (tgt := 160) dX11_closes_156 (by decide) ?_
            refine am_iast dX11_closes_160 ho.2.2.2.2.2.2.1 hT.1 ?_
            obtain ⟨D12, hD⟩ : ∃ z, z = am_up D (o + 6) (Int32.toNatClampNeg (((nI 10) * v3) + v4)) (nI 1) := ⟨_, rfl⟩
            rw [← hD]
            replace hT := hT.2 D12 hD
            clear hD
            refine am_set (am_iinc (x := v4) (c0 := (nI 1)) dX11_closes_161 (by decide) rfl (by decide)) (L1 := [.ref o, .int v1, .int v2, .int v3, .int (v4 + (nI 1)), .int (nI 0), .null]) rfl ?_
            refine am_goto (tgt := 12) dX11_closes_164 (by decide) ?_
            refine am_drop [5] (L1 := [.ref o, .int v1, .int v2, .int v3, .int (v4 + (nI 1)), .null, .null]) rfl ?_
            exact hT
        · replace hT := hT.2 h
          refine am_iload_n (x := v3) dX11_closes_62 rfl ?_
          obtain ⟨x13, hm, hT⟩ := hT
          refine am_callS (av := [.int v3]) (st := []) cw_X11_count cl_X11_98 ck_X11_count (Nat.le_of_ble_eq_true rfl) dX11_closes_63 hm (fun r D9 hr => ?_)
          obtain ⟨rfl, e9⟩ := hr
          rw [e9]
          clear e9
          refine am_iload_n (x := v2) dX11_closes_66 rfl ?_
          refine am_icmp_ge (tgt := 139) dX11_closes_67 (by decide) (fun h => ?_) (fun h => ?_)
          · replace hT := hT.1 h
            refine am_aload_n (x := o) dX11_closes_139 rfl ?_
            refine am_getR dX11_closes_140 fw_X11_25 ho.1 rfl ?_
            refine am_bipush (v := (nI 10)) dX11_closes_143 (by decide) ?_
            refine am_iload_n (x := v3) dX11_closes_145 rfl ?_
            refine am_imul dX11_closes_146 ?_
            refine am_iload (x := v4) dX11_closes_147 rfl ?_
            refine am_iadd dX11_closes_149 ?_
            refine am_iload (x := (nI 0)) dX11_closes_150 rfl ?_
            refine am_if_eq (tgt := 159) dX11_closes_152 (by decide) (fun h => ?_) (fun h => ?_)
            · replace hT := hT.1 h
              refine am_iconst (v := (nI 0)) dX11_closes_159 (by decide) ?_
              refine am_iast dX11_closes_160 ho.2.2.2.2.2.2.1 hT.1 ?_
              obtain ⟨D14, hD⟩ : ∃ z, z = am_up D (o + 6) (Int32.toNatClampNeg (((nI 10) * v3) + v4)) (nI 0) := ⟨_, rfl⟩
              rw [← hD]
              replace hT := hT.2 D14 hD
              clear hD
              refine am_set (am_iinc (x := v4) (c0 := (nI 1)) dX11_closes_161 (by decide) rfl (by decide)) (L1 := [.ref o, .int v1, .int v2, .int v3, .int (v4 + (nI 1)), .int (nI 0), .null]) rfl ?_
              refine am_goto (tgt := 12) dX11_closes_164 (by decide) ?_
              refine am_drop [5] (L1 := [.ref o, .int v1, .int v2, .int v3, .int (v4 + (nI 1)), .null, .null]) rfl ?_
              exact hT
            · replace hT := hT.2 h
              refine am_iconst (v := (nI 1)) dX11_closes_155 (by decide) ?_
              refine am_goto (tgt := 160) dX11_closes_156 (by decide) ?_
              refine am_iast dX11_closes_160 ho.2.2.2.2.2.2.1 hT.1 ?_
              obtain ⟨D15, hD⟩ : ∃ z, z = am_up D (o + 6) (Int32.toNatClampNeg (((nI 10) * v3) + v4)) (nI 1) := ⟨_, rfl⟩
              rw [← hD]
              replace hT := hT.2 D15 hD
              clear hD
              refine am_set (am_iinc (x := v4) (c0 := (nI 1)) dX11_closes_161 (by decide) rfl (by decide)) (L1 := [.ref o, .int v1, .int v2, .int v3, .int (v4 + (nI 1)), .int (nI 0), .null]) rfl ?_
              refine am_goto (tgt := 12) dX11_closes_164 (by decide) ?_
              refine am_drop [5] (L1 := [.ref o, .int v1, .int v2, .int v3, .int (v4 + (nI 1)), .null, .null]) rfl ?_
              exact hT
          · replace hT := hT.2 h
            refine am_iconst (v := (nI 0)) dX11_closes_70 (by decide) ?_
            refine am_set (am_istore dX11_closes_71 (by decide)) (L1 := [.ref o, .int v1, .int v2, .int v3, .int v4, .int (nI 0), .int (nI 0)]) rfl ?_
            exact hT
      · replace hT := hT.2 h
        refine am_aload_n (x := o) dX11_closes_41 rfl ?_
        refine am_iload (x := v4) dX11_closes_42 rfl ?_
        refine am_iload_n (x := v1) dX11_closes_44 rfl ?_
        obtain ⟨x16, hm, hT⟩ := hT
        refine am_callV (av := [.int v4, .int v1]) (st := []) (b := o) cw_X11_beats1 cl_X11_69 ck_X11_beats1 cs_X11_beats1 ho.1 rfl rfl (Nat.le_of_ble_eq_true rfl) dX11_closes_45 hm (fun r D9 hr => ?_)
        obtain ⟨rfl, e9⟩ := hr
        rw [e9]
        clear e9
        refine am_set (am_istore dX11_closes_48 (by decide)) (L1 := [.ref o, .int v1, .int v2, .int v3, .int v4, .int x16, .null]) rfl ?_
        refine am_goto (tgt := 139) dX11_closes_50 (by decide) ?_
        refine am_aload_n (x := o) dX11_closes_139 rfl ?_
        refine am_getR dX11_closes_140 fw_X11_25 ho.1 rfl ?_
        refine am_bipush (v := (nI 10)) dX11_closes_143 (by decide) ?_
        refine am_iload_n (x := v3) dX11_closes_145 rfl ?_
        refine am_imul dX11_closes_146 ?_
        refine am_iload (x := v4) dX11_closes_147 rfl ?_
        refine am_iadd dX11_closes_149 ?_
        refine am_iload (x := x16) dX11_closes_150 rfl ?_
        refine am_if_eq (tgt := 159) dX11_closes_152 (by decide) (fun h => ?_) (fun h => ?_)
        · replace hT := hT.1 h
          refine am_iconst (v := (nI 0)) dX11_closes_159 (by decide) ?_
          refine am_iast dX11_closes_160 ho.2.2.2.2.2.2.1 hT.1 ?_
          obtain ⟨D17, hD⟩ : ∃ z, z = am_up D (o + 6) (Int32.toNatClampNeg (((nI 10) * v3) + v4)) (nI 0) := ⟨_, rfl⟩
          rw [← hD]
          replace hT := hT.2 D17 hD
          clear hD
          refine am_set (am_iinc (x := v4) (c0 := (nI 1)) dX11_closes_161 (by decide) rfl (by decide)) (L1 := [.ref o, .int v1, .int v2, .int v3, .int (v4 + (nI 1)), .int x16, .null]) rfl ?_
          refine am_goto (tgt := 12) dX11_closes_164 (by decide) ?_
          refine am_drop [5] (L1 := [.ref o, .int v1, .int v2, .int v3, .int (v4 + (nI 1)), .null, .null]) rfl ?_
          exact hT
        · replace hT := hT.2 h
          refine am_iconst (v := (nI 1)) dX11_closes_155 (by decide) ?_
          refine am_goto (tgt := 160) dX11_closes_156 (by decide) ?_
          refine am_iast dX11_closes_160 ho.2.2.2.2.2.2.1 hT.1 ?_
          obtain ⟨D18, hD⟩ : ∃ z, z = am_up D (o + 6) (Int32.toNatClampNeg (((nI 10) * v3) + v4)) (nI 1) := ⟨_, rfl⟩
          rw [← hD]
          replace hT := hT.2 D18 hD
          clear hD
          refine am_set (am_iinc (x := v4) (c0 := (nI 1)) dX11_closes_161 (by decide) rfl (by decide)) (L1 := [.ref o, .int v1, .int v2, .int v3, .int (v4 + (nI 1)), .int x16, .null]) rfl ?_
          refine am_goto (tgt := 12) dX11_closes_164 (by decide) ?_
          refine am_drop [5] (L1 := [.ref o, .int v1, .int v2, .int v3, .int (v4 + (nI 1)), .null, .null]) rfl ?_
          exact hT
set_option maxRecDepth 20000 in
theorem rX11_closes_73 {lay : List am_L} {d : Nat} {D : am_D} {Q : Option Value → am_D → Prop} {o : Nat} {v1 : Int32} {v2 : Int32} {v3 : Int32} {v4 : Int32} {v5 : Int32} {v6 : Int32} (ho : isX11 lay o) (hT : (∃ x1, am_MetP lay d mX11_n [.ref o] D x1 ∧
 ((x1 ≤ v6 → ((v5 = nI 0 → (vp_in (((nI 10) * v3) + v4) 10240 ∧ ∀ D2, D2 = am_up D (o + 6) (Int32.toNatClampNeg (((nI 10) * v3) + v4)) (nI 0) →
 am_AW lay (d + 1) mX11_closes 12 [.ref o, .int v1, .int v2, .int v3, .int (v4 + (nI 1)), .null, .null] [] D2 Q)) ∧
 (¬ (v5 = nI 0) → (vp_in (((nI 10) * v3) + v4) 10240 ∧ ∀ D3, D3 = am_up D (o + 6) (Int32.toNatClampNeg (((nI 10) * v3) + v4)) (nI 1) →
 am_AW lay (d + 1) mX11_closes 12 [.ref o, .int v1, .int v2, .int v3, .int (v4 + (nI 1)), .null, .null] [] D3 Q)))) ∧
 (¬ (x1 ≤ v6) → ((¬ v5 = nI 0 → am_AW lay (d + 1) mX11_closes 73 [.ref o, .int v1, .int v2, .int v3, .int v4, .int (nI 1), .int (v6 + (nI 1))] [] D Q) ∧
 (¬ (¬ v5 = nI 0) → (∃ x4, am_MetP lay d mX11_beaten [.ref o, .int v4] D x4 ∧
 (∃ x5, am_MetP lay d mX11_has [.int (x4 &&& (v3 ^^^ (-1))), .int v6] D x5 ∧
 ((x5 = nI 0 → am_AW lay (d + 1) mX11_closes 73 [.ref o, .int v1, .int v2, .int v3, .int v4, .int (nI 0), .int (v6 + (nI 1))] [] D Q) ∧
 (¬ (x5 = nI 0) → (vp_in (((nI 10) * (v3 ||| ((nI 1) <<< (v6 &&& 31)))) + v6) 10240 ∧ ((¬ (D (o + 6) (Int32.toNatClampNeg (((nI 10) * (v3 ||| ((nI 1) <<< (v6 &&& 31)))) + v6))) = (nI 1) → am_AW lay (d + 1) mX11_closes 73 [.ref o, .int v1, .int v2, .int v3, .int v4, .int (nI 0), .int (v6 + (nI 1))] [] D Q) ∧
 (¬ (¬ (D (o + 6) (Int32.toNatClampNeg (((nI 10) * (v3 ||| ((nI 1) <<< (v6 &&& 31)))) + v6))) = (nI 1)) → am_AW lay (d + 1) mX11_closes 73 [.ref o, .int v1, .int v2, .int v3, .int v4, .int (nI 1), .int (v6 + (nI 1))] [] D Q))))))))))))) : am_AW lay (d + 1) mX11_closes 73 [.ref o, .int v1, .int v2, .int v3, .int v4, .int v5, .int v6] [] D Q := by
  refine am_iload (x := v6) dX11_closes_73 rfl ?_
  refine am_aload_n (x := o) dX11_closes_75 rfl ?_
  obtain ⟨x1, hm, hT⟩ := hT
  refine am_callV (av := []) (st := [.int v6]) (b := o) cw_X11_n cl_X11_92 ck_X11_n cs_X11_n ho.1 rfl rfl (Nat.le_of_ble_eq_true rfl) dX11_closes_76 hm (fun r D9 hr => ?_)
  obtain ⟨rfl, e9⟩ := hr
  rw [e9]
  clear e9
  refine am_icmp_ge (tgt := 139) dX11_closes_79 (by decide) (fun h => ?_) (fun h => ?_)
  · replace hT := hT.1 h
    refine am_aload_n (x := o) dX11_closes_139 rfl ?_
    refine am_getR dX11_closes_140 fw_X11_25 ho.1 rfl ?_
    refine am_bipush (v := (nI 10)) dX11_closes_143 (by decide) ?_
    refine am_iload_n (x := v3) dX11_closes_145 rfl ?_
    refine am_imul dX11_closes_146 ?_
    refine am_iload (x := v4) dX11_closes_147 rfl ?_
    refine am_iadd dX11_closes_149 ?_
    refine am_iload (x := v5) dX11_closes_150 rfl ?_
    refine am_if_eq (tgt := 159) dX11_closes_152 (by decide) (fun h => ?_) (fun h => ?_)
    · replace hT := hT.1 h
      refine am_iconst (v := (nI 0)) dX11_closes_159 (by decide) ?_
      refine am_iast dX11_closes_160 ho.2.2.2.2.2.2.1 hT.1 ?_
      obtain ⟨D2, hD⟩ : ∃ z, z = am_up D (o + 6) (Int32.toNatClampNeg (((nI 10) * v3) + v4)) (nI 0) := ⟨_, rfl⟩
      rw [← hD]
      replace hT := hT.2 D2 hD
      clear hD
      refine am_set (am_iinc (x := v4) (c0 := (nI 1)) dX11_closes_161 (by decide) rfl (by decide)) (L1 := [.ref o, .int v1, .int v2, .int v3, .int (v4 + (nI 1)), .int v5, .int v6]) rfl ?_
      refine am_goto (tgt := 12) dX11_closes_164 (by decide) ?_
      refine am_drop [5, 6] (L1 := [.ref o, .int v1, .int v2, .int v3, .int (v4 + (nI 1)), .null, .null]) rfl ?_
      exact hT
    · replace hT := hT.2 h
      refine am_iconst (v := (nI 1)) dX11_closes_155 (by decide) ?_
      refine am_goto (tgt := 160) dX11_closes_156 (by decide) ?_
      refine am_iast dX11_closes_160 ho.2.2.2.2.2.2.1 hT.1 ?_
      obtain ⟨D3, hD⟩ : ∃ z, z = am_up D (o + 6) (Int32.toNatClampNeg (((nI 10) * v3) + v4)) (nI 1) := ⟨_, rfl⟩
      rw [← hD]
      replace hT := hT.2 D3 hD
      clear hD
      refine am_set (am_iinc (x := v4) (c0 := (nI 1)) dX11_closes_161 (by decide) rfl (by decide)) (L1 := [.ref o, .int v1, .int v2, .int v3, .int (v4 + (nI 1)), .int v5, .int v6]) rfl ?_
      refine am_goto (tgt := 12) dX11_closes_164 (by decide) ?_
      refine am_drop [5, 6] (L1 := [.ref o, .int v1, .int v2, .int v3, .int (v4 + (nI 1)), .null, .null]) rfl ?_
      exact hT
  · replace hT := hT.2 h
    refine am_iload (x := v5) dX11_closes_82 rfl ?_
    refine am_if_ne (tgt := 126) dX11_closes_84 (by decide) (fun h => ?_) (fun h => ?_)
    · replace hT := hT.1 h
      refine am_iconst (v := (nI 1)) dX11_closes_126 (by decide) ?_
      refine am_goto (tgt := 131) dX11_closes_127 (by decide) ?_
      refine am_set (am_istore dX11_closes_131 (by decide)) (L1 := [.ref o, .int v1, .int v2, .int v3, .int v4, .int (nI 1), .int v6]) rfl ?_
      refine am_set (am_iinc (x := v6) (c0 := (nI 1)) dX11_closes_133 (by decide) rfl (by decide)) (L1 := [.ref o, .int v1, .int v2, .int v3, .int v4, .int (nI 1), .int (v6 + (nI 1))]) rfl ?_
      refine am_goto (tgt := 73) dX11_closes_136 (by decide) ?_
      exact hT
    · replace hT := hT.2 h
      refine am_aload_n (x := o) dX11_closes_87 rfl ?_
      refine am_iload (x := v4) dX11_closes_88 rfl ?_
      obtain ⟨x4, hm, hT⟩ := hT
      refine am_callV (av := [.int v4]) (st := []) (b := o) cw_X11_beaten cl_X11_45 ck_X11_beaten cs_X11_beaten ho.1 rfl rfl (Nat.le_of_ble_eq_true rfl) dX11_closes_90 hm (fun r D9 hr => ?_)
      obtain ⟨rfl, e9⟩ := hr
      rw [e9]
      clear e9
      refine am_iload_n (x := v3) dX11_closes_93 rfl ?_
      refine am_iconst (v := (-1)) dX11_closes_94 (by decide) ?_
      refine am_ixor dX11_closes_95 ?_
      refine am_iand dX11_closes_96 ?_
      refine am_iload (x := v6) dX11_closes_97 rfl ?_
      obtain ⟨x5, hm, hT⟩ := hT
      refine am_callS (av := [.int (x4 &&& (v3 ^^^ (-1))), .int v6]) (st := []) cw_X11_has cl_X11_49 ck_X11_has (Nat.le_of_ble_eq_true rfl) dX11_closes_99 hm (fun r D9 hr => ?_)
      obtain ⟨rfl, e9⟩ := hr
      rw [e9]
      clear e9
      refine am_if_eq (tgt := 130) dX11_closes_102 (by decide) (fun h => ?_) (fun h => ?_)
      · replace hT := hT.1 h
        refine am_iconst (v := (nI 0)) dX11_closes_130 (by decide) ?_
        refine am_set (am_istore dX11_closes_131 (by decide)) (L1 := [.ref o, .int v1, .int v2, .int v3, .int v4, .int (nI 0), .int v6]) rfl ?_
        refine am_set (am_iinc (x := v6) (c0 := (nI 1)) dX11_closes_133 (by decide) rfl (by decide)) (L1 := [.ref o, .int v1, .int v2, .int v3, .int v4, .int (nI 0), .int (v6 + (nI 1))]) rfl ?_
        refine am_goto (tgt := 73) dX11_closes_136 (by decide) ?_
        exact hT
      · replace hT := hT.2 h
        refine am_aload_n (x := o) dX11_closes_105 rfl ?_
        refine am_getR dX11_closes_106 fw_X11_25 ho.1 rfl ?_
        refine am_bipush (v := (nI 10)) dX11_closes_109 (by decide) ?_
        refine am_iload_n (x := v3) dX11_closes_111 rfl ?_
        refine am_iconst (v := (nI 1)) dX11_closes_112 (by decide) ?_
        refine am_iload (x := v6) dX11_closes_113 rfl ?_
        refine am_ishl dX11_closes_115 ?_
        refine am_ior dX11_closes_116 ?_
        refine am_imul dX11_closes_117 ?_
        refine am_iload (x := v6) dX11_closes_118 rfl ?_
        refine am_iadd dX11_closes_120 ?_
        refine am_iald dX11_closes_121 ho.2.2.2.2.2.2.1 hT.1 ?_
        replace hT := hT.2
        refine am_iconst (v := (nI 1)) dX11_closes_122 (by decide) ?_
        refine am_icmp_ne (tgt := 130) dX11_closes_123 (by decide) (fun h => ?_) (fun h => ?_)
        · replace hT := hT.1 h
          refine am_iconst (v := (nI 0)) dX11_closes_130 (by decide) ?_
          refine am_set (am_istore dX11_closes_131 (by decide)) (L1 := [.ref o, .int v1, .int v2, .int v3, .int v4, .int (nI 0), .int v6]) rfl ?_
          refine am_set (am_iinc (x := v6) (c0 := (nI 1)) dX11_closes_133 (by decide) rfl (by decide)) (L1 := [.ref o, .int v1, .int v2, .int v3, .int v4, .int (nI 0), .int (v6 + (nI 1))]) rfl ?_
          refine am_goto (tgt := 73) dX11_closes_136 (by decide) ?_
          exact hT
        · replace hT := hT.2 h
          refine am_iconst (v := (nI 1)) dX11_closes_126 (by decide) ?_
          refine am_goto (tgt := 131) dX11_closes_127 (by decide) ?_
          refine am_set (am_istore dX11_closes_131 (by decide)) (L1 := [.ref o, .int v1, .int v2, .int v3, .int v4, .int (nI 1), .int v6]) rfl ?_
          refine am_set (am_iinc (x := v6) (c0 := (nI 1)) dX11_closes_133 (by decide) rfl (by decide)) (L1 := [.ref o, .int v1, .int v2, .int v3, .int v4, .int (nI 1), .int (v6 + (nI 1))]) rfl ?_
          refine am_goto (tgt := 73) dX11_closes_136 (by decide) ?_
          exact hT
set_option maxRecDepth 20000 in
theorem eX11_isClosed {lay : List am_L} {d : Nat} {D : am_D} {Q : Option Value → am_D → Prop} {o : Nat} {v1 : Int32} (ho : isX11 lay o) (hT : (vp_in (((nI 10) * ((nI 1) <<< (v1 &&& 31))) + v1) 10240 ∧ ((¬ (D (o + 6) (Int32.toNatClampNeg (((nI 10) * ((nI 1) <<< (v1 &&& 31))) + v1))) = (nI 1) → Q (some (.int (nI 0))) D) ∧
 (¬ (¬ (D (o + 6) (Int32.toNatClampNeg (((nI 10) * ((nI 1) <<< (v1 &&& 31))) + v1))) = (nI 1)) → Q (some (.int (nI 1))) D)))) : am_Met lay d mX11_isClosed [.ref o, .int v1] D Q := by
  refine am_enter (by decide +kernel) rfl (Nat.le_of_ble_eq_true rfl) ?_
  show am_AW lay d mX11_isClosed 0 [.ref o, .int v1] [] D Q
  refine am_aload_n (x := o) dX11_isClosed_0 rfl ?_
  refine am_getR dX11_isClosed_1 fw_X11_25 ho.1 rfl ?_
  refine am_bipush (v := (nI 10)) dX11_isClosed_4 (by decide) ?_
  refine am_iconst (v := (nI 1)) dX11_isClosed_6 (by decide) ?_
  refine am_iload_n (x := v1) dX11_isClosed_7 rfl ?_
  refine am_ishl dX11_isClosed_8 ?_
  refine am_imul dX11_isClosed_9 ?_
  refine am_iload_n (x := v1) dX11_isClosed_10 rfl ?_
  refine am_iadd dX11_isClosed_11 ?_
  refine am_iald dX11_isClosed_12 ho.2.2.2.2.2.2.1 hT.1 ?_
  replace hT := hT.2
  refine am_iconst (v := (nI 1)) dX11_isClosed_13 (by decide) ?_
  refine am_icmp_ne (tgt := 21) dX11_isClosed_14 (by decide) (fun h => ?_) (fun h => ?_)
  · replace hT := hT.1 h
    refine am_iconst (v := (nI 0)) dX11_isClosed_21 (by decide) ?_
    exact am_ireturn (ty := .boolean) dX11_isClosed_22 rfl (by decide) hT
  · replace hT := hT.2 h
    refine am_iconst (v := (nI 1)) dX11_isClosed_17 (by decide) ?_
    refine am_goto (tgt := 22) dX11_isClosed_18 (by decide) ?_
    exact am_ireturn (ty := .boolean) dX11_isClosed_22 rfl (by decide) hT
set_option maxRecDepth 20000 in
theorem eX11_cycleAt {lay : List am_L} {d : Nat} {D : am_D} {Q : Option Value → am_D → Prop} {o : Nat} {v1 : Int32} {v2 : Int32} {v3 : Int32} (ho : isX11 lay o) (hT : (∃ x1, am_MetP lay d mX11_isPlayer [.ref o, .int v1] D x1 ∧
 ((x1 = nI 0 → Q (some (.int (-1))) D) ∧
 (¬ (x1 = nI 0) → (∃ x2, am_MetP lay d mX11_n [.ref o] D x2 ∧
 (∃ x3, am_MetP lay d mX11_in [.int v2, .int (nI 3), .int x2] D x3 ∧
 ((x3 = nI 0 → Q (some (.int (-1))) D) ∧
 (¬ (x3 = nI 0) → (∃ x4, am_MetP lay d mX11_in [.int v3, .int (nI 0), .int (v2 - (nI 1))] D x4 ∧
 ((¬ x4 = nI 0 → (∃ D5, am_MetV lay d mX11_closes [.ref o, .int v1, .int v2] D D5 ∧
 (∃ x6, am_MetP lay d mX11_isClosed [.ref o, .int v1] D5 x6 ∧
 ((¬ x6 = nI 0 → am_AW lay (d + 1) mX11_cycleAt 61 [.ref o, .int v1, .int v2, .int v3, .int v1, .int ((nI 1) <<< (v1 &&& 31)), .int (nI 0), .null] [] D5 Q) ∧
 (¬ (¬ x6 = nI 0) → Q (some (.int (-4))) D5))))) ∧
 (¬ (¬ x4 = nI 0) → Q (some (.int (-1))) D))))))))))) : am_Met lay (d + 1) mX11_cycleAt [.ref o, .int v1, .int v2, .int v3] D Q := by
  refine am_enter (by decide +kernel) rfl (Nat.le_of_ble_eq_true rfl) ?_
  show am_AW lay (d + 1) mX11_cycleAt 0 [.ref o, .int v1, .int v2, .int v3, .null, .null, .null, .null] [] D Q
  refine am_aload_n (x := o) dX11_cycleAt_0 rfl ?_
  refine am_iload_n (x := v1) dX11_cycleAt_1 rfl ?_
  obtain ⟨x1, hm, hT⟩ := hT
  refine am_callV (av := [.int v1]) (st := []) (b := o) cw_X11_isPlayer cl_X11_57 ck_X11_isPlayer cs_X11_isPlayer ho.1 rfl rfl (Nat.le_of_ble_eq_true rfl) dX11_cycleAt_2 hm (fun r D9 hr => ?_)
  obtain ⟨rfl, e9⟩ := hr
  rw [e9]
  clear e9
  refine am_if_eq (tgt := 31) dX11_cycleAt_5 (by decide) (fun h => ?_) (fun h => ?_)
  · replace hT := hT.1 h
    refine am_iconst (v := (-1)) dX11_cycleAt_31 (by decide) ?_
    exact am_ireturn (ty := .int) dX11_cycleAt_32 rfl rfl hT
  · replace hT := hT.2 h
    refine am_iload_n (x := v2) dX11_cycleAt_8 rfl ?_
    refine am_iconst (v := (nI 3)) dX11_cycleAt_9 (by decide) ?_
    refine am_aload_n (x := o) dX11_cycleAt_10 rfl ?_
    obtain ⟨x2, hm, hT⟩ := hT
    refine am_callV (av := []) (st := [.int (nI 3), .int v2]) (b := o) cw_X11_n cl_X11_92 ck_X11_n cs_X11_n ho.1 rfl rfl (Nat.le_of_ble_eq_true rfl) dX11_cycleAt_11 hm (fun r D9 hr => ?_)
    obtain ⟨rfl, e9⟩ := hr
    rw [e9]
    clear e9
    obtain ⟨x3, hm, hT⟩ := hT
    refine am_callS (av := [.int v2, .int (nI 3), .int x2]) (st := []) cw_X11_in cl_X11_53 ck_X11_in (Nat.le_of_ble_eq_true rfl) dX11_cycleAt_14 hm (fun r D9 hr => ?_)
    obtain ⟨rfl, e9⟩ := hr
    rw [e9]
    clear e9
    refine am_if_eq (tgt := 31) dX11_cycleAt_17 (by decide) (fun h => ?_) (fun h => ?_)
    · replace hT := hT.1 h
      refine am_iconst (v := (-1)) dX11_cycleAt_31 (by decide) ?_
      exact am_ireturn (ty := .int) dX11_cycleAt_32 rfl rfl hT
    · replace hT := hT.2 h
      refine am_iload_n (x := v3) dX11_cycleAt_20 rfl ?_
      refine am_iconst (v := (nI 0)) dX11_cycleAt_21 (by decide) ?_
      refine am_iload_n (x := v2) dX11_cycleAt_22 rfl ?_
      refine am_iconst (v := (nI 1)) dX11_cycleAt_23 (by decide) ?_
      refine am_isub dX11_cycleAt_24 ?_
      obtain ⟨x4, hm, hT⟩ := hT
      refine am_callS (av := [.int v3, .int (nI 0), .int (v2 - (nI 1))]) (st := []) cw_X11_in cl_X11_53 ck_X11_in (Nat.le_of_ble_eq_true rfl) dX11_cycleAt_25 hm (fun r D9 hr => ?_)
      obtain ⟨rfl, e9⟩ := hr
      rw [e9]
      clear e9
      refine am_if_ne (tgt := 33) dX11_cycleAt_28 (by decide) (fun h => ?_) (fun h => ?_)
      · replace hT := hT.1 h
        refine am_aload_n (x := o) dX11_cycleAt_33 rfl ?_
        refine am_iload_n (x := v1) dX11_cycleAt_34 rfl ?_
        refine am_iload_n (x := v2) dX11_cycleAt_35 rfl ?_
        obtain ⟨D5, hm, hT⟩ := hT
        refine am_callV (av := [.int v1, .int v2]) (st := []) (b := o) cw_X11_closes cl_X11_132 ck_X11_closes cs_X11_closes ho.1 rfl rfl (Nat.le_of_ble_eq_true rfl) dX11_cycleAt_36 hm (fun r D9 hr => ?_)
        obtain ⟨rfl, e9⟩ := hr
        rw [e9]
        clear e9
        refine am_aload_n (x := o) dX11_cycleAt_39 rfl ?_
        refine am_iload_n (x := v1) dX11_cycleAt_40 rfl ?_
        obtain ⟨x6, hm, hT⟩ := hT
        refine am_callV (av := [.int v1]) (st := []) (b := o) cw_X11_isClosed cl_X11_135 ck_X11_isClosed cs_X11_isClosed ho.1 rfl rfl (Nat.le_of_ble_eq_true rfl) dX11_cycleAt_41 hm (fun r D9 hr => ?_)
        obtain ⟨rfl, e9⟩ := hr
        rw [e9]
        clear e9
        refine am_if_ne (tgt := 50) dX11_cycleAt_44 (by decide) (fun h => ?_) (fun h => ?_)
        · replace hT := hT.1 h
          refine am_iload_n (x := v1) dX11_cycleAt_50 rfl ?_
          refine am_set (am_istore dX11_cycleAt_51 (by decide)) (L1 := [.ref o, .int v1, .int v2, .int v3, .int v1, .null, .null, .null]) rfl ?_
          refine am_iconst (v := (nI 1)) dX11_cycleAt_53 (by decide) ?_
          refine am_iload_n (x := v1) dX11_cycleAt_54 rfl ?_
          refine am_ishl dX11_cycleAt_55 ?_
          refine am_set (am_istore dX11_cycleAt_56 (by decide)) (L1 := [.ref o, .int v1, .int v2, .int v3, .int v1, .int ((nI 1) <<< (v1 &&& 31)), .null, .null]) rfl ?_
          refine am_iconst (v := (nI 0)) dX11_cycleAt_58 (by decide) ?_
          refine am_set (am_istore dX11_cycleAt_59 (by decide)) (L1 := [.ref o, .int v1, .int v2, .int v3, .int v1, .int ((nI 1) <<< (v1 &&& 31)), .int (nI 0), .null]) rfl ?_
          exact hT
        · replace hT := hT.2 h
          refine am_bipush (v := (-4)) dX11_cycleAt_47 (by decide) ?_
          exact am_ireturn (ty := .int) dX11_cycleAt_49 rfl rfl hT
      · replace hT := hT.2 h
        refine am_iconst (v := (-1)) dX11_cycleAt_31 (by decide) ?_
        exact am_ireturn (ty := .int) dX11_cycleAt_32 rfl rfl hT
set_option maxRecDepth 20000 in
theorem rX11_cycleAt_61 {lay : List am_L} {d : Nat} {D : am_D} {Q : Option Value → am_D → Prop} {o : Nat} {v1 : Int32} {v2 : Int32} {v3 : Int32} {v4 : Int32} {v5 : Int32} {v6 : Int32} (ho : isX11 lay o) (hT : ((v3 ≤ v6 → Q (some (.int v4)) D) ∧
 (¬ (v3 ≤ v6) → am_AW lay (d + 1) mX11_cycleAt 70 [.ref o, .int v1, .int v2, .int v3, .int v4, .int v5, .int v6, .int (nI 0)] [] D Q))) : am_AW lay (d + 1) mX11_cycleAt 61 [.ref o, .int v1, .int v2, .int v3, .int v4, .int v5, .int v6, .null] [] D Q := by
  refine am_iload (x := v6) dX11_cycleAt_61 rfl ?_
  refine am_iload_n (x := v3) dX11_cycleAt_63 rfl ?_
  refine am_icmp_ge (tgt := 135) dX11_cycleAt_64 (by decide) (fun h => ?_) (fun h => ?_)
  · replace hT := hT.1 h
    refine am_iload (x := v4) dX11_cycleAt_135 rfl ?_
    exact am_ireturn (ty := .int) dX11_cycleAt_137 rfl rfl hT
  · replace hT := hT.2 h
    refine am_iconst (v := (nI 0)) dX11_cycleAt_67 (by decide) ?_
    refine am_set (am_istore dX11_cycleAt_68 (by decide)) (L1 := [.ref o, .int v1, .int v2, .int v3, .int v4, .int v5, .int v6, .int (nI 0)]) rfl ?_
    exact hT
set_option maxRecDepth 20000 in
theorem rX11_cycleAt_70 {lay : List am_L} {d : Nat} {D : am_D} {Q : Option Value → am_D → Prop} {o : Nat} {v1 : Int32} {v2 : Int32} {v3 : Int32} {v4 : Int32} {v5 : Int32} {v6 : Int32} {v7 : Int32} (ho : isX11 lay o) (hT : (∃ x1, am_MetP lay d mX11_beaten [.ref o, .int v4] D x1 ∧
 (∃ x2, am_MetP lay d mX11_has [.int (x1 &&& (v5 ^^^ (-1))), .int v7] D x2 ∧
 ((x2 = nI 0 → am_AW lay (d + 1) mX11_cycleAt 70 [.ref o, .int v1, .int v2, .int v3, .int v4, .int v5, .int v6, .int (v7 + (nI 1))] [] D Q) ∧
 (¬ (x2 = nI 0) → (vp_in (((nI 10) * (v5 ||| ((nI 1) <<< (v7 &&& 31)))) + v7) 10240 ∧ ((¬ (D (o + 6) (Int32.toNatClampNeg (((nI 10) * (v5 ||| ((nI 1) <<< (v7 &&& 31)))) + v7))) = nI 0 → am_AW lay (d + 1) mX11_cycleAt 61 [.ref o, .int v1, .int v2, .int v3, .int v7, .int (v5 ||| ((nI 1) <<< (v7 &&& 31))), .int (v6 + (nI 1)), .null] [] D Q) ∧
 (¬ (¬ (D (o + 6) (Int32.toNatClampNeg (((nI 10) * (v5 ||| ((nI 1) <<< (v7 &&& 31)))) + v7))) = nI 0) → am_AW lay (d + 1) mX11_cycleAt 70 [.ref o, .int v1, .int v2, .int v3, .int v4, .int v5, .int v6, .int (v7 + (nI 1))] [] D Q)))))))) : am_AW lay (d + 1) mX11_cycleAt 70 [.ref o, .int v1, .int v2, .int v3, .int v4, .int v5, .int v6, .int v7] [] D Q := by
  refine am_aload_n (x := o) dX11_cycleAt_70 rfl ?_
  refine am_iload (x := v4) dX11_cycleAt_71 rfl ?_
  obtain ⟨x1, hm, hT⟩ := hT
  refine am_callV (av := [.int v4]) (st := []) (b := o) cw_X11_beaten cl_X11_45 ck_X11_beaten cs_X11_beaten ho.1 rfl rfl (Nat.le_of_ble_eq_true rfl) dX11_cycleAt_73 hm (fun r D9 hr => ?_)
  obtain ⟨rfl, e9⟩ := hr
  rw [e9]
  clear e9
  refine am_iload (x := v5) dX11_cycleAt_76 rfl ?_
  refine am_iconst (v := (-1)) dX11_cycleAt_78 (by decide) ?_
  refine am_ixor dX11_cycleAt_79 ?_
  refine am_iand dX11_cycleAt_80 ?_
  refine am_iload (x := v7) dX11_cycleAt_81 rfl ?_
  obtain ⟨x2, hm, hT⟩ := hT
  refine am_callS (av := [.int (x1 &&& (v5 ^^^ (-1))), .int v7]) (st := []) cw_X11_has cl_X11_49 ck_X11_has (Nat.le_of_ble_eq_true rfl) dX11_cycleAt_83 hm (fun r D9 hr => ?_)
  obtain ⟨rfl, e9⟩ := hr
  rw [e9]
  clear e9
  refine am_if_eq (tgt := 110) dX11_cycleAt_86 (by decide) (fun h => ?_) (fun h => ?_)
  · replace hT := hT.1 h
    refine am_set (am_iinc (x := v7) (c0 := (nI 1)) dX11_cycleAt_110 (by decide) rfl (by decide)) (L1 := [.ref o, .int v1, .int v2, .int v3, .int v4, .int v5, .int v6, .int (v7 + (nI 1))]) rfl ?_
    refine am_goto (tgt := 70) dX11_cycleAt_113 (by decide) ?_
    exact hT
  · replace hT := hT.2 h
    refine am_aload_n (x := o) dX11_cycleAt_89 rfl ?_
    refine am_getR dX11_cycleAt_90 fw_X11_25 ho.1 rfl ?_
    refine am_bipush (v := (nI 10)) dX11_cycleAt_93 (by decide) ?_
    refine am_iload (x := v5) dX11_cycleAt_95 rfl ?_
    refine am_iconst (v := (nI 1)) dX11_cycleAt_97 (by decide) ?_
    refine am_iload (x := v7) dX11_cycleAt_98 rfl ?_
    refine am_ishl dX11_cycleAt_100 ?_
    refine am_ior dX11_cycleAt_101 ?_
    refine am_imul dX11_cycleAt_102 ?_
    refine am_iload (x := v7) dX11_cycleAt_103 rfl ?_
    refine am_iadd dX11_cycleAt_105 ?_
    refine am_iald dX11_cycleAt_106 ho.2.2.2.2.2.2.1 hT.1 ?_
    replace hT := hT.2
    refine am_if_ne (tgt := 116) dX11_cycleAt_107 (by decide) (fun h => ?_) (fun h => ?_)
    · replace hT := hT.1 h
      refine am_iload (x := v5) dX11_cycleAt_116 rfl ?_
      refine am_iconst (v := (nI 1)) dX11_cycleAt_118 (by decide) ?_
      refine am_iload (x := v7) dX11_cycleAt_119 rfl ?_
      refine am_ishl dX11_cycleAt_121 ?_
      refine am_ior dX11_cycleAt_122 ?_
      refine am_set (am_istore dX11_cycleAt_123 (by decide)) (L1 := [.ref o, .int v1, .int v2, .int v3, .int v4, .int (v5 ||| ((nI 1) <<< (v7 &&& 31))), .int v6, .int v7]) rfl ?_
      refine am_iload (x := v7) dX11_cycleAt_125 rfl ?_
      refine am_set (am_istore dX11_cycleAt_127 (by decide)) (L1 := [.ref o, .int v1, .int v2, .int v3, .int v7, .int (v5 ||| ((nI 1) <<< (v7 &&& 31))), .int v6, .int v7]) rfl ?_
      refine am_set (am_iinc (x := v6) (c0 := (nI 1)) dX11_cycleAt_129 (by decide) rfl (by decide)) (L1 := [.ref o, .int v1, .int v2, .int v3, .int v7, .int (v5 ||| ((nI 1) <<< (v7 &&& 31))), .int (v6 + (nI 1)), .int v7]) rfl ?_
      refine am_goto (tgt := 61) dX11_cycleAt_132 (by decide) ?_
      refine am_drop [7] (L1 := [.ref o, .int v1, .int v2, .int v3, .int v7, .int (v5 ||| ((nI 1) <<< (v7 &&& 31))), .int (v6 + (nI 1)), .null]) rfl ?_
      exact hT
    · replace hT := hT.2 h
      refine am_set (am_iinc (x := v7) (c0 := (nI 1)) dX11_cycleAt_110 (by decide) rfl (by decide)) (L1 := [.ref o, .int v1, .int v2, .int v3, .int v4, .int v5, .int v6, .int (v7 + (nI 1))]) rfl ?_
      refine am_goto (tgt := 70) dX11_cycleAt_113 (by decide) ?_
      exact hT
set_option maxRecDepth 20000 in
theorem eX11_cycleLengths {lay : List am_L} {d : Nat} {D : am_D} {Q : Option Value → am_D → Prop} {o : Nat} {v1 : Int32} (ho : isX11 lay o) (hT : (∃ x1, am_MetP lay d mX11_isPlayer [.ref o, .int v1] D x1 ∧
 ((¬ x1 = nI 0 → am_AW lay (d + 1) mX11_cycleLengths 14 [.ref o, .int v1, .int (nI 0), .int (nI 3)] [] D Q) ∧
 (¬ (¬ x1 = nI 0) → Q (some (.int (-1))) D)))) : am_Met lay (d + 1) mX11_cycleLengths [.ref o, .int v1] D Q := by
  refine am_enter (by decide +kernel) rfl (Nat.le_of_ble_eq_true rfl) ?_
  show am_AW lay (d + 1) mX11_cycleLengths 0 [.ref o, .int v1, .null, .null] [] D Q
  refine am_aload_n (x := o) dX11_cycleLengths_0 rfl ?_
  refine am_iload_n (x := v1) dX11_cycleLengths_1 rfl ?_
  obtain ⟨x1, hm, hT⟩ := hT
  refine am_callV (av := [.int v1]) (st := []) (b := o) cw_X11_isPlayer cl_X11_57 ck_X11_isPlayer cs_X11_isPlayer ho.1 rfl rfl (Nat.le_of_ble_eq_true rfl) dX11_cycleLengths_2 hm (fun r D9 hr => ?_)
  obtain ⟨rfl, e9⟩ := hr
  rw [e9]
  clear e9
  refine am_if_ne (tgt := 10) dX11_cycleLengths_5 (by decide) (fun h => ?_) (fun h => ?_)
  · replace hT := hT.1 h
    refine am_iconst (v := (nI 0)) dX11_cycleLengths_10 (by decide) ?_
    refine am_set (am_istore_n dX11_cycleLengths_11 (by decide)) (L1 := [.ref o, .int v1, .int (nI 0), .null]) rfl ?_
    refine am_iconst (v := (nI 3)) dX11_cycleLengths_12 (by decide) ?_
    refine am_set (am_istore_n dX11_cycleLengths_13 (by decide)) (L1 := [.ref o, .int v1, .int (nI 0), .int (nI 3)]) rfl ?_
    exact hT
  · replace hT := hT.2 h
    refine am_iconst (v := (-1)) dX11_cycleLengths_8 (by decide) ?_
    exact am_ireturn (ty := .int) dX11_cycleLengths_9 rfl rfl hT
set_option maxRecDepth 20000 in
theorem rX11_cycleLengths_14 {lay : List am_L} {d : Nat} {D : am_D} {Q : Option Value → am_D → Prop} {o : Nat} {v1 : Int32} {v2 : Int32} {v3 : Int32} (ho : isX11 lay o) (hT : (∃ x1, am_MetP lay d mX11_n [.ref o] D x1 ∧
 ((x1 < v3 → Q (some (.int v2)) D) ∧
 (¬ (x1 < v3) → (∃ D2, am_MetV lay d mX11_closes [.ref o, .int v1, .int v3] D D2 ∧
 (∃ x3, am_MetP lay d mX11_isClosed [.ref o, .int v1] D2 x3 ∧
 ((x3 = nI 0 → am_AW lay (d + 1) mX11_cycleLengths 14 [.ref o, .int v1, .int (v2 + (nI 0)), .int (v3 + (nI 1))] [] D2 Q) ∧
 (¬ (x3 = nI 0) → am_AW lay (d + 1) mX11_cycleLengths 14 [.ref o, .int v1, .int (v2 + (nI 1)), .int (v3 + (nI 1))] [] D2 Q)))))))) : am_AW lay (d + 1) mX11_cycleLengths 14 [.ref o, .int v1, .int v2, .int v3] [] D Q := by
  refine am_iload_n (x := v3) dX11_cycleLengths_14 rfl ?_
  refine am_aload_n (x := o) dX11_cycleLengths_15 rfl ?_
  obtain ⟨x1, hm, hT⟩ := hT
  refine am_callV (av := []) (st := [.int v3]) (b := o) cw_X11_n cl_X11_92 ck_X11_n cs_X11_n ho.1 rfl rfl (Nat.le_of_ble_eq_true rfl) dX11_cycleLengths_16 hm (fun r D9 hr => ?_)
  obtain ⟨rfl, e9⟩ := hr
  rw [e9]
  clear e9
  refine am_icmp_gt (tgt := 50) dX11_cycleLengths_19 (by decide) (fun h => ?_) (fun h => ?_)
  · replace hT := hT.1 h
    refine am_iload_n (x := v2) dX11_cycleLengths_50 rfl ?_
    exact am_ireturn (ty := .int) dX11_cycleLengths_51 rfl rfl hT
  · replace hT := hT.2 h
    refine am_aload_n (x := o) dX11_cycleLengths_22 rfl ?_
    refine am_iload_n (x := v1) dX11_cycleLengths_23 rfl ?_
    refine am_iload_n (x := v3) dX11_cycleLengths_24 rfl ?_
    obtain ⟨D2, hm, hT⟩ := hT
    refine am_callV (av := [.int v1, .int v3]) (st := []) (b := o) cw_X11_closes cl_X11_132 ck_X11_closes cs_X11_closes ho.1 rfl rfl (Nat.le_of_ble_eq_true rfl) dX11_cycleLengths_25 hm (fun r D9 hr => ?_)
    obtain ⟨rfl, e9⟩ := hr
    rw [e9]
    clear e9
    refine am_iload_n (x := v2) dX11_cycleLengths_28 rfl ?_
    refine am_aload_n (x := o) dX11_cycleLengths_29 rfl ?_
    refine am_iload_n (x := v1) dX11_cycleLengths_30 rfl ?_
    obtain ⟨x3, hm, hT⟩ := hT
    refine am_callV (av := [.int v1]) (st := [.int v2]) (b := o) cw_X11_isClosed cl_X11_135 ck_X11_isClosed cs_X11_isClosed ho.1 rfl rfl (Nat.le_of_ble_eq_true rfl) dX11_cycleLengths_31 hm (fun r D9 hr => ?_)
    obtain ⟨rfl, e9⟩ := hr
    rw [e9]
    clear e9
    refine am_if_eq (tgt := 41) dX11_cycleLengths_34 (by decide) (fun h => ?_) (fun h => ?_)
    · replace hT := hT.1 h
      refine am_iconst (v := (nI 0)) dX11_cycleLengths_41 (by decide) ?_
      refine am_iadd dX11_cycleLengths_42 ?_
      refine am_set (am_istore_n dX11_cycleLengths_43 (by decide)) (L1 := [.ref o, .int v1, .int (v2 + (nI 0)), .int v3]) rfl ?_
      refine am_set (am_iinc (x := v3) (c0 := (nI 1)) dX11_cycleLengths_44 (by decide) rfl (by decide)) (L1 := [.ref o, .int v1, .int (v2 + (nI 0)), .int (v3 + (nI 1))]) rfl ?_
      refine am_goto (tgt := 14) dX11_cycleLengths_47 (by decide) ?_
      exact hT
    · replace hT := hT.2 h
      refine am_iconst (v := (nI 1)) dX11_cycleLengths_37 (by decide) ?_
      refine am_goto (tgt := 42) dX11_cycleLengths_38 (by decide) ?_
      refine am_iadd dX11_cycleLengths_42 ?_
      refine am_set (am_istore_n dX11_cycleLengths_43 (by decide)) (L1 := [.ref o, .int v1, .int (v2 + (nI 1)), .int v3]) rfl ?_
      refine am_set (am_iinc (x := v3) (c0 := (nI 1)) dX11_cycleLengths_44 (by decide) rfl (by decide)) (L1 := [.ref o, .int v1, .int (v2 + (nI 1)), .int (v3 + (nI 1))]) rfl ?_
      refine am_goto (tgt := 14) dX11_cycleLengths_47 (by decide) ?_
      exact hT
set_option maxRecDepth 20000 in
theorem eX11_costOf {lay : List am_L} {d : Nat} {D : am_D} {Q : Option Value → am_D → Prop} {o : Nat} {v1 : Int32} {v2 : Int32} (ho : isX11 lay o) (hT : am_AW lay (d + 1) mX11_costOf 5 [.ref o, .int v1, .int v2, .int (nI 0), .int (nI 0)] [] D Q) : am_Met lay (d + 1) mX11_costOf [.ref o, .int v1, .int v2] D Q := by
  refine am_enter (by decide +kernel) rfl (Nat.le_of_ble_eq_true rfl) ?_
  show am_AW lay (d + 1) mX11_costOf 0 [.ref o, .int v1, .int v2, .null, .null] [] D Q
  refine am_iconst (v := (nI 0)) dX11_costOf_0 (by decide) ?_
  refine am_set (am_istore_n dX11_costOf_1 (by decide)) (L1 := [.ref o, .int v1, .int v2, .int (nI 0), .null]) rfl ?_
  refine am_iconst (v := (nI 0)) dX11_costOf_2 (by decide) ?_
  refine am_set (am_istore dX11_costOf_3 (by decide)) (L1 := [.ref o, .int v1, .int v2, .int (nI 0), .int (nI 0)]) rfl ?_
  exact hT
set_option maxRecDepth 20000 in
theorem rX11_costOf_5 {lay : List am_L} {d : Nat} {D : am_D} {Q : Option Value → am_D → Prop} {o : Nat} {v1 : Int32} {v2 : Int32} {v3 : Int32} {v4 : Int32} (ho : isX11 lay o) (hT : (∃ x1, am_MetP lay d mX11_n [.ref o] D x1 ∧
 ((x1 ≤ v4 → Q (some (.int v3)) D) ∧
 (¬ (x1 ≤ v4) → (∃ x2, am_MetP lay d mX11_has [.int v2, .int v4] D x2 ∧
 ((x2 = nI 0 → am_AW lay (d + 1) mX11_costOf 5 [.ref o, .int v1, .int v2, .int (v3 + (nI 0)), .int (v4 + (nI 1))] [] D Q) ∧
 (¬ (x2 = nI 0) → (∃ x3, am_MetP lay d mX11_beats1 [.ref o, .int v4, .int v1] D x3 ∧
 ((x3 = nI 0 → am_AW lay (d + 1) mX11_costOf 5 [.ref o, .int v1, .int v2, .int (v3 + (nI 0)), .int (v4 + (nI 1))] [] D Q) ∧
 (¬ (x3 = nI 0) → (∃ x4, am_MetP lay d mX11_at [.int v4, .int v1] D x4 ∧
 (vp_in x4 111 ∧ am_AW lay (d + 1) mX11_costOf 5 [.ref o, .int v1, .int v2, .int (v3 + (D (o + 1) (Int32.toNatClampNeg x4))), .int (v4 + (nI 1))] [] D Q)))))))))))) : am_AW lay (d + 1) mX11_costOf 5 [.ref o, .int v1, .int v2, .int v3, .int v4] [] D Q := by
  refine am_iload (x := v4) dX11_costOf_5 rfl ?_
  refine am_aload_n (x := o) dX11_costOf_7 rfl ?_
  obtain ⟨x1, hm, hT⟩ := hT
  refine am_callV (av := []) (st := [.int v4]) (b := o) cw_X11_n cl_X11_92 ck_X11_n cs_X11_n ho.1 rfl rfl (Nat.le_of_ble_eq_true rfl) dX11_costOf_8 hm (fun r D9 hr => ?_)
  obtain ⟨rfl, e9⟩ := hr
  rw [e9]
  clear e9
  refine am_icmp_ge (tgt := 57) dX11_costOf_11 (by decide) (fun h => ?_) (fun h => ?_)
  · replace hT := hT.1 h
    refine am_iload_n (x := v3) dX11_costOf_57 rfl ?_
    exact am_ireturn (ty := .int) dX11_costOf_58 rfl rfl hT
  · replace hT := hT.2 h
    refine am_iload_n (x := v3) dX11_costOf_14 rfl ?_
    refine am_iload_n (x := v2) dX11_costOf_15 rfl ?_
    refine am_iload (x := v4) dX11_costOf_16 rfl ?_
    obtain ⟨x2, hm, hT⟩ := hT
    refine am_callS (av := [.int v2, .int v4]) (st := [.int v3]) cw_X11_has cl_X11_49 ck_X11_has (Nat.le_of_ble_eq_true rfl) dX11_costOf_18 hm (fun r D9 hr => ?_)
    obtain ⟨rfl, e9⟩ := hr
    rw [e9]
    clear e9
    refine am_if_eq (tgt := 48) dX11_costOf_21 (by decide) (fun h => ?_) (fun h => ?_)
    · replace hT := hT.1 h
      refine am_iconst (v := (nI 0)) dX11_costOf_48 (by decide) ?_
      refine am_iadd dX11_costOf_49 ?_
      refine am_set (am_istore_n dX11_costOf_50 (by decide)) (L1 := [.ref o, .int v1, .int v2, .int (v3 + (nI 0)), .int v4]) rfl ?_
      refine am_set (am_iinc (x := v4) (c0 := (nI 1)) dX11_costOf_51 (by decide) rfl (by decide)) (L1 := [.ref o, .int v1, .int v2, .int (v3 + (nI 0)), .int (v4 + (nI 1))]) rfl ?_
      refine am_goto (tgt := 5) dX11_costOf_54 (by decide) ?_
      exact hT
    · replace hT := hT.2 h
      refine am_aload_n (x := o) dX11_costOf_24 rfl ?_
      refine am_iload (x := v4) dX11_costOf_25 rfl ?_
      refine am_iload_n (x := v1) dX11_costOf_27 rfl ?_
      obtain ⟨x3, hm, hT⟩ := hT
      refine am_callV (av := [.int v4, .int v1]) (st := [.int v3]) (b := o) cw_X11_beats1 cl_X11_69 ck_X11_beats1 cs_X11_beats1 ho.1 rfl rfl (Nat.le_of_ble_eq_true rfl) dX11_costOf_28 hm (fun r D9 hr => ?_)
      obtain ⟨rfl, e9⟩ := hr
      rw [e9]
      clear e9
      refine am_if_eq (tgt := 48) dX11_costOf_31 (by decide) (fun h => ?_) (fun h => ?_)
      · replace hT := hT.1 h
        refine am_iconst (v := (nI 0)) dX11_costOf_48 (by decide) ?_
        refine am_iadd dX11_costOf_49 ?_
        refine am_set (am_istore_n dX11_costOf_50 (by decide)) (L1 := [.ref o, .int v1, .int v2, .int (v3 + (nI 0)), .int v4]) rfl ?_
        refine am_set (am_iinc (x := v4) (c0 := (nI 1)) dX11_costOf_51 (by decide) rfl (by decide)) (L1 := [.ref o, .int v1, .int v2, .int (v3 + (nI 0)), .int (v4 + (nI 1))]) rfl ?_
        refine am_goto (tgt := 5) dX11_costOf_54 (by decide) ?_
        exact hT
      · replace hT := hT.2 h
        refine am_aload_n (x := o) dX11_costOf_34 rfl ?_
        refine am_getR dX11_costOf_35 fw_X11_7 ho.1 rfl ?_
        refine am_iload (x := v4) dX11_costOf_38 rfl ?_
        refine am_iload_n (x := v1) dX11_costOf_40 rfl ?_
        obtain ⟨x4, hm, hT⟩ := hT
        refine am_callS (av := [.int v4, .int v1]) (st := [.ref (o + 1), .int v3]) cw_X11_at cl_X11_61 ck_X11_at (Nat.le_of_ble_eq_true rfl) dX11_costOf_41 hm (fun r D9 hr => ?_)
        obtain ⟨rfl, e9⟩ := hr
        rw [e9]
        clear e9
        refine am_iald dX11_costOf_44 ho.2.1 hT.1 ?_
        replace hT := hT.2
        refine am_goto (tgt := 49) dX11_costOf_45 (by decide) ?_
        refine am_iadd dX11_costOf_49 ?_
        refine am_set (am_istore_n dX11_costOf_50 (by decide)) (L1 := [.ref o, .int v1, .int v2, .int (v3 + (D (o + 1) (Int32.toNatClampNeg x4))), .int v4]) rfl ?_
        refine am_set (am_iinc (x := v4) (c0 := (nI 1)) dX11_costOf_51 (by decide) rfl (by decide)) (L1 := [.ref o, .int v1, .int v2, .int (v3 + (D (o + 1) (Int32.toNatClampNeg x4))), .int (v4 + (nI 1))]) rfl ?_
        refine am_goto (tgt := 5) dX11_costOf_54 (by decide) ?_
        exact hT
set_option maxRecDepth 20000 in
theorem eX11_orders {lay : List am_L} {d : Nat} {D : am_D} {Q : Option Value → am_D → Prop} {o : Nat} (ho : isX11 lay o) (hT : (vp_in (nI 0) 1024 ∧ ∀ D1, D1 = am_up D (o + 7) (Int32.toNatClampNeg (nI 0)) (nI 0) →
 am_AW lay (d + 1) mX11_orders 9 [.ref o, .int (nI 1), .null, .null, .null, .null] [] D1 Q)) : am_Met lay (d + 1) mX11_orders [.ref o] D Q := by
  refine am_enter (by decide +kernel) rfl (Nat.le_of_ble_eq_true rfl) ?_
  show am_AW lay (d + 1) mX11_orders 0 [.ref o, .null, .null, .null, .null, .null] [] D Q
  refine am_aload_n (x := o) dX11_orders_0 rfl ?_
  refine am_getR dX11_orders_1 fw_X11_28 ho.1 rfl ?_
  refine am_iconst (v := (nI 0)) dX11_orders_4 (by decide) ?_
  refine am_iconst (v := (nI 0)) dX11_orders_5 (by decide) ?_
  refine am_iast dX11_orders_6 ho.2.2.2.2.2.2.2.1 hT.1 ?_
  obtain ⟨D1, hD⟩ : ∃ z, z = am_up D (o + 7) (Int32.toNatClampNeg (nI 0)) (nI 0) := ⟨_, rfl⟩
  rw [← hD]
  replace hT := hT.2 D1 hD
  clear hD
  refine am_iconst (v := (nI 1)) dX11_orders_7 (by decide) ?_
  refine am_set (am_istore_n dX11_orders_8 (by decide)) (L1 := [.ref o, .int (nI 1), .null, .null, .null, .null]) rfl ?_
  exact hT
set_option maxRecDepth 20000 in
theorem rX11_orders_9 {lay : List am_L} {d : Nat} {D : am_D} {Q : Option Value → am_D → Prop} {o : Nat} {v1 : Int32} (ho : isX11 lay o) (hT : (∃ x1, am_MetP lay d mX11_all [.ref o] D x1 ∧
 ((x1 < v1 → Q none D) ∧
 (¬ (x1 < v1) → am_AW lay (d + 1) mX11_orders 21 [.ref o, .int v1, .int (-1), .int (nI 0), .null, .null] [] D Q)))) : am_AW lay (d + 1) mX11_orders 9 [.ref o, .int v1, .null, .null, .null, .null] [] D Q := by
  refine am_iload_n (x := v1) dX11_orders_9 rfl ?_
  refine am_aload_n (x := o) dX11_orders_10 rfl ?_
  obtain ⟨x1, hm, hT⟩ := hT
  refine am_callV (av := []) (st := [.int v1]) (b := o) cw_X11_all cl_X11_111 ck_X11_all cs_X11_all ho.1 rfl rfl (Nat.le_of_ble_eq_true rfl) dX11_orders_11 hm (fun r D9 hr => ?_)
  obtain ⟨rfl, e9⟩ := hr
  rw [e9]
  clear e9
  refine am_icmp_gt (tgt := 108) dX11_orders_14 (by decide) (fun h => ?_) (fun h => ?_)
  · replace hT := hT.1 h
    exact am_return dX11_orders_108 rfl hT
  · replace hT := hT.2 h
    refine am_iconst (v := (-1)) dX11_orders_17 (by decide) ?_
    refine am_set (am_istore_n dX11_orders_18 (by decide)) (L1 := [.ref o, .int v1, .int (-1), .null, .null, .null]) rfl ?_
    refine am_iconst (v := (nI 0)) dX11_orders_19 (by decide) ?_
    refine am_set (am_istore_n dX11_orders_20 (by decide)) (L1 := [.ref o, .int v1, .int (-1), .int (nI 0), .null, .null]) rfl ?_
    exact hT
set_option maxRecDepth 20000 in
theorem rX11_orders_21 {lay : List am_L} {d : Nat} {D : am_D} {Q : Option Value → am_D → Prop} {o : Nat} {v1 : Int32} {v2 : Int32} {v3 : Int32} (ho : isX11 lay o) (hT : (∃ x1, am_MetP lay d mX11_n [.ref o] D x1 ∧
 ((x1 ≤ v3 → (vp_in v1 1024 ∧ ∀ D2, D2 = am_up D (o + 7) (Int32.toNatClampNeg v1) v2 →
 am_AW lay (d + 1) mX11_orders 9 [.ref o, .int (v1 + (nI 1)), .null, .null, .null, .null] [] D2 Q)) ∧
 (¬ (x1 ≤ v3) → (∃ x3, am_MetP lay d mX11_has [.int v1, .int v3] D x3 ∧
 ((x3 = nI 0 → (((-1) < nI 0 → am_AW lay (d + 1) mX11_orders 21 [.ref o, .int v1, .int v2, .int (v3 + (nI 1)), .null, .null] [] D Q) ∧
 (¬ ((-1) < nI 0) → ((v2 < nI 0 → am_AW lay (d + 1) mX11_orders 21 [.ref o, .int v1, .int (-1), .int (v3 + (nI 1)), .null, .null] [] D Q) ∧
 (¬ (v2 < nI 0) → ((v2 ≤ (-1) → am_AW lay (d + 1) mX11_orders 21 [.ref o, .int v1, .int v2, .int (v3 + (nI 1)), .null, .null] [] D Q) ∧
 (¬ (v2 ≤ (-1)) → am_AW lay (d + 1) mX11_orders 21 [.ref o, .int v1, .int (-1), .int (v3 + (nI 1)), .null, .null] [] D Q))))))) ∧
 (¬ (x3 = nI 0) → (∃ x4, am_MetP lay d mX11_costOf [.ref o, .int v3, .int (v1 &&& (((nI 1) <<< (v3 &&& 31)) ^^^ (-1)))] D x4 ∧
 (vp_in (v1 &&& (((nI 1) <<< (v3 &&& 31)) ^^^ (-1))) 1024 ∧ (((x4 + (D (o + 7) (Int32.toNatClampNeg (v1 &&& (((nI 1) <<< (v3 &&& 31)) ^^^ (-1)))))) < nI 0 → am_AW lay (d + 1) mX11_orders 21 [.ref o, .int v1, .int v2, .int (v3 + (nI 1)), .null, .null] [] D Q) ∧
 (¬ ((x4 + (D (o + 7) (Int32.toNatClampNeg (v1 &&& (((nI 1) <<< (v3 &&& 31)) ^^^ (-1)))))) < nI 0) → ((v2 < nI 0 → am_AW lay (d + 1) mX11_orders 21 [.ref o, .int v1, .int (x4 + (D (o + 7) (Int32.toNatClampNeg (v1 &&& (((nI 1) <<< (v3 &&& 31)) ^^^ (-1)))))), .int (v3 + (nI 1)), .null, .null] [] D Q) ∧
 (¬ (v2 < nI 0) → ((v2 ≤ (x4 + (D (o + 7) (Int32.toNatClampNeg (v1 &&& (((nI 1) <<< (v3 &&& 31)) ^^^ (-1)))))) → am_AW lay (d + 1) mX11_orders 21 [.ref o, .int v1, .int v2, .int (v3 + (nI 1)), .null, .null] [] D Q) ∧
 (¬ (v2 ≤ (x4 + (D (o + 7) (Int32.toNatClampNeg (v1 &&& (((nI 1) <<< (v3 &&& 31)) ^^^ (-1))))))) → am_AW lay (d + 1) mX11_orders 21 [.ref o, .int v1, .int (x4 + (D (o + 7) (Int32.toNatClampNeg (v1 &&& (((nI 1) <<< (v3 &&& 31)) ^^^ (-1)))))), .int (v3 + (nI 1)), .null, .null] [] D Q))))))))))))))) : am_AW lay (d + 1) mX11_orders 21 [.ref o, .int v1, .int v2, .int v3, .null, .null] [] D Q := by
  refine am_iload_n (x := v3) dX11_orders_21 rfl ?_
  refine am_aload_n (x := o) dX11_orders_22 rfl ?_
  obtain ⟨x1, hm, hT⟩ := hT
  refine am_callV (av := []) (st := [.int v3]) (b := o) cw_X11_n cl_X11_92 ck_X11_n cs_X11_n ho.1 rfl rfl (Nat.le_of_ble_eq_true rfl) dX11_orders_23 hm (fun r D9 hr => ?_)
  obtain ⟨rfl, e9⟩ := hr
  rw [e9]
  clear e9
  refine am_icmp_ge (tgt := 95) dX11_orders_26 (by decide) (fun h => ?_) (fun h => ?_)
  · replace hT := hT.1 h
    refine am_aload_n (x := o) dX11_orders_95 rfl ?_
    refine am_getR dX11_orders_96 fw_X11_28 ho.1 rfl ?_
    refine am_iload_n (x := v1) dX11_orders_99 rfl ?_
    refine am_iload_n (x := v2) dX11_orders_100 rfl ?_
    refine am_iast dX11_orders_101 ho.2.2.2.2.2.2.2.1 hT.1 ?_
    obtain ⟨D2, hD⟩ : ∃ z, z = am_up D (o + 7) (Int32.toNatClampNeg v1) v2 := ⟨_, rfl⟩
    rw [← hD]
    replace hT := hT.2 D2 hD
    clear hD
    refine am_set (am_iinc (x := v1) (c0 := (nI 1)) dX11_orders_102 (by decide) rfl (by decide)) (L1 := [.ref o, .int (v1 + (nI 1)), .int v2, .int v3, .null, .null]) rfl ?_
    refine am_goto (tgt := 9) dX11_orders_105 (by decide) ?_
    refine am_drop [2, 3] (L1 := [.ref o, .int (v1 + (nI 1)), .null, .null, .null, .null]) rfl ?_
    exact hT
  · replace hT := hT.2 h
    refine am_iload_n (x := v1) dX11_orders_29 rfl ?_
    refine am_iconst (v := (nI 1)) dX11_orders_30 (by decide) ?_
    refine am_iload_n (x := v3) dX11_orders_31 rfl ?_
    refine am_ishl dX11_orders_32 ?_
    refine am_iconst (v := (-1)) dX11_orders_33 (by decide) ?_
    refine am_ixor dX11_orders_34 ?_
    refine am_iand dX11_orders_35 ?_
    refine am_set (am_istore dX11_orders_36 (by decide)) (L1 := [.ref o, .int v1, .int v2, .int v3, .int (v1 &&& (((nI 1) <<< (v3 &&& 31)) ^^^ (-1))), .null]) rfl ?_
    refine am_iload_n (x := v1) dX11_orders_38 rfl ?_
    refine am_iload_n (x := v3) dX11_orders_39 rfl ?_
    obtain ⟨x3, hm, hT⟩ := hT
    refine am_callS (av := [.int v1, .int v3]) (st := []) cw_X11_has cl_X11_49 ck_X11_has (Nat.le_of_ble_eq_true rfl) dX11_orders_40 hm (fun r D9 hr => ?_)
    obtain ⟨rfl, e9⟩ := hr
    rw [e9]
    clear e9
    refine am_if_eq (tgt := 64) dX11_orders_43 (by decide) (fun h => ?_) (fun h => ?_)
    · replace hT := hT.1 h
      refine am_iconst (v := (-1)) dX11_orders_64 (by decide) ?_
      refine am_set (am_istore dX11_orders_65 (by decide)) (L1 := [.ref o, .int v1, .int v2, .int v3, .int (v1 &&& (((nI 1) <<< (v3 &&& 31)) ^^^ (-1))), .int (-1)]) rfl ?_
      refine am_iload (x := (-1)) dX11_orders_67 rfl ?_
      refine am_if_lt (tgt := 87) dX11_orders_69 (by decide) (fun h => ?_) (fun h => ?_)
      · replace hT := hT.1 h
        refine am_iload_n (x := v2) dX11_orders_87 rfl ?_
        refine am_set (am_istore_n dX11_orders_88 (by decide)) (L1 := [.ref o, .int v1, .int v2, .int v3, .int (v1 &&& (((nI 1) <<< (v3 &&& 31)) ^^^ (-1))), .int (-1)]) rfl ?_
        refine am_set (am_iinc (x := v3) (c0 := (nI 1)) dX11_orders_89 (by decide) rfl (by decide)) (L1 := [.ref o, .int v1, .int v2, .int (v3 + (nI 1)), .int (v1 &&& (((nI 1) <<< (v3 &&& 31)) ^^^ (-1))), .int (-1)]) rfl ?_
        refine am_goto (tgt := 21) dX11_orders_92 (by decide) ?_
        refine am_drop [4, 5] (L1 := [.ref o, .int v1, .int v2, .int (v3 + (nI 1)), .null, .null]) rfl ?_
        exact hT
      · replace hT := hT.2 h
        refine am_iload_n (x := v2) dX11_orders_72 rfl ?_
        refine am_if_lt (tgt := 82) dX11_orders_73 (by decide) (fun h => ?_) (fun h => ?_)
        · replace hT := hT.1 h
          refine am_iload (x := (-1)) dX11_orders_82 rfl ?_
          refine am_goto (tgt := 88) dX11_orders_84 (by decide) ?_
          refine am_set (am_istore_n dX11_orders_88 (by decide)) (L1 := [.ref o, .int v1, .int (-1), .int v3, .int (v1 &&& (((nI 1) <<< (v3 &&& 31)) ^^^ (-1))), .int (-1)]) rfl ?_
          refine am_set (am_iinc (x := v3) (c0 := (nI 1)) dX11_orders_89 (by decide) rfl (by decide)) (L1 := [.ref o, .int v1, .int (-1), .int (v3 + (nI 1)), .int (v1 &&& (((nI 1) <<< (v3 &&& 31)) ^^^ (-1))), .int (-1)]) rfl ?_
          refine am_goto (tgt := 21) dX11_orders_92 (by decide) ?_
          refine am_drop [4, 5] (L1 := [.ref o, .int v1, .int (-1), .int (v3 + (nI 1)), .null, .null]) rfl ?_
          exact hT
        · replace hT := hT.2 h
          refine am_iload (x := (-1)) dX11_orders_76 rfl ?_
          refine am_iload_n (x := v2) dX11_orders_78 rfl ?_
          refine am_icmp_ge (tgt := 87) dX11_orders_79 (by decide) (fun h => ?_) (fun h => ?_)
          · replace hT := hT.1 h
            refine am_iload_n (x := v2) dX11_orders_87 rfl ?_
            refine am_set (am_istore_n dX11_orders_88 (by decide)) (L1 := [.ref o, .int v1, .int v2, .int v3, .int (v1 &&& (((nI 1) <<< (v3 &&& 31)) ^^^ (-1))), .int (-1)]) rfl ?_
            refine am_set (am_iinc (x := v3) (c0 := (nI 1)) dX11_orders_89 (by decide) rfl (by decide)) (L1 := [.ref o, .int v1, .int v2, .int (v3 + (nI 1)), .int (v1 &&& (((nI 1) <<< (v3 &&& 31)) ^^^ (-1))), .int (-1)]) rfl ?_
            refine am_goto (tgt := 21) dX11_orders_92 (by decide) ?_
            refine am_drop [4, 5] (L1 := [.ref o, .int v1, .int v2, .int (v3 + (nI 1)), .null, .null]) rfl ?_
            exact hT
          · replace hT := hT.2 h
            refine am_iload (x := (-1)) dX11_orders_82 rfl ?_
            refine am_goto (tgt := 88) dX11_orders_84 (by decide) ?_
            refine am_set (am_istore_n dX11_orders_88 (by decide)) (L1 := [.ref o, .int v1, .int (-1), .int v3, .int (v1 &&& (((nI 1) <<< (v3 &&& 31)) ^^^ (-1))), .int (-1)]) rfl ?_
            refine am_set (am_iinc (x := v3) (c0 := (nI 1)) dX11_orders_89 (by decide) rfl (by decide)) (L1 := [.ref o, .int v1, .int (-1), .int (v3 + (nI 1)), .int (v1 &&& (((nI 1) <<< (v3 &&& 31)) ^^^ (-1))), .int (-1)]) rfl ?_
            refine am_goto (tgt := 21) dX11_orders_92 (by decide) ?_
            refine am_drop [4, 5] (L1 := [.ref o, .int v1, .int (-1), .int (v3 + (nI 1)), .null, .null]) rfl ?_
            exact hT
    · replace hT := hT.2 h
      refine am_aload_n (x := o) dX11_orders_46 rfl ?_
      refine am_iload_n (x := v3) dX11_orders_47 rfl ?_
      refine am_iload (x := (v1 &&& (((nI 1) <<< (v3 &&& 31)) ^^^ (-1)))) dX11_orders_48 rfl ?_
      obtain ⟨x4, hm, hT⟩ := hT
      refine am_callV (av := [.int v3, .int (v1 &&& (((nI 1) <<< (v3 &&& 31)) ^^^ (-1)))]) (st := []) (b := o) cw_X11_costOf cl_X11_138 ck_X11_costOf cs_X11_costOf ho.1 rfl rfl (Nat.le_of_ble_eq_true rfl) dX11_orders_50 hm (fun r D9 hr => ?_)
      obtain ⟨rfl, e9⟩ := hr
      rw [e9]
      clear e9
      refine am_aload_n (x := o) dX11_orders_53 rfl ?_
      refine am_getR dX11_orders_54 fw_X11_28 ho.1 rfl ?_
      refine am_iload (x := (v1 &&& (((nI 1) <<< (v3 &&& 31)) ^^^ (-1)))) dX11_orders_57 rfl ?_
      refine am_iald dX11_orders_59 ho.2.2.2.2.2.2.2.1 hT.1 ?_
      replace hT := hT.2
      refine am_iadd dX11_orders_60 ?_
      refine am_goto (tgt := 65) dX11_orders_61 (by decide) ?_
      refine am_set (am_istore dX11_orders_65 (by decide)) (L1 := [.ref o, .int v1, .int v2, .int v3, .int (v1 &&& (((nI 1) <<< (v3 &&& 31)) ^^^ (-1))), .int (x4 + (D (o + 7) (Int32.toNatClampNeg (v1 &&& (((nI 1) <<< (v3 &&& 31)) ^^^ (-1))))))]) rfl ?_
      refine am_iload (x := (x4 + (D (o + 7) (Int32.toNatClampNeg (v1 &&& (((nI 1) <<< (v3 &&& 31)) ^^^ (-1))))))) dX11_orders_67 rfl ?_
      refine am_if_lt (tgt := 87) dX11_orders_69 (by decide) (fun h => ?_) (fun h => ?_)
      · replace hT := hT.1 h
        refine am_iload_n (x := v2) dX11_orders_87 rfl ?_
        refine am_set (am_istore_n dX11_orders_88 (by decide)) (L1 := [.ref o, .int v1, .int v2, .int v3, .int (v1 &&& (((nI 1) <<< (v3 &&& 31)) ^^^ (-1))), .int (x4 + (D (o + 7) (Int32.toNatClampNeg (v1 &&& (((nI 1) <<< (v3 &&& 31)) ^^^ (-1))))))]) rfl ?_
        refine am_set (am_iinc (x := v3) (c0 := (nI 1)) dX11_orders_89 (by decide) rfl (by decide)) (L1 := [.ref o, .int v1, .int v2, .int (v3 + (nI 1)), .int (v1 &&& (((nI 1) <<< (v3 &&& 31)) ^^^ (-1))), .int (x4 + (D (o + 7) (Int32.toNatClampNeg (v1 &&& (((nI 1) <<< (v3 &&& 31)) ^^^ (-1))))))]) rfl ?_
        refine am_goto (tgt := 21) dX11_orders_92 (by decide) ?_
        refine am_drop [4, 5] (L1 := [.ref o, .int v1, .int v2, .int (v3 + (nI 1)), .null, .null]) rfl ?_
        exact hT
      · replace hT := hT.2 h
        refine am_iload_n (x := v2) dX11_orders_72 rfl ?_
        refine am_if_lt (tgt := 82) dX11_orders_73 (by decide) (fun h => ?_) (fun h => ?_)
        · replace hT := hT.1 h
          refine am_iload (x := (x4 + (D (o + 7) (Int32.toNatClampNeg (v1 &&& (((nI 1) <<< (v3 &&& 31)) ^^^ (-1))))))) dX11_orders_82 rfl ?_
          refine am_goto (tgt := 88) dX11_orders_84 (by decide) ?_
          refine am_set (am_istore_n dX11_orders_88 (by decide)) (L1 := [.ref o, .int v1, .int (x4 + (D (o + 7) (Int32.toNatClampNeg (v1 &&& (((nI 1) <<< (v3 &&& 31)) ^^^ (-1)))))), .int v3, .int (v1 &&& (((nI 1) <<< (v3 &&& 31)) ^^^ (-1))), .int (x4 + (D (o + 7) (Int32.toNatClampNeg (v1 &&& (((nI 1) <<< (v3 &&& 31)) ^^^ (-1))))))]) rfl ?_
          refine am_set (am_iinc (x := v3) (c0 := (nI 1)) dX11_orders_89 (by decide) rfl (by decide)) (L1 := [.ref o, .int v1, .int (x4 + (D (o + 7) (Int32.toNatClampNeg (v1 &&& (((nI 1) <<< (v3 &&& 31)) ^^^ (-1)))))), .int (v3 + (nI 1)), .int (v1 &&& (((nI 1) <<< (v3 &&& 31)) ^^^ (-1))), .int (x4 + (D (o + 7) (Int32.toNatClampNeg (v1 &&& (((nI 1) <<< (v3 &&& 31)) ^^^ (-1))))))]) rfl ?_
          refine am_goto (tgt := 21) dX11_orders_92 (by decide) ?_
          refine am_drop [4, 5] (L1 := [.ref o, .int v1, .int (x4 + (D (o + 7) (Int32.toNatClampNeg (v1 &&& (((nI 1) <<< (v3 &&& 31)) ^^^ (-1)))))), .int (v3 + (nI 1)), .null, .null]) rfl ?_
          exact hT
        · replace hT := hT.2 h
          refine am_iload (x := (x4 + (D (o + 7) (Int32.toNatClampNeg (v1 &&& (((nI 1) <<< (v3 &&& 31)) ^^^ (-1))))))) dX11_orders_76 rfl ?_
          refine am_iload_n (x := v2) dX11_orders_78 rfl ?_
          refine am_icmp_ge (tgt := 87) dX11_orders_79 (by decide) (fun h => ?_) (fun h => ?_)
          · replace hT := hT.1 h
            refine am_iload_n (x := v2) dX11_orders_87 rfl ?_
            refine am_set (am_istore_n dX11_orders_88 (by decide)) (L1 := [.ref o, .int v1, .int v2, .int v3, .int (v1 &&& (((nI 1) <<< (v3 &&& 31)) ^^^ (-1))), .int (x4 + (D (o + 7) (Int32.toNatClampNeg (v1 &&& (((nI 1) <<< (v3 &&& 31)) ^^^ (-1))))))]) rfl ?_
            refine am_set (am_iinc (x := v3) (c0 := (nI 1)) dX11_orders_89 (by decide) rfl (by decide)) (L1 := [.ref o, .int v1, .int v2, .int (v3 + (nI 1)), .int (v1 &&& (((nI 1) <<< (v3 &&& 31)) ^^^ (-1))), .int (x4 + (D (o + 7) (Int32.toNatClampNeg (v1 &&& (((nI 1) <<< (v3 &&& 31)) ^^^ (-1))))))]) rfl ?_
            refine am_goto (tgt := 21) dX11_orders_92 (by decide) ?_
            refine am_drop [4, 5] (L1 := [.ref o, .int v1, .int v2, .int (v3 + (nI 1)), .null, .null]) rfl ?_
            exact hT
          · replace hT := hT.2 h
            refine am_iload (x := (x4 + (D (o + 7) (Int32.toNatClampNeg (v1 &&& (((nI 1) <<< (v3 &&& 31)) ^^^ (-1))))))) dX11_orders_82 rfl ?_
            refine am_goto (tgt := 88) dX11_orders_84 (by decide) ?_
            refine am_set (am_istore_n dX11_orders_88 (by decide)) (L1 := [.ref o, .int v1, .int (x4 + (D (o + 7) (Int32.toNatClampNeg (v1 &&& (((nI 1) <<< (v3 &&& 31)) ^^^ (-1)))))), .int v3, .int (v1 &&& (((nI 1) <<< (v3 &&& 31)) ^^^ (-1))), .int (x4 + (D (o + 7) (Int32.toNatClampNeg (v1 &&& (((nI 1) <<< (v3 &&& 31)) ^^^ (-1))))))]) rfl ?_
            refine am_set (am_iinc (x := v3) (c0 := (nI 1)) dX11_orders_89 (by decide) rfl (by decide)) (L1 := [.ref o, .int v1, .int (x4 + (D (o + 7) (Int32.toNatClampNeg (v1 &&& (((nI 1) <<< (v3 &&& 31)) ^^^ (-1)))))), .int (v3 + (nI 1)), .int (v1 &&& (((nI 1) <<< (v3 &&& 31)) ^^^ (-1))), .int (x4 + (D (o + 7) (Int32.toNatClampNeg (v1 &&& (((nI 1) <<< (v3 &&& 31)) ^^^ (-1))))))]) rfl ?_
            refine am_goto (tgt := 21) dX11_orders_92 (by decide) ?_
            refine am_drop [4, 5] (L1 := [.ref o, .int v1, .int (x4 + (D (o + 7) (Int32.toNatClampNeg (v1 &&& (((nI 1) <<< (v3 &&& 31)) ^^^ (-1)))))), .int (v3 + (nI 1)), .null, .null]) rfl ?_
            exact hT
set_option maxRecDepth 20000 in
theorem eX11_isBest {lay : List am_L} {d : Nat} {D : am_D} {Q : Option Value → am_D → Prop} {o : Nat} {v1 : Int32} {v2 : Int32} (ho : isX11 lay o) (hT : (∃ x1, am_MetP lay d mX11_has [.int v2, .int v1] D x1 ∧
 ((x1 = nI 0 → Q (some (.int (nI 0))) D) ∧
 (¬ (x1 = nI 0) → (∃ x2, am_MetP lay d mX11_costOf [.ref o, .int v1, .int (v2 &&& (((nI 1) <<< (v1 &&& 31)) ^^^ (-1)))] D x2 ∧
 (vp_in (v2 &&& (((nI 1) <<< (v1 &&& 31)) ^^^ (-1))) 1024 ∧ (vp_in v2 1024 ∧ ((¬ (x2 + (D (o + 7) (Int32.toNatClampNeg (v2 &&& (((nI 1) <<< (v1 &&& 31)) ^^^ (-1)))))) = (D (o + 7) (Int32.toNatClampNeg v2)) → Q (some (.int (nI 0))) D) ∧
 (¬ (¬ (x2 + (D (o + 7) (Int32.toNatClampNeg (v2 &&& (((nI 1) <<< (v1 &&& 31)) ^^^ (-1)))))) = (D (o + 7) (Int32.toNatClampNeg v2))) → Q (some (.int (nI 1))) D))))))))) : am_Met lay (d + 1) mX11_isBest [.ref o, .int v1, .int v2] D Q := by
  refine am_enter (by decide +kernel) rfl (Nat.le_of_ble_eq_true rfl) ?_
  show am_AW lay (d + 1) mX11_isBest 0 [.ref o, .int v1, .int v2, .null] [] D Q
  refine am_iload_n (x := v2) dX11_isBest_0 rfl ?_
  refine am_iconst (v := (nI 1)) dX11_isBest_1 (by decide) ?_
  refine am_iload_n (x := v1) dX11_isBest_2 rfl ?_
  refine am_ishl dX11_isBest_3 ?_
  refine am_iconst (v := (-1)) dX11_isBest_4 (by decide) ?_
  refine am_ixor dX11_isBest_5 ?_
  refine am_iand dX11_isBest_6 ?_
  refine am_set (am_istore_n dX11_isBest_7 (by decide)) (L1 := [.ref o, .int v1, .int v2, .int (v2 &&& (((nI 1) <<< (v1 &&& 31)) ^^^ (-1)))]) rfl ?_
  refine am_iload_n (x := v2) dX11_isBest_8 rfl ?_
  refine am_iload_n (x := v1) dX11_isBest_9 rfl ?_
  obtain ⟨x1, hm, hT⟩ := hT
  refine am_callS (av := [.int v2, .int v1]) (st := []) cw_X11_has cl_X11_49 ck_X11_has (Nat.le_of_ble_eq_true rfl) dX11_isBest_10 hm (fun r D9 hr => ?_)
  obtain ⟨rfl, e9⟩ := hr
  rw [e9]
  clear e9
  refine am_if_eq (tgt := 42) dX11_isBest_13 (by decide) (fun h => ?_) (fun h => ?_)
  · replace hT := hT.1 h
    refine am_iconst (v := (nI 0)) dX11_isBest_42 (by decide) ?_
    exact am_ireturn (ty := .boolean) dX11_isBest_43 rfl (by decide) hT
  · replace hT := hT.2 h
    refine am_aload_n (x := o) dX11_isBest_16 rfl ?_
    refine am_iload_n (x := v1) dX11_isBest_17 rfl ?_
    refine am_iload_n (x := (v2 &&& (((nI 1) <<< (v1 &&& 31)) ^^^ (-1)))) dX11_isBest_18 rfl ?_
    obtain ⟨x2, hm, hT⟩ := hT
    refine am_callV (av := [.int v1, .int (v2 &&& (((nI 1) <<< (v1 &&& 31)) ^^^ (-1)))]) (st := []) (b := o) cw_X11_costOf cl_X11_138 ck_X11_costOf cs_X11_costOf ho.1 rfl rfl (Nat.le_of_ble_eq_true rfl) dX11_isBest_19 hm (fun r D9 hr => ?_)
    obtain ⟨rfl, e9⟩ := hr
    rw [e9]
    clear e9
    refine am_aload_n (x := o) dX11_isBest_22 rfl ?_
    refine am_getR dX11_isBest_23 fw_X11_28 ho.1 rfl ?_
    refine am_iload_n (x := (v2 &&& (((nI 1) <<< (v1 &&& 31)) ^^^ (-1)))) dX11_isBest_26 rfl ?_
    refine am_iald dX11_isBest_27 ho.2.2.2.2.2.2.2.1 hT.1 ?_
    replace hT := hT.2
    refine am_iadd dX11_isBest_28 ?_
    refine am_aload_n (x := o) dX11_isBest_29 rfl ?_
    refine am_getR dX11_isBest_30 fw_X11_28 ho.1 rfl ?_
    refine am_iload_n (x := v2) dX11_isBest_33 rfl ?_
    refine am_iald dX11_isBest_34 ho.2.2.2.2.2.2.2.1 hT.1 ?_
    replace hT := hT.2
    refine am_icmp_ne (tgt := 42) dX11_isBest_35 (by decide) (fun h => ?_) (fun h => ?_)
    · replace hT := hT.1 h
      refine am_iconst (v := (nI 0)) dX11_isBest_42 (by decide) ?_
      exact am_ireturn (ty := .boolean) dX11_isBest_43 rfl (by decide) hT
    · replace hT := hT.2 h
      refine am_iconst (v := (nI 1)) dX11_isBest_38 (by decide) ?_
      refine am_goto (tgt := 43) dX11_isBest_39 (by decide) ?_
      exact am_ireturn (ty := .boolean) dX11_isBest_43 rfl (by decide) hT
set_option maxRecDepth 20000 in
theorem eX11_leastCost {lay : List am_L} {d : Nat} {D : am_D} {Q : Option Value → am_D → Prop} {o : Nat} (ho : isX11 lay o) (hT : (∃ D1, am_MetV lay d mX11_orders [.ref o] D D1 ∧
 (∃ x2, am_MetP lay d mX11_all [.ref o] D1 x2 ∧
 (vp_in x2 1024 ∧ Q (some (.int (D1 (o + 7) (Int32.toNatClampNeg x2)))) D1)))) : am_Met lay (d + 1) mX11_leastCost [.ref o] D Q := by
  refine am_enter (by decide +kernel) rfl (Nat.le_of_ble_eq_true rfl) ?_
  show am_AW lay (d + 1) mX11_leastCost 0 [.ref o] [] D Q
  refine am_aload_n (x := o) dX11_leastCost_0 rfl ?_
  obtain ⟨D1, hm, hT⟩ := hT
  refine am_callV (av := []) (st := []) (b := o) cw_X11_orders cl_X11_141 ck_X11_orders cs_X11_orders ho.1 rfl rfl (Nat.le_of_ble_eq_true rfl) dX11_leastCost_1 hm (fun r D9 hr => ?_)
  obtain ⟨rfl, e9⟩ := hr
  rw [e9]
  clear e9
  refine am_aload_n (x := o) dX11_leastCost_4 rfl ?_
  refine am_getR dX11_leastCost_5 fw_X11_28 ho.1 rfl ?_
  refine am_aload_n (x := o) dX11_leastCost_8 rfl ?_
  obtain ⟨x2, hm, hT⟩ := hT
  refine am_callV (av := []) (st := [.ref (o + 7)]) (b := o) cw_X11_all cl_X11_111 ck_X11_all cs_X11_all ho.1 rfl rfl (Nat.le_of_ble_eq_true rfl) dX11_leastCost_9 hm (fun r D9 hr => ?_)
  obtain ⟨rfl, e9⟩ := hr
  rw [e9]
  clear e9
  refine am_iald dX11_leastCost_12 ho.2.2.2.2.2.2.2.1 hT.1 ?_
  replace hT := hT.2
  exact am_ireturn (ty := .int) dX11_leastCost_13 rfl rfl hT
set_option maxRecDepth 20000 in
theorem eX11_orderAt {lay : List am_L} {d : Nat} {D : am_D} {Q : Option Value → am_D → Prop} {o : Nat} {v1 : Int32} (ho : isX11 lay o) (hT : (∃ x1, am_MetP lay d mX11_isPlayer [.ref o, .int v1] D x1 ∧
 ((¬ x1 = nI 0 → (∃ D2, am_MetV lay d mX11_orders [.ref o] D D2 ∧
 (∃ x3, am_MetP lay d mX11_all [.ref o] D2 x3 ∧
 am_AW lay (d + 1) mX11_orderAt 24 [.ref o, .int v1, .int x3, .int (nI 0), .int (nI 0)] [] D2 Q))) ∧
 (¬ (¬ x1 = nI 0) → Q (some (.int (-1))) D)))) : am_Met lay (d + 1) mX11_orderAt [.ref o, .int v1] D Q := by
  refine am_enter (by decide +kernel) rfl (Nat.le_of_ble_eq_true rfl) ?_
  show am_AW lay (d + 1) mX11_orderAt 0 [.ref o, .int v1, .null, .null, .null] [] D Q
  refine am_aload_n (x := o) dX11_orderAt_0 rfl ?_
  refine am_iload_n (x := v1) dX11_orderAt_1 rfl ?_
  obtain ⟨x1, hm, hT⟩ := hT
  refine am_callV (av := [.int v1]) (st := []) (b := o) cw_X11_isPlayer cl_X11_57 ck_X11_isPlayer cs_X11_isPlayer ho.1 rfl rfl (Nat.le_of_ble_eq_true rfl) dX11_orderAt_2 hm (fun r D9 hr => ?_)
  obtain ⟨rfl, e9⟩ := hr
  rw [e9]
  clear e9
  refine am_if_ne (tgt := 10) dX11_orderAt_5 (by decide) (fun h => ?_) (fun h => ?_)
  · replace hT := hT.1 h
    refine am_aload_n (x := o) dX11_orderAt_10 rfl ?_
    obtain ⟨D2, hm, hT⟩ := hT
    refine am_callV (av := []) (st := []) (b := o) cw_X11_orders cl_X11_141 ck_X11_orders cs_X11_orders ho.1 rfl rfl (Nat.le_of_ble_eq_true rfl) dX11_orderAt_11 hm (fun r D9 hr => ?_)
    obtain ⟨rfl, e9⟩ := hr
    rw [e9]
    clear e9
    refine am_aload_n (x := o) dX11_orderAt_14 rfl ?_
    obtain ⟨x3, hm, hT⟩ := hT
    refine am_callV (av := []) (st := []) (b := o) cw_X11_all cl_X11_111 ck_X11_all cs_X11_all ho.1 rfl rfl (Nat.le_of_ble_eq_true rfl) dX11_orderAt_15 hm (fun r D9 hr => ?_)
    obtain ⟨rfl, e9⟩ := hr
    rw [e9]
    clear e9
    refine am_set (am_istore_n dX11_orderAt_18 (by decide)) (L1 := [.ref o, .int v1, .int x3, .null, .null]) rfl ?_
    refine am_iconst (v := (nI 0)) dX11_orderAt_19 (by decide) ?_
    refine am_set (am_istore_n dX11_orderAt_20 (by decide)) (L1 := [.ref o, .int v1, .int x3, .int (nI 0), .null]) rfl ?_
    refine am_iconst (v := (nI 0)) dX11_orderAt_21 (by decide) ?_
    refine am_set (am_istore dX11_orderAt_22 (by decide)) (L1 := [.ref o, .int v1, .int x3, .int (nI 0), .int (nI 0)]) rfl ?_
    exact hT
  · replace hT := hT.2 h
    refine am_iconst (v := (-1)) dX11_orderAt_8 (by decide) ?_
    exact am_ireturn (ty := .int) dX11_orderAt_9 rfl rfl hT
set_option maxRecDepth 20000 in
theorem rX11_orderAt_24 {lay : List am_L} {d : Nat} {D : am_D} {Q : Option Value → am_D → Prop} {o : Nat} {v1 : Int32} {v2 : Int32} {v3 : Int32} {v4 : Int32} (ho : isX11 lay o) (hT : ((v1 < v4 → Q (some (.int v3)) D) ∧
 (¬ (v1 < v4) → am_AW lay (d + 1) mX11_orderAt 32 [.ref o, .int v1, .int v2, .int (nI 0), .int v4] [] D Q))) : am_AW lay (d + 1) mX11_orderAt 24 [.ref o, .int v1, .int v2, .int v3, .int v4] [] D Q := by
  refine am_iload (x := v4) dX11_orderAt_24 rfl ?_
  refine am_iload_n (x := v1) dX11_orderAt_26 rfl ?_
  refine am_icmp_gt (tgt := 61) dX11_orderAt_27 (by decide) (fun h => ?_) (fun h => ?_)
  · replace hT := hT.1 h
    refine am_iload_n (x := v3) dX11_orderAt_61 rfl ?_
    exact am_ireturn (ty := .int) dX11_orderAt_62 rfl rfl hT
  · replace hT := hT.2 h
    refine am_iconst (v := (nI 0)) dX11_orderAt_30 (by decide) ?_
    refine am_set (am_istore_n dX11_orderAt_31 (by decide)) (L1 := [.ref o, .int v1, .int v2, .int (nI 0), .int v4]) rfl ?_
    exact hT
set_option maxRecDepth 20000 in
theorem rX11_orderAt_32 {lay : List am_L} {d : Nat} {D : am_D} {Q : Option Value → am_D → Prop} {o : Nat} {v1 : Int32} {v2 : Int32} {v3 : Int32} {v4 : Int32} (ho : isX11 lay o) (hT : (∃ x1, am_MetP lay d mX11_isBest [.ref o, .int v3, .int v2] D x1 ∧
 ((¬ x1 = nI 0 → am_AW lay (d + 1) mX11_orderAt 24 [.ref o, .int v1, .int (v2 &&& (((nI 1) <<< (v3 &&& 31)) ^^^ (-1))), .int v3, .int (v4 + (nI 1))] [] D Q) ∧
 (¬ (¬ x1 = nI 0) → am_AW lay (d + 1) mX11_orderAt 32 [.ref o, .int v1, .int v2, .int (v3 + (nI 1)), .int v4] [] D Q)))) : am_AW lay (d + 1) mX11_orderAt 32 [.ref o, .int v1, .int v2, .int v3, .int v4] [] D Q := by
  refine am_aload_n (x := o) dX11_orderAt_32 rfl ?_
  refine am_iload_n (x := v3) dX11_orderAt_33 rfl ?_
  refine am_iload_n (x := v2) dX11_orderAt_34 rfl ?_
  obtain ⟨x1, hm, hT⟩ := hT
  refine am_callV (av := [.int v3, .int v2]) (st := []) (b := o) cw_X11_isBest cl_X11_144 ck_X11_isBest cs_X11_isBest ho.1 rfl rfl (Nat.le_of_ble_eq_true rfl) dX11_orderAt_35 hm (fun r D9 hr => ?_)
  obtain ⟨rfl, e9⟩ := hr
  rw [e9]
  clear e9
  refine am_if_ne (tgt := 47) dX11_orderAt_38 (by decide) (fun h => ?_) (fun h => ?_)
  · replace hT := hT.1 h
    refine am_iload_n (x := v2) dX11_orderAt_47 rfl ?_
    refine am_iconst (v := (nI 1)) dX11_orderAt_48 (by decide) ?_
    refine am_iload_n (x := v3) dX11_orderAt_49 rfl ?_
    refine am_ishl dX11_orderAt_50 ?_
    refine am_iconst (v := (-1)) dX11_orderAt_51 (by decide) ?_
    refine am_ixor dX11_orderAt_52 ?_
    refine am_iand dX11_orderAt_53 ?_
    refine am_set (am_istore_n dX11_orderAt_54 (by decide)) (L1 := [.ref o, .int v1, .int (v2 &&& (((nI 1) <<< (v3 &&& 31)) ^^^ (-1))), .int v3, .int v4]) rfl ?_
    refine am_set (am_iinc (x := v4) (c0 := (nI 1)) dX11_orderAt_55 (by decide) rfl (by decide)) (L1 := [.ref o, .int v1, .int (v2 &&& (((nI 1) <<< (v3 &&& 31)) ^^^ (-1))), .int v3, .int (v4 + (nI 1))]) rfl ?_
    refine am_goto (tgt := 24) dX11_orderAt_58 (by decide) ?_
    exact hT
  · replace hT := hT.2 h
    refine am_set (am_iinc (x := v3) (c0 := (nI 1)) dX11_orderAt_41 (by decide) rfl (by decide)) (L1 := [.ref o, .int v1, .int v2, .int (v3 + (nI 1)), .int v4]) rfl ?_
    refine am_goto (tgt := 32) dX11_orderAt_44 (by decide) ?_
    exact hT
set_option maxRecDepth 20000 in
theorem eX11_isKing {lay : List am_L} {d : Nat} {D : am_D} {Q : Option Value → am_D → Prop} {o : Nat} {v1 : Int32} (ho : isX11 lay o) (hT : (∃ x1, am_MetP lay d mX11_beaten [.ref o, .int v1] D x1 ∧
 am_AW lay (d + 1) mX11_isKing 12 [.ref o, .int v1, .int (((nI 1) <<< (v1 &&& 31)) ||| x1), .int (nI 0)] [] D Q)) : am_Met lay (d + 1) mX11_isKing [.ref o, .int v1] D Q := by
  refine am_enter (by decide +kernel) rfl (Nat.le_of_ble_eq_true rfl) ?_
  show am_AW lay (d + 1) mX11_isKing 0 [.ref o, .int v1, .null, .null] [] D Q
  refine am_iconst (v := (nI 1)) dX11_isKing_0 (by decide) ?_
  refine am_iload_n (x := v1) dX11_isKing_1 rfl ?_
  refine am_ishl dX11_isKing_2 ?_
  refine am_aload_n (x := o) dX11_isKing_3 rfl ?_
  refine am_iload_n (x := v1) dX11_isKing_4 rfl ?_
  obtain ⟨x1, hm, hT⟩ := hT
  refine am_callV (av := [.int v1]) (st := [.int ((nI 1) <<< (v1 &&& 31))]) (b := o) cw_X11_beaten cl_X11_45 ck_X11_beaten cs_X11_beaten ho.1 rfl rfl (Nat.le_of_ble_eq_true rfl) dX11_isKing_5 hm (fun r D9 hr => ?_)
  obtain ⟨rfl, e9⟩ := hr
  rw [e9]
  clear e9
  refine am_ior dX11_isKing_8 ?_
  refine am_set (am_istore_n dX11_isKing_9 (by decide)) (L1 := [.ref o, .int v1, .int (((nI 1) <<< (v1 &&& 31)) ||| x1), .null]) rfl ?_
  refine am_iconst (v := (nI 0)) dX11_isKing_10 (by decide) ?_
  refine am_set (am_istore_n dX11_isKing_11 (by decide)) (L1 := [.ref o, .int v1, .int (((nI 1) <<< (v1 &&& 31)) ||| x1), .int (nI 0)]) rfl ?_
  exact hT
set_option maxRecDepth 20000 in
theorem rX11_isKing_12 {lay : List am_L} {d : Nat} {D : am_D} {Q : Option Value → am_D → Prop} {o : Nat} {v1 : Int32} {v2 : Int32} {v3 : Int32} (ho : isX11 lay o) (hT : (∃ x1, am_MetP lay d mX11_n [.ref o] D x1 ∧
 ((x1 ≤ v3 → (∃ x2, am_MetP lay d mX11_all [.ref o] D x2 ∧
 ((¬ v2 = x2 → Q (some (.int (nI 0))) D) ∧
 (¬ (¬ v2 = x2) → Q (some (.int (nI 1))) D)))) ∧
 (¬ (x1 ≤ v3) → (∃ x3, am_MetP lay d mX11_beats1 [.ref o, .int v1, .int v3] D x3 ∧
 ((x3 = nI 0 → am_AW lay (d + 1) mX11_isKing 12 [.ref o, .int v1, .int (v2 ||| (nI 0)), .int (v3 + (nI 1))] [] D Q) ∧
 (¬ (x3 = nI 0) → (∃ x4, am_MetP lay d mX11_beaten [.ref o, .int v3] D x4 ∧
 am_AW lay (d + 1) mX11_isKing 12 [.ref o, .int v1, .int (v2 ||| x4), .int (v3 + (nI 1))] [] D Q)))))))) : am_AW lay (d + 1) mX11_isKing 12 [.ref o, .int v1, .int v2, .int v3] [] D Q := by
  refine am_iload_n (x := v3) dX11_isKing_12 rfl ?_
  refine am_aload_n (x := o) dX11_isKing_13 rfl ?_
  obtain ⟨x1, hm, hT⟩ := hT
  refine am_callV (av := []) (st := [.int v3]) (b := o) cw_X11_n cl_X11_92 ck_X11_n cs_X11_n ho.1 rfl rfl (Nat.le_of_ble_eq_true rfl) dX11_isKing_14 hm (fun r D9 hr => ?_)
  obtain ⟨rfl, e9⟩ := hr
  rw [e9]
  clear e9
  refine am_icmp_ge (tgt := 47) dX11_isKing_17 (by decide) (fun h => ?_) (fun h => ?_)
  · replace hT := hT.1 h
    refine am_iload_n (x := v2) dX11_isKing_47 rfl ?_
    refine am_aload_n (x := o) dX11_isKing_48 rfl ?_
    obtain ⟨x2, hm, hT⟩ := hT
    refine am_callV (av := []) (st := [.int v2]) (b := o) cw_X11_all cl_X11_111 ck_X11_all cs_X11_all ho.1 rfl rfl (Nat.le_of_ble_eq_true rfl) dX11_isKing_49 hm (fun r D9 hr => ?_)
    obtain ⟨rfl, e9⟩ := hr
    rw [e9]
    clear e9
    refine am_icmp_ne (tgt := 59) dX11_isKing_52 (by decide) (fun h => ?_) (fun h => ?_)
    · replace hT := hT.1 h
      refine am_iconst (v := (nI 0)) dX11_isKing_59 (by decide) ?_
      exact am_ireturn (ty := .boolean) dX11_isKing_60 rfl (by decide) hT
    · replace hT := hT.2 h
      refine am_iconst (v := (nI 1)) dX11_isKing_55 (by decide) ?_
      refine am_goto (tgt := 60) dX11_isKing_56 (by decide) ?_
      exact am_ireturn (ty := .boolean) dX11_isKing_60 rfl (by decide) hT
  · replace hT := hT.2 h
    refine am_iload_n (x := v2) dX11_isKing_20 rfl ?_
    refine am_aload_n (x := o) dX11_isKing_21 rfl ?_
    refine am_iload_n (x := v1) dX11_isKing_22 rfl ?_
    refine am_iload_n (x := v3) dX11_isKing_23 rfl ?_
    obtain ⟨x3, hm, hT⟩ := hT
    refine am_callV (av := [.int v1, .int v3]) (st := [.int v2]) (b := o) cw_X11_beats1 cl_X11_69 ck_X11_beats1 cs_X11_beats1 ho.1 rfl rfl (Nat.le_of_ble_eq_true rfl) dX11_isKing_24 hm (fun r D9 hr => ?_)
    obtain ⟨rfl, e9⟩ := hr
    rw [e9]
    clear e9
    refine am_if_eq (tgt := 38) dX11_isKing_27 (by decide) (fun h => ?_) (fun h => ?_)
    · replace hT := hT.1 h
      refine am_iconst (v := (nI 0)) dX11_isKing_38 (by decide) ?_
      refine am_ior dX11_isKing_39 ?_
      refine am_set (am_istore_n dX11_isKing_40 (by decide)) (L1 := [.ref o, .int v1, .int (v2 ||| (nI 0)), .int v3]) rfl ?_
      refine am_set (am_iinc (x := v3) (c0 := (nI 1)) dX11_isKing_41 (by decide) rfl (by decide)) (L1 := [.ref o, .int v1, .int (v2 ||| (nI 0)), .int (v3 + (nI 1))]) rfl ?_
      refine am_goto (tgt := 12) dX11_isKing_44 (by decide) ?_
      exact hT
    · replace hT := hT.2 h
      refine am_aload_n (x := o) dX11_isKing_30 rfl ?_
      refine am_iload_n (x := v3) dX11_isKing_31 rfl ?_
      obtain ⟨x4, hm, hT⟩ := hT
      refine am_callV (av := [.int v3]) (st := [.int v2]) (b := o) cw_X11_beaten cl_X11_45 ck_X11_beaten cs_X11_beaten ho.1 rfl rfl (Nat.le_of_ble_eq_true rfl) dX11_isKing_32 hm (fun r D9 hr => ?_)
      obtain ⟨rfl, e9⟩ := hr
      rw [e9]
      clear e9
      refine am_goto (tgt := 39) dX11_isKing_35 (by decide) ?_
      refine am_ior dX11_isKing_39 ?_
      refine am_set (am_istore_n dX11_isKing_40 (by decide)) (L1 := [.ref o, .int v1, .int (v2 ||| x4), .int v3]) rfl ?_
      refine am_set (am_iinc (x := v3) (c0 := (nI 1)) dX11_isKing_41 (by decide) rfl (by decide)) (L1 := [.ref o, .int v1, .int (v2 ||| x4), .int (v3 + (nI 1))]) rfl ?_
      refine am_goto (tgt := 12) dX11_isKing_44 (by decide) ?_
      exact hT
set_option maxRecDepth 20000 in
theorem eX11_isTop {lay : List am_L} {d : Nat} {D : am_D} {Q : Option Value → am_D → Prop} {o : Nat} {v1 : Int32} (ho : isX11 lay o) (hT : am_AW lay (d + 1) mX11_isTop 4 [.ref o, .int v1, .int (nI 1), .int (nI 0)] [] D Q) : am_Met lay (d + 1) mX11_isTop [.ref o, .int v1] D Q := by
  refine am_enter (by decide +kernel) rfl (Nat.le_of_ble_eq_true rfl) ?_
  show am_AW lay (d + 1) mX11_isTop 0 [.ref o, .int v1, .null, .null] [] D Q
  refine am_iconst (v := (nI 1)) dX11_isTop_0 (by decide) ?_
  refine am_set (am_istore_n dX11_isTop_1 (by decide)) (L1 := [.ref o, .int v1, .int (nI 1), .null]) rfl ?_
  refine am_iconst (v := (nI 0)) dX11_isTop_2 (by decide) ?_
  refine am_set (am_istore_n dX11_isTop_3 (by decide)) (L1 := [.ref o, .int v1, .int (nI 1), .int (nI 0)]) rfl ?_
  exact hT
set_option maxRecDepth 20000 in
theorem rX11_isTop_4 {lay : List am_L} {d : Nat} {D : am_D} {Q : Option Value → am_D → Prop} {o : Nat} {v1 : Int32} {v2 : Int32} {v3 : Int32} (ho : isX11 lay o) (hT : (∃ x1, am_MetP lay d mX11_n [.ref o] D x1 ∧
 ((x1 ≤ v3 → (narrow .boolean (.int v2) = .int v2 ∧ Q (some (.int v2)) D)) ∧
 (¬ (x1 ≤ v3) → ((v2 = nI 0 → am_AW lay (d + 1) mX11_isTop 4 [.ref o, .int v1, .int (nI 0), .int (v3 + (nI 1))] [] D Q) ∧
 (¬ (v2 = nI 0) → (∃ x2, am_MetP lay d mX11_beaten [.ref o, .int v3] D x2 ∧
 (∃ x3, am_MetP lay d mX11_count [.int x2] D x3 ∧
 (∃ x4, am_MetP lay d mX11_beaten [.ref o, .int v1] D x4 ∧
 (∃ x5, am_MetP lay d mX11_count [.int x4] D x5 ∧
 ((x5 < x3 → am_AW lay (d + 1) mX11_isTop 4 [.ref o, .int v1, .int (nI 0), .int (v3 + (nI 1))] [] D Q) ∧
 (¬ (x5 < x3) → am_AW lay (d + 1) mX11_isTop 4 [.ref o, .int v1, .int (nI 1), .int (v3 + (nI 1))] [] D Q)))))))))))) : am_AW lay (d + 1) mX11_isTop 4 [.ref o, .int v1, .int v2, .int v3] [] D Q := by
  refine am_iload_n (x := v3) dX11_isTop_4 rfl ?_
  refine am_aload_n (x := o) dX11_isTop_5 rfl ?_
  obtain ⟨x1, hm, hT⟩ := hT
  refine am_callV (av := []) (st := [.int v3]) (b := o) cw_X11_n cl_X11_92 ck_X11_n cs_X11_n ho.1 rfl rfl (Nat.le_of_ble_eq_true rfl) dX11_isTop_6 hm (fun r D9 hr => ?_)
  obtain ⟨rfl, e9⟩ := hr
  rw [e9]
  clear e9
  refine am_icmp_ge (tgt := 47) dX11_isTop_9 (by decide) (fun h => ?_) (fun h => ?_)
  · replace hT := hT.1 h
    refine am_iload_n (x := v2) dX11_isTop_47 rfl ?_
    exact am_ireturn (ty := .boolean) dX11_isTop_48 rfl hT.1 hT.2
  · replace hT := hT.2 h
    refine am_iload_n (x := v2) dX11_isTop_12 rfl ?_
    refine am_if_eq (tgt := 39) dX11_isTop_13 (by decide) (fun h => ?_) (fun h => ?_)
    · replace hT := hT.1 h
      refine am_iconst (v := (nI 0)) dX11_isTop_39 (by decide) ?_
      refine am_set (am_istore_n dX11_isTop_40 (by decide)) (L1 := [.ref o, .int v1, .int (nI 0), .int v3]) rfl ?_
      refine am_set (am_iinc (x := v3) (c0 := (nI 1)) dX11_isTop_41 (by decide) rfl (by decide)) (L1 := [.ref o, .int v1, .int (nI 0), .int (v3 + (nI 1))]) rfl ?_
      refine am_goto (tgt := 4) dX11_isTop_44 (by decide) ?_
      exact hT
    · replace hT := hT.2 h
      refine am_aload_n (x := o) dX11_isTop_16 rfl ?_
      refine am_iload_n (x := v3) dX11_isTop_17 rfl ?_
      obtain ⟨x2, hm, hT⟩ := hT
      refine am_callV (av := [.int v3]) (st := []) (b := o) cw_X11_beaten cl_X11_45 ck_X11_beaten cs_X11_beaten ho.1 rfl rfl (Nat.le_of_ble_eq_true rfl) dX11_isTop_18 hm (fun r D9 hr => ?_)
      obtain ⟨rfl, e9⟩ := hr
      rw [e9]
      clear e9
      obtain ⟨x3, hm, hT⟩ := hT
      refine am_callS (av := [.int x2]) (st := []) cw_X11_count cl_X11_98 ck_X11_count (Nat.le_of_ble_eq_true rfl) dX11_isTop_21 hm (fun r D9 hr => ?_)
      obtain ⟨rfl, e9⟩ := hr
      rw [e9]
      clear e9
      refine am_aload_n (x := o) dX11_isTop_24 rfl ?_
      refine am_iload_n (x := v1) dX11_isTop_25 rfl ?_
      obtain ⟨x4, hm, hT⟩ := hT
      refine am_callV (av := [.int v1]) (st := [.int x3]) (b := o) cw_X11_beaten cl_X11_45 ck_X11_beaten cs_X11_beaten ho.1 rfl rfl (Nat.le_of_ble_eq_true rfl) dX11_isTop_26 hm (fun r D9 hr => ?_)
      obtain ⟨rfl, e9⟩ := hr
      rw [e9]
      clear e9
      obtain ⟨x5, hm, hT⟩ := hT
      refine am_callS (av := [.int x4]) (st := [.int x3]) cw_X11_count cl_X11_98 ck_X11_count (Nat.le_of_ble_eq_true rfl) dX11_isTop_29 hm (fun r D9 hr => ?_)
      obtain ⟨rfl, e9⟩ := hr
      rw [e9]
      clear e9
      refine am_icmp_gt (tgt := 39) dX11_isTop_32 (by decide) (fun h => ?_) (fun h => ?_)
      · replace hT := hT.1 h
        refine am_iconst (v := (nI 0)) dX11_isTop_39 (by decide) ?_
        refine am_set (am_istore_n dX11_isTop_40 (by decide)) (L1 := [.ref o, .int v1, .int (nI 0), .int v3]) rfl ?_
        refine am_set (am_iinc (x := v3) (c0 := (nI 1)) dX11_isTop_41 (by decide) rfl (by decide)) (L1 := [.ref o, .int v1, .int (nI 0), .int (v3 + (nI 1))]) rfl ?_
        refine am_goto (tgt := 4) dX11_isTop_44 (by decide) ?_
        exact hT
      · replace hT := hT.2 h
        refine am_iconst (v := (nI 1)) dX11_isTop_35 (by decide) ?_
        refine am_goto (tgt := 40) dX11_isTop_36 (by decide) ?_
        refine am_set (am_istore_n dX11_isTop_40 (by decide)) (L1 := [.ref o, .int v1, .int (nI 1), .int v3]) rfl ?_
        refine am_set (am_iinc (x := v3) (c0 := (nI 1)) dX11_isTop_41 (by decide) rfl (by decide)) (L1 := [.ref o, .int v1, .int (nI 1), .int (v3 + (nI 1))]) rfl ?_
        refine am_goto (tgt := 4) dX11_isTop_44 (by decide) ?_
        exact hT
set_option maxRecDepth 20000 in
theorem eX11_isChain {lay : List am_L} {d : Nat} {D : am_D} {Q : Option Value → am_D → Prop} {o : Nat} {v1 : Int32} (ho : isX11 lay o) (hT : am_AW lay (d + 1) mX11_isChain 4 [.ref o, .int v1, .int (nI 0), .int (nI 0)] [] D Q) : am_Met lay (d + 1) mX11_isChain [.ref o, .int v1] D Q := by
  refine am_enter (by decide +kernel) rfl (Nat.le_of_ble_eq_true rfl) ?_
  show am_AW lay (d + 1) mX11_isChain 0 [.ref o, .int v1, .null, .null] [] D Q
  refine am_iconst (v := (nI 0)) dX11_isChain_0 (by decide) ?_
  refine am_set (am_istore_n dX11_isChain_1 (by decide)) (L1 := [.ref o, .int v1, .int (nI 0), .null]) rfl ?_
  refine am_iconst (v := (nI 0)) dX11_isChain_2 (by decide) ?_
  refine am_set (am_istore_n dX11_isChain_3 (by decide)) (L1 := [.ref o, .int v1, .int (nI 0), .int (nI 0)]) rfl ?_
  exact hT
set_option maxRecDepth 20000 in
theorem rX11_isChain_4 {lay : List am_L} {d : Nat} {D : am_D} {Q : Option Value → am_D → Prop} {o : Nat} {v1 : Int32} {v2 : Int32} {v3 : Int32} (ho : isX11 lay o) (hT : (∃ x1, am_MetP lay d mX11_n [.ref o] D x1 ∧
 ((x1 ≤ v3 → (∃ x2, am_MetP lay d mX11_count [.int v2] D x2 ∧
 (∃ x3, am_MetP lay d mX11_count [.int v1] D x3 ∧
 ((¬ x2 = x3 → Q (some (.int (nI 0))) D) ∧
 (¬ (¬ x2 = x3) → Q (some (.int (nI 1))) D))))) ∧
 (¬ (x1 ≤ v3) → (∃ x4, am_MetP lay d mX11_has [.int v1, .int v3] D x4 ∧
 ((x4 = nI 0 → am_AW lay (d + 1) mX11_isChain 4 [.ref o, .int v1, .int (v2 ||| (nI 0)), .int (v3 + (nI 1))] [] D Q) ∧
 (¬ (x4 = nI 0) → (∃ x5, am_MetP lay d mX11_beaten [.ref o, .int v3] D x5 ∧
 (∃ x6, am_MetP lay d mX11_count [.int (x5 &&& v1)] D x6 ∧
 am_AW lay (d + 1) mX11_isChain 4 [.ref o, .int v1, .int (v2 ||| ((nI 1) <<< (x6 &&& 31))), .int (v3 + (nI 1))] [] D Q))))))))) : am_AW lay (d + 1) mX11_isChain 4 [.ref o, .int v1, .int v2, .int v3] [] D Q := by
  refine am_iload_n (x := v3) dX11_isChain_4 rfl ?_
  refine am_aload_n (x := o) dX11_isChain_5 rfl ?_
  obtain ⟨x1, hm, hT⟩ := hT
  refine am_callV (av := []) (st := [.int v3]) (b := o) cw_X11_n cl_X11_92 ck_X11_n cs_X11_n ho.1 rfl rfl (Nat.le_of_ble_eq_true rfl) dX11_isChain_6 hm (fun r D9 hr => ?_)
  obtain ⟨rfl, e9⟩ := hr
  rw [e9]
  clear e9
  refine am_icmp_ge (tgt := 45) dX11_isChain_9 (by decide) (fun h => ?_) (fun h => ?_)
  · replace hT := hT.1 h
    refine am_iload_n (x := v2) dX11_isChain_45 rfl ?_
    obtain ⟨x2, hm, hT⟩ := hT
    refine am_callS (av := [.int v2]) (st := []) cw_X11_count cl_X11_98 ck_X11_count (Nat.le_of_ble_eq_true rfl) dX11_isChain_46 hm (fun r D9 hr => ?_)
    obtain ⟨rfl, e9⟩ := hr
    rw [e9]
    clear e9
    refine am_iload_n (x := v1) dX11_isChain_49 rfl ?_
    obtain ⟨x3, hm, hT⟩ := hT
    refine am_callS (av := [.int v1]) (st := [.int x2]) cw_X11_count cl_X11_98 ck_X11_count (Nat.le_of_ble_eq_true rfl) dX11_isChain_50 hm (fun r D9 hr => ?_)
    obtain ⟨rfl, e9⟩ := hr
    rw [e9]
    clear e9
    refine am_icmp_ne (tgt := 60) dX11_isChain_53 (by decide) (fun h => ?_) (fun h => ?_)
    · replace hT := hT.1 h
      refine am_iconst (v := (nI 0)) dX11_isChain_60 (by decide) ?_
      exact am_ireturn (ty := .boolean) dX11_isChain_61 rfl (by decide) hT
    · replace hT := hT.2 h
      refine am_iconst (v := (nI 1)) dX11_isChain_56 (by decide) ?_
      refine am_goto (tgt := 61) dX11_isChain_57 (by decide) ?_
      exact am_ireturn (ty := .boolean) dX11_isChain_61 rfl (by decide) hT
  · replace hT := hT.2 h
    refine am_iload_n (x := v2) dX11_isChain_12 rfl ?_
    refine am_iload_n (x := v1) dX11_isChain_13 rfl ?_
    refine am_iload_n (x := v3) dX11_isChain_14 rfl ?_
    obtain ⟨x4, hm, hT⟩ := hT
    refine am_callS (av := [.int v1, .int v3]) (st := [.int v2]) cw_X11_has cl_X11_49 ck_X11_has (Nat.le_of_ble_eq_true rfl) dX11_isChain_15 hm (fun r D9 hr => ?_)
    obtain ⟨rfl, e9⟩ := hr
    rw [e9]
    clear e9
    refine am_if_eq (tgt := 36) dX11_isChain_18 (by decide) (fun h => ?_) (fun h => ?_)
    · replace hT := hT.1 h
      refine am_iconst (v := (nI 0)) dX11_isChain_36 (by decide) ?_
      refine am_ior dX11_isChain_37 ?_
      refine am_set (am_istore_n dX11_isChain_38 (by decide)) (L1 := [.ref o, .int v1, .int (v2 ||| (nI 0)), .int v3]) rfl ?_
      refine am_set (am_iinc (x := v3) (c0 := (nI 1)) dX11_isChain_39 (by decide) rfl (by decide)) (L1 := [.ref o, .int v1, .int (v2 ||| (nI 0)), .int (v3 + (nI 1))]) rfl ?_
      refine am_goto (tgt := 4) dX11_isChain_42 (by decide) ?_
      exact hT
    · replace hT := hT.2 h
      refine am_iconst (v := (nI 1)) dX11_isChain_21 (by decide) ?_
      refine am_aload_n (x := o) dX11_isChain_22 rfl ?_
      refine am_iload_n (x := v3) dX11_isChain_23 rfl ?_
      obtain ⟨x5, hm, hT⟩ := hT
      refine am_callV (av := [.int v3]) (st := [.int (nI 1), .int v2]) (b := o) cw_X11_beaten cl_X11_45 ck_X11_beaten cs_X11_beaten ho.1 rfl rfl (Nat.le_of_ble_eq_true rfl) dX11_isChain_24 hm (fun r D9 hr => ?_)
      obtain ⟨rfl, e9⟩ := hr
      rw [e9]
      clear e9
      refine am_iload_n (x := v1) dX11_isChain_27 rfl ?_
      refine am_iand dX11_isChain_28 ?_
      obtain ⟨x6, hm, hT⟩ := hT
      refine am_callS (av := [.int (x5 &&& v1)]) (st := [.int (nI 1), .int v2]) cw_X11_count cl_X11_98 ck_X11_count (Nat.le_of_ble_eq_true rfl) dX11_isChain_29 hm (fun r D9 hr => ?_)
      obtain ⟨rfl, e9⟩ := hr
      rw [e9]
      clear e9
      refine am_ishl dX11_isChain_32 ?_
      refine am_goto (tgt := 37) dX11_isChain_33 (by decide) ?_
      refine am_ior dX11_isChain_37 ?_
      refine am_set (am_istore_n dX11_isChain_38 (by decide)) (L1 := [.ref o, .int v1, .int (v2 ||| ((nI 1) <<< (x6 &&& 31))), .int v3]) rfl ?_
      refine am_set (am_iinc (x := v3) (c0 := (nI 1)) dX11_isChain_39 (by decide) rfl (by decide)) (L1 := [.ref o, .int v1, .int (v2 ||| ((nI 1) <<< (x6 &&& 31))), .int (v3 + (nI 1))]) rfl ?_
      refine am_goto (tgt := 4) dX11_isChain_42 (by decide) ?_
      exact hT
set_option maxRecDepth 20000 in
theorem eX11_isBeaten {lay : List am_L} {d : Nat} {D : am_D} {Q : Option Value → am_D → Prop} {o : Nat} {v1 : Int32} (ho : isX11 lay o) (hT : am_AW lay (d + 1) mX11_isBeaten 4 [.ref o, .int v1, .int (nI 0), .int (nI 0)] [] D Q) : am_Met lay (d + 1) mX11_isBeaten [.ref o, .int v1] D Q := by
  refine am_enter (by decide +kernel) rfl (Nat.le_of_ble_eq_true rfl) ?_
  show am_AW lay (d + 1) mX11_isBeaten 0 [.ref o, .int v1, .null, .null] [] D Q
  refine am_iconst (v := (nI 0)) dX11_isBeaten_0 (by decide) ?_
  refine am_set (am_istore_n dX11_isBeaten_1 (by decide)) (L1 := [.ref o, .int v1, .int (nI 0), .null]) rfl ?_
  refine am_iconst (v := (nI 0)) dX11_isBeaten_2 (by decide) ?_
  refine am_set (am_istore_n dX11_isBeaten_3 (by decide)) (L1 := [.ref o, .int v1, .int (nI 0), .int (nI 0)]) rfl ?_
  exact hT
set_option maxRecDepth 20000 in
theorem rX11_isBeaten_4 {lay : List am_L} {d : Nat} {D : am_D} {Q : Option Value → am_D → Prop} {o : Nat} {v1 : Int32} {v2 : Int32} {v3 : Int32} (ho : isX11 lay o) (hT : (∃ x1, am_MetP lay d mX11_n [.ref o] D x1 ∧
 ((x1 ≤ v3 → (narrow .boolean (.int v2) = .int v2 ∧ Q (some (.int v2)) D)) ∧
 (¬ (x1 ≤ v3) → ((¬ v2 = nI 0 → am_AW lay (d + 1) mX11_isBeaten 4 [.ref o, .int v1, .int (nI 1), .int (v3 + (nI 1))] [] D Q) ∧
 (¬ (¬ v2 = nI 0) → (∃ x2, am_MetP lay d mX11_beaten [.ref o, .int v3] D x2 ∧
 ((¬ (x2 &&& v1) = v1 → am_AW lay (d + 1) mX11_isBeaten 4 [.ref o, .int v1, .int (nI 0), .int (v3 + (nI 1))] [] D Q) ∧
 (¬ (¬ (x2 &&& v1) = v1) → am_AW lay (d + 1) mX11_isBeaten 4 [.ref o, .int v1, .int (nI 1), .int (v3 + (nI 1))] [] D Q))))))))) : am_AW lay (d + 1) mX11_isBeaten 4 [.ref o, .int v1, .int v2, .int v3] [] D Q := by
  refine am_iload_n (x := v3) dX11_isBeaten_4 rfl ?_
  refine am_aload_n (x := o) dX11_isBeaten_5 rfl ?_
  obtain ⟨x1, hm, hT⟩ := hT
  refine am_callV (av := []) (st := [.int v3]) (b := o) cw_X11_n cl_X11_92 ck_X11_n cs_X11_n ho.1 rfl rfl (Nat.le_of_ble_eq_true rfl) dX11_isBeaten_6 hm (fun r D9 hr => ?_)
  obtain ⟨rfl, e9⟩ := hr
  rw [e9]
  clear e9
  refine am_icmp_ge (tgt := 39) dX11_isBeaten_9 (by decide) (fun h => ?_) (fun h => ?_)
  · replace hT := hT.1 h
    refine am_iload_n (x := v2) dX11_isBeaten_39 rfl ?_
    exact am_ireturn (ty := .boolean) dX11_isBeaten_40 rfl hT.1 hT.2
  · replace hT := hT.2 h
    refine am_iload_n (x := v2) dX11_isBeaten_12 rfl ?_
    refine am_if_ne (tgt := 27) dX11_isBeaten_13 (by decide) (fun h => ?_) (fun h => ?_)
    · replace hT := hT.1 h
      refine am_iconst (v := (nI 1)) dX11_isBeaten_27 (by decide) ?_
      refine am_goto (tgt := 32) dX11_isBeaten_28 (by decide) ?_
      refine am_set (am_istore_n dX11_isBeaten_32 (by decide)) (L1 := [.ref o, .int v1, .int (nI 1), .int v3]) rfl ?_
      refine am_set (am_iinc (x := v3) (c0 := (nI 1)) dX11_isBeaten_33 (by decide) rfl (by decide)) (L1 := [.ref o, .int v1, .int (nI 1), .int (v3 + (nI 1))]) rfl ?_
      refine am_goto (tgt := 4) dX11_isBeaten_36 (by decide) ?_
      exact hT
    · replace hT := hT.2 h
      refine am_aload_n (x := o) dX11_isBeaten_16 rfl ?_
      refine am_iload_n (x := v3) dX11_isBeaten_17 rfl ?_
      obtain ⟨x2, hm, hT⟩ := hT
      refine am_callV (av := [.int v3]) (st := []) (b := o) cw_X11_beaten cl_X11_45 ck_X11_beaten cs_X11_beaten ho.1 rfl rfl (Nat.le_of_ble_eq_true rfl) dX11_isBeaten_18 hm (fun r D9 hr => ?_)
      obtain ⟨rfl, e9⟩ := hr
      rw [e9]
      clear e9
      refine am_iload_n (x := v1) dX11_isBeaten_21 rfl ?_
      refine am_iand dX11_isBeaten_22 ?_
      refine am_iload_n (x := v1) dX11_isBeaten_23 rfl ?_
      refine am_icmp_ne (tgt := 31) dX11_isBeaten_24 (by decide) (fun h => ?_) (fun h => ?_)
      · replace hT := hT.1 h
        refine am_iconst (v := (nI 0)) dX11_isBeaten_31 (by decide) ?_
        refine am_set (am_istore_n dX11_isBeaten_32 (by decide)) (L1 := [.ref o, .int v1, .int (nI 0), .int v3]) rfl ?_
        refine am_set (am_iinc (x := v3) (c0 := (nI 1)) dX11_isBeaten_33 (by decide) rfl (by decide)) (L1 := [.ref o, .int v1, .int (nI 0), .int (v3 + (nI 1))]) rfl ?_
        refine am_goto (tgt := 4) dX11_isBeaten_36 (by decide) ?_
        exact hT
      · replace hT := hT.2 h
        refine am_iconst (v := (nI 1)) dX11_isBeaten_27 (by decide) ?_
        refine am_goto (tgt := 32) dX11_isBeaten_28 (by decide) ?_
        refine am_set (am_istore_n dX11_isBeaten_32 (by decide)) (L1 := [.ref o, .int v1, .int (nI 1), .int v3]) rfl ?_
        refine am_set (am_iinc (x := v3) (c0 := (nI 1)) dX11_isBeaten_33 (by decide) rfl (by decide)) (L1 := [.ref o, .int v1, .int (nI 1), .int (v3 + (nI 1))]) rfl ?_
        refine am_goto (tgt := 4) dX11_isBeaten_36 (by decide) ?_
        exact hT
set_option maxRecDepth 20000 in
theorem eX11_isFirst {lay : List am_L} {d : Nat} {D : am_D} {Q : Option Value → am_D → Prop} {o : Nat} {v1 : Int32} (ho : isX11 lay o) (hT : am_AW lay (d + 1) mX11_isFirst 4 [.ref o, .int v1, .int (nI 0), .int (nI 0), .null] [] D Q) : am_Met lay (d + 1) mX11_isFirst [.ref o, .int v1] D Q := by
  refine am_enter (by decide +kernel) rfl (Nat.le_of_ble_eq_true rfl) ?_
  show am_AW lay (d + 1) mX11_isFirst 0 [.ref o, .int v1, .null, .null, .null] [] D Q
  refine am_iconst (v := (nI 0)) dX11_isFirst_0 (by decide) ?_
  refine am_set (am_istore_n dX11_isFirst_1 (by decide)) (L1 := [.ref o, .int v1, .int (nI 0), .null, .null]) rfl ?_
  refine am_iconst (v := (nI 0)) dX11_isFirst_2 (by decide) ?_
  refine am_set (am_istore_n dX11_isFirst_3 (by decide)) (L1 := [.ref o, .int v1, .int (nI 0), .int (nI 0), .null]) rfl ?_
  exact hT
set_option maxRecDepth 20000 in
theorem rX11_isFirst_4 {lay : List am_L} {d : Nat} {D : am_D} {Q : Option Value → am_D → Prop} {o : Nat} {v1 : Int32} {v2 : Int32} {v3 : Int32} (ho : isX11 lay o) (hT : (∃ x1, am_MetP lay d mX11_all [.ref o] D x1 ∧
 ((x1 < v3 → (narrow .boolean (.int v2) = .int v2 ∧ Q (some (.int v2)) D)) ∧
 (¬ (x1 < v3) → ((¬ v2 = nI 0 → (narrow .boolean (.int v2) = .int v2 ∧ Q (some (.int v2)) D)) ∧
 (¬ (¬ v2 = nI 0) → (∃ x2, am_MetP lay d mX11_beaten [.ref o, .int v1] D x2 ∧
 ((¬ (v3 &&& (x2 ^^^ (-1))) = nI 0 → am_AW lay (d + 1) mX11_isFirst 4 [.ref o, .int v1, .int (nI 0), .int (v3 + (nI 1)), .null] [] D Q) ∧
 (¬ (¬ (v3 &&& (x2 ^^^ (-1))) = nI 0) → (∃ x3, am_MetP lay d mX11_isChain [.ref o, .int (v3 ||| ((nI 1) <<< (v1 &&& 31)))] D x3 ∧
 ((x3 = nI 0 → am_AW lay (d + 1) mX11_isFirst 4 [.ref o, .int v1, .int (nI 0), .int (v3 + (nI 1)), .null] [] D Q) ∧
 (¬ (x3 = nI 0) → (∃ x4, am_MetP lay d mX11_isBeaten [.ref o, .int (v3 ||| ((nI 1) <<< (v1 &&& 31)))] D x4 ∧
 ((¬ x4 = nI 0 → am_AW lay (d + 1) mX11_isFirst 4 [.ref o, .int v1, .int (nI 0), .int (v3 + (nI 1)), .null] [] D Q) ∧
 (¬ (¬ x4 = nI 0) → am_AW lay (d + 1) mX11_isFirst 4 [.ref o, .int v1, .int (nI 1), .int (v3 + (nI 1)), .null] [] D Q))))))))))))))) : am_AW lay (d + 1) mX11_isFirst 4 [.ref o, .int v1, .int v2, .int v3, .null] [] D Q := by
  refine am_iload_n (x := v3) dX11_isFirst_4 rfl ?_
  refine am_aload_n (x := o) dX11_isFirst_5 rfl ?_
  obtain ⟨x1, hm, hT⟩ := hT
  refine am_callV (av := []) (st := [.int v3]) (b := o) cw_X11_all cl_X11_111 ck_X11_all cs_X11_all ho.1 rfl rfl (Nat.le_of_ble_eq_true rfl) dX11_isFirst_6 hm (fun r D9 hr => ?_)
  obtain ⟨rfl, e9⟩ := hr
  rw [e9]
  clear e9
  refine am_icmp_gt (tgt := 65) dX11_isFirst_9 (by decide) (fun h => ?_) (fun h => ?_)
  · replace hT := hT.1 h
    refine am_iload_n (x := v2) dX11_isFirst_65 rfl ?_
    exact am_ireturn (ty := .boolean) dX11_isFirst_66 rfl hT.1 hT.2
  · replace hT := hT.2 h
    refine am_iload_n (x := v2) dX11_isFirst_12 rfl ?_
    refine am_if_ne (tgt := 65) dX11_isFirst_13 (by decide) (fun h => ?_) (fun h => ?_)
    · replace hT := hT.1 h
      refine am_iload_n (x := v2) dX11_isFirst_65 rfl ?_
      exact am_ireturn (ty := .boolean) dX11_isFirst_66 rfl hT.1 hT.2
    · replace hT := hT.2 h
      refine am_iload_n (x := v3) dX11_isFirst_16 rfl ?_
      refine am_iconst (v := (nI 1)) dX11_isFirst_17 (by decide) ?_
      refine am_iload_n (x := v1) dX11_isFirst_18 rfl ?_
      refine am_ishl dX11_isFirst_19 ?_
      refine am_ior dX11_isFirst_20 ?_
      refine am_set (am_istore dX11_isFirst_21 (by decide)) (L1 := [.ref o, .int v1, .int v2, .int v3, .int (v3 ||| ((nI 1) <<< (v1 &&& 31)))]) rfl ?_
      refine am_iload_n (x := v3) dX11_isFirst_23 rfl ?_
      refine am_aload_n (x := o) dX11_isFirst_24 rfl ?_
      refine am_iload_n (x := v1) dX11_isFirst_25 rfl ?_
      obtain ⟨x2, hm, hT⟩ := hT
      refine am_callV (av := [.int v1]) (st := [.int v3]) (b := o) cw_X11_beaten cl_X11_45 ck_X11_beaten cs_X11_beaten ho.1 rfl rfl (Nat.le_of_ble_eq_true rfl) dX11_isFirst_26 hm (fun r D9 hr => ?_)
      obtain ⟨rfl, e9⟩ := hr
      rw [e9]
      clear e9
      refine am_iconst (v := (-1)) dX11_isFirst_29 (by decide) ?_
      refine am_ixor dX11_isFirst_30 ?_
      refine am_iand dX11_isFirst_31 ?_
      refine am_if_ne (tgt := 57) dX11_isFirst_32 (by decide) (fun h => ?_) (fun h => ?_)
      · replace hT := hT.1 h
        refine am_iconst (v := (nI 0)) dX11_isFirst_57 (by decide) ?_
        refine am_set (am_istore_n dX11_isFirst_58 (by decide)) (L1 := [.ref o, .int v1, .int (nI 0), .int v3, .int (v3 ||| ((nI 1) <<< (v1 &&& 31)))]) rfl ?_
        refine am_set (am_iinc (x := v3) (c0 := (nI 1)) dX11_isFirst_59 (by decide) rfl (by decide)) (L1 := [.ref o, .int v1, .int (nI 0), .int (v3 + (nI 1)), .int (v3 ||| ((nI 1) <<< (v1 &&& 31)))]) rfl ?_
        refine am_goto (tgt := 4) dX11_isFirst_62 (by decide) ?_
        refine am_drop [4] (L1 := [.ref o, .int v1, .int (nI 0), .int (v3 + (nI 1)), .null]) rfl ?_
        exact hT
      · replace hT := hT.2 h
        refine am_aload_n (x := o) dX11_isFirst_35 rfl ?_
        refine am_iload (x := (v3 ||| ((nI 1) <<< (v1 &&& 31)))) dX11_isFirst_36 rfl ?_
        obtain ⟨x3, hm, hT⟩ := hT
        refine am_callV (av := [.int (v3 ||| ((nI 1) <<< (v1 &&& 31)))]) (st := []) (b := o) cw_X11_isChain cl_X11_147 ck_X11_isChain cs_X11_isChain ho.1 rfl rfl (Nat.le_of_ble_eq_true rfl) dX11_isFirst_38 hm (fun r D9 hr => ?_)
        obtain ⟨rfl, e9⟩ := hr
        rw [e9]
        clear e9
        refine am_if_eq (tgt := 57) dX11_isFirst_41 (by decide) (fun h => ?_) (fun h => ?_)
        · replace hT := hT.1 h
          refine am_iconst (v := (nI 0)) dX11_isFirst_57 (by decide) ?_
          refine am_set (am_istore_n dX11_isFirst_58 (by decide)) (L1 := [.ref o, .int v1, .int (nI 0), .int v3, .int (v3 ||| ((nI 1) <<< (v1 &&& 31)))]) rfl ?_
          refine am_set (am_iinc (x := v3) (c0 := (nI 1)) dX11_isFirst_59 (by decide) rfl (by decide)) (L1 := [.ref o, .int v1, .int (nI 0), .int (v3 + (nI 1)), .int (v3 ||| ((nI 1) <<< (v1 &&& 31)))]) rfl ?_
          refine am_goto (tgt := 4) dX11_isFirst_62 (by decide) ?_
          refine am_drop [4] (L1 := [.ref o, .int v1, .int (nI 0), .int (v3 + (nI 1)), .null]) rfl ?_
          exact hT
        · replace hT := hT.2 h
          refine am_aload_n (x := o) dX11_isFirst_44 rfl ?_
          refine am_iload (x := (v3 ||| ((nI 1) <<< (v1 &&& 31)))) dX11_isFirst_45 rfl ?_
          obtain ⟨x4, hm, hT⟩ := hT
          refine am_callV (av := [.int (v3 ||| ((nI 1) <<< (v1 &&& 31)))]) (st := []) (b := o) cw_X11_isBeaten cl_X11_150 ck_X11_isBeaten cs_X11_isBeaten ho.1 rfl rfl (Nat.le_of_ble_eq_true rfl) dX11_isFirst_47 hm (fun r D9 hr => ?_)
          obtain ⟨rfl, e9⟩ := hr
          rw [e9]
          clear e9
          refine am_if_ne (tgt := 57) dX11_isFirst_50 (by decide) (fun h => ?_) (fun h => ?_)
          · replace hT := hT.1 h
            refine am_iconst (v := (nI 0)) dX11_isFirst_57 (by decide) ?_
            refine am_set (am_istore_n dX11_isFirst_58 (by decide)) (L1 := [.ref o, .int v1, .int (nI 0), .int v3, .int (v3 ||| ((nI 1) <<< (v1 &&& 31)))]) rfl ?_
            refine am_set (am_iinc (x := v3) (c0 := (nI 1)) dX11_isFirst_59 (by decide) rfl (by decide)) (L1 := [.ref o, .int v1, .int (nI 0), .int (v3 + (nI 1)), .int (v3 ||| ((nI 1) <<< (v1 &&& 31)))]) rfl ?_
            refine am_goto (tgt := 4) dX11_isFirst_62 (by decide) ?_
            refine am_drop [4] (L1 := [.ref o, .int v1, .int (nI 0), .int (v3 + (nI 1)), .null]) rfl ?_
            exact hT
          · replace hT := hT.2 h
            refine am_iconst (v := (nI 1)) dX11_isFirst_53 (by decide) ?_
            refine am_goto (tgt := 58) dX11_isFirst_54 (by decide) ?_
            refine am_set (am_istore_n dX11_isFirst_58 (by decide)) (L1 := [.ref o, .int v1, .int (nI 1), .int v3, .int (v3 ||| ((nI 1) <<< (v1 &&& 31)))]) rfl ?_
            refine am_set (am_iinc (x := v3) (c0 := (nI 1)) dX11_isFirst_59 (by decide) rfl (by decide)) (L1 := [.ref o, .int v1, .int (nI 1), .int (v3 + (nI 1)), .int (v3 ||| ((nI 1) <<< (v1 &&& 31)))]) rfl ?_
            refine am_goto (tgt := 4) dX11_isFirst_62 (by decide) ?_
            refine am_drop [4] (L1 := [.ref o, .int v1, .int (nI 1), .int (v3 + (nI 1)), .null]) rfl ?_
            exact hT
set_option maxRecDepth 20000 in
theorem eX11_winnersBy {lay : List am_L} {d : Nat} {D : am_D} {Q : Option Value → am_D → Prop} {o : Nat} {v1 : Int32} (ho : isX11 lay o) (hT : (∃ D1, am_MetV lay d mX11_reaches [.ref o] D D1 ∧
 (∃ D2, am_MetV lay d mX11_orders [.ref o] D1 D2 ∧
 am_AW lay (d + 1) mX11_winnersBy 12 [.ref o, .int v1, .int (nI 0), .int (nI 0), .null] [] D2 Q))) : am_Met lay (d + 1) mX11_winnersBy [.ref o, .int v1] D Q := by
  refine am_enter (by decide +kernel) rfl (Nat.le_of_ble_eq_true rfl) ?_
  show am_AW lay (d + 1) mX11_winnersBy 0 [.ref o, .int v1, .null, .null, .null] [] D Q
  refine am_aload_n (x := o) dX11_winnersBy_0 rfl ?_
  obtain ⟨D1, hm, hT⟩ := hT
  refine am_callV (av := []) (st := []) (b := o) cw_X11_reaches cl_X11_120 ck_X11_reaches cs_X11_reaches ho.1 rfl rfl (Nat.le_of_ble_eq_true rfl) dX11_winnersBy_1 hm (fun r D9 hr => ?_)
  obtain ⟨rfl, e9⟩ := hr
  rw [e9]
  clear e9
  refine am_aload_n (x := o) dX11_winnersBy_4 rfl ?_
  obtain ⟨D2, hm, hT⟩ := hT
  refine am_callV (av := []) (st := []) (b := o) cw_X11_orders cl_X11_141 ck_X11_orders cs_X11_orders ho.1 rfl rfl (Nat.le_of_ble_eq_true rfl) dX11_winnersBy_5 hm (fun r D9 hr => ?_)
  obtain ⟨rfl, e9⟩ := hr
  rw [e9]
  clear e9
  refine am_iconst (v := (nI 0)) dX11_winnersBy_8 (by decide) ?_
  refine am_set (am_istore_n dX11_winnersBy_9 (by decide)) (L1 := [.ref o, .int v1, .int (nI 0), .null, .null]) rfl ?_
  refine am_iconst (v := (nI 0)) dX11_winnersBy_10 (by decide) ?_
  refine am_set (am_istore_n dX11_winnersBy_11 (by decide)) (L1 := [.ref o, .int v1, .int (nI 0), .int (nI 0), .null]) rfl ?_
  exact hT
set_option maxRecDepth 20000 in
theorem rX11_winnersBy_12 {lay : List am_L} {d : Nat} {D : am_D} {Q : Option Value → am_D → Prop} {o : Nat} {v1 : Int32} {v2 : Int32} {v3 : Int32} (ho : isX11 lay o) (hT : (∃ x1, am_MetP lay d mX11_n [.ref o] D x1 ∧
 ((x1 ≤ v3 → Q (some (.int v2)) D) ∧
 (¬ (x1 ≤ v3) → ((¬ v1 = nI 0 → ((¬ v1 = (nI 1) → ((¬ v1 = (nI 2) → ((¬ v1 = (nI 3) → (∃ x2, am_MetP lay d mX11_all [.ref o] D x2 ∧
 (∃ x3, am_MetP lay d mX11_isBest [.ref o, .int v3, .int x2] D x3 ∧
 ((x3 = nI 0 → am_AW lay (d + 1) mX11_winnersBy 12 [.ref o, .int v1, .int (v2 ||| (nI 0)), .int (v3 + (nI 1)), .null] [] D Q) ∧
 (¬ (x3 = nI 0) → am_AW lay (d + 1) mX11_winnersBy 12 [.ref o, .int v1, .int (v2 ||| ((nI 1) <<< (v3 &&& 31))), .int (v3 + (nI 1)), .null] [] D Q))))) ∧
 (¬ (¬ v1 = (nI 3)) → (∃ x4, am_MetP lay d mX11_isFirst [.ref o, .int v3] D x4 ∧
 ((x4 = nI 0 → am_AW lay (d + 1) mX11_winnersBy 12 [.ref o, .int v1, .int (v2 ||| (nI 0)), .int (v3 + (nI 1)), .null] [] D Q) ∧
 (¬ (x4 = nI 0) → am_AW lay (d + 1) mX11_winnersBy 12 [.ref o, .int v1, .int (v2 ||| ((nI 1) <<< (v3 &&& 31))), .int (v3 + (nI 1)), .null] [] D Q)))))) ∧
 (¬ (¬ v1 = (nI 2)) → (∃ x5, am_MetP lay d mX11_isTop [.ref o, .int v3] D x5 ∧
 ((x5 = nI 0 → am_AW lay (d + 1) mX11_winnersBy 12 [.ref o, .int v1, .int (v2 ||| (nI 0)), .int (v3 + (nI 1)), .null] [] D Q) ∧
 (¬ (x5 = nI 0) → am_AW lay (d + 1) mX11_winnersBy 12 [.ref o, .int v1, .int (v2 ||| ((nI 1) <<< (v3 &&& 31))), .int (v3 + (nI 1)), .null] [] D Q)))))) ∧
 (¬ (¬ v1 = (nI 1)) → (∃ x6, am_MetP lay d mX11_isKing [.ref o, .int v3] D x6 ∧
 ((x6 = nI 0 → am_AW lay (d + 1) mX11_winnersBy 12 [.ref o, .int v1, .int (v2 ||| (nI 0)), .int (v3 + (nI 1)), .null] [] D Q) ∧
 (¬ (x6 = nI 0) → am_AW lay (d + 1) mX11_winnersBy 12 [.ref o, .int v1, .int (v2 ||| ((nI 1) <<< (v3 &&& 31))), .int (v3 + (nI 1)), .null] [] D Q)))))) ∧
 (¬ (¬ v1 = nI 0) → (∃ x7, am_MetP lay d mX11_componentAt [.ref o, .int v3] D x7 ∧
 ((¬ x7 = nI 0 → (((nI 0) = nI 0 → am_AW lay (d + 1) mX11_winnersBy 12 [.ref o, .int v1, .int (v2 ||| (nI 0)), .int (v3 + (nI 1)), .null] [] D Q) ∧
 (¬ ((nI 0) = nI 0) → am_AW lay (d + 1) mX11_winnersBy 12 [.ref o, .int v1, .int (v2 ||| ((nI 1) <<< (v3 &&& 31))), .int (v3 + (nI 1)), .null] [] D Q))) ∧
 (¬ (¬ x7 = nI 0) → (((nI 1) = nI 0 → am_AW lay (d + 1) mX11_winnersBy 12 [.ref o, .int v1, .int (v2 ||| (nI 0)), .int (v3 + (nI 1)), .null] [] D Q) ∧
 (¬ ((nI 1) = nI 0) → am_AW lay (d + 1) mX11_winnersBy 12 [.ref o, .int v1, .int (v2 ||| ((nI 1) <<< (v3 &&& 31))), .int (v3 + (nI 1)), .null] [] D Q))))))))))) : am_AW lay (d + 1) mX11_winnersBy 12 [.ref o, .int v1, .int v2, .int v3, .null] [] D Q := by
  refine am_iload_n (x := v3) dX11_winnersBy_12 rfl ?_
  refine am_aload_n (x := o) dX11_winnersBy_13 rfl ?_
  obtain ⟨x1, hm, hT⟩ := hT
  refine am_callV (av := []) (st := [.int v3]) (b := o) cw_X11_n cl_X11_92 ck_X11_n cs_X11_n ho.1 rfl rfl (Nat.le_of_ble_eq_true rfl) dX11_winnersBy_14 hm (fun r D9 hr => ?_)
  obtain ⟨rfl, e9⟩ := hr
  rw [e9]
  clear e9
  refine am_icmp_ge (tgt := 111) dX11_winnersBy_17 (by decide) (fun h => ?_) (fun h => ?_)
  · replace hT := hT.1 h
    refine am_iload_n (x := v2) dX11_winnersBy_111 rfl ?_
    exact am_ireturn (ty := .int) dX11_winnersBy_112 rfl rfl hT
  · replace hT := hT.2 h
    refine am_iload_n (x := v1) dX11_winnersBy_20 rfl ?_
    refine am_if_ne (tgt := 40) dX11_winnersBy_21 (by decide) (fun h => ?_) (fun h => ?_)
    · replace hT := hT.1 h
      refine am_iload_n (x := v1) dX11_winnersBy_40 rfl ?_
      refine am_iconst (v := (nI 1)) dX11_winnersBy_41 (by decide) ?_
      refine am_icmp_ne (tgt := 53) dX11_winnersBy_42 (by decide) (fun h => ?_) (fun h => ?_)
      · replace hT := hT.1 h
        refine am_iload_n (x := v1) dX11_winnersBy_53 rfl ?_
        refine am_iconst (v := (nI 2)) dX11_winnersBy_54 (by decide) ?_
        refine am_icmp_ne (tgt := 66) dX11_winnersBy_55 (by decide) (fun h => ?_) (fun h => ?_)
        · replace hT := hT.1 h
          refine am_iload_n (x := v1) dX11_winnersBy_66 rfl ?_
          refine am_iconst (v := (nI 3)) dX11_winnersBy_67 (by decide) ?_
          refine am_icmp_ne (tgt := 79) dX11_winnersBy_68 (by decide) (fun h => ?_) (fun h => ?_)
          · replace hT := hT.1 h
            refine am_aload_n (x := o) dX11_winnersBy_79 rfl ?_
            refine am_iload_n (x := v3) dX11_winnersBy_80 rfl ?_
            refine am_aload_n (x := o) dX11_winnersBy_81 rfl ?_
            obtain ⟨x2, hm, hT⟩ := hT
            refine am_callV (av := []) (st := [.int v3, .ref o]) (b := o) cw_X11_all cl_X11_111 ck_X11_all cs_X11_all ho.1 rfl rfl (Nat.le_of_ble_eq_true rfl) dX11_winnersBy_82 hm (fun r D9 hr => ?_)
            obtain ⟨rfl, e9⟩ := hr
            rw [e9]
            clear e9
            obtain ⟨x3, hm, hT⟩ := hT
            refine am_callV (av := [.int v3, .int x2]) (st := []) (b := o) cw_X11_isBest cl_X11_144 ck_X11_isBest cs_X11_isBest ho.1 rfl rfl (Nat.le_of_ble_eq_true rfl) dX11_winnersBy_85 hm (fun r D9 hr => ?_)
            obtain ⟨rfl, e9⟩ := hr
            rw [e9]
            clear e9
            refine am_set (am_istore dX11_winnersBy_88 (by decide)) (L1 := [.ref o, .int v1, .int v2, .int v3, .int x3]) rfl ?_
            refine am_iload_n (x := v2) dX11_winnersBy_90 rfl ?_
            refine am_iload (x := x3) dX11_winnersBy_91 rfl ?_
            refine am_if_eq (tgt := 102) dX11_winnersBy_93 (by decide) (fun h => ?_) (fun h => ?_)
            · replace hT := hT.1 h
              refine am_iconst (v := (nI 0)) dX11_winnersBy_102 (by decide) ?_
              refine am_ior dX11_winnersBy_103 ?_
              refine am_set (am_istore_n dX11_winnersBy_104 (by decide)) (L1 := [.ref o, .int v1, .int (v2 ||| (nI 0)), .int v3, .int x3]) rfl ?_
              refine am_set (am_iinc (x := v3) (c0 := (nI 1)) dX11_winnersBy_105 (by decide) rfl (by decide)) (L1 := [.ref o, .int v1, .int (v2 ||| (nI 0)), .int (v3 + (nI 1)), .int x3]) rfl ?_
              refine am_goto (tgt := 12) dX11_winnersBy_108 (by decide) ?_
              refine am_drop [4] (L1 := [.ref o, .int v1, .int (v2 ||| (nI 0)), .int (v3 + (nI 1)), .null]) rfl ?_
              exact hT
            · replace hT := hT.2 h
              refine am_iconst (v := (nI 1)) dX11_winnersBy_96 (by decide) ?_
              refine am_iload_n (x := v3) dX11_winnersBy_97 rfl ?_
              refine am_ishl dX11_winnersBy_98 ?_
              refine am_goto (tgt := 103) dX11_winnersBy_99 (by decide) ?_
              refine am_ior dX11_winnersBy_103 ?_
              refine am_set (am_istore_n dX11_winnersBy_104 (by decide)) (L1 := [.ref o, .int v1, .int (v2 ||| ((nI 1) <<< (v3 &&& 31))), .int v3, .int x3]) rfl ?_
              refine am_set (am_iinc (x := v3) (c0 := (nI 1)) dX11_winnersBy_105 (by decide) rfl (by decide)) (L1 := [.ref o, .int v1, .int (v2 ||| ((nI 1) <<< (v3 &&& 31))), .int (v3 + (nI 1)), .int x3]) rfl ?_
              refine am_goto (tgt := 12) dX11_winnersBy_108 (by decide) ?_
              refine am_drop [4] (L1 := [.ref o, .int v1, .int (v2 ||| ((nI 1) <<< (v3 &&& 31))), .int (v3 + (nI 1)), .null]) rfl ?_
              exact hT
          · replace hT := hT.2 h
            refine am_aload_n (x := o) dX11_winnersBy_71 rfl ?_
            refine am_iload_n (x := v3) dX11_winnersBy_72 rfl ?_
            obtain ⟨x4, hm, hT⟩ := hT
            refine am_callV (av := [.int v3]) (st := []) (b := o) cw_X11_isFirst cl_X11_159 ck_X11_isFirst cs_X11_isFirst ho.1 rfl rfl (Nat.le_of_ble_eq_true rfl) dX11_winnersBy_73 hm (fun r D9 hr => ?_)
            obtain ⟨rfl, e9⟩ := hr
            rw [e9]
            clear e9
            refine am_goto (tgt := 88) dX11_winnersBy_76 (by decide) ?_
            refine am_set (am_istore dX11_winnersBy_88 (by decide)) (L1 := [.ref o, .int v1, .int v2, .int v3, .int x4]) rfl ?_
            refine am_iload_n (x := v2) dX11_winnersBy_90 rfl ?_
            refine am_iload (x := x4) dX11_winnersBy_91 rfl ?_
            refine am_if_eq (tgt := 102) dX11_winnersBy_93 (by decide) (fun h => ?_) (fun h => ?_)
            · replace hT := hT.1 h
              refine am_iconst (v := (nI 0)) dX11_winnersBy_102 (by decide) ?_
              refine am_ior dX11_winnersBy_103 ?_
              refine am_set (am_istore_n dX11_winnersBy_104 (by decide)) (L1 := [.ref o, .int v1, .int (v2 ||| (nI 0)), .int v3, .int x4]) rfl ?_
              refine am_set (am_iinc (x := v3) (c0 := (nI 1)) dX11_winnersBy_105 (by decide) rfl (by decide)) (L1 := [.ref o, .int v1, .int (v2 ||| (nI 0)), .int (v3 + (nI 1)), .int x4]) rfl ?_
              refine am_goto (tgt := 12) dX11_winnersBy_108 (by decide) ?_
              refine am_drop [4] (L1 := [.ref o, .int v1, .int (v2 ||| (nI 0)), .int (v3 + (nI 1)), .null]) rfl ?_
              exact hT
            · replace hT := hT.2 h
              refine am_iconst (v := (nI 1)) dX11_winnersBy_96 (by decide) ?_
              refine am_iload_n (x := v3) dX11_winnersBy_97 rfl ?_
              refine am_ishl dX11_winnersBy_98 ?_
              refine am_goto (tgt := 103) dX11_winnersBy_99 (by decide) ?_
              refine am_ior dX11_winnersBy_103 ?_
              refine am_set (am_istore_n dX11_winnersBy_104 (by decide)) (L1 := [.ref o, .int v1, .int (v2 ||| ((nI 1) <<< (v3 &&& 31))), .int v3, .int x4]) rfl ?_
              refine am_set (am_iinc (x := v3) (c0 := (nI 1)) dX11_winnersBy_105 (by decide) rfl (by decide)) (L1 := [.ref o, .int v1, .int (v2 ||| ((nI 1) <<< (v3 &&& 31))), .int (v3 + (nI 1)), .int x4]) rfl ?_
              refine am_goto (tgt := 12) dX11_winnersBy_108 (by decide) ?_
              refine am_drop [4] (L1 := [.ref o, .int v1, .int (v2 ||| ((nI 1) <<< (v3 &&& 31))), .int (v3 + (nI 1)), .null]) rfl ?_
              exact hT
        · replace hT := hT.2 h
          refine am_aload_n (x := o) dX11_winnersBy_58 rfl ?_
          refine am_iload_n (x := v3) dX11_winnersBy_59 rfl ?_
          obtain ⟨x5, hm, hT⟩ := hT
          refine am_callV (av := [.int v3]) (st := []) (b := o) cw_X11_isTop cl_X11_156 ck_X11_isTop cs_X11_isTop ho.1 rfl rfl (Nat.le_of_ble_eq_true rfl) dX11_winnersBy_60 hm (fun r D9 hr => ?_)
          obtain ⟨rfl, e9⟩ := hr
          rw [e9]
          clear e9
          refine am_goto (tgt := 88) dX11_winnersBy_63 (by decide) ?_
          refine am_set (am_istore dX11_winnersBy_88 (by decide)) (L1 := [.ref o, .int v1, .int v2, .int v3, .int x5]) rfl ?_
          refine am_iload_n (x := v2) dX11_winnersBy_90 rfl ?_
          refine am_iload (x := x5) dX11_winnersBy_91 rfl ?_
          refine am_if_eq (tgt := 102) dX11_winnersBy_93 (by decide) (fun h => ?_) (fun h => ?_)
          · replace hT := hT.1 h
            refine am_iconst (v := (nI 0)) dX11_winnersBy_102 (by decide) ?_
            refine am_ior dX11_winnersBy_103 ?_
            refine am_set (am_istore_n dX11_winnersBy_104 (by decide)) (L1 := [.ref o, .int v1, .int (v2 ||| (nI 0)), .int v3, .int x5]) rfl ?_
            refine am_set (am_iinc (x := v3) (c0 := (nI 1)) dX11_winnersBy_105 (by decide) rfl (by decide)) (L1 := [.ref o, .int v1, .int (v2 ||| (nI 0)), .int (v3 + (nI 1)), .int x5]) rfl ?_
            refine am_goto (tgt := 12) dX11_winnersBy_108 (by decide) ?_
            refine am_drop [4] (L1 := [.ref o, .int v1, .int (v2 ||| (nI 0)), .int (v3 + (nI 1)), .null]) rfl ?_
            exact hT
          · replace hT := hT.2 h
            refine am_iconst (v := (nI 1)) dX11_winnersBy_96 (by decide) ?_
            refine am_iload_n (x := v3) dX11_winnersBy_97 rfl ?_
            refine am_ishl dX11_winnersBy_98 ?_
            refine am_goto (tgt := 103) dX11_winnersBy_99 (by decide) ?_
            refine am_ior dX11_winnersBy_103 ?_
            refine am_set (am_istore_n dX11_winnersBy_104 (by decide)) (L1 := [.ref o, .int v1, .int (v2 ||| ((nI 1) <<< (v3 &&& 31))), .int v3, .int x5]) rfl ?_
            refine am_set (am_iinc (x := v3) (c0 := (nI 1)) dX11_winnersBy_105 (by decide) rfl (by decide)) (L1 := [.ref o, .int v1, .int (v2 ||| ((nI 1) <<< (v3 &&& 31))), .int (v3 + (nI 1)), .int x5]) rfl ?_
            refine am_goto (tgt := 12) dX11_winnersBy_108 (by decide) ?_
            refine am_drop [4] (L1 := [.ref o, .int v1, .int (v2 ||| ((nI 1) <<< (v3 &&& 31))), .int (v3 + (nI 1)), .null]) rfl ?_
            exact hT
      · replace hT := hT.2 h
        refine am_aload_n (x := o) dX11_winnersBy_45 rfl ?_
        refine am_iload_n (x := v3) dX11_winnersBy_46 rfl ?_
        obtain ⟨x6, hm, hT⟩ := hT
        refine am_callV (av := [.int v3]) (st := []) (b := o) cw_X11_isKing cl_X11_153 ck_X11_isKing cs_X11_isKing ho.1 rfl rfl (Nat.le_of_ble_eq_true rfl) dX11_winnersBy_47 hm (fun r D9 hr => ?_)
        obtain ⟨rfl, e9⟩ := hr
        rw [e9]
        clear e9
        refine am_goto (tgt := 88) dX11_winnersBy_50 (by decide) ?_
        refine am_set (am_istore dX11_winnersBy_88 (by decide)) (L1 := [.ref o, .int v1, .int v2, .int v3, .int x6]) rfl ?_
        refine am_iload_n (x := v2) dX11_winnersBy_90 rfl ?_
        refine am_iload (x := x6) dX11_winnersBy_91 rfl ?_
        refine am_if_eq (tgt := 102) dX11_winnersBy_93 (by decide) (fun h => ?_) (fun h => ?_)
        · replace hT := hT.1 h
          refine am_iconst (v := (nI 0)) dX11_winnersBy_102 (by decide) ?_
          refine am_ior dX11_winnersBy_103 ?_
          refine am_set (am_istore_n dX11_winnersBy_104 (by decide)) (L1 := [.ref o, .int v1, .int (v2 ||| (nI 0)), .int v3, .int x6]) rfl ?_
          refine am_set (am_iinc (x := v3) (c0 := (nI 1)) dX11_winnersBy_105 (by decide) rfl (by decide)) (L1 := [.ref o, .int v1, .int (v2 ||| (nI 0)), .int (v3 + (nI 1)), .int x6]) rfl ?_
          refine am_goto (tgt := 12) dX11_winnersBy_108 (by decide) ?_
          refine am_drop [4] (L1 := [.ref o, .int v1, .int (v2 ||| (nI 0)), .int (v3 + (nI 1)), .null]) rfl ?_
          exact hT
        · replace hT := hT.2 h
          refine am_iconst (v := (nI 1)) dX11_winnersBy_96 (by decide) ?_
          refine am_iload_n (x := v3) dX11_winnersBy_97 rfl ?_
          refine am_ishl dX11_winnersBy_98 ?_
          refine am_goto (tgt := 103) dX11_winnersBy_99 (by decide) ?_
          refine am_ior dX11_winnersBy_103 ?_
          refine am_set (am_istore_n dX11_winnersBy_104 (by decide)) (L1 := [.ref o, .int v1, .int (v2 ||| ((nI 1) <<< (v3 &&& 31))), .int v3, .int x6]) rfl ?_
          refine am_set (am_iinc (x := v3) (c0 := (nI 1)) dX11_winnersBy_105 (by decide) rfl (by decide)) (L1 := [.ref o, .int v1, .int (v2 ||| ((nI 1) <<< (v3 &&& 31))), .int (v3 + (nI 1)), .int x6]) rfl ?_
          refine am_goto (tgt := 12) dX11_winnersBy_108 (by decide) ?_
          refine am_drop [4] (L1 := [.ref o, .int v1, .int (v2 ||| ((nI 1) <<< (v3 &&& 31))), .int (v3 + (nI 1)), .null]) rfl ?_
          exact hT
    · replace hT := hT.2 h
      refine am_aload_n (x := o) dX11_winnersBy_24 rfl ?_
      refine am_iload_n (x := v3) dX11_winnersBy_25 rfl ?_
      obtain ⟨x7, hm, hT⟩ := hT
      refine am_callV (av := [.int v3]) (st := []) (b := o) cw_X11_componentAt cl_X11_126 ck_X11_componentAt cs_X11_componentAt ho.1 rfl rfl (Nat.le_of_ble_eq_true rfl) dX11_winnersBy_26 hm (fun r D9 hr => ?_)
      obtain ⟨rfl, e9⟩ := hr
      rw [e9]
      clear e9
      refine am_if_ne (tgt := 36) dX11_winnersBy_29 (by decide) (fun h => ?_) (fun h => ?_)
      · replace hT := hT.1 h
        refine am_iconst (v := (nI 0)) dX11_winnersBy_36 (by decide) ?_
        refine am_goto (tgt := 88) dX11_winnersBy_37 (by decide) ?_
        refine am_set (am_istore dX11_winnersBy_88 (by decide)) (L1 := [.ref o, .int v1, .int v2, .int v3, .int (nI 0)]) rfl ?_
        refine am_iload_n (x := v2) dX11_winnersBy_90 rfl ?_
        refine am_iload (x := (nI 0)) dX11_winnersBy_91 rfl ?_
        refine am_if_eq (tgt := 102) dX11_winnersBy_93 (by decide) (fun h => ?_) (fun h => ?_)
        · replace hT := hT.1 h
          refine am_iconst (v := (nI 0)) dX11_winnersBy_102 (by decide) ?_
          refine am_ior dX11_winnersBy_103 ?_
          refine am_set (am_istore_n dX11_winnersBy_104 (by decide)) (L1 := [.ref o, .int v1, .int (v2 ||| (nI 0)), .int v3, .int (nI 0)]) rfl ?_
          refine am_set (am_iinc (x := v3) (c0 := (nI 1)) dX11_winnersBy_105 (by decide) rfl (by decide)) (L1 := [.ref o, .int v1, .int (v2 ||| (nI 0)), .int (v3 + (nI 1)), .int (nI 0)]) rfl ?_
          refine am_goto (tgt := 12) dX11_winnersBy_108 (by decide) ?_
          refine am_drop [4] (L1 := [.ref o, .int v1, .int (v2 ||| (nI 0)), .int (v3 + (nI 1)), .null]) rfl ?_
          exact hT
        · replace hT := hT.2 h
          refine am_iconst (v := (nI 1)) dX11_winnersBy_96 (by decide) ?_
          refine am_iload_n (x := v3) dX11_winnersBy_97 rfl ?_
          refine am_ishl dX11_winnersBy_98 ?_
          refine am_goto (tgt := 103) dX11_winnersBy_99 (by decide) ?_
          refine am_ior dX11_winnersBy_103 ?_
          refine am_set (am_istore_n dX11_winnersBy_104 (by decide)) (L1 := [.ref o, .int v1, .int (v2 ||| ((nI 1) <<< (v3 &&& 31))), .int v3, .int (nI 0)]) rfl ?_
          refine am_set (am_iinc (x := v3) (c0 := (nI 1)) dX11_winnersBy_105 (by decide) rfl (by decide)) (L1 := [.ref o, .int v1, .int (v2 ||| ((nI 1) <<< (v3 &&& 31))), .int (v3 + (nI 1)), .int (nI 0)]) rfl ?_
          refine am_goto (tgt := 12) dX11_winnersBy_108 (by decide) ?_
          refine am_drop [4] (L1 := [.ref o, .int v1, .int (v2 ||| ((nI 1) <<< (v3 &&& 31))), .int (v3 + (nI 1)), .null]) rfl ?_
          exact hT
      · replace hT := hT.2 h
        refine am_iconst (v := (nI 1)) dX11_winnersBy_32 (by decide) ?_
        refine am_goto (tgt := 88) dX11_winnersBy_33 (by decide) ?_
        refine am_set (am_istore dX11_winnersBy_88 (by decide)) (L1 := [.ref o, .int v1, .int v2, .int v3, .int (nI 1)]) rfl ?_
        refine am_iload_n (x := v2) dX11_winnersBy_90 rfl ?_
        refine am_iload (x := (nI 1)) dX11_winnersBy_91 rfl ?_
        refine am_if_eq (tgt := 102) dX11_winnersBy_93 (by decide) (fun h => ?_) (fun h => ?_)
        · replace hT := hT.1 h
          refine am_iconst (v := (nI 0)) dX11_winnersBy_102 (by decide) ?_
          refine am_ior dX11_winnersBy_103 ?_
          refine am_set (am_istore_n dX11_winnersBy_104 (by decide)) (L1 := [.ref o, .int v1, .int (v2 ||| (nI 0)), .int v3, .int (nI 1)]) rfl ?_
          refine am_set (am_iinc (x := v3) (c0 := (nI 1)) dX11_winnersBy_105 (by decide) rfl (by decide)) (L1 := [.ref o, .int v1, .int (v2 ||| (nI 0)), .int (v3 + (nI 1)), .int (nI 1)]) rfl ?_
          refine am_goto (tgt := 12) dX11_winnersBy_108 (by decide) ?_
          refine am_drop [4] (L1 := [.ref o, .int v1, .int (v2 ||| (nI 0)), .int (v3 + (nI 1)), .null]) rfl ?_
          exact hT
        · replace hT := hT.2 h
          refine am_iconst (v := (nI 1)) dX11_winnersBy_96 (by decide) ?_
          refine am_iload_n (x := v3) dX11_winnersBy_97 rfl ?_
          refine am_ishl dX11_winnersBy_98 ?_
          refine am_goto (tgt := 103) dX11_winnersBy_99 (by decide) ?_
          refine am_ior dX11_winnersBy_103 ?_
          refine am_set (am_istore_n dX11_winnersBy_104 (by decide)) (L1 := [.ref o, .int v1, .int (v2 ||| ((nI 1) <<< (v3 &&& 31))), .int v3, .int (nI 1)]) rfl ?_
          refine am_set (am_iinc (x := v3) (c0 := (nI 1)) dX11_winnersBy_105 (by decide) rfl (by decide)) (L1 := [.ref o, .int v1, .int (v2 ||| ((nI 1) <<< (v3 &&& 31))), .int (v3 + (nI 1)), .int (nI 1)]) rfl ?_
          refine am_goto (tgt := 12) dX11_winnersBy_108 (by decide) ?_
          refine am_drop [4] (L1 := [.ref o, .int v1, .int (v2 ||| ((nI 1) <<< (v3 &&& 31))), .int (v3 + (nI 1)), .null]) rfl ?_
          exact hT
set_option maxRecDepth 20000 in
theorem eX11_winners {lay : List am_L} {d : Nat} {D : am_D} {Q : Option Value → am_D → Prop} {o : Nat} {v1 : Int32} (ho : isX11 lay o) (hT : (∃ x1, am_MetP lay d mX11_in [.int v1, .int (nI 0), .int (nI 4)] D x1 ∧
 ((x1 = nI 0 → Q (some (.int (-1))) D) ∧
 (¬ (x1 = nI 0) → (∃ x2 D3, am_MetI lay d mX11_winnersBy [.ref o, .int v1] D x2 D3 ∧
 Q (some (.int x2)) D3))))) : am_Met lay (d + 1) mX11_winners [.ref o, .int v1] D Q := by
  refine am_enter (by decide +kernel) rfl (Nat.le_of_ble_eq_true rfl) ?_
  show am_AW lay (d + 1) mX11_winners 0 [.ref o, .int v1] [] D Q
  refine am_iload_n (x := v1) dX11_winners_0 rfl ?_
  refine am_iconst (v := (nI 0)) dX11_winners_1 (by decide) ?_
  refine am_iconst (v := (nI 4)) dX11_winners_2 (by decide) ?_
  obtain ⟨x1, hm, hT⟩ := hT
  refine am_callS (av := [.int v1, .int (nI 0), .int (nI 4)]) (st := []) cw_X11_in cl_X11_53 ck_X11_in (Nat.le_of_ble_eq_true rfl) dX11_winners_3 hm (fun r D9 hr => ?_)
  obtain ⟨rfl, e9⟩ := hr
  rw [e9]
  clear e9
  refine am_if_eq (tgt := 17) dX11_winners_6 (by decide) (fun h => ?_) (fun h => ?_)
  · replace hT := hT.1 h
    refine am_iconst (v := (-1)) dX11_winners_17 (by decide) ?_
    exact am_ireturn (ty := .int) dX11_winners_18 rfl rfl hT
  · replace hT := hT.2 h
    refine am_aload_n (x := o) dX11_winners_9 rfl ?_
    refine am_iload_n (x := v1) dX11_winners_10 rfl ?_
    obtain ⟨x2, D3, hm, hT⟩ := hT
    refine am_callV (av := [.int v1]) (st := []) (b := o) cw_X11_winnersBy cl_X11_162 ck_X11_winnersBy cs_X11_winnersBy ho.1 rfl rfl (Nat.le_of_ble_eq_true rfl) dX11_winners_11 hm (fun r D9 hr => ?_)
    obtain ⟨rfl, e9⟩ := hr
    rw [e9]
    clear e9
    refine am_goto (tgt := 18) dX11_winners_14 (by decide) ?_
    exact am_ireturn (ty := .int) dX11_winners_18 rfl rfl hT
set_option maxRecDepth 20000 in
theorem eX11_undisputed {lay : List am_L} {d : Nat} {D : am_D} {Q : Option Value → am_D → Prop} {o : Nat} (ho : isX11 lay o) (hT : (∃ x1, am_MetP lay d mX11_all [.ref o] D x1 ∧
 am_AW lay (d + 1) mX11_undisputed 7 [.ref o, .int x1, .int (nI 0)] [] D Q)) : am_Met lay (d + 1) mX11_undisputed [.ref o] D Q := by
  refine am_enter (by decide +kernel) rfl (Nat.le_of_ble_eq_true rfl) ?_
  show am_AW lay (d + 1) mX11_undisputed 0 [.ref o, .null, .null] [] D Q
  refine am_aload_n (x := o) dX11_undisputed_0 rfl ?_
  obtain ⟨x1, hm, hT⟩ := hT
  refine am_callV (av := []) (st := []) (b := o) cw_X11_all cl_X11_111 ck_X11_all cs_X11_all ho.1 rfl rfl (Nat.le_of_ble_eq_true rfl) dX11_undisputed_1 hm (fun r D9 hr => ?_)
  obtain ⟨rfl, e9⟩ := hr
  rw [e9]
  clear e9
  refine am_set (am_istore_n dX11_undisputed_4 (by decide)) (L1 := [.ref o, .int x1, .null]) rfl ?_
  refine am_iconst (v := (nI 0)) dX11_undisputed_5 (by decide) ?_
  refine am_set (am_istore_n dX11_undisputed_6 (by decide)) (L1 := [.ref o, .int x1, .int (nI 0)]) rfl ?_
  exact hT
set_option maxRecDepth 20000 in
theorem rX11_undisputed_7 {lay : List am_L} {d : Nat} {D : am_D} {Q : Option Value → am_D → Prop} {o : Nat} {v1 : Int32} {v2 : Int32} (ho : isX11 lay o) (hT : (((nI 5) ≤ v2 → (∃ x1, am_MetP lay d mX11_count [.int v1] D x1 ∧
 Q (some (.int x1)) D)) ∧
 (¬ ((nI 5) ≤ v2) → (∃ x2 D3, am_MetI lay d mX11_winnersBy [.ref o, .int v2] D x2 D3 ∧
 am_AW lay (d + 1) mX11_undisputed 7 [.ref o, .int (v1 &&& x2), .int (v2 + (nI 1))] [] D3 Q)))) : am_AW lay (d + 1) mX11_undisputed 7 [.ref o, .int v1, .int v2] [] D Q := by
  refine am_iload_n (x := v2) dX11_undisputed_7 rfl ?_
  refine am_iconst (v := (nI 5)) dX11_undisputed_8 (by decide) ?_
  refine am_icmp_ge (tgt := 26) dX11_undisputed_9 (by decide) (fun h => ?_) (fun h => ?_)
  · replace hT := hT.1 h
    refine am_iload_n (x := v1) dX11_undisputed_26 rfl ?_
    obtain ⟨x1, hm, hT⟩ := hT
    refine am_callS (av := [.int v1]) (st := []) cw_X11_count cl_X11_98 ck_X11_count (Nat.le_of_ble_eq_true rfl) dX11_undisputed_27 hm (fun r D9 hr => ?_)
    obtain ⟨rfl, e9⟩ := hr
    rw [e9]
    clear e9
    exact am_ireturn (ty := .int) dX11_undisputed_30 rfl rfl hT
  · replace hT := hT.2 h
    refine am_iload_n (x := v1) dX11_undisputed_12 rfl ?_
    refine am_aload_n (x := o) dX11_undisputed_13 rfl ?_
    refine am_iload_n (x := v2) dX11_undisputed_14 rfl ?_
    obtain ⟨x2, D3, hm, hT⟩ := hT
    refine am_callV (av := [.int v2]) (st := [.int v1]) (b := o) cw_X11_winnersBy cl_X11_162 ck_X11_winnersBy cs_X11_winnersBy ho.1 rfl rfl (Nat.le_of_ble_eq_true rfl) dX11_undisputed_15 hm (fun r D9 hr => ?_)
    obtain ⟨rfl, e9⟩ := hr
    rw [e9]
    clear e9
    refine am_iand dX11_undisputed_18 ?_
    refine am_set (am_istore_n dX11_undisputed_19 (by decide)) (L1 := [.ref o, .int (v1 &&& x2), .int v2]) rfl ?_
    refine am_set (am_iinc (x := v2) (c0 := (nI 1)) dX11_undisputed_20 (by decide) rfl (by decide)) (L1 := [.ref o, .int (v1 &&& x2), .int (v2 + (nI 1))]) rfl ?_
    refine am_goto (tgt := 7) dX11_undisputed_23 (by decide) ?_
    exact hT
set_option maxRecDepth 20000 in
theorem eX11_store {lay : List am_L} {d : Nat} {D : am_D} {Q : Option Value → am_D → Prop} {o : Nat} (ho : isX11 lay o) (hT : (∃ D1, am_MetV lay d mX11_copies [.ref (o + 1), .ref (o + 2)] D D1 ∧
 (∃ x2, am_MetP lay d mX11_n [.ref o] D1 x2 ∧
 Q (some (.int x2)) D1))) : am_Met lay (d + 1) mX11_store [.ref o] D Q := by
  refine am_enter (by decide +kernel) rfl (Nat.le_of_ble_eq_true rfl) ?_
  show am_AW lay (d + 1) mX11_store 0 [.ref o] [] D Q
  refine am_aload_n (x := o) dX11_store_0 rfl ?_
  refine am_getR dX11_store_1 fw_X11_7 ho.1 rfl ?_
  refine am_aload_n (x := o) dX11_store_4 rfl ?_
  refine am_getR dX11_store_5 fw_X11_13 ho.1 rfl ?_
  obtain ⟨D1, hm, hT⟩ := hT
  refine am_callS (av := [.ref (o + 1), .ref (o + 2)]) (st := []) cw_X11_copies cl_X11_41 ck_X11_copies (Nat.le_of_ble_eq_true rfl) dX11_store_8 hm (fun r D9 hr => ?_)
  obtain ⟨rfl, e9⟩ := hr
  rw [e9]
  clear e9
  refine am_aload_n (x := o) dX11_store_11 rfl ?_
  obtain ⟨x2, hm, hT⟩ := hT
  refine am_callV (av := []) (st := []) (b := o) cw_X11_n cl_X11_92 ck_X11_n cs_X11_n ho.1 rfl rfl (Nat.le_of_ble_eq_true rfl) dX11_store_12 hm (fun r D9 hr => ?_)
  obtain ⟨rfl, e9⟩ := hr
  rw [e9]
  clear e9
  exact am_ireturn (ty := .int) dX11_store_15 rfl rfl hT
set_option maxRecDepth 20000 in
theorem eX11_differs {lay : List am_L} {d : Nat} {D : am_D} {Q : Option Value → am_D → Prop} {o : Nat} {v1 : Int32} {v2 : Int32} (ho : isX11 lay o) (hT : (vp_in ((nI 1) + v1) 111 ∧ (∃ x1, am_MetP lay d mX11_has [.int (D (o + 2) (Int32.toNatClampNeg ((nI 1) + v1))), .int v2] D x1 ∧
 (∃ x2, am_MetP lay d mX11_beats1 [.ref o, .int v1, .int v2] D x2 ∧
 ((x1 = x2 → Q (some (.int (nI 0))) D) ∧
 (¬ (x1 = x2) → Q (some (.int (nI 1))) D)))))) : am_Met lay (d + 1) mX11_differs [.ref o, .int v1, .int v2] D Q := by
  refine am_enter (by decide +kernel) rfl (Nat.le_of_ble_eq_true rfl) ?_
  show am_AW lay (d + 1) mX11_differs 0 [.ref o, .int v1, .int v2] [] D Q
  refine am_aload_n (x := o) dX11_differs_0 rfl ?_
  refine am_getR dX11_differs_1 fw_X11_13 ho.1 rfl ?_
  refine am_iconst (v := (nI 1)) dX11_differs_4 (by decide) ?_
  refine am_iload_n (x := v1) dX11_differs_5 rfl ?_
  refine am_iadd dX11_differs_6 ?_
  refine am_iald dX11_differs_7 ho.2.2.1 hT.1 ?_
  replace hT := hT.2
  refine am_iload_n (x := v2) dX11_differs_8 rfl ?_
  obtain ⟨x1, hm, hT⟩ := hT
  refine am_callS (av := [.int (D (o + 2) (Int32.toNatClampNeg ((nI 1) + v1))), .int v2]) (st := []) cw_X11_has cl_X11_49 ck_X11_has (Nat.le_of_ble_eq_true rfl) dX11_differs_9 hm (fun r D9 hr => ?_)
  obtain ⟨rfl, e9⟩ := hr
  rw [e9]
  clear e9
  refine am_aload_n (x := o) dX11_differs_12 rfl ?_
  refine am_iload_n (x := v1) dX11_differs_13 rfl ?_
  refine am_iload_n (x := v2) dX11_differs_14 rfl ?_
  obtain ⟨x2, hm, hT⟩ := hT
  refine am_callV (av := [.int v1, .int v2]) (st := [.int x1]) (b := o) cw_X11_beats1 cl_X11_69 ck_X11_beats1 cs_X11_beats1 ho.1 rfl rfl (Nat.le_of_ble_eq_true rfl) dX11_differs_15 hm (fun r D9 hr => ?_)
  obtain ⟨rfl, e9⟩ := hr
  rw [e9]
  clear e9
  refine am_icmp_eq (tgt := 25) dX11_differs_18 (by decide) (fun h => ?_) (fun h => ?_)
  · replace hT := hT.1 h
    refine am_iconst (v := (nI 0)) dX11_differs_25 (by decide) ?_
    exact am_ireturn (ty := .boolean) dX11_differs_26 rfl (by decide) hT
  · replace hT := hT.2 h
    refine am_iconst (v := (nI 1)) dX11_differs_21 (by decide) ?_
    refine am_goto (tgt := 26) dX11_differs_22 (by decide) ?_
    exact am_ireturn (ty := .boolean) dX11_differs_26 rfl (by decide) hT
set_option maxRecDepth 20000 in
theorem eX11_difference {lay : List am_L} {d : Nat} {D : am_D} {Q : Option Value → am_D → Prop} {o : Nat} (ho : isX11 lay o) (hT : (vp_in (nI 0) 111 ∧ (∃ x1, am_MetP lay d mX11_n [.ref o] D x1 ∧
 (((D (o + 2) (Int32.toNatClampNeg (nI 0))) = x1 → am_AW lay (d + 1) mX11_difference 20 [.ref o, .int (nI 0), .int (nI 0), .null] [] D Q) ∧
 (¬ ((D (o + 2) (Int32.toNatClampNeg (nI 0))) = x1) → Q (some (.int (-2))) D))))) : am_Met lay (d + 1) mX11_difference [.ref o] D Q := by
  refine am_enter (by decide +kernel) rfl (Nat.le_of_ble_eq_true rfl) ?_
  show am_AW lay (d + 1) mX11_difference 0 [.ref o, .null, .null, .null] [] D Q
  refine am_aload_n (x := o) dX11_difference_0 rfl ?_
  refine am_getR dX11_difference_1 fw_X11_13 ho.1 rfl ?_
  refine am_iconst (v := (nI 0)) dX11_difference_4 (by decide) ?_
  refine am_iald dX11_difference_5 ho.2.2.1 hT.1 ?_
  replace hT := hT.2
  refine am_aload_n (x := o) dX11_difference_6 rfl ?_
  obtain ⟨x1, hm, hT⟩ := hT
  refine am_callV (av := []) (st := [.int (D (o + 2) (Int32.toNatClampNeg (nI 0)))]) (b := o) cw_X11_n cl_X11_92 ck_X11_n cs_X11_n ho.1 rfl rfl (Nat.le_of_ble_eq_true rfl) dX11_difference_7 hm (fun r D9 hr => ?_)
  obtain ⟨rfl, e9⟩ := hr
  rw [e9]
  clear e9
  refine am_icmp_eq (tgt := 16) dX11_difference_10 (by decide) (fun h => ?_) (fun h => ?_)
  · replace hT := hT.1 h
    refine am_iconst (v := (nI 0)) dX11_difference_16 (by decide) ?_
    refine am_set (am_istore_n dX11_difference_17 (by decide)) (L1 := [.ref o, .int (nI 0), .null, .null]) rfl ?_
    refine am_iconst (v := (nI 0)) dX11_difference_18 (by decide) ?_
    refine am_set (am_istore_n dX11_difference_19 (by decide)) (L1 := [.ref o, .int (nI 0), .int (nI 0), .null]) rfl ?_
    exact hT
  · replace hT := hT.2 h
    refine am_bipush (v := (-2)) dX11_difference_13 (by decide) ?_
    exact am_ireturn (ty := .int) dX11_difference_15 rfl rfl hT
set_option maxRecDepth 20000 in
theorem rX11_difference_20 {lay : List am_L} {d : Nat} {D : am_D} {Q : Option Value → am_D → Prop} {o : Nat} {v1 : Int32} {v2 : Int32} (ho : isX11 lay o) (hT : (∃ x1, am_MetP lay d mX11_n [.ref o] D x1 ∧
 ((x1 ≤ v2 → Q (some (.int v1)) D) ∧
 (¬ (x1 ≤ v2) → am_AW lay (d + 1) mX11_difference 32 [.ref o, .int v1, .int v2, .int (v2 + (nI 1))] [] D Q)))) : am_AW lay (d + 1) mX11_difference 20 [.ref o, .int v1, .int v2, .null] [] D Q := by
  refine am_iload_n (x := v2) dX11_difference_20 rfl ?_
  refine am_aload_n (x := o) dX11_difference_21 rfl ?_
  obtain ⟨x1, hm, hT⟩ := hT
  refine am_callV (av := []) (st := [.int v2]) (b := o) cw_X11_n cl_X11_92 ck_X11_n cs_X11_n ho.1 rfl rfl (Nat.le_of_ble_eq_true rfl) dX11_difference_22 hm (fun r D9 hr => ?_)
  obtain ⟨rfl, e9⟩ := hr
  rw [e9]
  clear e9
  refine am_icmp_ge (tgt := 69) dX11_difference_25 (by decide) (fun h => ?_) (fun h => ?_)
  · replace hT := hT.1 h
    refine am_iload_n (x := v1) dX11_difference_69 rfl ?_
    exact am_ireturn (ty := .int) dX11_difference_70 rfl rfl hT
  · replace hT := hT.2 h
    refine am_iload_n (x := v2) dX11_difference_28 rfl ?_
    refine am_iconst (v := (nI 1)) dX11_difference_29 (by decide) ?_
    refine am_iadd dX11_difference_30 ?_
    refine am_set (am_istore_n dX11_difference_31 (by decide)) (L1 := [.ref o, .int v1, .int v2, .int (v2 + (nI 1))]) rfl ?_
    exact hT
set_option maxRecDepth 20000 in
theorem rX11_difference_32 {lay : List am_L} {d : Nat} {D : am_D} {Q : Option Value → am_D → Prop} {o : Nat} {v1 : Int32} {v2 : Int32} {v3 : Int32} (ho : isX11 lay o) (hT : (∃ x1, am_MetP lay d mX11_n [.ref o] D x1 ∧
 ((x1 ≤ v3 → am_AW lay (d + 1) mX11_difference 20 [.ref o, .int v1, .int (v2 + (nI 1)), .null] [] D Q) ∧
 (¬ (x1 ≤ v3) → (∃ x2, am_MetP lay d mX11_differs [.ref o, .int v2, .int v3] D x2 ∧
 ((x2 = nI 0 → am_AW lay (d + 1) mX11_difference 32 [.ref o, .int (v1 + (nI 0)), .int v2, .int (v3 + (nI 1))] [] D Q) ∧
 (¬ (x2 = nI 0) → am_AW lay (d + 1) mX11_difference 32 [.ref o, .int (v1 + (nI 1)), .int v2, .int (v3 + (nI 1))] [] D Q))))))) : am_AW lay (d + 1) mX11_difference 32 [.ref o, .int v1, .int v2, .int v3] [] D Q := by
  refine am_iload_n (x := v3) dX11_difference_32 rfl ?_
  refine am_aload_n (x := o) dX11_difference_33 rfl ?_
  obtain ⟨x1, hm, hT⟩ := hT
  refine am_callV (av := []) (st := [.int v3]) (b := o) cw_X11_n cl_X11_92 ck_X11_n cs_X11_n ho.1 rfl rfl (Nat.le_of_ble_eq_true rfl) dX11_difference_34 hm (fun r D9 hr => ?_)
  obtain ⟨rfl, e9⟩ := hr
  rw [e9]
  clear e9
  refine am_icmp_ge (tgt := 63) dX11_difference_37 (by decide) (fun h => ?_) (fun h => ?_)
  · replace hT := hT.1 h
    refine am_set (am_iinc (x := v2) (c0 := (nI 1)) dX11_difference_63 (by decide) rfl (by decide)) (L1 := [.ref o, .int v1, .int (v2 + (nI 1)), .int v3]) rfl ?_
    refine am_goto (tgt := 20) dX11_difference_66 (by decide) ?_
    refine am_drop [3] (L1 := [.ref o, .int v1, .int (v2 + (nI 1)), .null]) rfl ?_
    exact hT
  · replace hT := hT.2 h
    refine am_iload_n (x := v1) dX11_difference_40 rfl ?_
    refine am_aload_n (x := o) dX11_difference_41 rfl ?_
    refine am_iload_n (x := v2) dX11_difference_42 rfl ?_
    refine am_iload_n (x := v3) dX11_difference_43 rfl ?_
    obtain ⟨x2, hm, hT⟩ := hT
    refine am_callV (av := [.int v2, .int v3]) (st := [.int v1]) (b := o) cw_X11_differs cl_X11_165 ck_X11_differs cs_X11_differs ho.1 rfl rfl (Nat.le_of_ble_eq_true rfl) dX11_difference_44 hm (fun r D9 hr => ?_)
    obtain ⟨rfl, e9⟩ := hr
    rw [e9]
    clear e9
    refine am_if_eq (tgt := 54) dX11_difference_47 (by decide) (fun h => ?_) (fun h => ?_)
    · replace hT := hT.1 h
      refine am_iconst (v := (nI 0)) dX11_difference_54 (by decide) ?_
      refine am_iadd dX11_difference_55 ?_
      refine am_set (am_istore_n dX11_difference_56 (by decide)) (L1 := [.ref o, .int (v1 + (nI 0)), .int v2, .int v3]) rfl ?_
      refine am_set (am_iinc (x := v3) (c0 := (nI 1)) dX11_difference_57 (by decide) rfl (by decide)) (L1 := [.ref o, .int (v1 + (nI 0)), .int v2, .int (v3 + (nI 1))]) rfl ?_
      refine am_goto (tgt := 32) dX11_difference_60 (by decide) ?_
      exact hT
    · replace hT := hT.2 h
      refine am_iconst (v := (nI 1)) dX11_difference_50 (by decide) ?_
      refine am_goto (tgt := 55) dX11_difference_51 (by decide) ?_
      refine am_iadd dX11_difference_55 ?_
      refine am_set (am_istore_n dX11_difference_56 (by decide)) (L1 := [.ref o, .int (v1 + (nI 1)), .int v2, .int v3]) rfl ?_
      refine am_set (am_iinc (x := v3) (c0 := (nI 1)) dX11_difference_57 (by decide) rfl (by decide)) (L1 := [.ref o, .int (v1 + (nI 1)), .int v2, .int (v3 + (nI 1))]) rfl ?_
      refine am_goto (tgt := 32) dX11_difference_60 (by decide) ?_
      exact hT
set_option maxRecDepth 20000 in
theorem eX11_fits {lay : List am_L} {d : Nat} {D : am_D} {Q : Option Value → am_D → Prop} {o : Nat} {v1 : Int32} (ho : isX11 lay o) (hT : (∃ x1, am_MetP lay d mX11_beaten [.ref o, .int v1] D x1 ∧
 (∃ x2, am_MetP lay d mX11_count [.int x1] D x2 ∧
 (vp_in v1 10 ∧ (vp_in ((nI 1) + (D (o + 9) (Int32.toNatClampNeg v1))) 111 ∧ (∃ x3, am_MetP lay d mX11_count [.int (D (o + 2) (Int32.toNatClampNeg ((nI 1) + (D (o + 9) (Int32.toNatClampNeg v1)))))] D x3 ∧
 ((¬ x2 = x3 → am_AW lay (d + 1) mX11_fits 35 [.ref o, .int v1, .int (nI 0), .int (nI 0)] [] D Q) ∧
 (¬ (¬ x2 = x3) → am_AW lay (d + 1) mX11_fits 35 [.ref o, .int v1, .int (nI 1), .int (nI 0)] [] D Q)))))))) : am_Met lay (d + 1) mX11_fits [.ref o, .int v1] D Q := by
  refine am_enter (by decide +kernel) rfl (Nat.le_of_ble_eq_true rfl) ?_
  show am_AW lay (d + 1) mX11_fits 0 [.ref o, .int v1, .null, .null] [] D Q
  refine am_aload_n (x := o) dX11_fits_0 rfl ?_
  refine am_iload_n (x := v1) dX11_fits_1 rfl ?_
  obtain ⟨x1, hm, hT⟩ := hT
  refine am_callV (av := [.int v1]) (st := []) (b := o) cw_X11_beaten cl_X11_45 ck_X11_beaten cs_X11_beaten ho.1 rfl rfl (Nat.le_of_ble_eq_true rfl) dX11_fits_2 hm (fun r D9 hr => ?_)
  obtain ⟨rfl, e9⟩ := hr
  rw [e9]
  clear e9
  obtain ⟨x2, hm, hT⟩ := hT
  refine am_callS (av := [.int x1]) (st := []) cw_X11_count cl_X11_98 ck_X11_count (Nat.le_of_ble_eq_true rfl) dX11_fits_5 hm (fun r D9 hr => ?_)
  obtain ⟨rfl, e9⟩ := hr
  rw [e9]
  clear e9
  refine am_aload_n (x := o) dX11_fits_8 rfl ?_
  refine am_getR dX11_fits_9 fw_X11_13 ho.1 rfl ?_
  refine am_iconst (v := (nI 1)) dX11_fits_12 (by decide) ?_
  refine am_aload_n (x := o) dX11_fits_13 rfl ?_
  refine am_getR dX11_fits_14 fw_X11_34 ho.1 rfl ?_
  refine am_iload_n (x := v1) dX11_fits_17 rfl ?_
  refine am_iald dX11_fits_18 ho.2.2.2.2.2.2.2.2.2 hT.1 ?_
  replace hT := hT.2
  refine am_iadd dX11_fits_19 ?_
  refine am_iald dX11_fits_20 ho.2.2.1 hT.1 ?_
  replace hT := hT.2
  obtain ⟨x3, hm, hT⟩ := hT
  refine am_callS (av := [.int (D (o + 2) (Int32.toNatClampNeg ((nI 1) + (D (o + 9) (Int32.toNatClampNeg v1)))))]) (st := [.int x2]) cw_X11_count cl_X11_98 ck_X11_count (Nat.le_of_ble_eq_true rfl) dX11_fits_21 hm (fun r D9 hr => ?_)
  obtain ⟨rfl, e9⟩ := hr
  rw [e9]
  clear e9
  refine am_icmp_ne (tgt := 31) dX11_fits_24 (by decide) (fun h => ?_) (fun h => ?_)
  · replace hT := hT.1 h
    refine am_iconst (v := (nI 0)) dX11_fits_31 (by decide) ?_
    refine am_set (am_istore_n dX11_fits_32 (by decide)) (L1 := [.ref o, .int v1, .int (nI 0), .null]) rfl ?_
    refine am_iconst (v := (nI 0)) dX11_fits_33 (by decide) ?_
    refine am_set (am_istore_n dX11_fits_34 (by decide)) (L1 := [.ref o, .int v1, .int (nI 0), .int (nI 0)]) rfl ?_
    exact hT
  · replace hT := hT.2 h
    refine am_iconst (v := (nI 1)) dX11_fits_27 (by decide) ?_
    refine am_goto (tgt := 32) dX11_fits_28 (by decide) ?_
    refine am_set (am_istore_n dX11_fits_32 (by decide)) (L1 := [.ref o, .int v1, .int (nI 1), .null]) rfl ?_
    refine am_iconst (v := (nI 0)) dX11_fits_33 (by decide) ?_
    refine am_set (am_istore_n dX11_fits_34 (by decide)) (L1 := [.ref o, .int v1, .int (nI 1), .int (nI 0)]) rfl ?_
    exact hT
set_option maxRecDepth 20000 in
theorem rX11_fits_35 {lay : List am_L} {d : Nat} {D : am_D} {Q : Option Value → am_D → Prop} {o : Nat} {v1 : Int32} {v2 : Int32} {v3 : Int32} (ho : isX11 lay o) (hT : ((v1 ≤ v3 → (narrow .boolean (.int v2) = .int v2 ∧ Q (some (.int v2)) D)) ∧
 (¬ (v1 ≤ v3) → ((v2 = nI 0 → (narrow .boolean (.int v2) = .int v2 ∧ Q (some (.int v2)) D)) ∧
 (¬ (v2 = nI 0) → (vp_in v3 10 ∧ (vp_in v1 10 ∧ (((D (o + 9) (Int32.toNatClampNeg v3)) = (D (o + 9) (Int32.toNatClampNeg v1)) → am_AW lay (d + 1) mX11_fits 35 [.ref o, .int v1, .int (nI 0), .int (v3 + (nI 1))] [] D Q) ∧
 (¬ ((D (o + 9) (Int32.toNatClampNeg v3)) = (D (o + 9) (Int32.toNatClampNeg v1))) → (∃ x1, am_MetP lay d mX11_beats1 [.ref o, .int v3, .int v1] D x1 ∧
 (vp_in v3 10 ∧ (vp_in ((nI 1) + (D (o + 9) (Int32.toNatClampNeg v3))) 111 ∧ (vp_in v1 10 ∧ (∃ x2, am_MetP lay d mX11_has [.int (D (o + 2) (Int32.toNatClampNeg ((nI 1) + (D (o + 9) (Int32.toNatClampNeg v3))))), .int (D (o + 9) (Int32.toNatClampNeg v1))] D x2 ∧
 ((¬ x1 = x2 → am_AW lay (d + 1) mX11_fits 35 [.ref o, .int v1, .int (nI 0), .int (v3 + (nI 1))] [] D Q) ∧
 (¬ (¬ x1 = x2) → am_AW lay (d + 1) mX11_fits 35 [.ref o, .int v1, .int (nI 1), .int (v3 + (nI 1))] [] D Q)))))))))))))))) : am_AW lay (d + 1) mX11_fits 35 [.ref o, .int v1, .int v2, .int v3] [] D Q := by
  refine am_iload_n (x := v3) dX11_fits_35 rfl ?_
  refine am_iload_n (x := v1) dX11_fits_36 rfl ?_
  refine am_icmp_ge (tgt := 102) dX11_fits_37 (by decide) (fun h => ?_) (fun h => ?_)
  · replace hT := hT.1 h
    refine am_iload_n (x := v2) dX11_fits_102 rfl ?_
    exact am_ireturn (ty := .boolean) dX11_fits_103 rfl hT.1 hT.2
  · replace hT := hT.2 h
    refine am_iload_n (x := v2) dX11_fits_40 rfl ?_
    refine am_if_eq (tgt := 102) dX11_fits_41 (by decide) (fun h => ?_) (fun h => ?_)
    · replace hT := hT.1 h
      refine am_iload_n (x := v2) dX11_fits_102 rfl ?_
      exact am_ireturn (ty := .boolean) dX11_fits_103 rfl hT.1 hT.2
    · replace hT := hT.2 h
      refine am_aload_n (x := o) dX11_fits_44 rfl ?_
      refine am_getR dX11_fits_45 fw_X11_34 ho.1 rfl ?_
      refine am_iload_n (x := v3) dX11_fits_48 rfl ?_
      refine am_iald dX11_fits_49 ho.2.2.2.2.2.2.2.2.2 hT.1 ?_
      replace hT := hT.2
      refine am_aload_n (x := o) dX11_fits_50 rfl ?_
      refine am_getR dX11_fits_51 fw_X11_34 ho.1 rfl ?_
      refine am_iload_n (x := v1) dX11_fits_54 rfl ?_
      refine am_iald dX11_fits_55 ho.2.2.2.2.2.2.2.2.2 hT.1 ?_
      replace hT := hT.2
      refine am_icmp_eq (tgt := 94) dX11_fits_56 (by decide) (fun h => ?_) (fun h => ?_)
      · replace hT := hT.1 h
        refine am_iconst (v := (nI 0)) dX11_fits_94 (by decide) ?_
        refine am_set (am_istore_n dX11_fits_95 (by decide)) (L1 := [.ref o, .int v1, .int (nI 0), .int v3]) rfl ?_
        refine am_set (am_iinc (x := v3) (c0 := (nI 1)) dX11_fits_96 (by decide) rfl (by decide)) (L1 := [.ref o, .int v1, .int (nI 0), .int (v3 + (nI 1))]) rfl ?_
        refine am_goto (tgt := 35) dX11_fits_99 (by decide) ?_
        exact hT
      · replace hT := hT.2 h
        refine am_aload_n (x := o) dX11_fits_59 rfl ?_
        refine am_iload_n (x := v3) dX11_fits_60 rfl ?_
        refine am_iload_n (x := v1) dX11_fits_61 rfl ?_
        obtain ⟨x1, hm, hT⟩ := hT
        refine am_callV (av := [.int v3, .int v1]) (st := []) (b := o) cw_X11_beats1 cl_X11_69 ck_X11_beats1 cs_X11_beats1 ho.1 rfl rfl (Nat.le_of_ble_eq_true rfl) dX11_fits_62 hm (fun r D9 hr => ?_)
        obtain ⟨rfl, e9⟩ := hr
        rw [e9]
        clear e9
        refine am_aload_n (x := o) dX11_fits_65 rfl ?_
        refine am_getR dX11_fits_66 fw_X11_13 ho.1 rfl ?_
        refine am_iconst (v := (nI 1)) dX11_fits_69 (by decide) ?_
        refine am_aload_n (x := o) dX11_fits_70 rfl ?_
        refine am_getR dX11_fits_71 fw_X11_34 ho.1 rfl ?_
        refine am_iload_n (x := v3) dX11_fits_74 rfl ?_
        refine am_iald dX11_fits_75 ho.2.2.2.2.2.2.2.2.2 hT.1 ?_
        replace hT := hT.2
        refine am_iadd dX11_fits_76 ?_
        refine am_iald dX11_fits_77 ho.2.2.1 hT.1 ?_
        replace hT := hT.2
        refine am_aload_n (x := o) dX11_fits_78 rfl ?_
        refine am_getR dX11_fits_79 fw_X11_34 ho.1 rfl ?_
        refine am_iload_n (x := v1) dX11_fits_82 rfl ?_
        refine am_iald dX11_fits_83 ho.2.2.2.2.2.2.2.2.2 hT.1 ?_
        replace hT := hT.2
        obtain ⟨x2, hm, hT⟩ := hT
        refine am_callS (av := [.int (D (o + 2) (Int32.toNatClampNeg ((nI 1) + (D (o + 9) (Int32.toNatClampNeg v3))))), .int (D (o + 9) (Int32.toNatClampNeg v1))]) (st := [.int x1]) cw_X11_has cl_X11_49 ck_X11_has (Nat.le_of_ble_eq_true rfl) dX11_fits_84 hm (fun r D9 hr => ?_)
        obtain ⟨rfl, e9⟩ := hr
        rw [e9]
        clear e9
        refine am_icmp_ne (tgt := 94) dX11_fits_87 (by decide) (fun h => ?_) (fun h => ?_)
        · replace hT := hT.1 h
          refine am_iconst (v := (nI 0)) dX11_fits_94 (by decide) ?_
          refine am_set (am_istore_n dX11_fits_95 (by decide)) (L1 := [.ref o, .int v1, .int (nI 0), .int v3]) rfl ?_
          refine am_set (am_iinc (x := v3) (c0 := (nI 1)) dX11_fits_96 (by decide) rfl (by decide)) (L1 := [.ref o, .int v1, .int (nI 0), .int (v3 + (nI 1))]) rfl ?_
          refine am_goto (tgt := 35) dX11_fits_99 (by decide) ?_
          exact hT
        · replace hT := hT.2 h
          refine am_iconst (v := (nI 1)) dX11_fits_90 (by decide) ?_
          refine am_goto (tgt := 95) dX11_fits_91 (by decide) ?_
          refine am_set (am_istore_n dX11_fits_95 (by decide)) (L1 := [.ref o, .int v1, .int (nI 1), .int v3]) rfl ?_
          refine am_set (am_iinc (x := v3) (c0 := (nI 1)) dX11_fits_96 (by decide) rfl (by decide)) (L1 := [.ref o, .int v1, .int (nI 1), .int (v3 + (nI 1))]) rfl ?_
          refine am_goto (tgt := 35) dX11_fits_99 (by decide) ?_
          exact hT
set_option maxRecDepth 20000 in
theorem eX11_isLikeStored {lay : List am_L} {d : Nat} {D : am_D} {Q : Option Value → am_D → Prop} {o : Nat} (ho : isX11 lay o) (hT : (vp_in (nI 0) 111 ∧ (∃ x1, am_MetP lay d mX11_n [.ref o] D x1 ∧
 (((D (o + 2) (Int32.toNatClampNeg (nI 0))) = x1 → (vp_in (nI 0) 10 ∧ ∀ D2, D2 = am_up D (o + 9) (Int32.toNatClampNeg (nI 0)) (-1) →
 am_AW lay (d + 1) mX11_isLikeStored 24 [.ref o, .int (nI 0)] [] D2 Q)) ∧
 (¬ ((D (o + 2) (Int32.toNatClampNeg (nI 0))) = x1) → Q (some (.int (nI 0))) D))))) : am_Met lay (d + 1) mX11_isLikeStored [.ref o] D Q := by
  refine am_enter (by decide +kernel) rfl (Nat.le_of_ble_eq_true rfl) ?_
  show am_AW lay (d + 1) mX11_isLikeStored 0 [.ref o, .null] [] D Q
  refine am_aload_n (x := o) dX11_isLikeStored_0 rfl ?_
  refine am_getR dX11_isLikeStored_1 fw_X11_13 ho.1 rfl ?_
  refine am_iconst (v := (nI 0)) dX11_isLikeStored_4 (by decide) ?_
  refine am_iald dX11_isLikeStored_5 ho.2.2.1 hT.1 ?_
  replace hT := hT.2
  refine am_aload_n (x := o) dX11_isLikeStored_6 rfl ?_
  obtain ⟨x1, hm, hT⟩ := hT
  refine am_callV (av := []) (st := [.int (D (o + 2) (Int32.toNatClampNeg (nI 0)))]) (b := o) cw_X11_n cl_X11_92 ck_X11_n cs_X11_n ho.1 rfl rfl (Nat.le_of_ble_eq_true rfl) dX11_isLikeStored_7 hm (fun r D9 hr => ?_)
  obtain ⟨rfl, e9⟩ := hr
  rw [e9]
  clear e9
  refine am_icmp_eq (tgt := 15) dX11_isLikeStored_10 (by decide) (fun h => ?_) (fun h => ?_)
  · replace hT := hT.1 h
    refine am_iconst (v := (nI 0)) dX11_isLikeStored_15 (by decide) ?_
    refine am_set (am_istore_n dX11_isLikeStored_16 (by decide)) (L1 := [.ref o, .int (nI 0)]) rfl ?_
    refine am_aload_n (x := o) dX11_isLikeStored_17 rfl ?_
    refine am_getR dX11_isLikeStored_18 fw_X11_34 ho.1 rfl ?_
    refine am_iconst (v := (nI 0)) dX11_isLikeStored_21 (by decide) ?_
    refine am_iconst (v := (-1)) dX11_isLikeStored_22 (by decide) ?_
    refine am_iast dX11_isLikeStored_23 ho.2.2.2.2.2.2.2.2.2 hT.1 ?_
    obtain ⟨D2, hD⟩ : ∃ z, z = am_up D (o + 9) (Int32.toNatClampNeg (nI 0)) (-1) := ⟨_, rfl⟩
    rw [← hD]
    replace hT := hT.2 D2 hD
    clear hD
    exact hT
  · replace hT := hT.2 h
    refine am_iconst (v := (nI 0)) dX11_isLikeStored_13 (by decide) ?_
    exact am_ireturn (ty := .int) dX11_isLikeStored_14 rfl rfl hT
set_option maxRecDepth 20000 in
theorem rX11_isLikeStored_24 {lay : List am_L} {d : Nat} {D : am_D} {Q : Option Value → am_D → Prop} {o : Nat} {v1 : Int32} (ho : isX11 lay o) (hT : ((v1 < nI 0 → (∃ x1, am_MetP lay d mX11_n [.ref o] D x1 ∧
 ((¬ v1 = x1 → Q (some (.int (nI 0))) D) ∧
 (¬ (¬ v1 = x1) → Q (some (.int (nI 1))) D)))) ∧
 (¬ (v1 < nI 0) → (∃ x2, am_MetP lay d mX11_n [.ref o] D x2 ∧
 ((x2 ≤ v1 → (∃ x3, am_MetP lay d mX11_n [.ref o] D x3 ∧
 ((¬ v1 = x3 → Q (some (.int (nI 0))) D) ∧
 (¬ (¬ v1 = x3) → Q (some (.int (nI 1))) D)))) ∧
 (¬ (x2 ≤ v1) → (vp_in v1 10 ∧ (vp_in v1 10 ∧ ∀ D4, D4 = am_up D (o + 9) (Int32.toNatClampNeg v1) ((D (o + 9) (Int32.toNatClampNeg v1)) + (nI 1)) →
 (vp_in v1 10 ∧ (∃ x5, am_MetP lay d mX11_n [.ref o] D4 x5 ∧
 ((¬ (D4 (o + 9) (Int32.toNatClampNeg v1)) = x5 → (∃ x6, am_MetP lay d mX11_fits [.ref o, .int v1] D4 x6 ∧
 ((x6 = nI 0 → am_AW lay (d + 1) mX11_isLikeStored 24 [.ref o, .int v1] [] D4 Q) ∧
 (¬ (x6 = nI 0) → (∃ x7, am_MetP lay d mX11_n [.ref o] D4 x7 ∧
 ((x7 ≤ (v1 + (nI 1)) → am_AW lay (d + 1) mX11_isLikeStored 24 [.ref o, .int (v1 + (nI 1))] [] D4 Q) ∧
 (¬ (x7 ≤ (v1 + (nI 1))) → (vp_in (v1 + (nI 1)) 10 ∧ ∀ D8, D8 = am_up D4 (o + 9) (Int32.toNatClampNeg (v1 + (nI 1))) (-1) →
 am_AW lay (d + 1) mX11_isLikeStored 24 [.ref o, .int (v1 + (nI 1))] [] D8 Q)))))))) ∧
 (¬ (¬ (D4 (o + 9) (Int32.toNatClampNeg v1)) = x5) → am_AW lay (d + 1) mX11_isLikeStored 24 [.ref o, .int (v1 + (-1))] [] D4 Q)))))))))))) : am_AW lay (d + 1) mX11_isLikeStored 24 [.ref o, .int v1] [] D Q := by
  refine am_iload_n (x := v1) dX11_isLikeStored_24 rfl ?_
  refine am_if_lt (tgt := 94) dX11_isLikeStored_25 (by decide) (fun h => ?_) (fun h => ?_)
  · replace hT := hT.1 h
    refine am_iload_n (x := v1) dX11_isLikeStored_94 rfl ?_
    refine am_aload_n (x := o) dX11_isLikeStored_95 rfl ?_
    obtain ⟨x1, hm, hT⟩ := hT
    refine am_callV (av := []) (st := [.int v1]) (b := o) cw_X11_n cl_X11_92 ck_X11_n cs_X11_n ho.1 rfl rfl (Nat.le_of_ble_eq_true rfl) dX11_isLikeStored_96 hm (fun r D9 hr => ?_)
    obtain ⟨rfl, e9⟩ := hr
    rw [e9]
    clear e9
    refine am_icmp_ne (tgt := 106) dX11_isLikeStored_99 (by decide) (fun h => ?_) (fun h => ?_)
    · replace hT := hT.1 h
      refine am_iconst (v := (nI 0)) dX11_isLikeStored_106 (by decide) ?_
      exact am_ireturn (ty := .int) dX11_isLikeStored_107 rfl rfl hT
    · replace hT := hT.2 h
      refine am_iconst (v := (nI 1)) dX11_isLikeStored_102 (by decide) ?_
      refine am_goto (tgt := 107) dX11_isLikeStored_103 (by decide) ?_
      exact am_ireturn (ty := .int) dX11_isLikeStored_107 rfl rfl hT
  · replace hT := hT.2 h
    refine am_iload_n (x := v1) dX11_isLikeStored_28 rfl ?_
    refine am_aload_n (x := o) dX11_isLikeStored_29 rfl ?_
    obtain ⟨x2, hm, hT⟩ := hT
    refine am_callV (av := []) (st := [.int v1]) (b := o) cw_X11_n cl_X11_92 ck_X11_n cs_X11_n ho.1 rfl rfl (Nat.le_of_ble_eq_true rfl) dX11_isLikeStored_30 hm (fun r D9 hr => ?_)
    obtain ⟨rfl, e9⟩ := hr
    rw [e9]
    clear e9
    refine am_icmp_ge (tgt := 94) dX11_isLikeStored_33 (by decide) (fun h => ?_) (fun h => ?_)
    · replace hT := hT.1 h
      refine am_iload_n (x := v1) dX11_isLikeStored_94 rfl ?_
      refine am_aload_n (x := o) dX11_isLikeStored_95 rfl ?_
      obtain ⟨x3, hm, hT⟩ := hT
      refine am_callV (av := []) (st := [.int v1]) (b := o) cw_X11_n cl_X11_92 ck_X11_n cs_X11_n ho.1 rfl rfl (Nat.le_of_ble_eq_true rfl) dX11_isLikeStored_96 hm (fun r D9 hr => ?_)
      obtain ⟨rfl, e9⟩ := hr
      rw [e9]
      clear e9
      refine am_icmp_ne (tgt := 106) dX11_isLikeStored_99 (by decide) (fun h => ?_) (fun h => ?_)
      · replace hT := hT.1 h
        refine am_iconst (v := (nI 0)) dX11_isLikeStored_106 (by decide) ?_
        exact am_ireturn (ty := .int) dX11_isLikeStored_107 rfl rfl hT
      · replace hT := hT.2 h
        refine am_iconst (v := (nI 1)) dX11_isLikeStored_102 (by decide) ?_
        refine am_goto (tgt := 107) dX11_isLikeStored_103 (by decide) ?_
        exact am_ireturn (ty := .int) dX11_isLikeStored_107 rfl rfl hT
    · replace hT := hT.2 h
      refine am_aload_n (x := o) dX11_isLikeStored_36 rfl ?_
      refine am_getR dX11_isLikeStored_37 fw_X11_34 ho.1 rfl ?_
      refine am_iload_n (x := v1) dX11_isLikeStored_40 rfl ?_
      refine am_dup2 dX11_isLikeStored_41 rfl rfl ?_
      refine am_iald dX11_isLikeStored_42 ho.2.2.2.2.2.2.2.2.2 hT.1 ?_
      replace hT := hT.2
      refine am_iconst (v := (nI 1)) dX11_isLikeStored_43 (by decide) ?_
      refine am_iadd dX11_isLikeStored_44 ?_
      refine am_iast dX11_isLikeStored_45 ho.2.2.2.2.2.2.2.2.2 hT.1 ?_
      obtain ⟨D4, hD⟩ : ∃ z, z = am_up D (o + 9) (Int32.toNatClampNeg v1) ((D (o + 9) (Int32.toNatClampNeg v1)) + (nI 1)) := ⟨_, rfl⟩
      rw [← hD]
      replace hT := hT.2 D4 hD
      clear hD
      refine am_aload_n (x := o) dX11_isLikeStored_46 rfl ?_
      refine am_getR dX11_isLikeStored_47 fw_X11_34 ho.1 rfl ?_
      refine am_iload_n (x := v1) dX11_isLikeStored_50 rfl ?_
      refine am_iald dX11_isLikeStored_51 ho.2.2.2.2.2.2.2.2.2 hT.1 ?_
      replace hT := hT.2
      refine am_aload_n (x := o) dX11_isLikeStored_52 rfl ?_
      obtain ⟨x5, hm, hT⟩ := hT
      refine am_callV (av := []) (st := [.int (D4 (o + 9) (Int32.toNatClampNeg v1))]) (b := o) cw_X11_n cl_X11_92 ck_X11_n cs_X11_n ho.1 rfl rfl (Nat.le_of_ble_eq_true rfl) dX11_isLikeStored_53 hm (fun r D9 hr => ?_)
      obtain ⟨rfl, e9⟩ := hr
      rw [e9]
      clear e9
      refine am_icmp_ne (tgt := 65) dX11_isLikeStored_56 (by decide) (fun h => ?_) (fun h => ?_)
      · replace hT := hT.1 h
        refine am_aload_n (x := o) dX11_isLikeStored_65 rfl ?_
        refine am_iload_n (x := v1) dX11_isLikeStored_66 rfl ?_
        obtain ⟨x6, hm, hT⟩ := hT
        refine am_callV (av := [.int v1]) (st := []) (b := o) cw_X11_fits cl_X11_168 ck_X11_fits cs_X11_fits ho.1 rfl rfl (Nat.le_of_ble_eq_true rfl) dX11_isLikeStored_67 hm (fun r D9 hr => ?_)
        obtain ⟨rfl, e9⟩ := hr
        rw [e9]
        clear e9
        refine am_if_eq (tgt := 24) dX11_isLikeStored_70 (by decide) (fun h => ?_) (fun h => ?_)
        · replace hT := hT.1 h
          exact hT
        · replace hT := hT.2 h
          refine am_set (am_iinc (x := v1) (c0 := (nI 1)) dX11_isLikeStored_73 (by decide) rfl (by decide)) (L1 := [.ref o, .int (v1 + (nI 1))]) rfl ?_
          refine am_iload_n (x := (v1 + (nI 1))) dX11_isLikeStored_76 rfl ?_
          refine am_aload_n (x := o) dX11_isLikeStored_77 rfl ?_
          obtain ⟨x7, hm, hT⟩ := hT
          refine am_callV (av := []) (st := [.int (v1 + (nI 1))]) (b := o) cw_X11_n cl_X11_92 ck_X11_n cs_X11_n ho.1 rfl rfl (Nat.le_of_ble_eq_true rfl) dX11_isLikeStored_78 hm (fun r D9 hr => ?_)
          obtain ⟨rfl, e9⟩ := hr
          rw [e9]
          clear e9
          refine am_icmp_ge (tgt := 24) dX11_isLikeStored_81 (by decide) (fun h => ?_) (fun h => ?_)
          · replace hT := hT.1 h
            exact hT
          · replace hT := hT.2 h
            refine am_aload_n (x := o) dX11_isLikeStored_84 rfl ?_
            refine am_getR dX11_isLikeStored_85 fw_X11_34 ho.1 rfl ?_
            refine am_iload_n (x := (v1 + (nI 1))) dX11_isLikeStored_88 rfl ?_
            refine am_iconst (v := (-1)) dX11_isLikeStored_89 (by decide) ?_
            refine am_iast dX11_isLikeStored_90 ho.2.2.2.2.2.2.2.2.2 hT.1 ?_
            obtain ⟨D8, hD⟩ : ∃ z, z = am_up D4 (o + 9) (Int32.toNatClampNeg (v1 + (nI 1))) (-1) := ⟨_, rfl⟩
            rw [← hD]
            replace hT := hT.2 D8 hD
            clear hD
            refine am_goto (tgt := 24) dX11_isLikeStored_91 (by decide) ?_
            exact hT
      · replace hT := hT.2 h
        refine am_set (am_iinc (x := v1) (c0 := (-1)) dX11_isLikeStored_59 (by decide) rfl (by decide)) (L1 := [.ref o, .int (v1 + (-1))]) rfl ?_
        refine am_goto (tgt := 24) dX11_isLikeStored_62 (by decide) ?_
        exact hT
set_option maxRecDepth 20000 in
theorem eX11_towardsStored {lay : List am_L} {d : Nat} {D : am_D} {Q : Option Value → am_D → Prop} {o : Nat} (ho : isX11 lay o) (hT : (vp_in (nI 0) 111 ∧ (∃ x1, am_MetP lay d mX11_n [.ref o] D x1 ∧
 (((D (o + 2) (Int32.toNatClampNeg (nI 0))) = x1 → am_AW lay (d + 1) mX11_towardsStored 18 [.ref o, .int (nI 0), .null, .null, .null, .null] [] D Q) ∧
 (¬ ((D (o + 2) (Int32.toNatClampNeg (nI 0))) = x1) → Q (some (.int (-2))) D))))) : am_Met lay (d + 1) mX11_towardsStored [.ref o] D Q := by
  refine am_enter (by decide +kernel) rfl (Nat.le_of_ble_eq_true rfl) ?_
  show am_AW lay (d + 1) mX11_towardsStored 0 [.ref o, .null, .null, .null, .null, .null] [] D Q
  refine am_aload_n (x := o) dX11_towardsStored_0 rfl ?_
  refine am_getR dX11_towardsStored_1 fw_X11_13 ho.1 rfl ?_
  refine am_iconst (v := (nI 0)) dX11_towardsStored_4 (by decide) ?_
  refine am_iald dX11_towardsStored_5 ho.2.2.1 hT.1 ?_
  replace hT := hT.2
  refine am_aload_n (x := o) dX11_towardsStored_6 rfl ?_
  obtain ⟨x1, hm, hT⟩ := hT
  refine am_callV (av := []) (st := [.int (D (o + 2) (Int32.toNatClampNeg (nI 0)))]) (b := o) cw_X11_n cl_X11_92 ck_X11_n cs_X11_n ho.1 rfl rfl (Nat.le_of_ble_eq_true rfl) dX11_towardsStored_7 hm (fun r D9 hr => ?_)
  obtain ⟨rfl, e9⟩ := hr
  rw [e9]
  clear e9
  refine am_icmp_eq (tgt := 16) dX11_towardsStored_10 (by decide) (fun h => ?_) (fun h => ?_)
  · replace hT := hT.1 h
    refine am_iconst (v := (nI 0)) dX11_towardsStored_16 (by decide) ?_
    refine am_set (am_istore_n dX11_towardsStored_17 (by decide)) (L1 := [.ref o, .int (nI 0), .null, .null, .null, .null]) rfl ?_
    exact hT
  · replace hT := hT.2 h
    refine am_bipush (v := (-2)) dX11_towardsStored_13 (by decide) ?_
    exact am_ireturn (ty := .int) dX11_towardsStored_15 rfl rfl hT
set_option maxRecDepth 20000 in
theorem rX11_towardsStored_18 {lay : List am_L} {d : Nat} {D : am_D} {Q : Option Value → am_D → Prop} {o : Nat} {v1 : Int32} (ho : isX11 lay o) (hT : (((nI 1000) ≤ v1 → Q (some (.int (-4))) D) ∧
 (¬ ((nI 1000) ≤ v1) → ((((v1 / (nI 10)) - (v1 / (nI 10)) / (nI 10) * (nI 10)) ≤ (v1 / (nI 100)) → am_AW lay (d + 1) mX11_towardsStored 79 [.ref o, .int v1, .int (v1 / (nI 100)), .int ((v1 / (nI 10)) - (v1 / (nI 10)) / (nI 10) * (nI 10)), .int (v1 - v1 / (nI 10) * (nI 10)), .null] [] D Q) ∧
 (¬ (((v1 / (nI 10)) - (v1 / (nI 10)) / (nI 10) * (nI 10)) ≤ (v1 / (nI 100))) → (((v1 - v1 / (nI 10) * (nI 10)) ≤ ((v1 / (nI 10)) - (v1 / (nI 10)) / (nI 10) * (nI 10)) → am_AW lay (d + 1) mX11_towardsStored 79 [.ref o, .int v1, .int (v1 / (nI 100)), .int ((v1 / (nI 10)) - (v1 / (nI 10)) / (nI 10) * (nI 10)), .int (v1 - v1 / (nI 10) * (nI 10)), .null] [] D Q) ∧
 (¬ ((v1 - v1 / (nI 10) * (nI 10)) ≤ ((v1 / (nI 10)) - (v1 / (nI 10)) / (nI 10) * (nI 10))) → (∃ x1, am_MetP lay d mX11_n [.ref o] D x1 ∧
 ((x1 ≤ (v1 - v1 / (nI 10) * (nI 10)) → am_AW lay (d + 1) mX11_towardsStored 79 [.ref o, .int v1, .int (v1 / (nI 100)), .int ((v1 / (nI 10)) - (v1 / (nI 10)) / (nI 10) * (nI 10)), .int (v1 - v1 / (nI 10) * (nI 10)), .null] [] D Q) ∧
 (¬ (x1 ≤ (v1 - v1 / (nI 10) * (nI 10))) → (∃ x2, am_MetP lay d mX11_isCycle [.ref o, .int (v1 / (nI 100)), .int ((v1 / (nI 10)) - (v1 / (nI 10)) / (nI 10) * (nI 10)), .int (v1 - v1 / (nI 10) * (nI 10))] D x2 ∧
 ((x2 = nI 0 → am_AW lay (d + 1) mX11_towardsStored 79 [.ref o, .int v1, .int (v1 / (nI 100)), .int ((v1 / (nI 10)) - (v1 / (nI 10)) / (nI 10) * (nI 10)), .int (v1 - v1 / (nI 10) * (nI 10)), .null] [] D Q) ∧
 (¬ (x2 = nI 0) → (((nI 1) = nI 0 → am_AW lay (d + 1) mX11_towardsStored 18 [.ref o, .int (v1 + (nI 1)), .null, .null, .null, .null] [] D Q) ∧
 (¬ ((nI 1) = nI 0) → (∃ x3, am_MetP lay d mX11_differs [.ref o, .int (v1 / (nI 100)), .int ((v1 / (nI 10)) - (v1 / (nI 10)) / (nI 10) * (nI 10))] D x3 ∧
 ((x3 = nI 0 → (∃ x4, am_MetP lay d mX11_differs [.ref o, .int ((v1 / (nI 10)) - (v1 / (nI 10)) / (nI 10) * (nI 10)), .int (v1 - v1 / (nI 10) * (nI 10))] D x4 ∧
 ((x4 = nI 0 → am_AW lay (d + 1) mX11_towardsStored 116 [.ref o, .int v1, .int (v1 / (nI 100)), .int ((v1 / (nI 10)) - (v1 / (nI 10)) / (nI 10) * (nI 10)), .int (v1 - v1 / (nI 10) * (nI 10)), .int (nI 1)] [.int (nI 0), .int (nI 0)] D Q) ∧
 (¬ (x4 = nI 0) → am_AW lay (d + 1) mX11_towardsStored 116 [.ref o, .int v1, .int (v1 / (nI 100)), .int ((v1 / (nI 10)) - (v1 / (nI 10)) / (nI 10) * (nI 10)), .int (v1 - v1 / (nI 10) * (nI 10)), .int (nI 1)] [.int (nI 1), .int (nI 0)] D Q)))) ∧
 (¬ (x3 = nI 0) → (∃ x5, am_MetP lay d mX11_differs [.ref o, .int ((v1 / (nI 10)) - (v1 / (nI 10)) / (nI 10) * (nI 10)), .int (v1 - v1 / (nI 10) * (nI 10))] D x5 ∧
 ((x5 = nI 0 → am_AW lay (d + 1) mX11_towardsStored 116 [.ref o, .int v1, .int (v1 / (nI 100)), .int ((v1 / (nI 10)) - (v1 / (nI 10)) / (nI 10) * (nI 10)), .int (v1 - v1 / (nI 10) * (nI 10)), .int (nI 1)] [.int (nI 0), .int (nI 1)] D Q) ∧
 (¬ (x5 = nI 0) → am_AW lay (d + 1) mX11_towardsStored 116 [.ref o, .int v1, .int (v1 / (nI 100)), .int ((v1 / (nI 10)) - (v1 / (nI 10)) / (nI 10) * (nI 10)), .int (v1 - v1 / (nI 10) * (nI 10)), .int (nI 1)] [.int (nI 1), .int (nI 1)] D Q))))))))))))))))))))) : am_AW lay (d + 1) mX11_towardsStored 18 [.ref o, .int v1, .null, .null, .null, .null] [] D Q := by
  refine am_iload_n (x := v1) dX11_towardsStored_18 rfl ?_
  refine am_sipush (v := (nI 1000)) dX11_towardsStored_19 (by decide) ?_
  refine am_icmp_ge (tgt := 145) dX11_towardsStored_22 (by decide) (fun h => ?_) (fun h => ?_)
  · replace hT := hT.1 h
    refine am_bipush (v := (-4)) dX11_towardsStored_145 (by decide) ?_
    exact am_ireturn (ty := .int) dX11_towardsStored_147 rfl rfl hT
  · replace hT := hT.2 h
    refine am_iload_n (x := v1) dX11_towardsStored_25 rfl ?_
    refine am_bipush (v := (nI 100)) dX11_towardsStored_26 (by decide) ?_
    refine am_idiv dX11_towardsStored_28 (by decide) ?_
    refine am_set (am_istore_n dX11_towardsStored_29 (by decide)) (L1 := [.ref o, .int v1, .int (v1 / (nI 100)), .null, .null, .null]) rfl ?_
    refine am_iload_n (x := v1) dX11_towardsStored_30 rfl ?_
    refine am_bipush (v := (nI 10)) dX11_towardsStored_31 (by decide) ?_
    refine am_idiv dX11_towardsStored_33 (by decide) ?_
    refine am_bipush (v := (nI 10)) dX11_towardsStored_34 (by decide) ?_
    refine am_irem dX11_towardsStored_36 (by decide) ?_
    refine am_set (am_istore_n dX11_towardsStored_37 (by decide)) (L1 := [.ref o, .int v1, .int (v1 / (nI 100)), .int ((v1 / (nI 10)) - (v1 / (nI 10)) / (nI 10) * (nI 10)), .null, .null]) rfl ?_
    refine am_iload_n (x := v1) dX11_towardsStored_38 rfl ?_
    refine am_bipush (v := (nI 10)) dX11_towardsStored_39 (by decide) ?_
    refine am_irem dX11_towardsStored_41 (by decide) ?_
    refine am_set (am_istore dX11_towardsStored_42 (by decide)) (L1 := [.ref o, .int v1, .int (v1 / (nI 100)), .int ((v1 / (nI 10)) - (v1 / (nI 10)) / (nI 10) * (nI 10)), .int (v1 - v1 / (nI 10) * (nI 10)), .null]) rfl ?_
    refine am_iload_n (x := (v1 / (nI 100))) dX11_towardsStored_44 rfl ?_
    refine am_iload_n (x := ((v1 / (nI 10)) - (v1 / (nI 10)) / (nI 10) * (nI 10))) dX11_towardsStored_45 rfl ?_
    refine am_icmp_ge (tgt := 79) dX11_towardsStored_46 (by decide) (fun h => ?_) (fun h => ?_)
    · replace hT := hT.1 h
      exact hT
    · replace hT := hT.2 h
      refine am_iload_n (x := ((v1 / (nI 10)) - (v1 / (nI 10)) / (nI 10) * (nI 10))) dX11_towardsStored_49 rfl ?_
      refine am_iload (x := (v1 - v1 / (nI 10) * (nI 10))) dX11_towardsStored_50 rfl ?_
      refine am_icmp_ge (tgt := 79) dX11_towardsStored_52 (by decide) (fun h => ?_) (fun h => ?_)
      · replace hT := hT.1 h
        exact hT
      · replace hT := hT.2 h
        refine am_iload (x := (v1 - v1 / (nI 10) * (nI 10))) dX11_towardsStored_55 rfl ?_
        refine am_aload_n (x := o) dX11_towardsStored_57 rfl ?_
        obtain ⟨x1, hm, hT⟩ := hT
        refine am_callV (av := []) (st := [.int (v1 - v1 / (nI 10) * (nI 10))]) (b := o) cw_X11_n cl_X11_92 ck_X11_n cs_X11_n ho.1 rfl rfl (Nat.le_of_ble_eq_true rfl) dX11_towardsStored_58 hm (fun r D9 hr => ?_)
        obtain ⟨rfl, e9⟩ := hr
        rw [e9]
        clear e9
        refine am_icmp_ge (tgt := 79) dX11_towardsStored_61 (by decide) (fun h => ?_) (fun h => ?_)
        · replace hT := hT.1 h
          exact hT
        · replace hT := hT.2 h
          refine am_aload_n (x := o) dX11_towardsStored_64 rfl ?_
          refine am_iload_n (x := (v1 / (nI 100))) dX11_towardsStored_65 rfl ?_
          refine am_iload_n (x := ((v1 / (nI 10)) - (v1 / (nI 10)) / (nI 10) * (nI 10))) dX11_towardsStored_66 rfl ?_
          refine am_iload (x := (v1 - v1 / (nI 10) * (nI 10))) dX11_towardsStored_67 rfl ?_
          obtain ⟨x2, hm, hT⟩ := hT
          refine am_callV (av := [.int (v1 / (nI 100)), .int ((v1 / (nI 10)) - (v1 / (nI 10)) / (nI 10) * (nI 10)), .int (v1 - v1 / (nI 10) * (nI 10))]) (st := []) (b := o) cw_X11_isCycle cl_X11_82 ck_X11_isCycle cs_X11_isCycle ho.1 rfl rfl (Nat.le_of_ble_eq_true rfl) dX11_towardsStored_69 hm (fun r D9 hr => ?_)
          obtain ⟨rfl, e9⟩ := hr
          rw [e9]
          clear e9
          refine am_if_eq (tgt := 79) dX11_towardsStored_72 (by decide) (fun h => ?_) (fun h => ?_)
          · replace hT := hT.1 h
            exact hT
          · replace hT := hT.2 h
            refine am_iconst (v := (nI 1)) dX11_towardsStored_75 (by decide) ?_
            refine am_goto (tgt := 80) dX11_towardsStored_76 (by decide) ?_
            refine am_set (am_istore dX11_towardsStored_80 (by decide)) (L1 := [.ref o, .int v1, .int (v1 / (nI 100)), .int ((v1 / (nI 10)) - (v1 / (nI 10)) / (nI 10) * (nI 10)), .int (v1 - v1 / (nI 10) * (nI 10)), .int (nI 1)]) rfl ?_
            refine am_iload (x := (nI 1)) dX11_towardsStored_82 rfl ?_
            refine am_if_eq (tgt := 139) dX11_towardsStored_84 (by decide) (fun h => ?_) (fun h => ?_)
            · replace hT := hT.1 h
              refine am_set (am_iinc (x := v1) (c0 := (nI 1)) dX11_towardsStored_139 (by decide) rfl (by decide)) (L1 := [.ref o, .int (v1 + (nI 1)), .int (v1 / (nI 100)), .int ((v1 / (nI 10)) - (v1 / (nI 10)) / (nI 10) * (nI 10)), .int (v1 - v1 / (nI 10) * (nI 10)), .int (nI 1)]) rfl ?_
              refine am_goto (tgt := 18) dX11_towardsStored_142 (by decide) ?_
              refine am_drop [2, 3, 4, 5] (L1 := [.ref o, .int (v1 + (nI 1)), .null, .null, .null, .null]) rfl ?_
              exact hT
            · replace hT := hT.2 h
              refine am_aload_n (x := o) dX11_towardsStored_87 rfl ?_
              refine am_iload_n (x := (v1 / (nI 100))) dX11_towardsStored_88 rfl ?_
              refine am_iload_n (x := ((v1 / (nI 10)) - (v1 / (nI 10)) / (nI 10) * (nI 10))) dX11_towardsStored_89 rfl ?_
              obtain ⟨x3, hm, hT⟩ := hT
              refine am_callV (av := [.int (v1 / (nI 100)), .int ((v1 / (nI 10)) - (v1 / (nI 10)) / (nI 10) * (nI 10))]) (st := []) (b := o) cw_X11_differs cl_X11_165 ck_X11_differs cs_X11_differs ho.1 rfl rfl (Nat.le_of_ble_eq_true rfl) dX11_towardsStored_90 hm (fun r D9 hr => ?_)
              obtain ⟨rfl, e9⟩ := hr
              rw [e9]
              clear e9
              refine am_if_eq (tgt := 100) dX11_towardsStored_93 (by decide) (fun h => ?_) (fun h => ?_)
              · replace hT := hT.1 h
                refine am_iconst (v := (nI 0)) dX11_towardsStored_100 (by decide) ?_
                refine am_aload_n (x := o) dX11_towardsStored_101 rfl ?_
                refine am_iload_n (x := ((v1 / (nI 10)) - (v1 / (nI 10)) / (nI 10) * (nI 10))) dX11_towardsStored_102 rfl ?_
                refine am_iload (x := (v1 - v1 / (nI 10) * (nI 10))) dX11_towardsStored_103 rfl ?_
                obtain ⟨x4, hm, hT⟩ := hT
                refine am_callV (av := [.int ((v1 / (nI 10)) - (v1 / (nI 10)) / (nI 10) * (nI 10)), .int (v1 - v1 / (nI 10) * (nI 10))]) (st := [.int (nI 0)]) (b := o) cw_X11_differs cl_X11_165 ck_X11_differs cs_X11_differs ho.1 rfl rfl (Nat.le_of_ble_eq_true rfl) dX11_towardsStored_105 hm (fun r D9 hr => ?_)
                obtain ⟨rfl, e9⟩ := hr
                rw [e9]
                clear e9
                refine am_if_eq (tgt := 115) dX11_towardsStored_108 (by decide) (fun h => ?_) (fun h => ?_)
                · replace hT := hT.1 h
                  refine am_iconst (v := (nI 0)) dX11_towardsStored_115 (by decide) ?_
                  exact hT
                · replace hT := hT.2 h
                  refine am_iconst (v := (nI 1)) dX11_towardsStored_111 (by decide) ?_
                  refine am_goto (tgt := 116) dX11_towardsStored_112 (by decide) ?_
                  exact hT
              · replace hT := hT.2 h
                refine am_iconst (v := (nI 1)) dX11_towardsStored_96 (by decide) ?_
                refine am_goto (tgt := 101) dX11_towardsStored_97 (by decide) ?_
                refine am_aload_n (x := o) dX11_towardsStored_101 rfl ?_
                refine am_iload_n (x := ((v1 / (nI 10)) - (v1 / (nI 10)) / (nI 10) * (nI 10))) dX11_towardsStored_102 rfl ?_
                refine am_iload (x := (v1 - v1 / (nI 10) * (nI 10))) dX11_towardsStored_103 rfl ?_
                obtain ⟨x5, hm, hT⟩ := hT
                refine am_callV (av := [.int ((v1 / (nI 10)) - (v1 / (nI 10)) / (nI 10) * (nI 10)), .int (v1 - v1 / (nI 10) * (nI 10))]) (st := [.int (nI 1)]) (b := o) cw_X11_differs cl_X11_165 ck_X11_differs cs_X11_differs ho.1 rfl rfl (Nat.le_of_ble_eq_true rfl) dX11_towardsStored_105 hm (fun r D9 hr => ?_)
                obtain ⟨rfl, e9⟩ := hr
                rw [e9]
                clear e9
                refine am_if_eq (tgt := 115) dX11_towardsStored_108 (by decide) (fun h => ?_) (fun h => ?_)
                · replace hT := hT.1 h
                  refine am_iconst (v := (nI 0)) dX11_towardsStored_115 (by decide) ?_
                  exact hT
                · replace hT := hT.2 h
                  refine am_iconst (v := (nI 1)) dX11_towardsStored_111 (by decide) ?_
                  refine am_goto (tgt := 116) dX11_towardsStored_112 (by decide) ?_
                  exact hT
set_option maxRecDepth 20000 in
theorem rX11_towardsStored_79 {lay : List am_L} {d : Nat} {D : am_D} {Q : Option Value → am_D → Prop} {o : Nat} {v1 : Int32} {v2 : Int32} {v3 : Int32} {v4 : Int32} (ho : isX11 lay o) (hT : (((nI 0) = nI 0 → am_AW lay (d + 1) mX11_towardsStored 18 [.ref o, .int (v1 + (nI 1)), .null, .null, .null, .null] [] D Q) ∧
 (¬ ((nI 0) = nI 0) → (∃ x1, am_MetP lay d mX11_differs [.ref o, .int v2, .int v3] D x1 ∧
 ((x1 = nI 0 → (∃ x2, am_MetP lay d mX11_differs [.ref o, .int v3, .int v4] D x2 ∧
 ((x2 = nI 0 → am_AW lay (d + 1) mX11_towardsStored 116 [.ref o, .int v1, .int v2, .int v3, .int v4, .int (nI 0)] [.int (nI 0), .int (nI 0)] D Q) ∧
 (¬ (x2 = nI 0) → am_AW lay (d + 1) mX11_towardsStored 116 [.ref o, .int v1, .int v2, .int v3, .int v4, .int (nI 0)] [.int (nI 1), .int (nI 0)] D Q)))) ∧
 (¬ (x1 = nI 0) → (∃ x3, am_MetP lay d mX11_differs [.ref o, .int v3, .int v4] D x3 ∧
 ((x3 = nI 0 → am_AW lay (d + 1) mX11_towardsStored 116 [.ref o, .int v1, .int v2, .int v3, .int v4, .int (nI 0)] [.int (nI 0), .int (nI 1)] D Q) ∧
 (¬ (x3 = nI 0) → am_AW lay (d + 1) mX11_towardsStored 116 [.ref o, .int v1, .int v2, .int v3, .int v4, .int (nI 0)] [.int (nI 1), .int (nI 1)] D Q))))))))) : am_AW lay (d + 1) mX11_towardsStored 79 [.ref o, .int v1, .int v2, .int v3, .int v4, .null] [] D Q := by
  refine am_iconst (v := (nI 0)) dX11_towardsStored_79 (by decide) ?_
  refine am_set (am_istore dX11_towardsStored_80 (by decide)) (L1 := [.ref o, .int v1, .int v2, .int v3, .int v4, .int (nI 0)]) rfl ?_
  refine am_iload (x := (nI 0)) dX11_towardsStored_82 rfl ?_
  refine am_if_eq (tgt := 139) dX11_towardsStored_84 (by decide) (fun h => ?_) (fun h => ?_)
  · replace hT := hT.1 h
    refine am_set (am_iinc (x := v1) (c0 := (nI 1)) dX11_towardsStored_139 (by decide) rfl (by decide)) (L1 := [.ref o, .int (v1 + (nI 1)), .int v2, .int v3, .int v4, .int (nI 0)]) rfl ?_
    refine am_goto (tgt := 18) dX11_towardsStored_142 (by decide) ?_
    refine am_drop [2, 3, 4, 5] (L1 := [.ref o, .int (v1 + (nI 1)), .null, .null, .null, .null]) rfl ?_
    exact hT
  · replace hT := hT.2 h
    refine am_aload_n (x := o) dX11_towardsStored_87 rfl ?_
    refine am_iload_n (x := v2) dX11_towardsStored_88 rfl ?_
    refine am_iload_n (x := v3) dX11_towardsStored_89 rfl ?_
    obtain ⟨x1, hm, hT⟩ := hT
    refine am_callV (av := [.int v2, .int v3]) (st := []) (b := o) cw_X11_differs cl_X11_165 ck_X11_differs cs_X11_differs ho.1 rfl rfl (Nat.le_of_ble_eq_true rfl) dX11_towardsStored_90 hm (fun r D9 hr => ?_)
    obtain ⟨rfl, e9⟩ := hr
    rw [e9]
    clear e9
    refine am_if_eq (tgt := 100) dX11_towardsStored_93 (by decide) (fun h => ?_) (fun h => ?_)
    · replace hT := hT.1 h
      refine am_iconst (v := (nI 0)) dX11_towardsStored_100 (by decide) ?_
      refine am_aload_n (x := o) dX11_towardsStored_101 rfl ?_
      refine am_iload_n (x := v3) dX11_towardsStored_102 rfl ?_
      refine am_iload (x := v4) dX11_towardsStored_103 rfl ?_
      obtain ⟨x2, hm, hT⟩ := hT
      refine am_callV (av := [.int v3, .int v4]) (st := [.int (nI 0)]) (b := o) cw_X11_differs cl_X11_165 ck_X11_differs cs_X11_differs ho.1 rfl rfl (Nat.le_of_ble_eq_true rfl) dX11_towardsStored_105 hm (fun r D9 hr => ?_)
      obtain ⟨rfl, e9⟩ := hr
      rw [e9]
      clear e9
      refine am_if_eq (tgt := 115) dX11_towardsStored_108 (by decide) (fun h => ?_) (fun h => ?_)
      · replace hT := hT.1 h
        refine am_iconst (v := (nI 0)) dX11_towardsStored_115 (by decide) ?_
        exact hT
      · replace hT := hT.2 h
        refine am_iconst (v := (nI 1)) dX11_towardsStored_111 (by decide) ?_
        refine am_goto (tgt := 116) dX11_towardsStored_112 (by decide) ?_
        exact hT
    · replace hT := hT.2 h
      refine am_iconst (v := (nI 1)) dX11_towardsStored_96 (by decide) ?_
      refine am_goto (tgt := 101) dX11_towardsStored_97 (by decide) ?_
      refine am_aload_n (x := o) dX11_towardsStored_101 rfl ?_
      refine am_iload_n (x := v3) dX11_towardsStored_102 rfl ?_
      refine am_iload (x := v4) dX11_towardsStored_103 rfl ?_
      obtain ⟨x3, hm, hT⟩ := hT
      refine am_callV (av := [.int v3, .int v4]) (st := [.int (nI 1)]) (b := o) cw_X11_differs cl_X11_165 ck_X11_differs cs_X11_differs ho.1 rfl rfl (Nat.le_of_ble_eq_true rfl) dX11_towardsStored_105 hm (fun r D9 hr => ?_)
      obtain ⟨rfl, e9⟩ := hr
      rw [e9]
      clear e9
      refine am_if_eq (tgt := 115) dX11_towardsStored_108 (by decide) (fun h => ?_) (fun h => ?_)
      · replace hT := hT.1 h
        refine am_iconst (v := (nI 0)) dX11_towardsStored_115 (by decide) ?_
        exact hT
      · replace hT := hT.2 h
        refine am_iconst (v := (nI 1)) dX11_towardsStored_111 (by decide) ?_
        refine am_goto (tgt := 116) dX11_towardsStored_112 (by decide) ?_
        exact hT
set_option maxRecDepth 20000 in
theorem rX11_towardsStored_116 {lay : List am_L} {d : Nat} {D : am_D} {Q : Option Value → am_D → Prop} {o : Nat} {v1 : Int32} {v2 : Int32} {v3 : Int32} {v4 : Int32} {v5 : Int32} {s0 : Int32} {s1 : Int32} (ho : isX11 lay o) (hT : (∃ x1, am_MetP lay d mX11_differs [.ref o, .int v2, .int v4] D x1 ∧
 ((x1 = nI 0 → ((((s1 + s0) + (nI 0)) < (nI 2) → am_AW lay (d + 1) mX11_towardsStored 18 [.ref o, .int (v1 + (nI 1)), .null, .null, .null, .null] [] D Q) ∧
 (¬ (((s1 + s0) + (nI 0)) < (nI 2)) → Q (some (.int v1)) D))) ∧
 (¬ (x1 = nI 0) → am_AW lay (d + 1) mX11_towardsStored 128 [.ref o, .int v1, .int v2, .int v3, .int v4, .int v5] [.int (nI 1), .int (s1 + s0)] D Q)))) : am_AW lay (d + 1) mX11_towardsStored 116 [.ref o, .int v1, .int v2, .int v3, .int v4, .int v5] [.int s0, .int s1] D Q := by
  refine am_iadd dX11_towardsStored_116 ?_
  refine am_aload_n (x := o) dX11_towardsStored_117 rfl ?_
  refine am_iload_n (x := v2) dX11_towardsStored_118 rfl ?_
  refine am_iload (x := v4) dX11_towardsStored_119 rfl ?_
  obtain ⟨x1, hm, hT⟩ := hT
  refine am_callV (av := [.int v2, .int v4]) (st := [.int (s1 + s0)]) (b := o) cw_X11_differs cl_X11_165 ck_X11_differs cs_X11_differs ho.1 rfl rfl (Nat.le_of_ble_eq_true rfl) dX11_towardsStored_121 hm (fun r D9 hr => ?_)
  obtain ⟨rfl, e9⟩ := hr
  rw [e9]
  clear e9
  refine am_if_eq (tgt := 131) dX11_towardsStored_124 (by decide) (fun h => ?_) (fun h => ?_)
  · replace hT := hT.1 h
    refine am_iconst (v := (nI 0)) dX11_towardsStored_131 (by decide) ?_
    refine am_iadd dX11_towardsStored_132 ?_
    refine am_iconst (v := (nI 2)) dX11_towardsStored_133 (by decide) ?_
    refine am_icmp_lt (tgt := 139) dX11_towardsStored_134 (by decide) (fun h => ?_) (fun h => ?_)
    · replace hT := hT.1 h
      refine am_set (am_iinc (x := v1) (c0 := (nI 1)) dX11_towardsStored_139 (by decide) rfl (by decide)) (L1 := [.ref o, .int (v1 + (nI 1)), .int v2, .int v3, .int v4, .int v5]) rfl ?_
      refine am_goto (tgt := 18) dX11_towardsStored_142 (by decide) ?_
      refine am_drop [2, 3, 4, 5] (L1 := [.ref o, .int (v1 + (nI 1)), .null, .null, .null, .null]) rfl ?_
      exact hT
    · replace hT := hT.2 h
      refine am_iload_n (x := v1) dX11_towardsStored_137 rfl ?_
      exact am_ireturn (ty := .int) dX11_towardsStored_138 rfl rfl hT
  · replace hT := hT.2 h
    refine am_iconst (v := (nI 1)) dX11_towardsStored_127 (by decide) ?_
    exact hT
set_option maxRecDepth 20000 in
theorem rX11_towardsStored_128 {lay : List am_L} {d : Nat} {D : am_D} {Q : Option Value → am_D → Prop} {o : Nat} {v1 : Int32} {v2 : Int32} {v3 : Int32} {v4 : Int32} {v5 : Int32} {s0 : Int32} {s1 : Int32} (ho : isX11 lay o) (hT : (((s1 + s0) < (nI 2) → am_AW lay (d + 1) mX11_towardsStored 18 [.ref o, .int (v1 + (nI 1)), .null, .null, .null, .null] [] D Q) ∧
 (¬ ((s1 + s0) < (nI 2)) → Q (some (.int v1)) D))) : am_AW lay (d + 1) mX11_towardsStored 128 [.ref o, .int v1, .int v2, .int v3, .int v4, .int v5] [.int s0, .int s1] D Q := by
  refine am_goto (tgt := 132) dX11_towardsStored_128 (by decide) ?_
  refine am_iadd dX11_towardsStored_132 ?_
  refine am_iconst (v := (nI 2)) dX11_towardsStored_133 (by decide) ?_
  refine am_icmp_lt (tgt := 139) dX11_towardsStored_134 (by decide) (fun h => ?_) (fun h => ?_)
  · replace hT := hT.1 h
    refine am_set (am_iinc (x := v1) (c0 := (nI 1)) dX11_towardsStored_139 (by decide) rfl (by decide)) (L1 := [.ref o, .int (v1 + (nI 1)), .int v2, .int v3, .int v4, .int v5]) rfl ?_
    refine am_goto (tgt := 18) dX11_towardsStored_142 (by decide) ?_
    refine am_drop [2, 3, 4, 5] (L1 := [.ref o, .int (v1 + (nI 1)), .null, .null, .null, .null]) rfl ?_
    exact hT
  · replace hT := hT.2 h
    refine am_iload_n (x := v1) dX11_towardsStored_137 rfl ?_
    exact am_ireturn (ty := .int) dX11_towardsStored_138 rfl rfl hT
