set_option maxRecDepth 20000 in
theorem eJ9_floorMod_7cf53 {lay : List am_L} {d : Nat} {D : am_D} {Q : Option Value → am_D → Prop} {v0 : Int32} {v1 : Int32}  (hT : (¬ v1 = 0 ∧ ((nI 0 ≤ (v0 ^^^ v1) → Q (some (.int (v0 - v0 / v1 * v1))) D) ∧
 (¬ (nI 0 ≤ (v0 ^^^ v1)) → (((v0 - v0 / v1 * v1) = nI 0 → Q (some (.int (v0 - v0 / v1 * v1))) D) ∧
 (¬ ((v0 - v0 / v1 * v1) = nI 0) → Q (some (.int ((v0 - v0 / v1 * v1) + v1))) D)))))) : am_Met lay d mJ9_floorMod_7cf53 [.int v0, .int v1] D Q := by
  refine am_enter (by decide +kernel) rfl (Nat.le_of_ble_eq_true rfl) ?_
  show am_AW lay d mJ9_floorMod_7cf53 0 [.int v0, .int v1, .null] [] D Q
  refine am_iload_n (x := v0) dJ9_floorMod_7cf53_0 rfl ?_
  refine am_iload_n (x := v1) dJ9_floorMod_7cf53_1 rfl ?_
  refine am_irem dJ9_floorMod_7cf53_2 hT.1 ?_
  replace hT := hT.2
  refine am_set (am_istore_n dJ9_floorMod_7cf53_3 (by decide)) (L1 := [.int v0, .int v1, .int (v0 - v0 / v1 * v1)]) rfl ?_
  refine am_iload_n (x := v0) dJ9_floorMod_7cf53_4 rfl ?_
  refine am_iload_n (x := v1) dJ9_floorMod_7cf53_5 rfl ?_
  refine am_ixor dJ9_floorMod_7cf53_6 ?_
  refine am_if_ge (tgt := 18) dJ9_floorMod_7cf53_7 (by decide) (fun h => ?_) (fun h => ?_)
  · replace hT := hT.1 h
    refine am_iload_n (x := (v0 - v0 / v1 * v1)) dJ9_floorMod_7cf53_18 rfl ?_
    exact am_ireturn (ty := .int) dJ9_floorMod_7cf53_19 rfl rfl hT
  · replace hT := hT.2 h
    refine am_iload_n (x := (v0 - v0 / v1 * v1)) dJ9_floorMod_7cf53_10 rfl ?_
    refine am_if_eq (tgt := 18) dJ9_floorMod_7cf53_11 (by decide) (fun h => ?_) (fun h => ?_)
    · replace hT := hT.1 h
      refine am_iload_n (x := (v0 - v0 / v1 * v1)) dJ9_floorMod_7cf53_18 rfl ?_
      exact am_ireturn (ty := .int) dJ9_floorMod_7cf53_19 rfl rfl hT
    · replace hT := hT.2 h
      refine am_iload_n (x := (v0 - v0 / v1 * v1)) dJ9_floorMod_7cf53_14 rfl ?_
      refine am_iload_n (x := v1) dJ9_floorMod_7cf53_15 rfl ?_
      refine am_iadd dJ9_floorMod_7cf53_16 ?_
      exact am_ireturn (ty := .int) dJ9_floorMod_7cf53_17 rfl rfl hT
set_option maxRecDepth 20000 in
theorem eJ9_max_7cf53 {lay : List am_L} {d : Nat} {D : am_D} {Q : Option Value → am_D → Prop} {v0 : Int32} {v1 : Int32}  (hT : ((v0 < v1 → Q (some (.int v1)) D) ∧
 (¬ (v0 < v1) → Q (some (.int v0)) D))) : am_Met lay d mJ9_max_7cf53 [.int v0, .int v1] D Q := by
  refine am_enter (by decide +kernel) rfl (Nat.le_of_ble_eq_true rfl) ?_
  show am_AW lay d mJ9_max_7cf53 0 [.int v0, .int v1] [] D Q
  refine am_iload_n (x := v0) dJ9_max_7cf53_0 rfl ?_
  refine am_iload_n (x := v1) dJ9_max_7cf53_1 rfl ?_
  refine am_icmp_lt (tgt := 9) dJ9_max_7cf53_2 (by decide) (fun h => ?_) (fun h => ?_)
  · replace hT := hT.1 h
    refine am_iload_n (x := v1) dJ9_max_7cf53_9 rfl ?_
    exact am_ireturn (ty := .int) dJ9_max_7cf53_10 rfl rfl hT
  · replace hT := hT.2 h
    refine am_iload_n (x := v0) dJ9_max_7cf53_5 rfl ?_
    refine am_goto (tgt := 10) dJ9_max_7cf53_6 (by decide) ?_
    exact am_ireturn (ty := .int) dJ9_max_7cf53_10 rfl rfl hT
set_option maxRecDepth 20000 in
theorem eJ9_min_7cf53 {lay : List am_L} {d : Nat} {D : am_D} {Q : Option Value → am_D → Prop} {v0 : Int32} {v1 : Int32}  (hT : ((v1 < v0 → Q (some (.int v1)) D) ∧
 (¬ (v1 < v0) → Q (some (.int v0)) D))) : am_Met lay d mJ9_min_7cf53 [.int v0, .int v1] D Q := by
  refine am_enter (by decide +kernel) rfl (Nat.le_of_ble_eq_true rfl) ?_
  show am_AW lay d mJ9_min_7cf53 0 [.int v0, .int v1] [] D Q
  refine am_iload_n (x := v0) dJ9_min_7cf53_0 rfl ?_
  refine am_iload_n (x := v1) dJ9_min_7cf53_1 rfl ?_
  refine am_icmp_gt (tgt := 9) dJ9_min_7cf53_2 (by decide) (fun h => ?_) (fun h => ?_)
  · replace hT := hT.1 h
    refine am_iload_n (x := v1) dJ9_min_7cf53_9 rfl ?_
    exact am_ireturn (ty := .int) dJ9_min_7cf53_10 rfl rfl hT
  · replace hT := hT.2 h
    refine am_iload_n (x := v0) dJ9_min_7cf53_5 rfl ?_
    refine am_goto (tgt := 10) dJ9_min_7cf53_6 (by decide) ?_
    exact am_ireturn (ty := .int) dJ9_min_7cf53_10 rfl rfl hT
