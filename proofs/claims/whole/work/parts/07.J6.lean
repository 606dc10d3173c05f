set_option maxRecDepth 20000 in
theorem eJ6_bitCount_0f7a4 {lay : List am_L} {d : Nat} {D : am_D} {Q : Option Value → am_D → Prop} {v0 : Int32}  (hT : (∀ x1, x1 = (v0 - ((v0.toUInt32 >>> (Int32.toUInt32 (nI 1) &&& Int32.toUInt32 31)).toInt32 &&& (1431655765 : Int32))) →
 (∀ x2, x2 = ((x1 &&& (858993459 : Int32)) + ((x1.toUInt32 >>> (Int32.toUInt32 (nI 2) &&& Int32.toUInt32 31)).toInt32 &&& (858993459 : Int32))) →
 (∀ x3, x3 = ((x2 + (x2.toUInt32 >>> (Int32.toUInt32 (nI 4) &&& Int32.toUInt32 31)).toInt32) &&& (252645135 : Int32)) →
 (∀ x4, x4 = (x3 + (x3.toUInt32 >>> (Int32.toUInt32 (nI 8) &&& Int32.toUInt32 31)).toInt32) →
 (∀ x5, x5 = (x4 + (x4.toUInt32 >>> (Int32.toUInt32 (nI 16) &&& Int32.toUInt32 31)).toInt32) →
 Q (some (.int (x5 &&& (nI 63)))) D)))))) : am_Met lay d mJ6_bitCount_0f7a4 [.int v0] D Q := by
  refine am_enter (by decide +kernel) rfl (Nat.le_of_ble_eq_true rfl) ?_
  show am_AW lay d mJ6_bitCount_0f7a4 0 [.int v0] [] D Q
  refine am_iload_n (x := v0) dJ6_bitCount_0f7a4_0 rfl ?_
  refine am_iload_n (x := v0) dJ6_bitCount_0f7a4_1 rfl ?_
  refine am_iconst (v := (nI 1)) dJ6_bitCount_0f7a4_2 (by decide) ?_
  refine am_iushr dJ6_bitCount_0f7a4_3 ?_
  refine am_ldcw dJ6_bitCount_0f7a4_4 kw_J6_265 ?_
  refine am_iand dJ6_bitCount_0f7a4_7 ?_
  refine am_isub dJ6_bitCount_0f7a4_8 ?_
  obtain ⟨x1, hx⟩ : ∃ z, z = (v0 - ((v0.toUInt32 >>> (Int32.toUInt32 (nI 1) &&& Int32.toUInt32 31)).toInt32 &&& (1431655765 : Int32))) := ⟨_, rfl⟩
  rw [← hx]
  replace hT := hT x1 hx
  clear hx
  refine am_set (am_istore_n dJ6_bitCount_0f7a4_9 (by decide)) (L1 := [.int x1]) rfl ?_
  refine am_iload_n (x := x1) dJ6_bitCount_0f7a4_10 rfl ?_
  refine am_ldcw dJ6_bitCount_0f7a4_11 kw_J6_266 ?_
  refine am_iand dJ6_bitCount_0f7a4_14 ?_
  refine am_iload_n (x := x1) dJ6_bitCount_0f7a4_15 rfl ?_
  refine am_iconst (v := (nI 2)) dJ6_bitCount_0f7a4_16 (by decide) ?_
  refine am_iushr dJ6_bitCount_0f7a4_17 ?_
  refine am_ldcw dJ6_bitCount_0f7a4_18 kw_J6_266 ?_
  refine am_iand dJ6_bitCount_0f7a4_21 ?_
  refine am_iadd dJ6_bitCount_0f7a4_22 ?_
  obtain ⟨x2, hx⟩ : ∃ z, z = ((x1 &&& (858993459 : Int32)) + ((x1.toUInt32 >>> (Int32.toUInt32 (nI 2) &&& Int32.toUInt32 31)).toInt32 &&& (858993459 : Int32))) := ⟨_, rfl⟩
  rw [← hx]
  replace hT := hT x2 hx
  clear hx
  refine am_set (am_istore_n dJ6_bitCount_0f7a4_23 (by decide)) (L1 := [.int x2]) rfl ?_
  refine am_iload_n (x := x2) dJ6_bitCount_0f7a4_24 rfl ?_
  refine am_iload_n (x := x2) dJ6_bitCount_0f7a4_25 rfl ?_
  refine am_iconst (v := (nI 4)) dJ6_bitCount_0f7a4_26 (by decide) ?_
  refine am_iushr dJ6_bitCount_0f7a4_27 ?_
  refine am_iadd dJ6_bitCount_0f7a4_28 ?_
  refine am_ldcw dJ6_bitCount_0f7a4_29 kw_J6_267 ?_
  refine am_iand dJ6_bitCount_0f7a4_32 ?_
  obtain ⟨x3, hx⟩ : ∃ z, z = ((x2 + (x2.toUInt32 >>> (Int32.toUInt32 (nI 4) &&& Int32.toUInt32 31)).toInt32) &&& (252645135 : Int32)) := ⟨_, rfl⟩
  rw [← hx]
  replace hT := hT x3 hx
  clear hx
  refine am_set (am_istore_n dJ6_bitCount_0f7a4_33 (by decide)) (L1 := [.int x3]) rfl ?_
  refine am_iload_n (x := x3) dJ6_bitCount_0f7a4_34 rfl ?_
  refine am_iload_n (x := x3) dJ6_bitCount_0f7a4_35 rfl ?_
  refine am_bipush (v := (nI 8)) dJ6_bitCount_0f7a4_36 (by decide) ?_
  refine am_iushr dJ6_bitCount_0f7a4_38 ?_
  refine am_iadd dJ6_bitCount_0f7a4_39 ?_
  obtain ⟨x4, hx⟩ : ∃ z, z = (x3 + (x3.toUInt32 >>> (Int32.toUInt32 (nI 8) &&& Int32.toUInt32 31)).toInt32) := ⟨_, rfl⟩
  rw [← hx]
  replace hT := hT x4 hx
  clear hx
  refine am_set (am_istore_n dJ6_bitCount_0f7a4_40 (by decide)) (L1 := [.int x4]) rfl ?_
  refine am_iload_n (x := x4) dJ6_bitCount_0f7a4_41 rfl ?_
  refine am_iload_n (x := x4) dJ6_bitCount_0f7a4_42 rfl ?_
  refine am_bipush (v := (nI 16)) dJ6_bitCount_0f7a4_43 (by decide) ?_
  refine am_iushr dJ6_bitCount_0f7a4_45 ?_
  refine am_iadd dJ6_bitCount_0f7a4_46 ?_
  obtain ⟨x5, hx⟩ : ∃ z, z = (x4 + (x4.toUInt32 >>> (Int32.toUInt32 (nI 16) &&& Int32.toUInt32 31)).toInt32) := ⟨_, rfl⟩
  rw [← hx]
  replace hT := hT x5 hx
  clear hx
  refine am_set (am_istore_n dJ6_bitCount_0f7a4_47 (by decide)) (L1 := [.int x5]) rfl ?_
  refine am_iload_n (x := x5) dJ6_bitCount_0f7a4_48 rfl ?_
  refine am_bipush (v := (nI 63)) dJ6_bitCount_0f7a4_49 (by decide) ?_
  refine am_iand dJ6_bitCount_0f7a4_51 ?_
  exact am_ireturn (ty := .int) dJ6_bitCount_0f7a4_52 rfl rfl hT
