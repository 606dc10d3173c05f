/-! the constructors -/
theorem z_w {l : Launch} {G : va_G} {cs : am_cs} {h0 sz d mc ms : Nat} {M : am_M} {L : List am_L} {P : am_D → Prop} {pc cells slots : Nat} {Lv : List (Nat × Value)} {st : List Value} {ws : va_W} (ws' : va_W) (e : ws = ws') (k : am_Z l G cs h0 sz d mc ms M L P pc Lv st ws' cells slots) : am_Z l G cs h0 sz d mc ms M L P pc Lv st ws cells slots := by
  rw [e]; exact k
/-- the cells, an array of cells as one list -/
def am_cell' (X : am_X) (D : am_D) (k : Nat) (c : am_L) : va_E := match c with
  | .inl q => .inr (q.1, q.2.mapIdx fun i f => am_fv X D k i f)
  | .inr (.inl (false, n)) => .inl (X.2.1.1, n, .inl (D k))
  | .inr (.inl (true, n)) => .inl (X.2.1.2.1, n, .inl (D k))
  | .inr (.inr rs) => .inl (X.2.1.2.2, rs.length, .inr (.inr (.inr (.inr fun i => (rs.map X.2.2)[i]?))))
def am_Wr (X : am_X) (D : am_D) : Nat → List am_L → va_W
  | _, [] => []
  | k, c :: r => (X.2.2 k, am_cell' X D k c) :: am_Wr X D (k + 1) r
theorem am_W_eq {X : am_X} {lay : List am_L} {D : am_D} : am_W X lay D = am_Wr X D 0 lay := by
  have h : ∀ k c, am_cell X D k c = am_cell' X D k c := by
    intro k c
    rcases c with q | ⟨b, n⟩ | rs
    · rfl
    · cases b <;> rfl
    · simp only [am_cell, am_cell', List.getElem?_map]
  have h2 : ∀ (l : List am_L) n, l.mapIdx (fun k c => (X.2.2 (n + k), am_cell' X D (n + k) c)) = am_Wr X D n l := by
    intro l
    induction l with
    | nil => intro n; rfl
    | cons c r ih =>
      intro n
      rw [List.mapIdx_cons]
      show _ :: _ = _ :: _
      rw [← ih (n + 1)]
      simp only [Nat.add_zero, Nat.add_assoc, Nat.add_comm 1]
  unfold am_W
  simp only [h]
  rw [← h2]
  simp only [Nat.zero_add]
def adL (l : List Nat) : Nat → Nat := fun k => l.getD k 0
def dL (l : List (Nat → Int32)) : am_D := fun k => l.getD k fun _ => 0
theorem cw_X0_init : am_CW mX0_init 0 := ⟨⟨by decide +kernel, by decide +kernel⟩, by decide +kernel, (am_mem 55 (by decide +kernel) rfl), (am_mem 81 (by decide +kernel) rfl), by decide⟩
theorem cw_X1_init : am_CW mX1_init 0 := ⟨⟨by decide +kernel, by decide +kernel⟩, by decide +kernel, (am_mem 60 (by decide +kernel) rfl), (am_mem 157 (by decide +kernel) rfl), by decide⟩
theorem cw_X2_init : am_CW mX2_init 0 := ⟨⟨by decide +kernel, by decide +kernel⟩, by decide +kernel, (am_mem 62 (by decide +kernel) rfl), (am_mem 180 (by decide +kernel) rfl), by decide⟩
theorem cw_X3_init : am_CW mX3_init 0 := ⟨⟨by decide +kernel, by decide +kernel⟩, by decide +kernel, (am_mem 57 (by decide +kernel) rfl), (am_mem 111 (by decide +kernel) rfl), by decide⟩
theorem cw_X4_init : am_CW mX4_init 0 := ⟨⟨by decide +kernel, by decide +kernel⟩, by decide +kernel, (am_mem 64 (by decide +kernel) rfl), (am_mem 212 (by decide +kernel) rfl), by decide⟩
theorem cw_X5_init : am_CW mX5_init 0 := ⟨⟨by decide +kernel, by decide +kernel⟩, by decide +kernel, (am_mem 63 (by decide +kernel) rfl), (am_mem 193 (by decide +kernel) rfl), by decide⟩
theorem cw_X6_init : am_CW mX6_init 0 := ⟨⟨by decide +kernel, by decide +kernel⟩, by decide +kernel, (am_mem 61 (by decide +kernel) rfl), (am_mem 167 (by decide +kernel) rfl), by decide⟩
theorem cw_X7_init : am_CW mX7_init 0 := ⟨⟨by decide +kernel, by decide +kernel⟩, by decide +kernel, (am_mem 59 (by decide +kernel) rfl), (am_mem 143 (by decide +kernel) rfl), by decide⟩
theorem cw_X8_init : am_CW mX8_init 0 := ⟨⟨by decide +kernel, by decide +kernel⟩, by decide +kernel, (am_mem 58 (by decide +kernel) rfl), (am_mem 130 (by decide +kernel) rfl), by decide⟩
theorem cw_X10_init : am_CW mX10_init 0 := ⟨⟨by decide +kernel, by decide +kernel⟩, by decide +kernel, (am_mem 54 (by decide +kernel) rfl), (am_mem 73 (by decide +kernel) rfl), by decide⟩
theorem cw_X11_init : am_CW mX11_init 0 := ⟨⟨by decide +kernel, by decide +kernel⟩, by decide +kernel, (am_mem 65 (by decide +kernel) rfl), (am_mem 818 (by decide +kernel) rfl), by decide⟩
abbrev lyX1 : List am_L := [.inl (1, [some 1]), .inr (.inl (false, 10))]
theorem con_X1 : am_Con 1 mX1_init 1 [.null] lyX1 (fun D1 => D1 = fun _ _ => 0) 1 10 := by
  refine z_enter (by decide +kernel) rfl (by decide) fun l G cs h0 sz => ?_
  refine z_aload (i := 0) dX1_init_0 rfl ?_
  refine z_obj dX1_init_1 (am_mem 158 (by decide +kernel) rfl) (am_mem 75 (by decide +kernel) rfl) (am_mem 76 (by decide +kernel) rfl) (by decide) ?_
  refine z_aload (i := 0) dX1_init_4 rfl ?_
  refine z_bipush (v := nI 10) dX1_init_5 (by decide) ?_
  refine z_newI dX1_init_7 (am_mem 106 (by decide +kernel) rfl) rfl (by decide) (by decide) (by decide) fun q1 => ?_
  refine z_putF tyX1 dX1_init_9 fw_X1_9 tyX1_ok nmX1 (i0 := 0) rfl rfl rfl rfl rfl rfl (Nat.le_of_ble_eq_true rfl) ?_
  refine z_w ([(h0, .inr (1, [.ref q1])), (q1, .inl (cs.1, 10, .inl fun _ => 0))]) rfl ?_
  exact z_ret (ad := adL [h0, q1]) (D1 := fun _ _ => 0) dX1_init_12 rfl rfl rfl rfl (by decide) (by decide)
abbrev lyX2 : List am_L := [.inl (2, [some 1, some 2]), .inr (.inl (false, 10)), .inr (.inl (false, 1024))]
theorem con_X2 : am_Con 1 mX2_init 2 [.null, .null] lyX2 (fun D1 => D1 = fun _ _ => 0) 2 1034 := by
  refine z_enter (by decide +kernel) rfl (by decide) fun l G cs h0 sz => ?_
  refine z_aload (i := 0) dX2_init_0 rfl ?_
  refine z_obj dX2_init_1 (am_mem 181 (by decide +kernel) rfl) (am_mem 75 (by decide +kernel) rfl) (am_mem 76 (by decide +kernel) rfl) (by decide) ?_
  refine z_aload (i := 0) dX2_init_4 rfl ?_
  refine z_bipush (v := nI 10) dX2_init_5 (by decide) ?_
  refine z_newI dX2_init_7 (am_mem 106 (by decide +kernel) rfl) rfl (by decide) (by decide) (by decide) fun q1 => ?_
  refine z_putF tyX2 dX2_init_9 fw_X2_9 tyX2_ok nmX2 (i0 := 0) rfl rfl rfl rfl rfl rfl (Nat.le_of_ble_eq_true rfl) ?_
  refine z_w ([(h0, .inr (2, [.ref q1, .null])), (q1, .inl (cs.1, 10, .inl fun _ => 0))]) rfl ?_
  refine z_aload (i := 0) dX2_init_12 rfl ?_
  refine z_sipush (v := nI 1024) dX2_init_13 (by decide) ?_
  refine z_newI dX2_init_16 (am_mem 106 (by decide +kernel) rfl) rfl (by decide) (by decide) (by decide) fun q2 => ?_
  refine z_putF tyX2 dX2_init_18 fw_X2_15 tyX2_ok nmX2 (i0 := 0) rfl rfl rfl rfl rfl rfl (Nat.le_of_ble_eq_true rfl) ?_
  refine z_w ([(h0, .inr (2, [.ref q1, .ref q2])), (q1, .inl (cs.1, 10, .inl fun _ => 0)), (q2, .inl (cs.1, 1024, .inl fun _ => 0))]) rfl ?_
  exact z_ret (ad := adL [h0, q1, q2]) (D1 := fun _ _ => 0) dX2_init_21 rfl rfl rfl rfl (by decide) (by decide)
abbrev lyX4 : List am_L := [.inl (4, [some 1]), .inr (.inl (false, 10))]
theorem con_X4 : am_Con 1 mX4_init 4 [.null] lyX4 (fun D1 => D1 = fun _ _ => 0) 1 10 := by
  refine z_enter (by decide +kernel) rfl (by decide) fun l G cs h0 sz => ?_
  refine z_aload (i := 0) dX4_init_0 rfl ?_
  refine z_obj dX4_init_1 (am_mem 213 (by decide +kernel) rfl) (am_mem 75 (by decide +kernel) rfl) (am_mem 76 (by decide +kernel) rfl) (by decide) ?_
  refine z_aload (i := 0) dX4_init_4 rfl ?_
  refine z_bipush (v := nI 10) dX4_init_5 (by decide) ?_
  refine z_newI dX4_init_7 (am_mem 106 (by decide +kernel) rfl) rfl (by decide) (by decide) (by decide) fun q1 => ?_
  refine z_putF tyX4 dX4_init_9 fw_X4_9 tyX4_ok nmX4 (i0 := 0) rfl rfl rfl rfl rfl rfl (Nat.le_of_ble_eq_true rfl) ?_
  refine z_w ([(h0, .inr (4, [.ref q1])), (q1, .inl (cs.1, 10, .inl fun _ => 0))]) rfl ?_
  exact z_ret (ad := adL [h0, q1]) (D1 := fun _ _ => 0) dX4_init_12 rfl rfl rfl rfl (by decide) (by decide)
abbrev lyX5 : List am_L := [.inl (5, [some 1, some 2, some 3, none]), .inr (.inl (false, 1024)), .inr (.inl (false, 320)), .inr (.inl (false, 320))]
theorem con_X5 : am_Con 1 mX5_init 5 [.null, .null, .null, .int 0] lyX5 (fun D1 => D1 = fun _ _ => 0) 3 1664 := by
  refine z_enter (by decide +kernel) rfl (by decide) fun l G cs h0 sz => ?_
  refine z_aload (i := 0) dX5_init_0 rfl ?_
  refine z_obj dX5_init_1 (am_mem 194 (by decide +kernel) rfl) (am_mem 75 (by decide +kernel) rfl) (am_mem 76 (by decide +kernel) rfl) (by decide) ?_
  refine z_aload (i := 0) dX5_init_4 rfl ?_
  refine z_sipush (v := nI 1024) dX5_init_5 (by decide) ?_
  refine z_newI dX5_init_8 (am_mem 106 (by decide +kernel) rfl) rfl (by decide) (by decide) (by decide) fun q1 => ?_
  refine z_putF tyX5 dX5_init_10 fw_X5_9 tyX5_ok nmX5 (i0 := 0) rfl rfl rfl rfl rfl rfl (Nat.le_of_ble_eq_true rfl) ?_
  refine z_w ([(h0, .inr (5, [.ref q1, .null, .null, .int 0])), (q1, .inl (cs.1, 1024, .inl fun _ => 0))]) rfl ?_
  refine z_aload (i := 0) dX5_init_13 rfl ?_
  refine z_sipush (v := nI 320) dX5_init_14 (by decide) ?_
  refine z_newI dX5_init_17 (am_mem 106 (by decide +kernel) rfl) rfl (by decide) (by decide) (by decide) fun q2 => ?_
  refine z_putF tyX5 dX5_init_19 fw_X5_15 tyX5_ok nmX5 (i0 := 0) rfl rfl rfl rfl rfl rfl (Nat.le_of_ble_eq_true rfl) ?_
  refine z_w ([(h0, .inr (5, [.ref q1, .ref q2, .null, .int 0])), (q1, .inl (cs.1, 1024, .inl fun _ => 0)), (q2, .inl (cs.1, 320, .inl fun _ => 0))]) rfl ?_
  refine z_aload (i := 0) dX5_init_22 rfl ?_
  refine z_sipush (v := nI 320) dX5_init_23 (by decide) ?_
  refine z_newI dX5_init_26 (am_mem 106 (by decide +kernel) rfl) rfl (by decide) (by decide) (by decide) fun q3 => ?_
  refine z_putF tyX5 dX5_init_28 fw_X5_18 tyX5_ok nmX5 (i0 := 0) rfl rfl rfl rfl rfl rfl (Nat.le_of_ble_eq_true rfl) ?_
  refine z_w ([(h0, .inr (5, [.ref q1, .ref q2, .ref q3, .int 0])), (q1, .inl (cs.1, 1024, .inl fun _ => 0)), (q2, .inl (cs.1, 320, .inl fun _ => 0)), (q3, .inl (cs.1, 320, .inl fun _ => 0))]) rfl ?_
  exact z_ret (ad := adL [h0, q1, q2, q3]) (D1 := fun _ _ => 0) dX5_init_31 rfl rfl rfl rfl (by decide) (by decide)
abbrev lyX6 : List am_L := [.inl (6, [some 1, some 2]), .inr (.inl (false, 10)), .inr (.inl (false, 10240))]
theorem con_X6 : am_Con 1 mX6_init 6 [.null, .null] lyX6 (fun D1 => D1 = fun _ _ => 0) 2 10250 := by
  refine z_enter (by decide +kernel) rfl (by decide) fun l G cs h0 sz => ?_
  refine z_aload (i := 0) dX6_init_0 rfl ?_
  refine z_obj dX6_init_1 (am_mem 168 (by decide +kernel) rfl) (am_mem 75 (by decide +kernel) rfl) (am_mem 76 (by decide +kernel) rfl) (by decide) ?_
  refine z_aload (i := 0) dX6_init_4 rfl ?_
  refine z_bipush (v := nI 10) dX6_init_5 (by decide) ?_
  refine z_newI dX6_init_7 (am_mem 106 (by decide +kernel) rfl) rfl (by decide) (by decide) (by decide) fun q1 => ?_
  refine z_putF tyX6 dX6_init_9 fw_X6_9 tyX6_ok nmX6 (i0 := 0) rfl rfl rfl rfl rfl rfl (Nat.le_of_ble_eq_true rfl) ?_
  refine z_w ([(h0, .inr (6, [.ref q1, .null])), (q1, .inl (cs.1, 10, .inl fun _ => 0))]) rfl ?_
  refine z_aload (i := 0) dX6_init_12 rfl ?_
  refine z_sipush (v := nI 10240) dX6_init_13 (by decide) ?_
  refine z_newI dX6_init_16 (am_mem 106 (by decide +kernel) rfl) rfl (by decide) (by decide) (by decide) fun q2 => ?_
  refine z_putF tyX6 dX6_init_18 fw_X6_15 tyX6_ok nmX6 (i0 := 0) rfl rfl rfl rfl rfl rfl (Nat.le_of_ble_eq_true rfl) ?_
  refine z_w ([(h0, .inr (6, [.ref q1, .ref q2])), (q1, .inl (cs.1, 10, .inl fun _ => 0)), (q2, .inl (cs.1, 10240, .inl fun _ => 0))]) rfl ?_
  exact z_ret (ad := adL [h0, q1, q2]) (D1 := fun _ _ => 0) dX6_init_21 rfl rfl rfl rfl (by decide) (by decide)
abbrev lyX7 : List am_L := [.inl (7, [some 1, none]), .inr (.inl (true, 120))]
theorem con_X7 : am_Con 1 mX7_init 7 [.null, .int 0] lyX7 (fun D1 => D1 = fun _ _ => 0) 1 120 := by
  refine z_enter (by decide +kernel) rfl (by decide) fun l G cs h0 sz => ?_
  refine z_aload (i := 0) dX7_init_0 rfl ?_
  refine z_obj dX7_init_1 (am_mem 144 (by decide +kernel) rfl) (am_mem 75 (by decide +kernel) rfl) (am_mem 76 (by decide +kernel) rfl) (by decide) ?_
  refine z_aload (i := 0) dX7_init_4 rfl ?_
  refine z_bipush (v := nI 120) dX7_init_5 (by decide) ?_
  refine z_newC dX7_init_7 (am_mem 152 (by decide +kernel) rfl) rfl (by decide) (by decide) (by decide) fun q1 => ?_
  refine z_putF tyX7 dX7_init_9 fw_X7_9 tyX7_ok nmX7 (i0 := 0) rfl rfl rfl rfl rfl rfl (Nat.le_of_ble_eq_true rfl) ?_
  refine z_w ([(h0, .inr (7, [.ref q1, .int 0])), (q1, .inl (cs.2.1, 120, .inl fun _ => 0))]) rfl ?_
  exact z_ret (ad := adL [h0, q1]) (D1 := fun _ _ => 0) dX7_init_12 rfl rfl rfl rfl (by decide) (by decide)
abbrev lyX8 : List am_L := [.inl (8, [some 1, none]), .inr (.inl (false, 10))]
theorem con_X8 : am_Con 1 mX8_init 8 [.null, .int 0] lyX8 (fun D1 => D1 = fun _ _ => 0) 1 10 := by
  refine z_enter (by decide +kernel) rfl (by decide) fun l G cs h0 sz => ?_
  refine z_aload (i := 0) dX8_init_0 rfl ?_
  refine z_obj dX8_init_1 (am_mem 131 (by decide +kernel) rfl) (am_mem 75 (by decide +kernel) rfl) (am_mem 76 (by decide +kernel) rfl) (by decide) ?_
  refine z_aload (i := 0) dX8_init_4 rfl ?_
  refine z_bipush (v := nI 10) dX8_init_5 (by decide) ?_
  refine z_newI dX8_init_7 (am_mem 106 (by decide +kernel) rfl) rfl (by decide) (by decide) (by decide) fun q1 => ?_
  refine z_putF tyX8 dX8_init_9 fw_X8_9 tyX8_ok nmX8 (i0 := 0) rfl rfl rfl rfl rfl rfl (Nat.le_of_ble_eq_true rfl) ?_
  refine z_w ([(h0, .inr (8, [.ref q1, .int 0])), (q1, .inl (cs.1, 10, .inl fun _ => 0))]) rfl ?_
  exact z_ret (ad := adL [h0, q1]) (D1 := fun _ _ => 0) dX8_init_12 rfl rfl rfl rfl (by decide) (by decide)
abbrev lyX0 : List am_L := [.inl (0, [none, none, some 1, some 2]), .inr (.inl (false, 10)), .inr (.inl (false, 100))]
theorem con_X0 : am_Con 2 mX0_init 0 [.int 0, .int 0, .null, .null] lyX0 (fun D1 => brd D1 0 4 (bg0 4) (fun _ _ => 1) ∧ D1 0 1 = nI 1) 2 110 := by
  refine z_enter (by decide +kernel) rfl (by decide) fun l G cs h0 sz => ?_
  refine z_aload (i := 0) dX0_init_0 rfl ?_
  refine z_obj dX0_init_1 (am_mem 82 (by decide +kernel) rfl) (am_mem 75 (by decide +kernel) rfl) (am_mem 76 (by decide +kernel) rfl) (by decide) ?_
  refine z_aload (i := 0) dX0_init_4 rfl ?_
  refine z_bipush (v := nI 10) dX0_init_5 (by decide) ?_
  refine z_newI dX0_init_7 (am_mem 106 (by decide +kernel) rfl) rfl (by decide) (by decide) (by decide) fun q1 => ?_
  refine z_putF tyX0 dX0_init_9 fw_X0_9 tyX0_ok nmX0 (i0 := 0) rfl rfl rfl rfl rfl rfl (Nat.le_of_ble_eq_true rfl) ?_
  refine z_w ([(h0, .inr (0, [.int 0, .int 0, .ref q1, .null])), (q1, .inl (cs.1, 10, .inl fun _ => 0))]) rfl ?_
  refine z_aload (i := 0) dX0_init_12 rfl ?_
  refine z_bipush (v := nI 100) dX0_init_13 (by decide) ?_
  refine z_newI dX0_init_15 (am_mem 106 (by decide +kernel) rfl) rfl (by decide) (by decide) (by decide) fun q2 => ?_
  refine z_putF tyX0 dX0_init_17 fw_X0_15 tyX0_ok nmX0 (i0 := 0) rfl rfl rfl rfl rfl rfl (Nat.le_of_ble_eq_true rfl) ?_
  refine z_w ([(h0, .inr (0, [.int 0, .int 0, .ref q1, .ref q2])), (q1, .inl (cs.1, 10, .inl fun _ => 0)), (q2, .inl (cs.1, 100, .inl fun _ => 0))]) rfl ?_
  refine z_aload (i := 0) dX0_init_20 rfl ?_
  refine z_iconst (v := nI 4) dX0_init_21 (by decide) ?_
  obtain ⟨D1, hm, hb, hc⟩ := c_start (lay := lyX0) (d := 0) (D := fun _ _ => 0) (b := 0) (n := 4) ⟨rfl, rfl, rfl⟩ (by decide) (by decide)
  refine z_w (am_W (G, cs, (adL [h0, q1, q2])) lyX0 (fun _ _ => 0)) rfl ?_
  refine z_metV (b := 0) (ad := (adL [h0, q1, q2])) (av := [.int (nI 4)]) (st := []) dX0_init_22 cw_X0_start (am_mem 83 (by decide +kernel) rfl) (am_mem 84 (by decide +kernel) rfl) (am_mem 85 (by decide +kernel) rfl) rfl rfl rfl hm (by decide) (by decide) ⟨by decide, by decide⟩ ?_
  obtain ⟨-, -, j, hj, h1, h2⟩ := hc
  have hj1 : j = 1 := by
    rcases (by omega : j = 0 ∨ j = 1) with e | e
    · have h4 : D1 0 0 = nI 4 := hb.1
      rw [h2 e] at h4
      exact absurd h4 (by decide)
    · exact e
  refine z_ret dX0_init_25 rfl rfl ⟨hb, ?_⟩ rfl (by decide) (by decide)
  rw [h1, hj1]; rfl
abbrev lyX11 : List am_L := [.inl (10, [some 1, some 2, some 3, none, none, some 4, none, some 5, some 6, some 7, some 8, some 9]), .inr (.inl (false, 111)), .inr (.inl (false, 111)), .inr (.inl (false, 888)), .inr (.inl (false, 10)), .inr (.inl (false, 120)), .inr (.inl (false, 10240)), .inr (.inl (false, 1024)), .inr (.inl (false, 10)), .inr (.inl (false, 10))]
theorem con_X11 : am_Con 2 mX11_init 10 [.null, .null, .null, .int 0, .int 0, .null, .int 0, .null, .null, .null, .null, .null] lyX11 (fun D1 => RM D1 0 ((4, bg0 4, fun _ _ => 1), (4, bg0 4, fun _ _ => 1), [], [], [])) 9 12524 := by
  refine z_enter (by decide +kernel) rfl (by decide) fun l G cs h0 sz => ?_
  refine z_aload (i := 0) dX11_init_0 rfl ?_
  refine z_obj dX11_init_1 (am_mem 819 (by decide +kernel) rfl) (am_mem 75 (by decide +kernel) rfl) (am_mem 76 (by decide +kernel) rfl) (by decide) ?_
  refine z_aload (i := 0) dX11_init_4 rfl ?_
  refine z_bipush (v := nI 111) dX11_init_5 (by decide) ?_
  refine z_newI dX11_init_7 (am_mem 106 (by decide +kernel) rfl) rfl (by decide) (by decide) (by decide) fun q1 => ?_
  refine z_putF tyX11 dX11_init_9 fw_X11_7 tyX11_ok nmX11 (i0 := 0) rfl rfl rfl rfl rfl rfl (Nat.le_of_ble_eq_true rfl) ?_
  refine z_w ([(h0, .inr (10, [.ref q1, .null, .null, .int 0, .int 0, .null, .int 0, .null, .null, .null, .null, .null])), (q1, .inl (cs.1, 111, .inl fun _ => 0))]) rfl ?_
  refine z_aload (i := 0) dX11_init_12 rfl ?_
  refine z_bipush (v := nI 111) dX11_init_13 (by decide) ?_
  refine z_newI dX11_init_15 (am_mem 106 (by decide +kernel) rfl) rfl (by decide) (by decide) (by decide) fun q2 => ?_
  refine z_putF tyX11 dX11_init_17 fw_X11_13 tyX11_ok nmX11 (i0 := 0) rfl rfl rfl rfl rfl rfl (Nat.le_of_ble_eq_true rfl) ?_
  refine z_w ([(h0, .inr (10, [.ref q1, .ref q2, .null, .int 0, .int 0, .null, .int 0, .null, .null, .null, .null, .null])), (q1, .inl (cs.1, 111, .inl fun _ => 0)), (q2, .inl (cs.1, 111, .inl fun _ => 0))]) rfl ?_
  refine z_aload (i := 0) dX11_init_20 rfl ?_
  refine z_sipush (v := nI 888) dX11_init_21 (by decide) ?_
  refine z_newI dX11_init_24 (am_mem 106 (by decide +kernel) rfl) rfl (by decide) (by decide) (by decide) fun q3 => ?_
  refine z_putF tyX11 dX11_init_26 fw_X11_16 tyX11_ok nmX11 (i0 := 0) rfl rfl rfl rfl rfl rfl (Nat.le_of_ble_eq_true rfl) ?_
  refine z_w ([(h0, .inr (10, [.ref q1, .ref q2, .ref q3, .int 0, .int 0, .null, .int 0, .null, .null, .null, .null, .null])), (q1, .inl (cs.1, 111, .inl fun _ => 0)), (q2, .inl (cs.1, 111, .inl fun _ => 0)), (q3, .inl (cs.1, 888, .inl fun _ => 0))]) rfl ?_
  refine z_aload (i := 0) dX11_init_29 rfl ?_
  refine z_bipush (v := nI 10) dX11_init_30 (by decide) ?_
  refine z_newI dX11_init_32 (am_mem 106 (by decide +kernel) rfl) rfl (by decide) (by decide) (by decide) fun q4 => ?_
  refine z_putF tyX11 dX11_init_34 fw_X11_19 tyX11_ok nmX11 (i0 := 0) rfl rfl rfl rfl rfl rfl (Nat.le_of_ble_eq_true rfl) ?_
  refine z_w ([(h0, .inr (10, [.ref q1, .ref q2, .ref q3, .int 0, .int 0, .ref q4, .int 0, .null, .null, .null, .null, .null])), (q1, .inl (cs.1, 111, .inl fun _ => 0)), (q2, .inl (cs.1, 111, .inl fun _ => 0)), (q3, .inl (cs.1, 888, .inl fun _ => 0)), (q4, .inl (cs.1, 10, .inl fun _ => 0))]) rfl ?_
  refine z_aload (i := 0) dX11_init_37 rfl ?_
  refine z_bipush (v := nI 120) dX11_init_38 (by decide) ?_
  refine z_newI dX11_init_40 (am_mem 106 (by decide +kernel) rfl) rfl (by decide) (by decide) (by decide) fun q5 => ?_
  refine z_putF tyX11 dX11_init_42 fw_X11_22 tyX11_ok nmX11 (i0 := 0) rfl rfl rfl rfl rfl rfl (Nat.le_of_ble_eq_true rfl) ?_
  refine z_w ([(h0, .inr (10, [.ref q1, .ref q2, .ref q3, .int 0, .int 0, .ref q4, .int 0, .ref q5, .null, .null, .null, .null])), (q1, .inl (cs.1, 111, .inl fun _ => 0)), (q2, .inl (cs.1, 111, .inl fun _ => 0)), (q3, .inl (cs.1, 888, .inl fun _ => 0)), (q4, .inl (cs.1, 10, .inl fun _ => 0)), (q5, .inl (cs.1, 120, .inl fun _ => 0))]) rfl ?_
  refine z_aload (i := 0) dX11_init_45 rfl ?_
  refine z_sipush (v := nI 10240) dX11_init_46 (by decide) ?_
  refine z_newI dX11_init_49 (am_mem 106 (by decide +kernel) rfl) rfl (by decide) (by decide) (by decide) fun q6 => ?_
  refine z_putF tyX11 dX11_init_51 fw_X11_25 tyX11_ok nmX11 (i0 := 0) rfl rfl rfl rfl rfl rfl (Nat.le_of_ble_eq_true rfl) ?_
  refine z_w ([(h0, .inr (10, [.ref q1, .ref q2, .ref q3, .int 0, .int 0, .ref q4, .int 0, .ref q5, .ref q6, .null, .null, .null])), (q1, .inl (cs.1, 111, .inl fun _ => 0)), (q2, .inl (cs.1, 111, .inl fun _ => 0)), (q3, .inl (cs.1, 888, .inl fun _ => 0)), (q4, .inl (cs.1, 10, .inl fun _ => 0)), (q5, .inl (cs.1, 120, .inl fun _ => 0)), (q6, .inl (cs.1, 10240, .inl fun _ => 0))]) rfl ?_
  refine z_aload (i := 0) dX11_init_54 rfl ?_
  refine z_sipush (v := nI 1024) dX11_init_55 (by decide) ?_
  refine z_newI dX11_init_58 (am_mem 106 (by decide +kernel) rfl) rfl (by decide) (by decide) (by decide) fun q7 => ?_
  refine z_putF tyX11 dX11_init_60 fw_X11_28 tyX11_ok nmX11 (i0 := 0) rfl rfl rfl rfl rfl rfl (Nat.le_of_ble_eq_true rfl) ?_
  refine z_w ([(h0, .inr (10, [.ref q1, .ref q2, .ref q3, .int 0, .int 0, .ref q4, .int 0, .ref q5, .ref q6, .ref q7, .null, .null])), (q1, .inl (cs.1, 111, .inl fun _ => 0)), (q2, .inl (cs.1, 111, .inl fun _ => 0)), (q3, .inl (cs.1, 888, .inl fun _ => 0)), (q4, .inl (cs.1, 10, .inl fun _ => 0)), (q5, .inl (cs.1, 120, .inl fun _ => 0)), (q6, .inl (cs.1, 10240, .inl fun _ => 0)), (q7, .inl (cs.1, 1024, .inl fun _ => 0))]) rfl ?_
  refine z_aload (i := 0) dX11_init_63 rfl ?_
  refine z_bipush (v := nI 10) dX11_init_64 (by decide) ?_
  refine z_newI dX11_init_66 (am_mem 106 (by decide +kernel) rfl) rfl (by decide) (by decide) (by decide) fun q8 => ?_
  refine z_putF tyX11 dX11_init_68 fw_X11_31 tyX11_ok nmX11 (i0 := 0) rfl rfl rfl rfl rfl rfl (Nat.le_of_ble_eq_true rfl) ?_
  refine z_w ([(h0, .inr (10, [.ref q1, .ref q2, .ref q3, .int 0, .int 0, .ref q4, .int 0, .ref q5, .ref q6, .ref q7, .ref q8, .null])), (q1, .inl (cs.1, 111, .inl fun _ => 0)), (q2, .inl (cs.1, 111, .inl fun _ => 0)), (q3, .inl (cs.1, 888, .inl fun _ => 0)), (q4, .inl (cs.1, 10, .inl fun _ => 0)), (q5, .inl (cs.1, 120, .inl fun _ => 0)), (q6, .inl (cs.1, 10240, .inl fun _ => 0)), (q7, .inl (cs.1, 1024, .inl fun _ => 0)), (q8, .inl (cs.1, 10, .inl fun _ => 0))]) rfl ?_
  refine z_aload (i := 0) dX11_init_71 rfl ?_
  refine z_bipush (v := nI 10) dX11_init_72 (by decide) ?_
  refine z_newI dX11_init_74 (am_mem 106 (by decide +kernel) rfl) rfl (by decide) (by decide) (by decide) fun q9 => ?_
  refine z_putF tyX11 dX11_init_76 fw_X11_34 tyX11_ok nmX11 (i0 := 0) rfl rfl rfl rfl rfl rfl (Nat.le_of_ble_eq_true rfl) ?_
  refine z_w ([(h0, .inr (10, [.ref q1, .ref q2, .ref q3, .int 0, .int 0, .ref q4, .int 0, .ref q5, .ref q6, .ref q7, .ref q8, .ref q9])), (q1, .inl (cs.1, 111, .inl fun _ => 0)), (q2, .inl (cs.1, 111, .inl fun _ => 0)), (q3, .inl (cs.1, 888, .inl fun _ => 0)), (q4, .inl (cs.1, 10, .inl fun _ => 0)), (q5, .inl (cs.1, 120, .inl fun _ => 0)), (q6, .inl (cs.1, 10240, .inl fun _ => 0)), (q7, .inl (cs.1, 1024, .inl fun _ => 0)), (q8, .inl (cs.1, 10, .inl fun _ => 0)), (q9, .inl (cs.1, 10, .inl fun _ => 0))]) rfl ?_
  refine z_aload (i := 0) dX11_init_79 rfl ?_
  refine z_iconst (v := nI 4) dX11_init_80 (by decide) ?_
  obtain ⟨D1, hm, hb, hc⟩ := k_begins (lay := lyX11) (d := 0) (D := fun _ _ => 0) (o := 0) (n := 4) (by refine ⟨rfl, ?_⟩; repeat' first | exact rfl | refine And.intro rfl ?_) (by decide)
  refine z_w (am_W (G, cs, (adL [h0, q1, q2, q3, q4, q5, q6, q7, q8, q9])) lyX11 (fun _ _ => 0)) rfl ?_
  refine z_metV (b := 0) (ad := (adL [h0, q1, q2, q3, q4, q5, q6, q7, q8, q9])) (av := [.int (nI 4)]) (st := []) dX11_init_81 cw_X11_begins (am_mem 820 (by decide +kernel) rfl) (am_mem 822 (by decide +kernel) rfl) (am_mem 22 (by decide +kernel) rfl) rfl rfl rfl hm (by decide) (by decide) ⟨by decide, by decide⟩ ?_
  have hz : ∀ i, D1 0 i = 0 := fun i => by rw [hc 0 (by decide)]
  refine z_aload (i := 0) dX11_init_84 rfl ?_
  have hfin : ∀ f : Value × Value, True := fun _ => trivial
  have e0 : (am_W (G, cs, (adL [h0, q1, q2, q3, q4, q5, q6, q7, q8, q9])) lyX11 D1)[0]? = some (h0, .inr (10, [.ref q1, .ref q2, .ref q3, .int (D1 0 3), .int (D1 0 4), .ref q4, .int (D1 0 6), .ref q5, .ref q6, .ref q7, .ref q8, .ref q9])) := rfl
  refine z_get dX11_init_85 fw_X11_7 (v := .ref q1) e0 rfl ?_
  refine z_aload (i := 0) dX11_init_88 rfl ?_
  refine z_get dX11_init_89 fw_X11_13 (v := .ref q2) e0 rfl ?_
  refine z_metS (ad := (adL [h0, q1, q2, q3, q4, q5, q6, q7, q8, q9])) (av := [.ref 1, .ref 2]) (st := []) dX11_init_92 cw_X11_copies (am_mem 827 (by decide +kernel) rfl) (am_mem 828 (by decide +kernel) rfl) (k_copies (d := 0) (lay := lyX11) (D := D1) (a := 1) (b := 2) rfl rfl (by decide)) (by decide) (by decide) ⟨by decide, by decide⟩ ?_
  have hr2 : mrow (fil D1 2 111 (D1 1) 2) (4, bg0 4, fun _ _ => 1) := by
    have hb1 : mrow (D1 1) (4, bg0 4, fun _ _ => 1) := hb
    have key : ∀ k, k < 111 → fil D1 2 111 (D1 1) 2 k = D1 1 k := fun k hk => by simp [fil, hk]
    refine ⟨?_, fun p hp => ?_, fun p q hp hq => ?_⟩
    · rw [key 0 (by decide)]; exact hb1.1
    · rw [key (1 + p) (by omega)]; exact hb1.2.1 p hp
    · rw [key (11 + 10 * p + q) (by omega)]; exact hb1.2.2 p q hp hq
  have hk : ∀ q, q ≠ 2 → fil D1 2 111 (D1 1) q = D1 q := fun q hq => by funext k; simp [fil, hq]
  have hk0 : ∀ i, fil D1 2 111 (D1 1) 0 i = 0 := fun i => by rw [hk 0 (by decide)]; exact hz i
  refine z_ret dX11_init_95 rfl rfl ⟨?_, hr2, ⟨by decide, hk0 3, fun i U hU => by simp at hU⟩, ⟨by decide, hk0 4, fun i U hU => by simp at hU⟩, ⟨by decide, hk0 6, fun i U hU => by simp at hU⟩⟩ rfl (by decide) (by decide)
  show mrow (fil D1 2 111 (D1 1) 1) _
  rw [hk 1 (by decide)]; exact hb
abbrev lyX3 : List am_L := [.inl (3, [some 1, none, none]), .inr (.inr [2, 5, 8, 11, 14, 17, 20, 23]), .inl (0, [none, none, some 3, some 4]), .inr (.inl (false, 10)), .inr (.inl (false, 100)), .inl (0, [none, none, some 6, some 7]), .inr (.inl (false, 10)), .inr (.inl (false, 100)), .inl (0, [none, none, some 9, some 10]), .inr (.inl (false, 10)), .inr (.inl (false, 100)), .inl (0, [none, none, some 12, some 13]), .inr (.inl (false, 10)), .inr (.inl (false, 100)), .inl (0, [none, none, some 15, some 16]), .inr (.inl (false, 10)), .inr (.inl (false, 100)), .inl (0, [none, none, some 18, some 19]), .inr (.inl (false, 10)), .inr (.inl (false, 100)), .inl (0, [none, none, some 21, some 22]), .inr (.inl (false, 10)), .inr (.inl (false, 100)), .inl (0, [none, none, some 24, some 25]), .inr (.inl (false, 10)), .inr (.inl (false, 100))]
abbrev h3o (r : Nat) : va_E := .inr (3, [.ref r, .int 0, .int 0])
abbrev h3r (cs : am_cs) (f : Nat → Option Nat) : va_E := .inl (cs.2.2, 8, .inr (.inr (.inr (.inr f))))
theorem h3_step {l : Launch} {G : va_G} {cs : am_cs} {h0 sz mc ms : Nat} {L : List am_L} {P : am_D → Prop} {cells slots r i : Nat} {f : Nat → Option Nat} {R : va_W} (hi : i < 8) (hc : cells + 1 + 2 ≤ mc) (hs : slots + 4 + 110 ≤ ms)
    (kk : ∀ ad D1, am_Z l G cs h0 sz 3 mc ms mX3_init L P 15 [(1, .int (nI (i + 1))), (0, .ref h0)] [] ((h0, h3o r) :: (r, h3r cs (va_up f i (some (ad 0)))) :: (R ++ am_W (G, cs, ad) lyX0 D1)) (cells + 1 + 2) (slots + 4 + 110)) :
    am_Z l G cs h0 sz 3 mc ms mX3_init L P 15 [(1, .int (nI i)), (0, .ref h0)] [] ((h0, h3o r) :: (r, h3r cs f) :: R) cells slots := by
  refine z_iload (i := 0) dX3_init_15 rfl ?_
  refine z_aload (i := 1) dX3_init_16 rfl ?_
  refine z_get dX3_init_17 fw_X3_11 (i0 := 0) (v := .ref r) rfl rfl ?_
  refine z_alenQ (i0 := 1) (v := nI 8) dX3_init_20 rfl rfl ?_
  refine z_ge (tgt := 43) dX3_init_21 (by decide) (fun h => absurd h (ge_no hi (by decide))) fun _ => ?_
  refine z_aload (i := 1) dX3_init_24 rfl ?_
  refine z_get dX3_init_25 fw_X3_11 (i0 := 0) (v := .ref r) rfl rfl ?_
  refine z_iload (i := 0) dX3_init_28 rfl ?_
  refine z_new (ci := 0) (fs := [.int 0, .int 0, .null, .null]) tyX0 dX3_init_29 rfl fg_X0 tyX0_ok (am_mem 113 (by decide +kernel) rfl) (am_mem 78 (by decide +kernel) rfl) (am_mem 55 (by decide +kernel) rfl) (by decide +kernel) (by omega) (by omega) fun q => ?_
  refine z_dup dX3_init_32 ?_
  refine z_con dX3_init_33 cw_X0_init (am_mem 115 (by decide +kernel) rfl) (am_mem 80 (by decide +kernel) rfl) rfl rfl con_X0 (by decide) (by omega) (by omega) (Nat.le_of_ble_eq_true rfl) fun ad D1 ha _ => ?_
  subst ha
  have hq : (((h0, h3o r) :: (r, h3r cs f) :: R) ++ am_W (G, cs, ad) lyX0 D1)[((h0, h3o r) :: (r, h3r cs f) :: R).length]? = some (ad 0, .inr (0, [.int (D1 0 0), .int (D1 0 1), .ref (ad 1), .ref (ad 2)])) := by
    rw [List.getElem?_append_right (Nat.le_refl _), Nat.sub_self]; rfl
  refine z_astQ (i0 := 1) dX3_init_36 rfl hq (r := (RX0, TX0, 4)) rfl rfl (vp_in_nI hi (by decide)) ?_
  rw [nI_clamp (by omega : i < 2 ^ 31)]
  refine z_iinc (i := 1) (k := 0) (v := nI (i + 1)) dX3_init_37 rfl (by rw [← nI_add]; rfl) (by decide) rfl ?_
  exact z_goto (tgt := 15) dX3_init_40 (by decide) (kk ad D1)
theorem h3_ring {b0 b1 b2 b3 b4 b5 b6 b7 : Nat} : (va_up (va_up (va_up (va_up (va_up (va_up (va_up (va_up (fun _ => none) 0 (some b0)) 1 (some b1)) 2 (some b2)) 3 (some b3)) 4 (some b4)) 5 (some b5)) 6 (some b6)) 7 (some b7)) = fun i => ([b0, b1, b2, b3, b4, b5, b6, b7] : List Nat)[i]? := by
  funext i
  match i with
  | 0 | 1 | 2 | 3 | 4 | 5 | 6 | 7 => rfl
  | n + 8 =>
    have h : ∀ j, j < 8 → n + 8 ≠ j := fun j hj => by omega
    simp only [va_up]
    rw [if_neg (h 7 (by decide)), if_neg (h 6 (by decide)), if_neg (h 5 (by decide)), if_neg (h 4 (by decide)), if_neg (h 3 (by decide)), if_neg (h 2 (by decide)), if_neg (h 1 (by decide)), if_neg (h 0 (by decide))]
    rfl
theorem h3_world {G : va_G} {cs : am_cs} {h0 r : Nat} {a0 a1 a2 a3 a4 a5 a6 a7 : Nat → Nat} {D0 D1 D2 D3 D4 D5 D6 D7 : am_D} : ((h0, h3o r) :: (r, h3r cs fun i => ([a0 0, a1 0, a2 0, a3 0, a4 0, a5 0, a6 0, a7 0] : List Nat)[i]?) :: (((((((([] ++ am_W (G, cs, a0) lyX0 D0) ++ am_W (G, cs, a1) lyX0 D1) ++ am_W (G, cs, a2) lyX0 D2) ++ am_W (G, cs, a3) lyX0 D3) ++ am_W (G, cs, a4) lyX0 D4) ++ am_W (G, cs, a5) lyX0 D5) ++ am_W (G, cs, a6) lyX0 D6) ++ am_W (G, cs, a7) lyX0 D7)) = am_W (G, cs, adL [h0, r, a0 0, a0 1, a0 2, a1 0, a1 1, a1 2, a2 0, a2 1, a2 2, a3 0, a3 1, a3 2, a4 0, a4 1, a4 2, a5 0, a5 1, a5 2, a6 0, a6 1, a6 2, a7 0, a7 1, a7 2]) lyX3 (dL [fun _ => 0, fun _ => 0, D0 0, D0 1, D0 2, D1 0, D1 1, D1 2, D2 0, D2 1, D2 2, D3 0, D3 1, D3 2, D4 0, D4 1, D4 2, D5 0, D5 1, D5 2, D6 0, D6 1, D6 2, D7 0, D7 1, D7 2]) := by
  simp only [am_W_eq]
  rfl
theorem con_X3 : am_Con 3 mX3_init 3 [.null, .int 0, .int 0] lyX3 (fun D1 => D1 0 1 = 0 ∧ D1 0 2 = 0) 25 920 := by
  refine z_enter (by decide +kernel) rfl (by decide) fun l G cs h0 sz => ?_
  refine z_aload (i := 0) dX3_init_0 rfl ?_
  refine z_obj dX3_init_1 (am_mem 112 (by decide +kernel) rfl) (am_mem 75 (by decide +kernel) rfl) (am_mem 76 (by decide +kernel) rfl) (by decide) ?_
  refine z_aload (i := 0) dX3_init_4 rfl ?_
  refine z_bipush (v := nI 8) dX3_init_5 (by decide) ?_
  refine z_newQ dX3_init_7 (am_mem 113 (by decide +kernel) rfl) rfl (by decide) (by decide) (by decide) fun r => ?_
  refine z_putF tyX3 dX3_init_10 fw_X3_11 tyX3_ok nmX3 (i0 := 0) rfl rfl rfl rfl rfl rfl (Nat.le_of_ble_eq_true rfl) ?_
  refine z_iconst (v := nI 0) dX3_init_13 (by decide) ?_
  refine z_istore dX3_init_14 (by decide) rfl ?_
  refine z_w ((h0, h3o r) :: (r, h3r cs fun _ => none) :: []) rfl ?_
  refine h3_step (i := 0) (by decide) (by decide) (by decide) fun a0 D0 => ?_
  refine h3_step (i := 1) (by decide) (by decide) (by decide) fun a1 D1 => ?_
  refine h3_step (i := 2) (by decide) (by decide) (by decide) fun a2 D2 => ?_
  refine h3_step (i := 3) (by decide) (by decide) (by decide) fun a3 D3 => ?_
  refine h3_step (i := 4) (by decide) (by decide) (by decide) fun a4 D4 => ?_
  refine h3_step (i := 5) (by decide) (by decide) (by decide) fun a5 D5 => ?_
  refine h3_step (i := 6) (by decide) (by decide) (by decide) fun a6 D6 => ?_
  refine h3_step (i := 7) (by decide) (by decide) (by decide) fun a7 D7 => ?_
  refine z_iload (i := 0) dX3_init_15 rfl ?_
  refine z_aload (i := 1) dX3_init_16 rfl ?_
  refine z_get dX3_init_17 fw_X3_11 (i0 := 0) (v := .ref r) rfl rfl ?_
  refine z_alenQ (i0 := 1) (v := nI 8) dX3_init_20 rfl rfl ?_
  refine z_ge (tgt := 43) dX3_init_21 (by decide) (fun _ => ?_) fun h => absurd (nI_le (Nat.le_refl 8) (by decide)) h
  rw [h3_ring]
  refine z_ret (ad := adL [h0, r, a0 0, a0 1, a0 2, a1 0, a1 1, a1 2, a2 0, a2 1, a2 2, a3 0, a3 1, a3 2, a4 0, a4 1, a4 2, a5 0, a5 1, a5 2, a6 0, a6 1, a6 2, a7 0, a7 1, a7 2]) (D1 := dL [fun _ => 0, fun _ => 0, D0 0, D0 1, D0 2, D1 0, D1 1, D1 2, D2 0, D2 1, D2 2, D3 0, D3 1, D3 2, D4 0, D4 1, D4 2, D5 0, D5 1, D5 2, D6 0, D6 1, D6 2, D7 0, D7 1, D7 2]) dX3_init_43 rfl rfl ⟨rfl, rfl⟩ ?_ (by decide) (by decide)
  exact h3_world
