/-! the desk from its constructor -/
abbrev lyX10 : List am_L := [.inl (9, [some 1, some 4, some 7, some 33, some 35, some 37, some 39, some 42, some 45, some 49]), .inl (0, [none, none, some 2, some 3]), .inr (.inl (false, 10)), .inr (.inl (false, 100)), .inl (0, [none, none, some 5, some 6]), .inr (.inl (false, 10)), .inr (.inl (false, 100)), .inl (3, [some 8, none, none]), .inr (.inr [9, 12, 15, 18, 21, 24, 27, 30]), .inl (0, [none, none, some 10, some 11]), .inr (.inl (false, 10)), .inr (.inl (false, 100)), .inl (0, [none, none, some 13, some 14]), .inr (.inl (false, 10)), .inr (.inl (false, 100)), .inl (0, [none, none, some 16, some 17]), .inr (.inl (false, 10)), .inr (.inl (false, 100)), .inl (0, [none, none, some 19, some 20]), .inr (.inl (false, 10)), .inr (.inl (false, 100)), .inl (0, [none, none, some 22, some 23]), .inr (.inl (false, 10)), .inr (.inl (false, 100)), .inl (0, [none, none, some 25, some 26]), .inr (.inl (false, 10)), .inr (.inl (false, 100)), .inl (0, [none, none, some 28, some 29]), .inr (.inl (false, 10)), .inr (.inl (false, 100)), .inl (0, [none, none, some 31, some 32]), .inr (.inl (false, 10)), .inr (.inl (false, 100)), .inl (8, [some 34, none]), .inr (.inl (false, 10)), .inl (7, [some 36, none]), .inr (.inl (true, 120)), .inl (1, [some 38]), .inr (.inl (false, 10)), .inl (6, [some 40, some 41]), .inr (.inl (false, 10)), .inr (.inl (false, 10240)), .inl (2, [some 43, some 44]), .inr (.inl (false, 10)), .inr (.inl (false, 1024)), .inl (5, [some 46, some 47, some 48, none]), .inr (.inl (false, 1024)), .inr (.inl (false, 320)), .inr (.inl (false, 320)), .inl (4, [some 50]), .inr (.inl (false, 10))]
abbrev T0 : am_T := (4, bg0 4, fun _ _ => 1)
theorem desk_world {G : va_G} {cs : am_cs} {h0 : Nat} {a0 a1 a2 a3 a4 a5 a6 a7 a8 a9 : Nat → Nat} {D0 D1 D2 D3 D4 D5 D6 D7 D8 D9 : am_D} : ((h0, .inr (9, [.ref (a0 0), .ref (a1 0), .ref (a2 0), .ref (a3 0), .ref (a4 0), .ref (a5 0), .ref (a6 0), .ref (a7 0), .ref (a8 0), .ref (a9 0)])) :: (((((((((([] ++ am_W (G, cs, a0) lyX0 D0) ++ am_W (G, cs, a1) lyX0 D1) ++ am_W (G, cs, a2) lyX3 D2) ++ am_W (G, cs, a3) lyX8 D3) ++ am_W (G, cs, a4) lyX7 D4) ++ am_W (G, cs, a5) lyX1 D5) ++ am_W (G, cs, a6) lyX6 D6) ++ am_W (G, cs, a7) lyX2 D7) ++ am_W (G, cs, a8) lyX5 D8) ++ am_W (G, cs, a9) lyX4 D9)) = am_W (G, cs, adL [h0, a0 0, a0 1, a0 2, a1 0, a1 1, a1 2, a2 0, a2 1, a2 2, a2 3, a2 4, a2 5, a2 6, a2 7, a2 8, a2 9, a2 10, a2 11, a2 12, a2 13, a2 14, a2 15, a2 16, a2 17, a2 18, a2 19, a2 20, a2 21, a2 22, a2 23, a2 24, a2 25, a3 0, a3 1, a4 0, a4 1, a5 0, a5 1, a6 0, a6 1, a6 2, a7 0, a7 1, a7 2, a8 0, a8 1, a8 2, a8 3, a9 0, a9 1]) lyX10 (dL [fun _ => 0, D0 0, D0 1, D0 2, D1 0, D1 1, D1 2, D2 0, D2 1, D2 2, D2 3, D2 4, D2 5, D2 6, D2 7, D2 8, D2 9, D2 10, D2 11, D2 12, D2 13, D2 14, D2 15, D2 16, D2 17, D2 18, D2 19, D2 20, D2 21, D2 22, D2 23, D2 24, D2 25, D3 0, D3 1, D4 0, D4 1, D5 0, D5 1, D6 0, D6 1, D6 2, D7 0, D7 1, D7 2, D8 0, D8 1, D8 2, D8 3, D9 0, D9 1]) := by
  simp only [am_W_eq]
  rfl
theorem con_X10 : am_Con 4 mX10_init 9 [.null, .null, .null, .null, .null, .null, .null, .null, .null, .null] lyX10 (fun D1 => RD D1 0 1 (T0, T0, [], [], [])) 50 14263 := by
  refine z_enter (by decide +kernel) rfl (by decide) fun l G cs h0 sz => ?_
  refine z_aload (i := 0) dX10_init_0 rfl ?_
  refine z_obj dX10_init_1 (am_mem 74 (by decide +kernel) rfl) (am_mem 75 (by decide +kernel) rfl) (am_mem 76 (by decide +kernel) rfl) (by decide) ?_
  refine z_w ((h0, .inr (9, [.null, .null, .null, .null, .null, .null, .null, .null, .null, .null])) :: []) rfl ?_
  refine z_aload (i := 0) dX10_init_4 rfl ?_
  refine z_new (ci := 0) (fs := [.int 0, .int 0, .null, .null]) tyX0 dX10_init_5 rfl fg_X0 tyX0_ok (am_mem 77 (by decide +kernel) rfl) (am_mem 78 (by decide +kernel) rfl) (am_mem 55 (by decide +kernel) rfl) (by decide +kernel) (by decide) (by decide) fun b => ?_
  refine z_dup dX10_init_8 ?_
  refine z_con dX10_init_9 cw_X0_init (am_mem 79 (by decide +kernel) rfl) (am_mem 80 (by decide +kernel) rfl) rfl rfl con_X0 (by decide) (by decide) (by decide) (Nat.le_of_ble_eq_true rfl) fun a0 D0 ha hP0 => ?_
  subst ha
  refine z_putF tyX10 dX10_init_12 fw_X10_10 tyX10_ok nmX10 (i0 := 0) rfl rfl rfl rfl rfl rfl (Nat.le_of_ble_eq_true rfl) ?_
  refine z_w ((h0, .inr (9, [.ref (a0 0), .null, .null, .null, .null, .null, .null, .null, .null, .null])) :: ([] ++ am_W (G, cs, a0) lyX0 D0)) rfl ?_
  refine z_aload (i := 0) dX10_init_15 rfl ?_
  refine z_new (ci := 0) (fs := [.int 0, .int 0, .null, .null]) tyX0 dX10_init_16 rfl fg_X0 tyX0_ok (am_mem 77 (by decide +kernel) rfl) (am_mem 78 (by decide +kernel) rfl) (am_mem 55 (by decide +kernel) rfl) (by decide +kernel) (by decide) (by decide) fun b => ?_
  refine z_dup dX10_init_19 ?_
  refine z_con dX10_init_20 cw_X0_init (am_mem 79 (by decide +kernel) rfl) (am_mem 80 (by decide +kernel) rfl) rfl rfl con_X0 (by decide) (by decide) (by decide) (Nat.le_of_ble_eq_true rfl) fun a1 D1 ha hP1 => ?_
  subst ha
  refine z_putF tyX10 dX10_init_23 fw_X10_16 tyX10_ok nmX10 (i0 := 0) rfl rfl rfl rfl rfl rfl (Nat.le_of_ble_eq_true rfl) ?_
  refine z_w ((h0, .inr (9, [.ref (a0 0), .ref (a1 0), .null, .null, .null, .null, .null, .null, .null, .null])) :: (([] ++ am_W (G, cs, a0) lyX0 D0) ++ am_W (G, cs, a1) lyX0 D1)) rfl ?_
  refine z_aload (i := 0) dX10_init_26 rfl ?_
  refine z_new (ci := 3) (fs := [.null, .int 0, .int 0]) tyX3 dX10_init_27 rfl fg_X3 tyX3_ok (am_mem 107 (by decide +kernel) rfl) (am_mem 108 (by decide +kernel) rfl) (am_mem 57 (by decide +kernel) rfl) (by decide +kernel) (by decide) (by decide) fun b => ?_
  refine z_dup dX10_init_30 ?_
  refine z_con dX10_init_31 cw_X3_init (am_mem 109 (by decide +kernel) rfl) (am_mem 110 (by decide +kernel) rfl) rfl rfl con_X3 (by decide) (by decide) (by decide) (Nat.le_of_ble_eq_true rfl) fun a2 D2 ha hP2 => ?_
  subst ha
  refine z_putF tyX10 dX10_init_34 fw_X10_22 tyX10_ok nmX10 (i0 := 0) rfl rfl rfl rfl rfl rfl (Nat.le_of_ble_eq_true rfl) ?_
  refine z_w ((h0, .inr (9, [.ref (a0 0), .ref (a1 0), .ref (a2 0), .null, .null, .null, .null, .null, .null, .null])) :: ((([] ++ am_W (G, cs, a0) lyX0 D0) ++ am_W (G, cs, a1) lyX0 D1) ++ am_W (G, cs, a2) lyX3 D2)) rfl ?_
  refine z_aload (i := 0) dX10_init_37 rfl ?_
  refine z_new (ci := 8) (fs := [.null, .int 0]) tyX8 dX10_init_38 rfl fg_X8 tyX8_ok (am_mem 126 (by decide +kernel) rfl) (am_mem 127 (by decide +kernel) rfl) (am_mem 58 (by decide +kernel) rfl) (by decide +kernel) (by decide) (by decide) fun b => ?_
  refine z_dup dX10_init_41 ?_
  refine z_conN (host := "TournamentDesk") dX10_init_42 cw_X8_init (am_memN 128 (by decide +kernel) rfl) (am_mem 129 (by decide +kernel) rfl) rfl rfl con_X8 (by decide) (by decide) (by decide) (Nat.le_of_ble_eq_true rfl) fun a3 D3 ha hP3 => ?_
  subst ha
  refine z_putF tyX10 dX10_init_45 fw_X10_29 tyX10_ok nmX10 (i0 := 0) rfl rfl rfl rfl rfl rfl (Nat.le_of_ble_eq_true rfl) ?_
  refine z_w ((h0, .inr (9, [.ref (a0 0), .ref (a1 0), .ref (a2 0), .ref (a3 0), .null, .null, .null, .null, .null, .null])) :: (((([] ++ am_W (G, cs, a0) lyX0 D0) ++ am_W (G, cs, a1) lyX0 D1) ++ am_W (G, cs, a2) lyX3 D2) ++ am_W (G, cs, a3) lyX8 D3)) rfl ?_
  refine z_aload (i := 0) dX10_init_48 rfl ?_
  refine z_new (ci := 7) (fs := [.null, .int 0]) tyX7 dX10_init_49 rfl fg_X7 tyX7_ok (am_mem 139 (by decide +kernel) rfl) (am_mem 140 (by decide +kernel) rfl) (am_mem 59 (by decide +kernel) rfl) (by decide +kernel) (by decide) (by decide) fun b => ?_
  refine z_dup dX10_init_52 ?_
  refine z_conN (host := "TournamentDesk") dX10_init_53 cw_X7_init (am_memN 141 (by decide +kernel) rfl) (am_mem 142 (by decide +kernel) rfl) rfl rfl con_X7 (by decide) (by decide) (by decide) (Nat.le_of_ble_eq_true rfl) fun a4 D4 ha hP4 => ?_
  subst ha
  refine z_putF tyX10 dX10_init_56 fw_X10_36 tyX10_ok nmX10 (i0 := 0) rfl rfl rfl rfl rfl rfl (Nat.le_of_ble_eq_true rfl) ?_
  refine z_w ((h0, .inr (9, [.ref (a0 0), .ref (a1 0), .ref (a2 0), .ref (a3 0), .ref (a4 0), .null, .null, .null, .null, .null])) :: ((((([] ++ am_W (G, cs, a0) lyX0 D0) ++ am_W (G, cs, a1) lyX0 D1) ++ am_W (G, cs, a2) lyX3 D2) ++ am_W (G, cs, a3) lyX8 D3) ++ am_W (G, cs, a4) lyX7 D4)) rfl ?_
  refine z_aload (i := 0) dX10_init_59 rfl ?_
  refine z_new (ci := 1) (fs := [.null]) tyX1 dX10_init_60 rfl fg_X1 tyX1_ok (am_mem 153 (by decide +kernel) rfl) (am_mem 154 (by decide +kernel) rfl) (am_mem 60 (by decide +kernel) rfl) (by decide +kernel) (by decide) (by decide) fun b => ?_
  refine z_dup dX10_init_63 ?_
  refine z_conN (host := "TournamentDesk") dX10_init_64 cw_X1_init (am_memN 155 (by decide +kernel) rfl) (am_mem 156 (by decide +kernel) rfl) rfl rfl con_X1 (by decide) (by decide) (by decide) (Nat.le_of_ble_eq_true rfl) fun a5 D5 ha hP5 => ?_
  subst ha
  refine z_putF tyX10 dX10_init_67 fw_X10_43 tyX10_ok nmX10 (i0 := 0) rfl rfl rfl rfl rfl rfl (Nat.le_of_ble_eq_true rfl) ?_
  refine z_w ((h0, .inr (9, [.ref (a0 0), .ref (a1 0), .ref (a2 0), .ref (a3 0), .ref (a4 0), .ref (a5 0), .null, .null, .null, .null])) :: (((((([] ++ am_W (G, cs, a0) lyX0 D0) ++ am_W (G, cs, a1) lyX0 D1) ++ am_W (G, cs, a2) lyX3 D2) ++ am_W (G, cs, a3) lyX8 D3) ++ am_W (G, cs, a4) lyX7 D4) ++ am_W (G, cs, a5) lyX1 D5)) rfl ?_
  refine z_aload (i := 0) dX10_init_70 rfl ?_
  refine z_new (ci := 6) (fs := [.null, .null]) tyX6 dX10_init_71 rfl fg_X6 tyX6_ok (am_mem 163 (by decide +kernel) rfl) (am_mem 164 (by decide +kernel) rfl) (am_mem 61 (by decide +kernel) rfl) (by decide +kernel) (by decide) (by decide) fun b => ?_
  refine z_dup dX10_init_74 ?_
  refine z_conN (host := "TournamentDesk") dX10_init_75 cw_X6_init (am_memN 165 (by decide +kernel) rfl) (am_mem 166 (by decide +kernel) rfl) rfl rfl con_X6 (by decide) (by decide) (by decide) (Nat.le_of_ble_eq_true rfl) fun a6 D6 ha hP6 => ?_
  subst ha
  refine z_putF tyX10 dX10_init_78 fw_X10_50 tyX10_ok nmX10 (i0 := 0) rfl rfl rfl rfl rfl rfl (Nat.le_of_ble_eq_true rfl) ?_
  refine z_w ((h0, .inr (9, [.ref (a0 0), .ref (a1 0), .ref (a2 0), .ref (a3 0), .ref (a4 0), .ref (a5 0), .ref (a6 0), .null, .null, .null])) :: ((((((([] ++ am_W (G, cs, a0) lyX0 D0) ++ am_W (G, cs, a1) lyX0 D1) ++ am_W (G, cs, a2) lyX3 D2) ++ am_W (G, cs, a3) lyX8 D3) ++ am_W (G, cs, a4) lyX7 D4) ++ am_W (G, cs, a5) lyX1 D5) ++ am_W (G, cs, a6) lyX6 D6)) rfl ?_
  refine z_aload (i := 0) dX10_init_81 rfl ?_
  refine z_new (ci := 2) (fs := [.null, .null]) tyX2 dX10_init_82 rfl fg_X2 tyX2_ok (am_mem 176 (by decide +kernel) rfl) (am_mem 177 (by decide +kernel) rfl) (am_mem 62 (by decide +kernel) rfl) (by decide +kernel) (by decide) (by decide) fun b => ?_
  refine z_dup dX10_init_85 ?_
  refine z_conN (host := "TournamentDesk") dX10_init_86 cw_X2_init (am_memN 178 (by decide +kernel) rfl) (am_mem 179 (by decide +kernel) rfl) rfl rfl con_X2 (by decide) (by decide) (by decide) (Nat.le_of_ble_eq_true rfl) fun a7 D7 ha hP7 => ?_
  subst ha
  refine z_putF tyX10 dX10_init_89 fw_X10_57 tyX10_ok nmX10 (i0 := 0) rfl rfl rfl rfl rfl rfl (Nat.le_of_ble_eq_true rfl) ?_
  refine z_w ((h0, .inr (9, [.ref (a0 0), .ref (a1 0), .ref (a2 0), .ref (a3 0), .ref (a4 0), .ref (a5 0), .ref (a6 0), .ref (a7 0), .null, .null])) :: (((((((([] ++ am_W (G, cs, a0) lyX0 D0) ++ am_W (G, cs, a1) lyX0 D1) ++ am_W (G, cs, a2) lyX3 D2) ++ am_W (G, cs, a3) lyX8 D3) ++ am_W (G, cs, a4) lyX7 D4) ++ am_W (G, cs, a5) lyX1 D5) ++ am_W (G, cs, a6) lyX6 D6) ++ am_W (G, cs, a7) lyX2 D7)) rfl ?_
  refine z_aload (i := 0) dX10_init_92 rfl ?_
  refine z_new (ci := 5) (fs := [.null, .null, .null, .int 0]) tyX5 dX10_init_93 rfl fg_X5 tyX5_ok (am_mem 189 (by decide +kernel) rfl) (am_mem 190 (by decide +kernel) rfl) (am_mem 63 (by decide +kernel) rfl) (by decide +kernel) (by decide) (by decide) fun b => ?_
  refine z_dup dX10_init_96 ?_
  refine z_conN (host := "TournamentDesk") dX10_init_97 cw_X5_init (am_memN 191 (by decide +kernel) rfl) (am_mem 192 (by decide +kernel) rfl) rfl rfl con_X5 (by decide) (by decide) (by decide) (Nat.le_of_ble_eq_true rfl) fun a8 D8 ha hP8 => ?_
  subst ha
  refine z_putF tyX10 dX10_init_100 fw_X10_64 tyX10_ok nmX10 (i0 := 0) rfl rfl rfl rfl rfl rfl (Nat.le_of_ble_eq_true rfl) ?_
  refine z_w ((h0, .inr (9, [.ref (a0 0), .ref (a1 0), .ref (a2 0), .ref (a3 0), .ref (a4 0), .ref (a5 0), .ref (a6 0), .ref (a7 0), .ref (a8 0), .null])) :: ((((((((([] ++ am_W (G, cs, a0) lyX0 D0) ++ am_W (G, cs, a1) lyX0 D1) ++ am_W (G, cs, a2) lyX3 D2) ++ am_W (G, cs, a3) lyX8 D3) ++ am_W (G, cs, a4) lyX7 D4) ++ am_W (G, cs, a5) lyX1 D5) ++ am_W (G, cs, a6) lyX6 D6) ++ am_W (G, cs, a7) lyX2 D7) ++ am_W (G, cs, a8) lyX5 D8)) rfl ?_
  refine z_aload (i := 0) dX10_init_103 rfl ?_
  refine z_new (ci := 4) (fs := [.null]) tyX4 dX10_init_104 rfl fg_X4 tyX4_ok (am_mem 208 (by decide +kernel) rfl) (am_mem 209 (by decide +kernel) rfl) (am_mem 64 (by decide +kernel) rfl) (by decide +kernel) (by decide) (by decide) fun b => ?_
  refine z_dup dX10_init_107 ?_
  refine z_conN (host := "TournamentDesk") dX10_init_108 cw_X4_init (am_memN 210 (by decide +kernel) rfl) (am_mem 211 (by decide +kernel) rfl) rfl rfl con_X4 (by decide) (by decide) (by decide) (Nat.le_of_ble_eq_true rfl) fun a9 D9 ha hP9 => ?_
  subst ha
  refine z_putF tyX10 dX10_init_111 fw_X10_71 tyX10_ok nmX10 (i0 := 0) rfl rfl rfl rfl rfl rfl (Nat.le_of_ble_eq_true rfl) ?_
  refine z_w ((h0, .inr (9, [.ref (a0 0), .ref (a1 0), .ref (a2 0), .ref (a3 0), .ref (a4 0), .ref (a5 0), .ref (a6 0), .ref (a7 0), .ref (a8 0), .ref (a9 0)])) :: (((((((((([] ++ am_W (G, cs, a0) lyX0 D0) ++ am_W (G, cs, a1) lyX0 D1) ++ am_W (G, cs, a2) lyX3 D2) ++ am_W (G, cs, a3) lyX8 D3) ++ am_W (G, cs, a4) lyX7 D4) ++ am_W (G, cs, a5) lyX1 D5) ++ am_W (G, cs, a6) lyX6 D6) ++ am_W (G, cs, a7) lyX2 D7) ++ am_W (G, cs, a8) lyX5 D8) ++ am_W (G, cs, a9) lyX4 D9)) rfl ?_
  refine z_ret (ad := adL [h0, a0 0, a0 1, a0 2, a1 0, a1 1, a1 2, a2 0, a2 1, a2 2, a2 3, a2 4, a2 5, a2 6, a2 7, a2 8, a2 9, a2 10, a2 11, a2 12, a2 13, a2 14, a2 15, a2 16, a2 17, a2 18, a2 19, a2 20, a2 21, a2 22, a2 23, a2 24, a2 25, a3 0, a3 1, a4 0, a4 1, a5 0, a5 1, a6 0, a6 1, a6 2, a7 0, a7 1, a7 2, a8 0, a8 1, a8 2, a8 3, a9 0, a9 1]) (D1 := dL [fun _ => 0, D0 0, D0 1, D0 2, D1 0, D1 1, D1 2, D2 0, D2 1, D2 2, D2 3, D2 4, D2 5, D2 6, D2 7, D2 8, D2 9, D2 10, D2 11, D2 12, D2 13, D2 14, D2 15, D2 16, D2 17, D2 18, D2 19, D2 20, D2 21, D2 22, D2 23, D2 24, D2 25, D3 0, D3 1, D4 0, D4 1, D5 0, D5 1, D6 0, D6 1, D6 2, D7 0, D7 1, D7 2, D8 0, D8 1, D8 2, D8 3, D9 0, D9 1]) dX10_init_114 rfl rfl ?_ desk_world (by decide) (by decide)
  have ho : okT T0 := ok_start (by decide) (by decide)
  subst hP3
  subst hP4
  subst hP5
  subst hP6
  subst hP7
  subst hP8
  subst hP9
  refine ⟨hP0.1, ho, hP1.1, ho, ⟨by decide, fun T h => by simp at h, 0, by decide, hP2.1, hP2.2, fun i T h => by simp at h⟩, ⟨⟨by decide, rfl, fun i x h => by simp at h⟩, fun x h => by simp at h⟩, ⟨⟨by decide, rfl, fun i x h => by simp at h⟩, fun x h => by simp at h⟩, ⟨rfl, fun p hp => ?_⟩, 1, 0, hP0.2, rfl, by decide, by decide, fun h => absurd h (by decide)⟩
  exact ⟨rfl, rfl⟩
