theorem dX0_init_0 : decode cX0_init 0 = .ok (.aload_n 0, 1) := by decide +kernel
theorem dX0_init_1 : decode cX0_init 1 = .ok (.invokespecial 3, 3) := by decide +kernel
theorem dX0_init_4 : decode cX0_init 4 = .ok (.aload_n 0, 1) := by decide +kernel
theorem dX0_init_5 : decode cX0_init 5 = .ok (.bipush 10, 2) := by decide +kernel
theorem dX0_init_7 : decode cX0_init 7 = .ok (.newarray .int, 2) := by decide +kernel
theorem dX0_init_9 : decode cX0_init 9 = .ok (.putfield 9, 3) := by decide +kernel
theorem dX0_init_12 : decode cX0_init 12 = .ok (.aload_n 0, 1) := by decide +kernel
theorem dX0_init_13 : decode cX0_init 13 = .ok (.bipush 100, 2) := by decide +kernel
theorem dX0_init_15 : decode cX0_init 15 = .ok (.newarray .int, 2) := by decide +kernel
theorem dX0_init_17 : decode cX0_init 17 = .ok (.putfield 15, 3) := by decide +kernel
theorem dX0_init_20 : decode cX0_init 20 = .ok (.aload_n 0, 1) := by decide +kernel
theorem dX0_init_21 : decode cX0_init 21 = .ok (.iconst 4, 1) := by decide +kernel
theorem dX0_init_22 : decode cX0_init 22 = .ok (.invokevirtual 18, 3) := by decide +kernel
theorem dX0_init_25 : decode cX0_init 25 = .ok (.return_, 1) := by decide +kernel
theorem dX0_start_0 : decode cX0_start 0 = .ok (.aload_n 0, 1) := by decide +kernel
theorem dX0_start_1 : decode cX0_start 1 = .ok (.dup, 1) := by decide +kernel
theorem dX0_start_2 : decode cX0_start 2 = .ok (.getfield 22, 3) := by decide +kernel
theorem dX0_start_5 : decode cX0_start 5 = .ok (.iconst 1, 1) := by decide +kernel
theorem dX0_start_6 : decode cX0_start 6 = .ok (.iadd, 1) := by decide +kernel
theorem dX0_start_7 : decode cX0_start 7 = .ok (.putfield 22, 3) := by decide +kernel
theorem dX0_start_10 : decode cX0_start 10 = .ok (.aload_n 0, 1) := by decide +kernel
theorem dX0_start_11 : decode cX0_start 11 = .ok (.iconst 2, 1) := by decide +kernel
theorem dX0_start_12 : decode cX0_start 12 = .ok (.iload_n 1, 1) := by decide +kernel
theorem dX0_start_13 : decode cX0_start 13 = .ok (.bipush 10, 2) := by decide +kernel
theorem dX0_start_15 : decode cX0_start 15 = .ok (.invokestatic 26, 3) := by decide +kernel
theorem dX0_start_18 : decode cX0_start 18 = .ok (.invokestatic 32, 3) := by decide +kernel
theorem dX0_start_21 : decode cX0_start 21 = .ok (.putfield 35, 3) := by decide +kernel
theorem dX0_start_24 : decode cX0_start 24 = .ok (.iconst 0, 1) := by decide +kernel
theorem dX0_start_25 : decode cX0_start 25 = .ok (.istore_n 2, 1) := by decide +kernel
theorem dX0_start_26 : decode cX0_start 26 = .ok (.iload_n 2, 1) := by decide +kernel
theorem dX0_start_27 : decode cX0_start 27 = .ok (.aload_n 0, 1) := by decide +kernel
theorem dX0_start_28 : decode cX0_start 28 = .ok (.getfield 9, 3) := by decide +kernel
theorem dX0_start_31 : decode cX0_start 31 = .ok (.arraylength, 1) := by decide +kernel
theorem dX0_start_32 : decode cX0_start 32 = .ok (.if_icmp .ge 37, 3) := by decide +kernel
theorem dX0_start_35 : decode cX0_start 35 = .ok (.aload_n 0, 1) := by decide +kernel
theorem dX0_start_36 : decode cX0_start 36 = .ok (.getfield 9, 3) := by decide +kernel
theorem dX0_start_39 : decode cX0_start 39 = .ok (.iload_n 2, 1) := by decide +kernel
theorem dX0_start_40 : decode cX0_start 40 = .ok (.iload_n 2, 1) := by decide +kernel
theorem dX0_start_41 : decode cX0_start 41 = .ok (.aload_n 0, 1) := by decide +kernel
theorem dX0_start_42 : decode cX0_start 42 = .ok (.getfield 35, 3) := by decide +kernel
theorem dX0_start_45 : decode cX0_start 45 = .ok (.if_icmp .ge 16, 3) := by decide +kernel
theorem dX0_start_48 : decode cX0_start 48 = .ok (.iconst 1, 1) := by decide +kernel
theorem dX0_start_49 : decode cX0_start 49 = .ok (.aload_n 0, 1) := by decide +kernel
theorem dX0_start_50 : decode cX0_start 50 = .ok (.getfield 35, 3) := by decide +kernel
theorem dX0_start_53 : decode cX0_start 53 = .ok (.ishl, 1) := by decide +kernel
theorem dX0_start_54 : decode cX0_start 54 = .ok (.iconst 2, 1) := by decide +kernel
theorem dX0_start_55 : decode cX0_start 55 = .ok (.iload_n 2, 1) := by decide +kernel
theorem dX0_start_56 : decode cX0_start 56 = .ok (.ishl, 1) := by decide +kernel
theorem dX0_start_57 : decode cX0_start 57 = .ok (.isub, 1) := by decide +kernel
theorem dX0_start_58 : decode cX0_start 58 = .ok (.goto 4, 3) := by decide +kernel
theorem dX0_start_61 : decode cX0_start 61 = .ok (.iconst 0, 1) := by decide +kernel
theorem dX0_start_62 : decode cX0_start 62 = .ok (.iastore, 1) := by decide +kernel
theorem dX0_start_63 : decode cX0_start 63 = .ok (.iinc 2 1, 3) := by decide +kernel
theorem dX0_start_66 : decode cX0_start 66 = .ok (.goto (-40), 3) := by decide +kernel
theorem dX0_start_69 : decode cX0_start 69 = .ok (.iconst 0, 1) := by decide +kernel
theorem dX0_start_70 : decode cX0_start 70 = .ok (.istore_n 2, 1) := by decide +kernel
theorem dX0_start_71 : decode cX0_start 71 = .ok (.iload_n 2, 1) := by decide +kernel
theorem dX0_start_72 : decode cX0_start 72 = .ok (.aload_n 0, 1) := by decide +kernel
theorem dX0_start_73 : decode cX0_start 73 = .ok (.getfield 15, 3) := by decide +kernel
theorem dX0_start_76 : decode cX0_start 76 = .ok (.arraylength, 1) := by decide +kernel
theorem dX0_start_77 : decode cX0_start 77 = .ok (.if_icmp .ge 16, 3) := by decide +kernel
theorem dX0_start_80 : decode cX0_start 80 = .ok (.aload_n 0, 1) := by decide +kernel
theorem dX0_start_81 : decode cX0_start 81 = .ok (.getfield 15, 3) := by decide +kernel
theorem dX0_start_84 : decode cX0_start 84 = .ok (.iload_n 2, 1) := by decide +kernel
theorem dX0_start_85 : decode cX0_start 85 = .ok (.iconst 1, 1) := by decide +kernel
theorem dX0_start_86 : decode cX0_start 86 = .ok (.iastore, 1) := by decide +kernel
theorem dX0_start_87 : decode cX0_start 87 = .ok (.iinc 2 1, 3) := by decide +kernel
theorem dX0_start_90 : decode cX0_start 90 = .ok (.goto (-19), 3) := by decide +kernel
theorem dX0_start_93 : decode cX0_start 93 = .ok (.return_, 1) := by decide +kernel
theorem dX0_copyFrom_0 : decode cX0_copyFrom 0 = .ok (.aload_n 0, 1) := by decide +kernel
theorem dX0_copyFrom_1 : decode cX0_copyFrom 1 = .ok (.dup, 1) := by decide +kernel
theorem dX0_copyFrom_2 : decode cX0_copyFrom 2 = .ok (.getfield 22, 3) := by decide +kernel
theorem dX0_copyFrom_5 : decode cX0_copyFrom 5 = .ok (.iconst 1, 1) := by decide +kernel
theorem dX0_copyFrom_6 : decode cX0_copyFrom 6 = .ok (.iadd, 1) := by decide +kernel
theorem dX0_copyFrom_7 : decode cX0_copyFrom 7 = .ok (.putfield 22, 3) := by decide +kernel
theorem dX0_copyFrom_10 : decode cX0_copyFrom 10 = .ok (.aload_n 0, 1) := by decide +kernel
theorem dX0_copyFrom_11 : decode cX0_copyFrom 11 = .ok (.aload_n 1, 1) := by decide +kernel
theorem dX0_copyFrom_12 : decode cX0_copyFrom 12 = .ok (.getfield 35, 3) := by decide +kernel
theorem dX0_copyFrom_15 : decode cX0_copyFrom 15 = .ok (.putfield 35, 3) := by decide +kernel
theorem dX0_copyFrom_18 : decode cX0_copyFrom 18 = .ok (.aload_n 1, 1) := by decide +kernel
theorem dX0_copyFrom_19 : decode cX0_copyFrom 19 = .ok (.getfield 9, 3) := by decide +kernel
theorem dX0_copyFrom_22 : decode cX0_copyFrom 22 = .ok (.iconst 0, 1) := by decide +kernel
theorem dX0_copyFrom_23 : decode cX0_copyFrom 23 = .ok (.aload_n 0, 1) := by decide +kernel
theorem dX0_copyFrom_24 : decode cX0_copyFrom 24 = .ok (.getfield 9, 3) := by decide +kernel
theorem dX0_copyFrom_27 : decode cX0_copyFrom 27 = .ok (.iconst 0, 1) := by decide +kernel
theorem dX0_copyFrom_28 : decode cX0_copyFrom 28 = .ok (.bipush 10, 2) := by decide +kernel
theorem dX0_copyFrom_30 : decode cX0_copyFrom 30 = .ok (.invokestatic 38, 3) := by decide +kernel
theorem dX0_copyFrom_33 : decode cX0_copyFrom 33 = .ok (.aload_n 1, 1) := by decide +kernel
theorem dX0_copyFrom_34 : decode cX0_copyFrom 34 = .ok (.getfield 15, 3) := by decide +kernel
theorem dX0_copyFrom_37 : decode cX0_copyFrom 37 = .ok (.iconst 0, 1) := by decide +kernel
theorem dX0_copyFrom_38 : decode cX0_copyFrom 38 = .ok (.aload_n 0, 1) := by decide +kernel
theorem dX0_copyFrom_39 : decode cX0_copyFrom 39 = .ok (.getfield 15, 3) := by decide +kernel
theorem dX0_copyFrom_42 : decode cX0_copyFrom 42 = .ok (.iconst 0, 1) := by decide +kernel
theorem dX0_copyFrom_43 : decode cX0_copyFrom 43 = .ok (.bipush 100, 2) := by decide +kernel
theorem dX0_copyFrom_45 : decode cX0_copyFrom 45 = .ok (.invokestatic 38, 3) := by decide +kernel
theorem dX0_copyFrom_48 : decode cX0_copyFrom 48 = .ok (.return_, 1) := by decide +kernel
theorem dX0_size_0 : decode cX0_size 0 = .ok (.aload_n 0, 1) := by decide +kernel
theorem dX0_size_1 : decode cX0_size 1 = .ok (.getfield 35, 3) := by decide +kernel
theorem dX0_size_4 : decode cX0_size 4 = .ok (.ireturn, 1) := by decide +kernel
theorem dX0_stamp_0 : decode cX0_stamp 0 = .ok (.aload_n 0, 1) := by decide +kernel
theorem dX0_stamp_1 : decode cX0_stamp 1 = .ok (.getfield 22, 3) := by decide +kernel
theorem dX0_stamp_4 : decode cX0_stamp 4 = .ok (.ireturn, 1) := by decide +kernel
theorem dX0_everyone_0 : decode cX0_everyone 0 = .ok (.iconst 1, 1) := by decide +kernel
theorem dX0_everyone_1 : decode cX0_everyone 1 = .ok (.aload_n 0, 1) := by decide +kernel
theorem dX0_everyone_2 : decode cX0_everyone 2 = .ok (.getfield 35, 3) := by decide +kernel
theorem dX0_everyone_5 : decode cX0_everyone 5 = .ok (.ishl, 1) := by decide +kernel
theorem dX0_everyone_6 : decode cX0_everyone 6 = .ok (.iconst 1, 1) := by decide +kernel
theorem dX0_everyone_7 : decode cX0_everyone 7 = .ok (.isub, 1) := by decide +kernel
theorem dX0_everyone_8 : decode cX0_everyone 8 = .ok (.ireturn, 1) := by decide +kernel
theorem dX0_has_0 : decode cX0_has 0 = .ok (.iload_n 1, 1) := by decide +kernel
theorem dX0_has_1 : decode cX0_has 1 = .ok (.ifCond .lt 15, 3) := by decide +kernel
theorem dX0_has_4 : decode cX0_has 4 = .ok (.iload_n 1, 1) := by decide +kernel
theorem dX0_has_5 : decode cX0_has 5 = .ok (.aload_n 0, 1) := by decide +kernel
theorem dX0_has_6 : decode cX0_has 6 = .ok (.getfield 35, 3) := by decide +kernel
theorem dX0_has_9 : decode cX0_has 9 = .ok (.if_icmp .ge 7, 3) := by decide +kernel
theorem dX0_has_12 : decode cX0_has 12 = .ok (.iconst 1, 1) := by decide +kernel
theorem dX0_has_13 : decode cX0_has 13 = .ok (.goto 4, 3) := by decide +kernel
theorem dX0_has_16 : decode cX0_has 16 = .ok (.iconst 0, 1) := by decide +kernel
theorem dX0_has_17 : decode cX0_has 17 = .ok (.ireturn, 1) := by decide +kernel
theorem dX0_hasPair_0 : decode cX0_hasPair 0 = .ok (.aload_n 0, 1) := by decide +kernel
theorem dX0_hasPair_1 : decode cX0_hasPair 1 = .ok (.iload_n 1, 1) := by decide +kernel
theorem dX0_hasPair_2 : decode cX0_hasPair 2 = .ok (.invokevirtual 44, 3) := by decide +kernel
theorem dX0_hasPair_5 : decode cX0_hasPair 5 = .ok (.ifCond .eq 20, 3) := by decide +kernel
theorem dX0_hasPair_8 : decode cX0_hasPair 8 = .ok (.aload_n 0, 1) := by decide +kernel
theorem dX0_hasPair_9 : decode cX0_hasPair 9 = .ok (.iload_n 2, 1) := by decide +kernel
theorem dX0_hasPair_10 : decode cX0_hasPair 10 = .ok (.invokevirtual 44, 3) := by decide +kernel
theorem dX0_hasPair_13 : decode cX0_hasPair 13 = .ok (.ifCond .eq 12, 3) := by decide +kernel
theorem dX0_hasPair_16 : decode cX0_hasPair 16 = .ok (.iload_n 1, 1) := by decide +kernel
theorem dX0_hasPair_17 : decode cX0_hasPair 17 = .ok (.iload_n 2, 1) := by decide +kernel
theorem dX0_hasPair_18 : decode cX0_hasPair 18 = .ok (.if_icmp .eq 7, 3) := by decide +kernel
theorem dX0_hasPair_21 : decode cX0_hasPair 21 = .ok (.iconst 1, 1) := by decide +kernel
theorem dX0_hasPair_22 : decode cX0_hasPair 22 = .ok (.goto 4, 3) := by decide +kernel
theorem dX0_hasPair_25 : decode cX0_hasPair 25 = .ok (.iconst 0, 1) := by decide +kernel
theorem dX0_hasPair_26 : decode cX0_hasPair 26 = .ok (.ireturn, 1) := by decide +kernel
theorem dX0_beatenBy_0 : decode cX0_beatenBy 0 = .ok (.iload_n 1, 1) := by decide +kernel
theorem dX0_beatenBy_1 : decode cX0_beatenBy 1 = .ok (.ifCond .lt 21, 3) := by decide +kernel
theorem dX0_beatenBy_4 : decode cX0_beatenBy 4 = .ok (.iload_n 1, 1) := by decide +kernel
theorem dX0_beatenBy_5 : decode cX0_beatenBy 5 = .ok (.aload_n 0, 1) := by decide +kernel
theorem dX0_beatenBy_6 : decode cX0_beatenBy 6 = .ok (.getfield 9, 3) := by decide +kernel
theorem dX0_beatenBy_9 : decode cX0_beatenBy 9 = .ok (.arraylength, 1) := by decide +kernel
theorem dX0_beatenBy_10 : decode cX0_beatenBy 10 = .ok (.if_icmp .ge 12, 3) := by decide +kernel
theorem dX0_beatenBy_13 : decode cX0_beatenBy 13 = .ok (.aload_n 0, 1) := by decide +kernel
theorem dX0_beatenBy_14 : decode cX0_beatenBy 14 = .ok (.getfield 9, 3) := by decide +kernel
theorem dX0_beatenBy_17 : decode cX0_beatenBy 17 = .ok (.iload_n 1, 1) := by decide +kernel
theorem dX0_beatenBy_18 : decode cX0_beatenBy 18 = .ok (.iaload, 1) := by decide +kernel
theorem dX0_beatenBy_19 : decode cX0_beatenBy 19 = .ok (.goto 4, 3) := by decide +kernel
theorem dX0_beatenBy_22 : decode cX0_beatenBy 22 = .ok (.iconst 0, 1) := by decide +kernel
theorem dX0_beatenBy_23 : decode cX0_beatenBy 23 = .ok (.ireturn, 1) := by decide +kernel
theorem dX0_beatersOf_0 : decode cX0_beatersOf 0 = .ok (.aload_n 0, 1) := by decide +kernel
theorem dX0_beatersOf_1 : decode cX0_beatersOf 1 = .ok (.invokevirtual 48, 3) := by decide +kernel
theorem dX0_beatersOf_4 : decode cX0_beatersOf 4 = .ok (.aload_n 0, 1) := by decide +kernel
theorem dX0_beatersOf_5 : decode cX0_beatersOf 5 = .ok (.iload_n 1, 1) := by decide +kernel
theorem dX0_beatersOf_6 : decode cX0_beatersOf 6 = .ok (.invokevirtual 52, 3) := by decide +kernel
theorem dX0_beatersOf_9 : decode cX0_beatersOf 9 = .ok (.iconst (-1), 1) := by decide +kernel
theorem dX0_beatersOf_10 : decode cX0_beatersOf 10 = .ok (.ixor, 1) := by decide +kernel
theorem dX0_beatersOf_11 : decode cX0_beatersOf 11 = .ok (.iand, 1) := by decide +kernel
theorem dX0_beatersOf_12 : decode cX0_beatersOf 12 = .ok (.iload_n 1, 1) := by decide +kernel
theorem dX0_beatersOf_13 : decode cX0_beatersOf 13 = .ok (.invokestatic 56, 3) := by decide +kernel
theorem dX0_beatersOf_16 : decode cX0_beatersOf 16 = .ok (.iconst (-1), 1) := by decide +kernel
theorem dX0_beatersOf_17 : decode cX0_beatersOf 17 = .ok (.ixor, 1) := by decide +kernel
theorem dX0_beatersOf_18 : decode cX0_beatersOf 18 = .ok (.iand, 1) := by decide +kernel
theorem dX0_beatersOf_19 : decode cX0_beatersOf 19 = .ok (.ireturn, 1) := by decide +kernel
theorem dX0_wins_0 : decode cX0_wins 0 = .ok (.aload_n 0, 1) := by decide +kernel
theorem dX0_wins_1 : decode cX0_wins 1 = .ok (.iload_n 1, 1) := by decide +kernel
theorem dX0_wins_2 : decode cX0_wins 2 = .ok (.invokevirtual 52, 3) := by decide +kernel
theorem dX0_wins_5 : decode cX0_wins 5 = .ok (.iload_n 2, 1) := by decide +kernel
theorem dX0_wins_6 : decode cX0_wins 6 = .ok (.invokestatic 59, 3) := by decide +kernel
theorem dX0_wins_9 : decode cX0_wins 9 = .ok (.ireturn, 1) := by decide +kernel
theorem dX0_winsOf_0 : decode cX0_winsOf 0 = .ok (.aload_n 0, 1) := by decide +kernel
theorem dX0_winsOf_1 : decode cX0_winsOf 1 = .ok (.iload_n 1, 1) := by decide +kernel
theorem dX0_winsOf_2 : decode cX0_winsOf 2 = .ok (.invokevirtual 52, 3) := by decide +kernel
theorem dX0_winsOf_5 : decode cX0_winsOf 5 = .ok (.invokestatic 63, 3) := by decide +kernel
theorem dX0_winsOf_8 : decode cX0_winsOf 8 = .ok (.ireturn, 1) := by decide +kernel
theorem dX0_winsAtPlace_0 : decode cX0_winsAtPlace 0 = .ok (.iconst 0, 1) := by decide +kernel
theorem dX0_winsAtPlace_1 : decode cX0_winsAtPlace 1 = .ok (.istore_n 2, 1) := by decide +kernel
theorem dX0_winsAtPlace_2 : decode cX0_winsAtPlace 2 = .ok (.iconst 0, 1) := by decide +kernel
theorem dX0_winsAtPlace_3 : decode cX0_winsAtPlace 3 = .ok (.istore_n 3, 1) := by decide +kernel
theorem dX0_winsAtPlace_4 : decode cX0_winsAtPlace 4 = .ok (.iload_n 3, 1) := by decide +kernel
theorem dX0_winsAtPlace_5 : decode cX0_winsAtPlace 5 = .ok (.aload_n 0, 1) := by decide +kernel
theorem dX0_winsAtPlace_6 : decode cX0_winsAtPlace 6 = .ok (.getfield 35, 3) := by decide +kernel
theorem dX0_winsAtPlace_9 : decode cX0_winsAtPlace 9 = .ok (.if_icmp .ge 52, 3) := by decide +kernel
theorem dX0_winsAtPlace_12 : decode cX0_winsAtPlace 12 = .ok (.iconst 0, 1) := by decide +kernel
theorem dX0_winsAtPlace_13 : decode cX0_winsAtPlace 13 = .ok (.istore 4, 2) := by decide +kernel
theorem dX0_winsAtPlace_15 : decode cX0_winsAtPlace 15 = .ok (.iload 4, 2) := by decide +kernel
theorem dX0_winsAtPlace_17 : decode cX0_winsAtPlace 17 = .ok (.aload_n 0, 1) := by decide +kernel
theorem dX0_winsAtPlace_18 : decode cX0_winsAtPlace 18 = .ok (.getfield 35, 3) := by decide +kernel
theorem dX0_winsAtPlace_21 : decode cX0_winsAtPlace 21 = .ok (.if_icmp .ge 27, 3) := by decide +kernel
theorem dX0_winsAtPlace_24 : decode cX0_winsAtPlace 24 = .ok (.iload_n 2, 1) := by decide +kernel
theorem dX0_winsAtPlace_25 : decode cX0_winsAtPlace 25 = .ok (.aload_n 0, 1) := by decide +kernel
theorem dX0_winsAtPlace_26 : decode cX0_winsAtPlace 26 = .ok (.iload 4, 2) := by decide +kernel
theorem dX0_winsAtPlace_28 : decode cX0_winsAtPlace 28 = .ok (.invokevirtual 68, 3) := by decide +kernel
theorem dX0_winsAtPlace_31 : decode cX0_winsAtPlace 31 = .ok (.iload_n 3, 1) := by decide +kernel
theorem dX0_winsAtPlace_32 : decode cX0_winsAtPlace 32 = .ok (.if_icmp .ne 7, 3) := by decide +kernel
theorem dX0_winsAtPlace_35 : decode cX0_winsAtPlace 35 = .ok (.iconst 1, 1) := by decide +kernel
theorem dX0_winsAtPlace_36 : decode cX0_winsAtPlace 36 = .ok (.goto 4, 3) := by decide +kernel
theorem dX0_winsAtPlace_39 : decode cX0_winsAtPlace 39 = .ok (.iconst 0, 1) := by decide +kernel
theorem dX0_winsAtPlace_40 : decode cX0_winsAtPlace 40 = .ok (.iadd, 1) := by decide +kernel
theorem dX0_winsAtPlace_41 : decode cX0_winsAtPlace 41 = .ok (.istore_n 2, 1) := by decide +kernel
theorem dX0_winsAtPlace_42 : decode cX0_winsAtPlace 42 = .ok (.iinc 4 1, 3) := by decide +kernel
theorem dX0_winsAtPlace_45 : decode cX0_winsAtPlace 45 = .ok (.goto (-30), 3) := by decide +kernel
theorem dX0_winsAtPlace_48 : decode cX0_winsAtPlace 48 = .ok (.iload_n 2, 1) := by decide +kernel
theorem dX0_winsAtPlace_49 : decode cX0_winsAtPlace 49 = .ok (.iload_n 1, 1) := by decide +kernel
theorem dX0_winsAtPlace_50 : decode cX0_winsAtPlace 50 = .ok (.if_icmp .le 5, 3) := by decide +kernel
theorem dX0_winsAtPlace_53 : decode cX0_winsAtPlace 53 = .ok (.iload_n 3, 1) := by decide +kernel
theorem dX0_winsAtPlace_54 : decode cX0_winsAtPlace 54 = .ok (.ireturn, 1) := by decide +kernel
theorem dX0_winsAtPlace_55 : decode cX0_winsAtPlace 55 = .ok (.iinc 3 1, 3) := by decide +kernel
theorem dX0_winsAtPlace_58 : decode cX0_winsAtPlace 58 = .ok (.goto (-54), 3) := by decide +kernel
theorem dX0_winsAtPlace_61 : decode cX0_winsAtPlace 61 = .ok (.iconst 0, 1) := by decide +kernel
theorem dX0_winsAtPlace_62 : decode cX0_winsAtPlace 62 = .ok (.ireturn, 1) := by decide +kernel
theorem dX0_turn_0 : decode cX0_turn 0 = .ok (.aload_n 0, 1) := by decide +kernel
theorem dX0_turn_1 : decode cX0_turn 1 = .ok (.iload_n 1, 1) := by decide +kernel
theorem dX0_turn_2 : decode cX0_turn 2 = .ok (.iload_n 2, 1) := by decide +kernel
theorem dX0_turn_3 : decode cX0_turn 3 = .ok (.invokevirtual 71, 3) := by decide +kernel
theorem dX0_turn_6 : decode cX0_turn 6 = .ok (.ifCond .eq 21, 3) := by decide +kernel
theorem dX0_turn_9 : decode cX0_turn 9 = .ok (.iload_n 1, 1) := by decide +kernel
theorem dX0_turn_10 : decode cX0_turn 10 = .ok (.aload_n 0, 1) := by decide +kernel
theorem dX0_turn_11 : decode cX0_turn 11 = .ok (.getfield 9, 3) := by decide +kernel
theorem dX0_turn_14 : decode cX0_turn 14 = .ok (.arraylength, 1) := by decide +kernel
theorem dX0_turn_15 : decode cX0_turn 15 = .ok (.if_icmp .ge 12, 3) := by decide +kernel
theorem dX0_turn_18 : decode cX0_turn 18 = .ok (.iload_n 2, 1) := by decide +kernel
theorem dX0_turn_19 : decode cX0_turn 19 = .ok (.aload_n 0, 1) := by decide +kernel
theorem dX0_turn_20 : decode cX0_turn 20 = .ok (.getfield 9, 3) := by decide +kernel
theorem dX0_turn_23 : decode cX0_turn 23 = .ok (.arraylength, 1) := by decide +kernel
theorem dX0_turn_24 : decode cX0_turn 24 = .ok (.if_icmp .lt 4, 3) := by decide +kernel
theorem dX0_turn_27 : decode cX0_turn 27 = .ok (.return_, 1) := by decide +kernel
theorem dX0_turn_28 : decode cX0_turn 28 = .ok (.aload_n 0, 1) := by decide +kernel
theorem dX0_turn_29 : decode cX0_turn 29 = .ok (.dup, 1) := by decide +kernel
theorem dX0_turn_30 : decode cX0_turn 30 = .ok (.getfield 22, 3) := by decide +kernel
theorem dX0_turn_33 : decode cX0_turn 33 = .ok (.iconst 1, 1) := by decide +kernel
theorem dX0_turn_34 : decode cX0_turn 34 = .ok (.iadd, 1) := by decide +kernel
theorem dX0_turn_35 : decode cX0_turn 35 = .ok (.putfield 22, 3) := by decide +kernel
theorem dX0_turn_38 : decode cX0_turn 38 = .ok (.aload_n 0, 1) := by decide +kernel
theorem dX0_turn_39 : decode cX0_turn 39 = .ok (.getfield 9, 3) := by decide +kernel
theorem dX0_turn_42 : decode cX0_turn 42 = .ok (.iload_n 1, 1) := by decide +kernel
theorem dX0_turn_43 : decode cX0_turn 43 = .ok (.dup2, 1) := by decide +kernel
theorem dX0_turn_44 : decode cX0_turn 44 = .ok (.iaload, 1) := by decide +kernel
theorem dX0_turn_45 : decode cX0_turn 45 = .ok (.iload_n 2, 1) := by decide +kernel
theorem dX0_turn_46 : decode cX0_turn 46 = .ok (.invokestatic 56, 3) := by decide +kernel
theorem dX0_turn_49 : decode cX0_turn 49 = .ok (.ixor, 1) := by decide +kernel
theorem dX0_turn_50 : decode cX0_turn 50 = .ok (.iastore, 1) := by decide +kernel
theorem dX0_turn_51 : decode cX0_turn 51 = .ok (.aload_n 0, 1) := by decide +kernel
theorem dX0_turn_52 : decode cX0_turn 52 = .ok (.getfield 9, 3) := by decide +kernel
theorem dX0_turn_55 : decode cX0_turn 55 = .ok (.iload_n 2, 1) := by decide +kernel
theorem dX0_turn_56 : decode cX0_turn 56 = .ok (.dup2, 1) := by decide +kernel
theorem dX0_turn_57 : decode cX0_turn 57 = .ok (.iaload, 1) := by decide +kernel
theorem dX0_turn_58 : decode cX0_turn 58 = .ok (.iload_n 1, 1) := by decide +kernel
theorem dX0_turn_59 : decode cX0_turn 59 = .ok (.invokestatic 56, 3) := by decide +kernel
theorem dX0_turn_62 : decode cX0_turn 62 = .ok (.ixor, 1) := by decide +kernel
theorem dX0_turn_63 : decode cX0_turn 63 = .ok (.iastore, 1) := by decide +kernel
theorem dX0_turn_64 : decode cX0_turn 64 = .ok (.return_, 1) := by decide +kernel
theorem dX0_setWinner_0 : decode cX0_setWinner 0 = .ok (.aload_n 0, 1) := by decide +kernel
theorem dX0_setWinner_1 : decode cX0_setWinner 1 = .ok (.iload_n 1, 1) := by decide +kernel
theorem dX0_setWinner_2 : decode cX0_setWinner 2 = .ok (.iload_n 2, 1) := by decide +kernel
theorem dX0_setWinner_3 : decode cX0_setWinner 3 = .ok (.invokevirtual 74, 3) := by decide +kernel
theorem dX0_setWinner_6 : decode cX0_setWinner 6 = .ok (.ifCond .ne 9, 3) := by decide +kernel
theorem dX0_setWinner_9 : decode cX0_setWinner 9 = .ok (.aload_n 0, 1) := by decide +kernel
theorem dX0_setWinner_10 : decode cX0_setWinner 10 = .ok (.iload_n 1, 1) := by decide +kernel
theorem dX0_setWinner_11 : decode cX0_setWinner 11 = .ok (.iload_n 2, 1) := by decide +kernel
theorem dX0_setWinner_12 : decode cX0_setWinner 12 = .ok (.invokevirtual 77, 3) := by decide +kernel
theorem dX0_setWinner_15 : decode cX0_setWinner 15 = .ok (.return_, 1) := by decide +kernel
theorem dX0_weightOf_0 : decode cX0_weightOf 0 = .ok (.iload_n 1, 1) := by decide +kernel
theorem dX0_weightOf_1 : decode cX0_weightOf 1 = .ok (.bipush 10, 2) := by decide +kernel
theorem dX0_weightOf_3 : decode cX0_weightOf 3 = .ok (.imul, 1) := by decide +kernel
theorem dX0_weightOf_4 : decode cX0_weightOf 4 = .ok (.iload_n 2, 1) := by decide +kernel
theorem dX0_weightOf_5 : decode cX0_weightOf 5 = .ok (.iadd, 1) := by decide +kernel
theorem dX0_weightOf_6 : decode cX0_weightOf 6 = .ok (.istore_n 3, 1) := by decide +kernel
theorem dX0_weightOf_7 : decode cX0_weightOf 7 = .ok (.aload_n 0, 1) := by decide +kernel
theorem dX0_weightOf_8 : decode cX0_weightOf 8 = .ok (.iload_n 1, 1) := by decide +kernel
theorem dX0_weightOf_9 : decode cX0_weightOf 9 = .ok (.invokevirtual 44, 3) := by decide +kernel
theorem dX0_weightOf_12 : decode cX0_weightOf 12 = .ok (.ifCond .eq 33, 3) := by decide +kernel
theorem dX0_weightOf_15 : decode cX0_weightOf 15 = .ok (.aload_n 0, 1) := by decide +kernel
theorem dX0_weightOf_16 : decode cX0_weightOf 16 = .ok (.iload_n 2, 1) := by decide +kernel
theorem dX0_weightOf_17 : decode cX0_weightOf 17 = .ok (.invokevirtual 44, 3) := by decide +kernel
theorem dX0_weightOf_20 : decode cX0_weightOf 20 = .ok (.ifCond .eq 25, 3) := by decide +kernel
theorem dX0_weightOf_23 : decode cX0_weightOf 23 = .ok (.iload_n 3, 1) := by decide +kernel
theorem dX0_weightOf_24 : decode cX0_weightOf 24 = .ok (.ifCond .lt 21, 3) := by decide +kernel
theorem dX0_weightOf_27 : decode cX0_weightOf 27 = .ok (.iload_n 3, 1) := by decide +kernel
theorem dX0_weightOf_28 : decode cX0_weightOf 28 = .ok (.aload_n 0, 1) := by decide +kernel
theorem dX0_weightOf_29 : decode cX0_weightOf 29 = .ok (.getfield 15, 3) := by decide +kernel
theorem dX0_weightOf_32 : decode cX0_weightOf 32 = .ok (.arraylength, 1) := by decide +kernel
theorem dX0_weightOf_33 : decode cX0_weightOf 33 = .ok (.if_icmp .ge 12, 3) := by decide +kernel
theorem dX0_weightOf_36 : decode cX0_weightOf 36 = .ok (.aload_n 0, 1) := by decide +kernel
theorem dX0_weightOf_37 : decode cX0_weightOf 37 = .ok (.getfield 15, 3) := by decide +kernel
theorem dX0_weightOf_40 : decode cX0_weightOf 40 = .ok (.iload_n 3, 1) := by decide +kernel
theorem dX0_weightOf_41 : decode cX0_weightOf 41 = .ok (.iaload, 1) := by decide +kernel
theorem dX0_weightOf_42 : decode cX0_weightOf 42 = .ok (.goto 4, 3) := by decide +kernel
theorem dX0_weightOf_45 : decode cX0_weightOf 45 = .ok (.iconst 0, 1) := by decide +kernel
theorem dX0_weightOf_46 : decode cX0_weightOf 46 = .ok (.ireturn, 1) := by decide +kernel
theorem dX0_putWeight_0 : decode cX0_putWeight 0 = .ok (.iload_n 1, 1) := by decide +kernel
theorem dX0_putWeight_1 : decode cX0_putWeight 1 = .ok (.bipush 10, 2) := by decide +kernel
theorem dX0_putWeight_3 : decode cX0_putWeight 3 = .ok (.imul, 1) := by decide +kernel
theorem dX0_putWeight_4 : decode cX0_putWeight 4 = .ok (.iload_n 2, 1) := by decide +kernel
theorem dX0_putWeight_5 : decode cX0_putWeight 5 = .ok (.iadd, 1) := by decide +kernel
theorem dX0_putWeight_6 : decode cX0_putWeight 6 = .ok (.istore 4, 2) := by decide +kernel
theorem dX0_putWeight_8 : decode cX0_putWeight 8 = .ok (.iload_n 2, 1) := by decide +kernel
theorem dX0_putWeight_9 : decode cX0_putWeight 9 = .ok (.bipush 10, 2) := by decide +kernel
theorem dX0_putWeight_11 : decode cX0_putWeight 11 = .ok (.imul, 1) := by decide +kernel
theorem dX0_putWeight_12 : decode cX0_putWeight 12 = .ok (.iload_n 1, 1) := by decide +kernel
theorem dX0_putWeight_13 : decode cX0_putWeight 13 = .ok (.iadd, 1) := by decide +kernel
theorem dX0_putWeight_14 : decode cX0_putWeight 14 = .ok (.istore 5, 2) := by decide +kernel
theorem dX0_putWeight_16 : decode cX0_putWeight 16 = .ok (.aload_n 0, 1) := by decide +kernel
theorem dX0_putWeight_17 : decode cX0_putWeight 17 = .ok (.iload_n 1, 1) := by decide +kernel
theorem dX0_putWeight_18 : decode cX0_putWeight 18 = .ok (.iload_n 2, 1) := by decide +kernel
theorem dX0_putWeight_19 : decode cX0_putWeight 19 = .ok (.invokevirtual 71, 3) := by decide +kernel
theorem dX0_putWeight_22 : decode cX0_putWeight 22 = .ok (.ifCond .eq 28, 3) := by decide +kernel
theorem dX0_putWeight_25 : decode cX0_putWeight 25 = .ok (.iload 4, 2) := by decide +kernel
theorem dX0_putWeight_27 : decode cX0_putWeight 27 = .ok (.iload 5, 2) := by decide +kernel
theorem dX0_putWeight_29 : decode cX0_putWeight 29 = .ok (.invokestatic 26, 3) := by decide +kernel
theorem dX0_putWeight_32 : decode cX0_putWeight 32 = .ok (.ifCond .lt 18, 3) := by decide +kernel
theorem dX0_putWeight_35 : decode cX0_putWeight 35 = .ok (.iload 4, 2) := by decide +kernel
theorem dX0_putWeight_37 : decode cX0_putWeight 37 = .ok (.iload 5, 2) := by decide +kernel
theorem dX0_putWeight_39 : decode cX0_putWeight 39 = .ok (.invokestatic 32, 3) := by decide +kernel
theorem dX0_putWeight_42 : decode cX0_putWeight 42 = .ok (.aload_n 0, 1) := by decide +kernel
theorem dX0_putWeight_43 : decode cX0_putWeight 43 = .ok (.getfield 15, 3) := by decide +kernel
theorem dX0_putWeight_46 : decode cX0_putWeight 46 = .ok (.arraylength, 1) := by decide +kernel
theorem dX0_putWeight_47 : decode cX0_putWeight 47 = .ok (.if_icmp .lt 4, 3) := by decide +kernel
theorem dX0_putWeight_50 : decode cX0_putWeight 50 = .ok (.return_, 1) := by decide +kernel
theorem dX0_putWeight_51 : decode cX0_putWeight 51 = .ok (.aload_n 0, 1) := by decide +kernel
theorem dX0_putWeight_52 : decode cX0_putWeight 52 = .ok (.dup, 1) := by decide +kernel
theorem dX0_putWeight_53 : decode cX0_putWeight 53 = .ok (.getfield 22, 3) := by decide +kernel
theorem dX0_putWeight_56 : decode cX0_putWeight 56 = .ok (.iconst 1, 1) := by decide +kernel
theorem dX0_putWeight_57 : decode cX0_putWeight 57 = .ok (.iadd, 1) := by decide +kernel
theorem dX0_putWeight_58 : decode cX0_putWeight 58 = .ok (.putfield 22, 3) := by decide +kernel
theorem dX0_putWeight_61 : decode cX0_putWeight 61 = .ok (.aload_n 0, 1) := by decide +kernel
theorem dX0_putWeight_62 : decode cX0_putWeight 62 = .ok (.getfield 15, 3) := by decide +kernel
theorem dX0_putWeight_65 : decode cX0_putWeight 65 = .ok (.iload 4, 2) := by decide +kernel
theorem dX0_putWeight_67 : decode cX0_putWeight 67 = .ok (.iload_n 3, 1) := by decide +kernel
theorem dX0_putWeight_68 : decode cX0_putWeight 68 = .ok (.iastore, 1) := by decide +kernel
theorem dX0_putWeight_69 : decode cX0_putWeight 69 = .ok (.aload_n 0, 1) := by decide +kernel
theorem dX0_putWeight_70 : decode cX0_putWeight 70 = .ok (.getfield 15, 3) := by decide +kernel
theorem dX0_putWeight_73 : decode cX0_putWeight 73 = .ok (.iload 5, 2) := by decide +kernel
theorem dX0_putWeight_75 : decode cX0_putWeight 75 = .ok (.iload_n 3, 1) := by decide +kernel
theorem dX0_putWeight_76 : decode cX0_putWeight 76 = .ok (.iastore, 1) := by decide +kernel
theorem dX0_putWeight_77 : decode cX0_putWeight 77 = .ok (.return_, 1) := by decide +kernel
theorem dX0_swap_0 : decode cX0_swap 0 = .ok (.iconst 0, 1) := by decide +kernel
theorem dX0_swap_1 : decode cX0_swap 1 = .ok (.istore_n 3, 1) := by decide +kernel
theorem dX0_swap_2 : decode cX0_swap 2 = .ok (.iload_n 3, 1) := by decide +kernel
theorem dX0_swap_3 : decode cX0_swap 3 = .ok (.aload_n 0, 1) := by decide +kernel
theorem dX0_swap_4 : decode cX0_swap 4 = .ok (.getfield 35, 3) := by decide +kernel
theorem dX0_swap_7 : decode cX0_swap 7 = .ok (.if_icmp .ge 34, 3) := by decide +kernel
theorem dX0_swap_10 : decode cX0_swap 10 = .ok (.aload_n 0, 1) := by decide +kernel
theorem dX0_swap_11 : decode cX0_swap 11 = .ok (.iload_n 1, 1) := by decide +kernel
theorem dX0_swap_12 : decode cX0_swap 12 = .ok (.iload_n 3, 1) := by decide +kernel
theorem dX0_swap_13 : decode cX0_swap 13 = .ok (.invokevirtual 71, 3) := by decide +kernel
theorem dX0_swap_16 : decode cX0_swap 16 = .ok (.ifCond .eq 19, 3) := by decide +kernel
theorem dX0_swap_19 : decode cX0_swap 19 = .ok (.aload_n 0, 1) := by decide +kernel
theorem dX0_swap_20 : decode cX0_swap 20 = .ok (.iload_n 2, 1) := by decide +kernel
theorem dX0_swap_21 : decode cX0_swap 21 = .ok (.iload_n 3, 1) := by decide +kernel
theorem dX0_swap_22 : decode cX0_swap 22 = .ok (.invokevirtual 71, 3) := by decide +kernel
theorem dX0_swap_25 : decode cX0_swap 25 = .ok (.ifCond .eq 10, 3) := by decide +kernel
theorem dX0_swap_28 : decode cX0_swap 28 = .ok (.aload_n 0, 1) := by decide +kernel
theorem dX0_swap_29 : decode cX0_swap 29 = .ok (.iload_n 1, 1) := by decide +kernel
theorem dX0_swap_30 : decode cX0_swap 30 = .ok (.iload_n 2, 1) := by decide +kernel
theorem dX0_swap_31 : decode cX0_swap 31 = .ok (.iload_n 3, 1) := by decide +kernel
theorem dX0_swap_32 : decode cX0_swap 32 = .ok (.invokevirtual 81, 3) := by decide +kernel
theorem dX0_swap_35 : decode cX0_swap 35 = .ok (.iinc 3 1, 3) := by decide +kernel
theorem dX0_swap_38 : decode cX0_swap 38 = .ok (.goto (-36), 3) := by decide +kernel
theorem dX0_swap_41 : decode cX0_swap 41 = .ok (.aload_n 0, 1) := by decide +kernel
theorem dX0_swap_42 : decode cX0_swap 42 = .ok (.iload_n 1, 1) := by decide +kernel
theorem dX0_swap_43 : decode cX0_swap 43 = .ok (.iload_n 2, 1) := by decide +kernel
theorem dX0_swap_44 : decode cX0_swap 44 = .ok (.invokevirtual 77, 3) := by decide +kernel
theorem dX0_swap_47 : decode cX0_swap 47 = .ok (.return_, 1) := by decide +kernel
theorem dX0_swapAgainst_0 : decode cX0_swapAgainst 0 = .ok (.aload_n 0, 1) := by decide +kernel
theorem dX0_swapAgainst_1 : decode cX0_swapAgainst 1 = .ok (.iload_n 1, 1) := by decide +kernel
theorem dX0_swapAgainst_2 : decode cX0_swapAgainst 2 = .ok (.iload_n 3, 1) := by decide +kernel
theorem dX0_swapAgainst_3 : decode cX0_swapAgainst 3 = .ok (.invokevirtual 85, 3) := by decide +kernel
theorem dX0_swapAgainst_6 : decode cX0_swapAgainst 6 = .ok (.istore 4, 2) := by decide +kernel
theorem dX0_swapAgainst_8 : decode cX0_swapAgainst 8 = .ok (.aload_n 0, 1) := by decide +kernel
theorem dX0_swapAgainst_9 : decode cX0_swapAgainst 9 = .ok (.iload_n 1, 1) := by decide +kernel
theorem dX0_swapAgainst_10 : decode cX0_swapAgainst 10 = .ok (.iload_n 3, 1) := by decide +kernel
theorem dX0_swapAgainst_11 : decode cX0_swapAgainst 11 = .ok (.aload_n 0, 1) := by decide +kernel
theorem dX0_swapAgainst_12 : decode cX0_swapAgainst 12 = .ok (.iload_n 2, 1) := by decide +kernel
theorem dX0_swapAgainst_13 : decode cX0_swapAgainst 13 = .ok (.iload_n 3, 1) := by decide +kernel
theorem dX0_swapAgainst_14 : decode cX0_swapAgainst 14 = .ok (.invokevirtual 85, 3) := by decide +kernel
theorem dX0_swapAgainst_17 : decode cX0_swapAgainst 17 = .ok (.invokevirtual 88, 3) := by decide +kernel
theorem dX0_swapAgainst_20 : decode cX0_swapAgainst 20 = .ok (.aload_n 0, 1) := by decide +kernel
theorem dX0_swapAgainst_21 : decode cX0_swapAgainst 21 = .ok (.iload_n 2, 1) := by decide +kernel
theorem dX0_swapAgainst_22 : decode cX0_swapAgainst 22 = .ok (.iload_n 3, 1) := by decide +kernel
theorem dX0_swapAgainst_23 : decode cX0_swapAgainst 23 = .ok (.iload 4, 2) := by decide +kernel
theorem dX0_swapAgainst_25 : decode cX0_swapAgainst 25 = .ok (.invokevirtual 88, 3) := by decide +kernel
theorem dX0_swapAgainst_28 : decode cX0_swapAgainst 28 = .ok (.aload_n 0, 1) := by decide +kernel
theorem dX0_swapAgainst_29 : decode cX0_swapAgainst 29 = .ok (.iload_n 1, 1) := by decide +kernel
theorem dX0_swapAgainst_30 : decode cX0_swapAgainst 30 = .ok (.iload_n 3, 1) := by decide +kernel
theorem dX0_swapAgainst_31 : decode cX0_swapAgainst 31 = .ok (.invokevirtual 74, 3) := by decide +kernel
theorem dX0_swapAgainst_34 : decode cX0_swapAgainst 34 = .ok (.aload_n 0, 1) := by decide +kernel
theorem dX0_swapAgainst_35 : decode cX0_swapAgainst 35 = .ok (.iload_n 2, 1) := by decide +kernel
theorem dX0_swapAgainst_36 : decode cX0_swapAgainst 36 = .ok (.iload_n 3, 1) := by decide +kernel
theorem dX0_swapAgainst_37 : decode cX0_swapAgainst 37 = .ok (.invokevirtual 74, 3) := by decide +kernel
theorem dX0_swapAgainst_40 : decode cX0_swapAgainst 40 = .ok (.if_icmp .eq 15, 3) := by decide +kernel
theorem dX0_swapAgainst_43 : decode cX0_swapAgainst 43 = .ok (.aload_n 0, 1) := by decide +kernel
theorem dX0_swapAgainst_44 : decode cX0_swapAgainst 44 = .ok (.iload_n 1, 1) := by decide +kernel
theorem dX0_swapAgainst_45 : decode cX0_swapAgainst 45 = .ok (.iload_n 3, 1) := by decide +kernel
theorem dX0_swapAgainst_46 : decode cX0_swapAgainst 46 = .ok (.invokevirtual 77, 3) := by decide +kernel
theorem dX0_swapAgainst_49 : decode cX0_swapAgainst 49 = .ok (.aload_n 0, 1) := by decide +kernel
theorem dX0_swapAgainst_50 : decode cX0_swapAgainst 50 = .ok (.iload_n 2, 1) := by decide +kernel
theorem dX0_swapAgainst_51 : decode cX0_swapAgainst 51 = .ok (.iload_n 3, 1) := by decide +kernel
theorem dX0_swapAgainst_52 : decode cX0_swapAgainst 52 = .ok (.invokevirtual 77, 3) := by decide +kernel
theorem dX0_swapAgainst_55 : decode cX0_swapAgainst 55 = .ok (.return_, 1) := by decide +kernel
theorem dX0_isTriangle_0 : decode cX0_isTriangle 0 = .ok (.aload_n 0, 1) := by decide +kernel
theorem dX0_isTriangle_1 : decode cX0_isTriangle 1 = .ok (.iload_n 1, 1) := by decide +kernel
theorem dX0_isTriangle_2 : decode cX0_isTriangle 2 = .ok (.iload_n 2, 1) := by decide +kernel
theorem dX0_isTriangle_3 : decode cX0_isTriangle 3 = .ok (.invokevirtual 74, 3) := by decide +kernel
theorem dX0_isTriangle_6 : decode cX0_isTriangle 6 = .ok (.aload_n 0, 1) := by decide +kernel
theorem dX0_isTriangle_7 : decode cX0_isTriangle 7 = .ok (.iload_n 2, 1) := by decide +kernel
theorem dX0_isTriangle_8 : decode cX0_isTriangle 8 = .ok (.iload_n 3, 1) := by decide +kernel
theorem dX0_isTriangle_9 : decode cX0_isTriangle 9 = .ok (.invokevirtual 74, 3) := by decide +kernel
theorem dX0_isTriangle_12 : decode cX0_isTriangle 12 = .ok (.if_icmp .ne 22, 3) := by decide +kernel
theorem dX0_isTriangle_15 : decode cX0_isTriangle 15 = .ok (.aload_n 0, 1) := by decide +kernel
theorem dX0_isTriangle_16 : decode cX0_isTriangle 16 = .ok (.iload_n 2, 1) := by decide +kernel
theorem dX0_isTriangle_17 : decode cX0_isTriangle 17 = .ok (.iload_n 3, 1) := by decide +kernel
theorem dX0_isTriangle_18 : decode cX0_isTriangle 18 = .ok (.invokevirtual 74, 3) := by decide +kernel
theorem dX0_isTriangle_21 : decode cX0_isTriangle 21 = .ok (.aload_n 0, 1) := by decide +kernel
theorem dX0_isTriangle_22 : decode cX0_isTriangle 22 = .ok (.iload_n 3, 1) := by decide +kernel
theorem dX0_isTriangle_23 : decode cX0_isTriangle 23 = .ok (.iload_n 1, 1) := by decide +kernel
theorem dX0_isTriangle_24 : decode cX0_isTriangle 24 = .ok (.invokevirtual 74, 3) := by decide +kernel
theorem dX0_isTriangle_27 : decode cX0_isTriangle 27 = .ok (.if_icmp .ne 7, 3) := by decide +kernel
theorem dX0_isTriangle_30 : decode cX0_isTriangle 30 = .ok (.iconst 1, 1) := by decide +kernel
theorem dX0_isTriangle_31 : decode cX0_isTriangle 31 = .ok (.goto 4, 3) := by decide +kernel
theorem dX0_isTriangle_34 : decode cX0_isTriangle 34 = .ok (.iconst 0, 1) := by decide +kernel
theorem dX0_isTriangle_35 : decode cX0_isTriangle 35 = .ok (.ireturn, 1) := by decide +kernel
theorem dX0_countTriangles_0 : decode cX0_countTriangles 0 = .ok (.aload_n 0, 1) := by decide +kernel
theorem dX0_countTriangles_1 : decode cX0_countTriangles 1 = .ok (.getfield 35, 3) := by decide +kernel
theorem dX0_countTriangles_4 : decode cX0_countTriangles 4 = .ok (.aload_n 0, 1) := by decide +kernel
theorem dX0_countTriangles_5 : decode cX0_countTriangles 5 = .ok (.getfield 35, 3) := by decide +kernel
theorem dX0_countTriangles_8 : decode cX0_countTriangles 8 = .ok (.iconst 1, 1) := by decide +kernel
theorem dX0_countTriangles_9 : decode cX0_countTriangles 9 = .ok (.isub, 1) := by decide +kernel
theorem dX0_countTriangles_10 : decode cX0_countTriangles 10 = .ok (.imul, 1) := by decide +kernel
theorem dX0_countTriangles_11 : decode cX0_countTriangles 11 = .ok (.aload_n 0, 1) := by decide +kernel
theorem dX0_countTriangles_12 : decode cX0_countTriangles 12 = .ok (.getfield 35, 3) := by decide +kernel
theorem dX0_countTriangles_15 : decode cX0_countTriangles 15 = .ok (.iconst 2, 1) := by decide +kernel
theorem dX0_countTriangles_16 : decode cX0_countTriangles 16 = .ok (.isub, 1) := by decide +kernel
theorem dX0_countTriangles_17 : decode cX0_countTriangles 17 = .ok (.imul, 1) := by decide +kernel
theorem dX0_countTriangles_18 : decode cX0_countTriangles 18 = .ok (.bipush 6, 2) := by decide +kernel
theorem dX0_countTriangles_20 : decode cX0_countTriangles 20 = .ok (.idiv, 1) := by decide +kernel
theorem dX0_countTriangles_21 : decode cX0_countTriangles 21 = .ok (.istore_n 1, 1) := by decide +kernel
theorem dX0_countTriangles_22 : decode cX0_countTriangles 22 = .ok (.iconst 0, 1) := by decide +kernel
theorem dX0_countTriangles_23 : decode cX0_countTriangles 23 = .ok (.istore_n 2, 1) := by decide +kernel
theorem dX0_countTriangles_24 : decode cX0_countTriangles 24 = .ok (.iload_n 2, 1) := by decide +kernel
theorem dX0_countTriangles_25 : decode cX0_countTriangles 25 = .ok (.aload_n 0, 1) := by decide +kernel
theorem dX0_countTriangles_26 : decode cX0_countTriangles 26 = .ok (.getfield 35, 3) := by decide +kernel
theorem dX0_countTriangles_29 : decode cX0_countTriangles 29 = .ok (.if_icmp .ge 27, 3) := by decide +kernel
theorem dX0_countTriangles_32 : decode cX0_countTriangles 32 = .ok (.iload_n 1, 1) := by decide +kernel
theorem dX0_countTriangles_33 : decode cX0_countTriangles 33 = .ok (.aload_n 0, 1) := by decide +kernel
theorem dX0_countTriangles_34 : decode cX0_countTriangles 34 = .ok (.iload_n 2, 1) := by decide +kernel
theorem dX0_countTriangles_35 : decode cX0_countTriangles 35 = .ok (.invokevirtual 68, 3) := by decide +kernel
theorem dX0_countTriangles_38 : decode cX0_countTriangles 38 = .ok (.aload_n 0, 1) := by decide +kernel
theorem dX0_countTriangles_39 : decode cX0_countTriangles 39 = .ok (.iload_n 2, 1) := by decide +kernel
theorem dX0_countTriangles_40 : decode cX0_countTriangles 40 = .ok (.invokevirtual 68, 3) := by decide +kernel
theorem dX0_countTriangles_43 : decode cX0_countTriangles 43 = .ok (.iconst 1, 1) := by decide +kernel
theorem dX0_countTriangles_44 : decode cX0_countTriangles 44 = .ok (.isub, 1) := by decide +kernel
theorem dX0_countTriangles_45 : decode cX0_countTriangles 45 = .ok (.imul, 1) := by decide +kernel
theorem dX0_countTriangles_46 : decode cX0_countTriangles 46 = .ok (.iconst 2, 1) := by decide +kernel
theorem dX0_countTriangles_47 : decode cX0_countTriangles 47 = .ok (.idiv, 1) := by decide +kernel
theorem dX0_countTriangles_48 : decode cX0_countTriangles 48 = .ok (.isub, 1) := by decide +kernel
theorem dX0_countTriangles_49 : decode cX0_countTriangles 49 = .ok (.istore_n 1, 1) := by decide +kernel
theorem dX0_countTriangles_50 : decode cX0_countTriangles 50 = .ok (.iinc 2 1, 3) := by decide +kernel
theorem dX0_countTriangles_53 : decode cX0_countTriangles 53 = .ok (.goto (-29), 3) := by decide +kernel
theorem dX0_countTriangles_56 : decode cX0_countTriangles 56 = .ok (.iload_n 1, 1) := by decide +kernel
theorem dX0_countTriangles_57 : decode cX0_countTriangles 57 = .ok (.ireturn, 1) := by decide +kernel
theorem dX0_costOfBefore_0 : decode cX0_costOfBefore 0 = .ok (.aload_n 0, 1) := by decide +kernel
theorem dX0_costOfBefore_1 : decode cX0_costOfBefore 1 = .ok (.iload_n 2, 1) := by decide +kernel
theorem dX0_costOfBefore_2 : decode cX0_costOfBefore 2 = .ok (.iload_n 1, 1) := by decide +kernel
theorem dX0_costOfBefore_3 : decode cX0_costOfBefore 3 = .ok (.invokevirtual 74, 3) := by decide +kernel
theorem dX0_costOfBefore_6 : decode cX0_costOfBefore 6 = .ok (.ifCond .eq 12, 3) := by decide +kernel
theorem dX0_costOfBefore_9 : decode cX0_costOfBefore 9 = .ok (.aload_n 0, 1) := by decide +kernel
theorem dX0_costOfBefore_10 : decode cX0_costOfBefore 10 = .ok (.iload_n 1, 1) := by decide +kernel
theorem dX0_costOfBefore_11 : decode cX0_costOfBefore 11 = .ok (.iload_n 2, 1) := by decide +kernel
theorem dX0_costOfBefore_12 : decode cX0_costOfBefore 12 = .ok (.invokevirtual 85, 3) := by decide +kernel
theorem dX0_costOfBefore_15 : decode cX0_costOfBefore 15 = .ok (.goto 4, 3) := by decide +kernel
theorem dX0_costOfBefore_18 : decode cX0_costOfBefore 18 = .ok (.iconst 0, 1) := by decide +kernel
theorem dX0_costOfBefore_19 : decode cX0_costOfBefore 19 = .ok (.ireturn, 1) := by decide +kernel
theorem dX1_init_0 : decode cX1_init 0 = .ok (.aload_n 0, 1) := by decide +kernel
theorem dX1_init_1 : decode cX1_init 1 = .ok (.invokespecial 3, 3) := by decide +kernel
theorem dX1_init_4 : decode cX1_init 4 = .ok (.aload_n 0, 1) := by decide +kernel
theorem dX1_init_5 : decode cX1_init 5 = .ok (.bipush 10, 2) := by decide +kernel
theorem dX1_init_7 : decode cX1_init 7 = .ok (.newarray .int, 2) := by decide +kernel
theorem dX1_init_9 : decode cX1_init 9 = .ok (.putfield 9, 3) := by decide +kernel
theorem dX1_init_12 : decode cX1_init 12 = .ok (.return_, 1) := by decide +kernel
theorem dX1_build_0 : decode cX1_build 0 = .ok (.aload_n 2, 1) := by decide +kernel
theorem dX1_build_1 : decode cX1_build 1 = .ok (.aload_n 1, 1) := by decide +kernel
theorem dX1_build_2 : decode cX1_build 2 = .ok (.invokevirtual 15, 3) := by decide +kernel
theorem dX1_build_5 : decode cX1_build 5 = .ok (.invokevirtual 21, 3) := by decide +kernel
theorem dX1_build_8 : decode cX1_build 8 = .ok (.iconst 0, 1) := by decide +kernel
theorem dX1_build_9 : decode cX1_build 9 = .ok (.istore_n 3, 1) := by decide +kernel
theorem dX1_build_10 : decode cX1_build 10 = .ok (.iload_n 3, 1) := by decide +kernel
theorem dX1_build_11 : decode cX1_build 11 = .ok (.aload_n 0, 1) := by decide +kernel
theorem dX1_build_12 : decode cX1_build 12 = .ok (.getfield 9, 3) := by decide +kernel
theorem dX1_build_15 : decode cX1_build 15 = .ok (.arraylength, 1) := by decide +kernel
theorem dX1_build_16 : decode cX1_build 16 = .ok (.if_icmp .ge 20, 3) := by decide +kernel
theorem dX1_build_19 : decode cX1_build 19 = .ok (.aload_n 0, 1) := by decide +kernel
theorem dX1_build_20 : decode cX1_build 20 = .ok (.getfield 9, 3) := by decide +kernel
theorem dX1_build_23 : decode cX1_build 23 = .ok (.iload_n 3, 1) := by decide +kernel
theorem dX1_build_24 : decode cX1_build 24 = .ok (.aload_n 1, 1) := by decide +kernel
theorem dX1_build_25 : decode cX1_build 25 = .ok (.iload_n 3, 1) := by decide +kernel
theorem dX1_build_26 : decode cX1_build 26 = .ok (.invokevirtual 27, 3) := by decide +kernel
theorem dX1_build_29 : decode cX1_build 29 = .ok (.iastore, 1) := by decide +kernel
theorem dX1_build_30 : decode cX1_build 30 = .ok (.iinc 3 1, 3) := by decide +kernel
theorem dX1_build_33 : decode cX1_build 33 = .ok (.goto (-23), 3) := by decide +kernel
theorem dX1_build_36 : decode cX1_build 36 = .ok (.aload_n 2, 1) := by decide +kernel
theorem dX1_build_37 : decode cX1_build 37 = .ok (.invokevirtual 31, 3) := by decide +kernel
theorem dX1_build_40 : decode cX1_build 40 = .ok (.istore_n 3, 1) := by decide +kernel
theorem dX1_build_41 : decode cX1_build 41 = .ok (.iconst 0, 1) := by decide +kernel
theorem dX1_build_42 : decode cX1_build 42 = .ok (.istore 4, 2) := by decide +kernel
theorem dX1_build_44 : decode cX1_build 44 = .ok (.iload 4, 2) := by decide +kernel
theorem dX1_build_46 : decode cX1_build 46 = .ok (.bipush 10, 2) := by decide +kernel
theorem dX1_build_48 : decode cX1_build 48 = .ok (.if_icmp .ge 46, 3) := by decide +kernel
theorem dX1_build_51 : decode cX1_build 51 = .ok (.iload_n 3, 1) := by decide +kernel
theorem dX1_build_52 : decode cX1_build 52 = .ok (.ifCond .eq 42, 3) := by decide +kernel
theorem dX1_build_55 : decode cX1_build 55 = .ok (.aload_n 0, 1) := by decide +kernel
theorem dX1_build_56 : decode cX1_build 56 = .ok (.iload_n 3, 1) := by decide +kernel
theorem dX1_build_57 : decode cX1_build 57 = .ok (.invokevirtual 34, 3) := by decide +kernel
theorem dX1_build_60 : decode cX1_build 60 = .ok (.istore 5, 2) := by decide +kernel
theorem dX1_build_62 : decode cX1_build 62 = .ok (.iload_n 3, 1) := by decide +kernel
theorem dX1_build_63 : decode cX1_build 63 = .ok (.iload 5, 2) := by decide +kernel
theorem dX1_build_65 : decode cX1_build 65 = .ok (.invokestatic 37, 3) := by decide +kernel
theorem dX1_build_68 : decode cX1_build 68 = .ok (.istore_n 3, 1) := by decide +kernel
theorem dX1_build_69 : decode cX1_build 69 = .ok (.aload_n 0, 1) := by decide +kernel
theorem dX1_build_70 : decode cX1_build 70 = .ok (.aload_n 2, 1) := by decide +kernel
theorem dX1_build_71 : decode cX1_build 71 = .ok (.iload 5, 2) := by decide +kernel
theorem dX1_build_73 : decode cX1_build 73 = .ok (.iload_n 3, 1) := by decide +kernel
theorem dX1_build_74 : decode cX1_build 74 = .ok (.aload_n 0, 1) := by decide +kernel
theorem dX1_build_75 : decode cX1_build 75 = .ok (.iload_n 3, 1) := by decide +kernel
theorem dX1_build_76 : decode cX1_build 76 = .ok (.aload_n 0, 1) := by decide +kernel
theorem dX1_build_77 : decode cX1_build 77 = .ok (.iload 5, 2) := by decide +kernel
theorem dX1_build_79 : decode cX1_build 79 = .ok (.invokevirtual 41, 3) := by decide +kernel
theorem dX1_build_82 : decode cX1_build 82 = .ok (.invokevirtual 44, 3) := by decide +kernel
theorem dX1_build_85 : decode cX1_build 85 = .ok (.invokevirtual 47, 3) := by decide +kernel
theorem dX1_build_88 : decode cX1_build 88 = .ok (.iinc 4 1, 3) := by decide +kernel
theorem dX1_build_91 : decode cX1_build 91 = .ok (.goto (-47), 3) := by decide +kernel
theorem dX1_build_94 : decode cX1_build 94 = .ok (.return_, 1) := by decide +kernel
theorem dX1_restOf_0 : decode cX1_restOf 0 = .ok (.iload_n 1, 1) := by decide +kernel
theorem dX1_restOf_1 : decode cX1_restOf 1 = .ok (.ifCond .lt 21, 3) := by decide +kernel
theorem dX1_restOf_4 : decode cX1_restOf 4 = .ok (.iload_n 1, 1) := by decide +kernel
theorem dX1_restOf_5 : decode cX1_restOf 5 = .ok (.aload_n 0, 1) := by decide +kernel
theorem dX1_restOf_6 : decode cX1_restOf 6 = .ok (.getfield 9, 3) := by decide +kernel
theorem dX1_restOf_9 : decode cX1_restOf 9 = .ok (.arraylength, 1) := by decide +kernel
theorem dX1_restOf_10 : decode cX1_restOf 10 = .ok (.if_icmp .ge 12, 3) := by decide +kernel
theorem dX1_restOf_13 : decode cX1_restOf 13 = .ok (.aload_n 0, 1) := by decide +kernel
theorem dX1_restOf_14 : decode cX1_restOf 14 = .ok (.getfield 9, 3) := by decide +kernel
theorem dX1_restOf_17 : decode cX1_restOf 17 = .ok (.iload_n 1, 1) := by decide +kernel
theorem dX1_restOf_18 : decode cX1_restOf 18 = .ok (.iaload, 1) := by decide +kernel
theorem dX1_restOf_19 : decode cX1_restOf 19 = .ok (.goto 4, 3) := by decide +kernel
theorem dX1_restOf_22 : decode cX1_restOf 22 = .ok (.iconst 0, 1) := by decide +kernel
theorem dX1_restOf_23 : decode cX1_restOf 23 = .ok (.ireturn, 1) := by decide +kernel
theorem dX1_greatestOf_0 : decode cX1_greatestOf 0 = .ok (.iload_n 1, 1) := by decide +kernel
theorem dX1_greatestOf_1 : decode cX1_greatestOf 1 = .ok (.invokestatic 51, 3) := by decide +kernel
theorem dX1_greatestOf_4 : decode cX1_greatestOf 4 = .ok (.istore_n 2, 1) := by decide +kernel
theorem dX1_greatestOf_5 : decode cX1_greatestOf 5 = .ok (.iconst 0, 1) := by decide +kernel
theorem dX1_greatestOf_6 : decode cX1_greatestOf 6 = .ok (.istore_n 3, 1) := by decide +kernel
theorem dX1_greatestOf_7 : decode cX1_greatestOf 7 = .ok (.iload_n 3, 1) := by decide +kernel
theorem dX1_greatestOf_8 : decode cX1_greatestOf 8 = .ok (.aload_n 0, 1) := by decide +kernel
theorem dX1_greatestOf_9 : decode cX1_greatestOf 9 = .ok (.getfield 9, 3) := by decide +kernel
theorem dX1_greatestOf_12 : decode cX1_greatestOf 12 = .ok (.arraylength, 1) := by decide +kernel
theorem dX1_greatestOf_13 : decode cX1_greatestOf 13 = .ok (.if_icmp .ge 32, 3) := by decide +kernel
theorem dX1_greatestOf_16 : decode cX1_greatestOf 16 = .ok (.iload_n 1, 1) := by decide +kernel
theorem dX1_greatestOf_17 : decode cX1_greatestOf 17 = .ok (.iload_n 3, 1) := by decide +kernel
theorem dX1_greatestOf_18 : decode cX1_greatestOf 18 = .ok (.invokestatic 54, 3) := by decide +kernel
theorem dX1_greatestOf_21 : decode cX1_greatestOf 21 = .ok (.ifCond .eq 18, 3) := by decide +kernel
theorem dX1_greatestOf_24 : decode cX1_greatestOf 24 = .ok (.aload_n 0, 1) := by decide +kernel
theorem dX1_greatestOf_25 : decode cX1_greatestOf 25 = .ok (.iload_n 3, 1) := by decide +kernel
theorem dX1_greatestOf_26 : decode cX1_greatestOf 26 = .ok (.invokevirtual 41, 3) := by decide +kernel
theorem dX1_greatestOf_29 : decode cX1_greatestOf 29 = .ok (.aload_n 0, 1) := by decide +kernel
theorem dX1_greatestOf_30 : decode cX1_greatestOf 30 = .ok (.iload_n 2, 1) := by decide +kernel
theorem dX1_greatestOf_31 : decode cX1_greatestOf 31 = .ok (.invokevirtual 41, 3) := by decide +kernel
theorem dX1_greatestOf_34 : decode cX1_greatestOf 34 = .ok (.if_icmp .lt 5, 3) := by decide +kernel
theorem dX1_greatestOf_37 : decode cX1_greatestOf 37 = .ok (.iload_n 3, 1) := by decide +kernel
theorem dX1_greatestOf_38 : decode cX1_greatestOf 38 = .ok (.istore_n 2, 1) := by decide +kernel
theorem dX1_greatestOf_39 : decode cX1_greatestOf 39 = .ok (.iinc 3 1, 3) := by decide +kernel
theorem dX1_greatestOf_42 : decode cX1_greatestOf 42 = .ok (.goto (-35), 3) := by decide +kernel
theorem dX1_greatestOf_45 : decode cX1_greatestOf 45 = .ok (.iload_n 2, 1) := by decide +kernel
theorem dX1_greatestOf_46 : decode cX1_greatestOf 46 = .ok (.ireturn, 1) := by decide +kernel
theorem dX1_smallestOf_0 : decode cX1_smallestOf 0 = .ok (.iconst 0, 1) := by decide +kernel
theorem dX1_smallestOf_1 : decode cX1_smallestOf 1 = .ok (.istore_n 3, 1) := by decide +kernel
theorem dX1_smallestOf_2 : decode cX1_smallestOf 2 = .ok (.iconst 0, 1) := by decide +kernel
theorem dX1_smallestOf_3 : decode cX1_smallestOf 3 = .ok (.istore 4, 2) := by decide +kernel
theorem dX1_smallestOf_5 : decode cX1_smallestOf 5 = .ok (.iload 4, 2) := by decide +kernel
theorem dX1_smallestOf_7 : decode cX1_smallestOf 7 = .ok (.iload_n 2, 1) := by decide +kernel
theorem dX1_smallestOf_8 : decode cX1_smallestOf 8 = .ok (.if_icmp .ge 31, 3) := by decide +kernel
theorem dX1_smallestOf_11 : decode cX1_smallestOf 11 = .ok (.iload 4, 2) := by decide +kernel
theorem dX1_smallestOf_13 : decode cX1_smallestOf 13 = .ok (.bipush 10, 2) := by decide +kernel
theorem dX1_smallestOf_15 : decode cX1_smallestOf 15 = .ok (.if_icmp .ge 24, 3) := by decide +kernel
theorem dX1_smallestOf_18 : decode cX1_smallestOf 18 = .ok (.iload_n 3, 1) := by decide +kernel
theorem dX1_smallestOf_19 : decode cX1_smallestOf 19 = .ok (.aload_n 0, 1) := by decide +kernel
theorem dX1_smallestOf_20 : decode cX1_smallestOf 20 = .ok (.iload_n 1, 1) := by decide +kernel
theorem dX1_smallestOf_21 : decode cX1_smallestOf 21 = .ok (.iload_n 3, 1) := by decide +kernel
theorem dX1_smallestOf_22 : decode cX1_smallestOf 22 = .ok (.iconst (-1), 1) := by decide +kernel
theorem dX1_smallestOf_23 : decode cX1_smallestOf 23 = .ok (.ixor, 1) := by decide +kernel
theorem dX1_smallestOf_24 : decode cX1_smallestOf 24 = .ok (.iand, 1) := by decide +kernel
theorem dX1_smallestOf_25 : decode cX1_smallestOf 25 = .ok (.invokevirtual 58, 3) := by decide +kernel
theorem dX1_smallestOf_28 : decode cX1_smallestOf 28 = .ok (.invokestatic 61, 3) := by decide +kernel
theorem dX1_smallestOf_31 : decode cX1_smallestOf 31 = .ok (.ior, 1) := by decide +kernel
theorem dX1_smallestOf_32 : decode cX1_smallestOf 32 = .ok (.istore_n 3, 1) := by decide +kernel
theorem dX1_smallestOf_33 : decode cX1_smallestOf 33 = .ok (.iinc 4 1, 3) := by decide +kernel
theorem dX1_smallestOf_36 : decode cX1_smallestOf 36 = .ok (.goto (-31), 3) := by decide +kernel
theorem dX1_smallestOf_39 : decode cX1_smallestOf 39 = .ok (.iload_n 3, 1) := by decide +kernel
theorem dX1_smallestOf_40 : decode cX1_smallestOf 40 = .ok (.ireturn, 1) := by decide +kernel
theorem dX1_smallestIn_0 : decode cX1_smallestIn 0 = .ok (.iload_n 1, 1) := by decide +kernel
theorem dX1_smallestIn_1 : decode cX1_smallestIn 1 = .ok (.invokestatic 51, 3) := by decide +kernel
theorem dX1_smallestIn_4 : decode cX1_smallestIn 4 = .ok (.istore_n 2, 1) := by decide +kernel
theorem dX1_smallestIn_5 : decode cX1_smallestIn 5 = .ok (.iconst 0, 1) := by decide +kernel
theorem dX1_smallestIn_6 : decode cX1_smallestIn 6 = .ok (.istore_n 3, 1) := by decide +kernel
theorem dX1_smallestIn_7 : decode cX1_smallestIn 7 = .ok (.iload_n 3, 1) := by decide +kernel
theorem dX1_smallestIn_8 : decode cX1_smallestIn 8 = .ok (.aload_n 0, 1) := by decide +kernel
theorem dX1_smallestIn_9 : decode cX1_smallestIn 9 = .ok (.getfield 9, 3) := by decide +kernel
theorem dX1_smallestIn_12 : decode cX1_smallestIn 12 = .ok (.arraylength, 1) := by decide +kernel
theorem dX1_smallestIn_13 : decode cX1_smallestIn 13 = .ok (.if_icmp .ge 32, 3) := by decide +kernel
theorem dX1_smallestIn_16 : decode cX1_smallestIn 16 = .ok (.iload_n 1, 1) := by decide +kernel
theorem dX1_smallestIn_17 : decode cX1_smallestIn 17 = .ok (.iload_n 3, 1) := by decide +kernel
theorem dX1_smallestIn_18 : decode cX1_smallestIn 18 = .ok (.invokestatic 54, 3) := by decide +kernel
theorem dX1_smallestIn_21 : decode cX1_smallestIn 21 = .ok (.ifCond .eq 18, 3) := by decide +kernel
theorem dX1_smallestIn_24 : decode cX1_smallestIn 24 = .ok (.aload_n 0, 1) := by decide +kernel
theorem dX1_smallestIn_25 : decode cX1_smallestIn 25 = .ok (.iload_n 3, 1) := by decide +kernel
theorem dX1_smallestIn_26 : decode cX1_smallestIn 26 = .ok (.invokevirtual 41, 3) := by decide +kernel
theorem dX1_smallestIn_29 : decode cX1_smallestIn 29 = .ok (.aload_n 0, 1) := by decide +kernel
theorem dX1_smallestIn_30 : decode cX1_smallestIn 30 = .ok (.iload_n 2, 1) := by decide +kernel
theorem dX1_smallestIn_31 : decode cX1_smallestIn 31 = .ok (.invokevirtual 41, 3) := by decide +kernel
theorem dX1_smallestIn_34 : decode cX1_smallestIn 34 = .ok (.if_icmp .ge 5, 3) := by decide +kernel
theorem dX1_smallestIn_37 : decode cX1_smallestIn 37 = .ok (.iload_n 3, 1) := by decide +kernel
theorem dX1_smallestIn_38 : decode cX1_smallestIn 38 = .ok (.istore_n 2, 1) := by decide +kernel
theorem dX1_smallestIn_39 : decode cX1_smallestIn 39 = .ok (.iinc 3 1, 3) := by decide +kernel
theorem dX1_smallestIn_42 : decode cX1_smallestIn 42 = .ok (.goto (-35), 3) := by decide +kernel
theorem dX1_smallestIn_45 : decode cX1_smallestIn 45 = .ok (.iload_n 2, 1) := by decide +kernel
theorem dX1_smallestIn_46 : decode cX1_smallestIn 46 = .ok (.ireturn, 1) := by decide +kernel
theorem dX1_settle_0 : decode cX1_settle 0 = .ok (.iconst 0, 1) := by decide +kernel
theorem dX1_settle_1 : decode cX1_settle 1 = .ok (.istore 5, 2) := by decide +kernel
theorem dX1_settle_3 : decode cX1_settle 3 = .ok (.iload 5, 2) := by decide +kernel
theorem dX1_settle_5 : decode cX1_settle 5 = .ok (.aload_n 0, 1) := by decide +kernel
theorem dX1_settle_6 : decode cX1_settle 6 = .ok (.getfield 9, 3) := by decide +kernel
theorem dX1_settle_9 : decode cX1_settle 9 = .ok (.arraylength, 1) := by decide +kernel
theorem dX1_settle_10 : decode cX1_settle 10 = .ok (.if_icmp .ge 56, 3) := by decide +kernel
theorem dX1_settle_13 : decode cX1_settle 13 = .ok (.iload 4, 2) := by decide +kernel
theorem dX1_settle_15 : decode cX1_settle 15 = .ok (.iload 5, 2) := by decide +kernel
theorem dX1_settle_17 : decode cX1_settle 17 = .ok (.invokestatic 54, 3) := by decide +kernel
theorem dX1_settle_20 : decode cX1_settle 20 = .ok (.ifCond .eq 13, 3) := by decide +kernel
theorem dX1_settle_23 : decode cX1_settle 23 = .ok (.aload_n 1, 1) := by decide +kernel
theorem dX1_settle_24 : decode cX1_settle 24 = .ok (.iload_n 2, 1) := by decide +kernel
theorem dX1_settle_25 : decode cX1_settle 25 = .ok (.iload 5, 2) := by decide +kernel
theorem dX1_settle_27 : decode cX1_settle 27 = .ok (.invokevirtual 64, 3) := by decide +kernel
theorem dX1_settle_30 : decode cX1_settle 30 = .ok (.goto 30, 3) := by decide +kernel
theorem dX1_settle_33 : decode cX1_settle 33 = .ok (.iload_n 3, 1) := by decide +kernel
theorem dX1_settle_34 : decode cX1_settle 34 = .ok (.iload 5, 2) := by decide +kernel
theorem dX1_settle_36 : decode cX1_settle 36 = .ok (.invokestatic 54, 3) := by decide +kernel
theorem dX1_settle_39 : decode cX1_settle 39 = .ok (.ifCond .eq 21, 3) := by decide +kernel
theorem dX1_settle_42 : decode cX1_settle 42 = .ok (.aload_n 1, 1) := by decide +kernel
theorem dX1_settle_43 : decode cX1_settle 43 = .ok (.iload 5, 2) := by decide +kernel
theorem dX1_settle_45 : decode cX1_settle 45 = .ok (.iload_n 2, 1) := by decide +kernel
theorem dX1_settle_46 : decode cX1_settle 46 = .ok (.invokevirtual 64, 3) := by decide +kernel
theorem dX1_settle_49 : decode cX1_settle 49 = .ok (.aload_n 0, 1) := by decide +kernel
theorem dX1_settle_50 : decode cX1_settle 50 = .ok (.getfield 9, 3) := by decide +kernel
theorem dX1_settle_53 : decode cX1_settle 53 = .ok (.iload 5, 2) := by decide +kernel
theorem dX1_settle_55 : decode cX1_settle 55 = .ok (.dup2, 1) := by decide +kernel
theorem dX1_settle_56 : decode cX1_settle 56 = .ok (.iaload, 1) := by decide +kernel
theorem dX1_settle_57 : decode cX1_settle 57 = .ok (.iconst 1, 1) := by decide +kernel
theorem dX1_settle_58 : decode cX1_settle 58 = .ok (.isub, 1) := by decide +kernel
theorem dX1_settle_59 : decode cX1_settle 59 = .ok (.iastore, 1) := by decide +kernel
theorem dX1_settle_60 : decode cX1_settle 60 = .ok (.iinc 5 1, 3) := by decide +kernel
theorem dX1_settle_63 : decode cX1_settle 63 = .ok (.goto (-60), 3) := by decide +kernel
theorem dX1_settle_66 : decode cX1_settle 66 = .ok (.return_, 1) := by decide +kernel
theorem dX2_init_0 : decode cX2_init 0 = .ok (.aload_n 0, 1) := by decide +kernel
theorem dX2_init_1 : decode cX2_init 1 = .ok (.invokespecial 3, 3) := by decide +kernel
theorem dX2_init_4 : decode cX2_init 4 = .ok (.aload_n 0, 1) := by decide +kernel
theorem dX2_init_5 : decode cX2_init 5 = .ok (.bipush 10, 2) := by decide +kernel
theorem dX2_init_7 : decode cX2_init 7 = .ok (.newarray .int, 2) := by decide +kernel
theorem dX2_init_9 : decode cX2_init 9 = .ok (.putfield 9, 3) := by decide +kernel
theorem dX2_init_12 : decode cX2_init 12 = .ok (.aload_n 0, 1) := by decide +kernel
theorem dX2_init_13 : decode cX2_init 13 = .ok (.sipush 1024, 3) := by decide +kernel
theorem dX2_init_16 : decode cX2_init 16 = .ok (.newarray .int, 2) := by decide +kernel
theorem dX2_init_18 : decode cX2_init 18 = .ok (.putfield 15, 3) := by decide +kernel
theorem dX2_init_21 : decode cX2_init 21 = .ok (.return_, 1) := by decide +kernel
theorem dX2_playerAt_0 : decode cX2_playerAt 0 = .ok (.iload_n 1, 1) := by decide +kernel
theorem dX2_playerAt_1 : decode cX2_playerAt 1 = .ok (.ifCond .lt 21, 3) := by decide +kernel
theorem dX2_playerAt_4 : decode cX2_playerAt 4 = .ok (.iload_n 1, 1) := by decide +kernel
theorem dX2_playerAt_5 : decode cX2_playerAt 5 = .ok (.aload_n 0, 1) := by decide +kernel
theorem dX2_playerAt_6 : decode cX2_playerAt 6 = .ok (.getfield 9, 3) := by decide +kernel
theorem dX2_playerAt_9 : decode cX2_playerAt 9 = .ok (.arraylength, 1) := by decide +kernel
theorem dX2_playerAt_10 : decode cX2_playerAt 10 = .ok (.if_icmp .ge 12, 3) := by decide +kernel
theorem dX2_playerAt_13 : decode cX2_playerAt 13 = .ok (.aload_n 0, 1) := by decide +kernel
theorem dX2_playerAt_14 : decode cX2_playerAt 14 = .ok (.getfield 9, 3) := by decide +kernel
theorem dX2_playerAt_17 : decode cX2_playerAt 17 = .ok (.iload_n 1, 1) := by decide +kernel
theorem dX2_playerAt_18 : decode cX2_playerAt 18 = .ok (.iaload, 1) := by decide +kernel
theorem dX2_playerAt_19 : decode cX2_playerAt 19 = .ok (.goto 5, 3) := by decide +kernel
theorem dX2_playerAt_22 : decode cX2_playerAt 22 = .ok (.bipush (-4), 2) := by decide +kernel
theorem dX2_playerAt_24 : decode cX2_playerAt 24 = .ok (.ireturn, 1) := by decide +kernel
theorem dX2_countLengths_0 : decode cX2_countLengths 0 = .ok (.iconst 0, 1) := by decide +kernel
theorem dX2_countLengths_1 : decode cX2_countLengths 1 = .ok (.aload_n 0, 1) := by decide +kernel
theorem dX2_countLengths_2 : decode cX2_countLengths 2 = .ok (.iload_n 1, 1) := by decide +kernel
theorem dX2_countLengths_3 : decode cX2_countLengths 3 = .ok (.invokestatic 18, 3) := by decide +kernel
theorem dX2_countLengths_6 : decode cX2_countLengths 6 = .ok (.invokestatic 24, 3) := by decide +kernel
theorem dX2_countLengths_9 : decode cX2_countLengths 9 = .ok (.iconst 3, 1) := by decide +kernel
theorem dX2_countLengths_10 : decode cX2_countLengths 10 = .ok (.isub, 1) := by decide +kernel
theorem dX2_countLengths_11 : decode cX2_countLengths 11 = .ok (.iconst 1, 1) := by decide +kernel
theorem dX2_countLengths_12 : decode cX2_countLengths 12 = .ok (.iadd, 1) := by decide +kernel
theorem dX2_countLengths_13 : decode cX2_countLengths 13 = .ok (.invokestatic 30, 3) := by decide +kernel
theorem dX2_countLengths_16 : decode cX2_countLengths 16 = .ok (.ireturn, 1) := by decide +kernel
theorem dX2_find_0 : decode cX2_find 0 = .ok (.aload_n 1, 1) := by decide +kernel
theorem dX2_find_1 : decode cX2_find 1 = .ok (.iload_n 2, 1) := by decide +kernel
theorem dX2_find_2 : decode cX2_find 2 = .ok (.invokestatic 18, 3) := by decide +kernel
theorem dX2_find_5 : decode cX2_find 5 = .ok (.istore 4, 2) := by decide +kernel
theorem dX2_find_7 : decode cX2_find 7 = .ok (.iload 4, 2) := by decide +kernel
theorem dX2_find_9 : decode cX2_find 9 = .ok (.invokestatic 24, 3) := by decide +kernel
theorem dX2_find_12 : decode cX2_find 12 = .ok (.iload_n 3, 1) := by decide +kernel
theorem dX2_find_13 : decode cX2_find 13 = .ok (.if_icmp .ge 5, 3) := by decide +kernel
theorem dX2_find_16 : decode cX2_find 16 = .ok (.iconst 0, 1) := by decide +kernel
theorem dX2_find_17 : decode cX2_find 17 = .ok (.ireturn, 1) := by decide +kernel
theorem dX2_find_18 : decode cX2_find 18 = .ok (.iconst 0, 1) := by decide +kernel
theorem dX2_find_19 : decode cX2_find 19 = .ok (.istore 5, 2) := by decide +kernel
theorem dX2_find_21 : decode cX2_find 21 = .ok (.iload 5, 2) := by decide +kernel
theorem dX2_find_23 : decode cX2_find 23 = .ok (.iload 4, 2) := by decide +kernel
theorem dX2_find_25 : decode cX2_find 25 = .ok (.if_icmp .gt 27, 3) := by decide +kernel
theorem dX2_find_28 : decode cX2_find 28 = .ok (.iload 5, 2) := by decide +kernel
theorem dX2_find_30 : decode cX2_find 30 = .ok (.aload_n 0, 1) := by decide +kernel
theorem dX2_find_31 : decode cX2_find 31 = .ok (.getfield 15, 3) := by decide +kernel
theorem dX2_find_34 : decode cX2_find 34 = .ok (.arraylength, 1) := by decide +kernel
theorem dX2_find_35 : decode cX2_find 35 = .ok (.if_icmp .ge 17, 3) := by decide +kernel
theorem dX2_find_38 : decode cX2_find 38 = .ok (.aload_n 0, 1) := by decide +kernel
theorem dX2_find_39 : decode cX2_find 39 = .ok (.getfield 15, 3) := by decide +kernel
theorem dX2_find_42 : decode cX2_find 42 = .ok (.iload 5, 2) := by decide +kernel
theorem dX2_find_44 : decode cX2_find 44 = .ok (.iconst 0, 1) := by decide +kernel
theorem dX2_find_45 : decode cX2_find 45 = .ok (.iastore, 1) := by decide +kernel
theorem dX2_find_46 : decode cX2_find 46 = .ok (.iinc 5 1, 3) := by decide +kernel
theorem dX2_find_49 : decode cX2_find 49 = .ok (.goto (-28), 3) := by decide +kernel
theorem dX2_find_52 : decode cX2_find 52 = .ok (.aload_n 0, 1) := by decide +kernel
theorem dX2_find_53 : decode cX2_find 53 = .ok (.getfield 9, 3) := by decide +kernel
theorem dX2_find_56 : decode cX2_find 56 = .ok (.iconst 0, 1) := by decide +kernel
theorem dX2_find_57 : decode cX2_find 57 = .ok (.iload_n 2, 1) := by decide +kernel
theorem dX2_find_58 : decode cX2_find 58 = .ok (.iastore, 1) := by decide +kernel
theorem dX2_find_59 : decode cX2_find 59 = .ok (.aload_n 1, 1) := by decide +kernel
theorem dX2_find_60 : decode cX2_find 60 = .ok (.aload_n 0, 1) := by decide +kernel
theorem dX2_find_61 : decode cX2_find 61 = .ok (.getfield 9, 3) := by decide +kernel
theorem dX2_find_64 : decode cX2_find 64 = .ok (.aload_n 0, 1) := by decide +kernel
theorem dX2_find_65 : decode cX2_find 65 = .ok (.getfield 15, 3) := by decide +kernel
theorem dX2_find_68 : decode cX2_find 68 = .ok (.iload 4, 2) := by decide +kernel
theorem dX2_find_70 : decode cX2_find 70 = .ok (.iload_n 2, 1) := by decide +kernel
theorem dX2_find_71 : decode cX2_find 71 = .ok (.invokestatic 36, 3) := by decide +kernel
theorem dX2_find_74 : decode cX2_find 74 = .ok (.iconst 1, 1) := by decide +kernel
theorem dX2_find_75 : decode cX2_find 75 = .ok (.iload_n 3, 1) := by decide +kernel
theorem dX2_find_76 : decode cX2_find 76 = .ok (.invokestatic 39, 3) := by decide +kernel
theorem dX2_find_79 : decode cX2_find 79 = .ok (.ireturn, 1) := by decide +kernel
theorem dX2_extend_0 : decode cX2_extend 0 = .ok (.iload 4, 2) := by decide +kernel
theorem dX2_extend_2 : decode cX2_extend 2 = .ok (.iconst 1, 1) := by decide +kernel
theorem dX2_extend_3 : decode cX2_extend 3 = .ok (.if_icmp .lt 27, 3) := by decide +kernel
theorem dX2_extend_6 : decode cX2_extend 6 = .ok (.iload 4, 2) := by decide +kernel
theorem dX2_extend_8 : decode cX2_extend 8 = .ok (.iload 5, 2) := by decide +kernel
theorem dX2_extend_10 : decode cX2_extend 10 = .ok (.if_icmp .gt 20, 3) := by decide +kernel
theorem dX2_extend_13 : decode cX2_extend 13 = .ok (.iload 4, 2) := by decide +kernel
theorem dX2_extend_15 : decode cX2_extend 15 = .ok (.aload_n 1, 1) := by decide +kernel
theorem dX2_extend_16 : decode cX2_extend 16 = .ok (.arraylength, 1) := by decide +kernel
theorem dX2_extend_17 : decode cX2_extend 17 = .ok (.if_icmp .gt 13, 3) := by decide +kernel
theorem dX2_extend_20 : decode cX2_extend 20 = .ok (.iload_n 3, 1) := by decide +kernel
theorem dX2_extend_21 : decode cX2_extend 21 = .ok (.ifCond .lt 9, 3) := by decide +kernel
theorem dX2_extend_24 : decode cX2_extend 24 = .ok (.iload_n 3, 1) := by decide +kernel
theorem dX2_extend_25 : decode cX2_extend 25 = .ok (.aload_n 2, 1) := by decide +kernel
theorem dX2_extend_26 : decode cX2_extend 26 = .ok (.arraylength, 1) := by decide +kernel
theorem dX2_extend_27 : decode cX2_extend 27 = .ok (.if_icmp .lt 5, 3) := by decide +kernel
theorem dX2_extend_30 : decode cX2_extend 30 = .ok (.iconst 0, 1) := by decide +kernel
theorem dX2_extend_31 : decode cX2_extend 31 = .ok (.ireturn, 1) := by decide +kernel
theorem dX2_extend_32 : decode cX2_extend 32 = .ok (.aload_n 1, 1) := by decide +kernel
theorem dX2_extend_33 : decode cX2_extend 33 = .ok (.iload 4, 2) := by decide +kernel
theorem dX2_extend_35 : decode cX2_extend 35 = .ok (.iconst 1, 1) := by decide +kernel
theorem dX2_extend_36 : decode cX2_extend 36 = .ok (.isub, 1) := by decide +kernel
theorem dX2_extend_37 : decode cX2_extend 37 = .ok (.iaload, 1) := by decide +kernel
theorem dX2_extend_38 : decode cX2_extend 38 = .ok (.istore 6, 2) := by decide +kernel
theorem dX2_extend_40 : decode cX2_extend 40 = .ok (.iload 4, 2) := by decide +kernel
theorem dX2_extend_42 : decode cX2_extend 42 = .ok (.iload 5, 2) := by decide +kernel
theorem dX2_extend_44 : decode cX2_extend 44 = .ok (.if_icmp .ne 13, 3) := by decide +kernel
theorem dX2_extend_47 : decode cX2_extend 47 = .ok (.aload_n 0, 1) := by decide +kernel
theorem dX2_extend_48 : decode cX2_extend 48 = .ok (.iload 6, 2) := by decide +kernel
theorem dX2_extend_50 : decode cX2_extend 50 = .ok (.aload_n 1, 1) := by decide +kernel
theorem dX2_extend_51 : decode cX2_extend 51 = .ok (.iconst 0, 1) := by decide +kernel
theorem dX2_extend_52 : decode cX2_extend 52 = .ok (.iaload, 1) := by decide +kernel
theorem dX2_extend_53 : decode cX2_extend 53 = .ok (.invokevirtual 43, 3) := by decide +kernel
theorem dX2_extend_56 : decode cX2_extend 56 = .ok (.ireturn, 1) := by decide +kernel
theorem dX2_extend_57 : decode cX2_extend 57 = .ok (.aload_n 2, 1) := by decide +kernel
theorem dX2_extend_58 : decode cX2_extend 58 = .ok (.iload_n 3, 1) := by decide +kernel
theorem dX2_extend_59 : decode cX2_extend 59 = .ok (.iaload, 1) := by decide +kernel
theorem dX2_extend_60 : decode cX2_extend 60 = .ok (.iload 6, 2) := by decide +kernel
theorem dX2_extend_62 : decode cX2_extend 62 = .ok (.invokestatic 49, 3) := by decide +kernel
theorem dX2_extend_65 : decode cX2_extend 65 = .ok (.ifCond .eq 5, 3) := by decide +kernel
theorem dX2_extend_68 : decode cX2_extend 68 = .ok (.iconst 0, 1) := by decide +kernel
theorem dX2_extend_69 : decode cX2_extend 69 = .ok (.ireturn, 1) := by decide +kernel
theorem dX2_extend_70 : decode cX2_extend 70 = .ok (.iconst 0, 1) := by decide +kernel
theorem dX2_extend_71 : decode cX2_extend 71 = .ok (.istore 7, 2) := by decide +kernel
theorem dX2_extend_73 : decode cX2_extend 73 = .ok (.iload 7, 2) := by decide +kernel
theorem dX2_extend_75 : decode cX2_extend 75 = .ok (.aload_n 0, 1) := by decide +kernel
theorem dX2_extend_76 : decode cX2_extend 76 = .ok (.invokevirtual 52, 3) := by decide +kernel
theorem dX2_extend_79 : decode cX2_extend 79 = .ok (.if_icmp .ge 65, 3) := by decide +kernel
theorem dX2_extend_82 : decode cX2_extend 82 = .ok (.iload 4, 2) := by decide +kernel
theorem dX2_extend_84 : decode cX2_extend 84 = .ok (.aload_n 1, 1) := by decide +kernel
theorem dX2_extend_85 : decode cX2_extend 85 = .ok (.arraylength, 1) := by decide +kernel
theorem dX2_extend_86 : decode cX2_extend 86 = .ok (.if_icmp .ge 58, 3) := by decide +kernel
theorem dX2_extend_89 : decode cX2_extend 89 = .ok (.iload_n 3, 1) := by decide +kernel
theorem dX2_extend_90 : decode cX2_extend 90 = .ok (.iload 7, 2) := by decide +kernel
theorem dX2_extend_92 : decode cX2_extend 92 = .ok (.invokestatic 49, 3) := by decide +kernel
theorem dX2_extend_95 : decode cX2_extend 95 = .ok (.ifCond .eq 43, 3) := by decide +kernel
theorem dX2_extend_98 : decode cX2_extend 98 = .ok (.aload_n 0, 1) := by decide +kernel
theorem dX2_extend_99 : decode cX2_extend 99 = .ok (.iload 6, 2) := by decide +kernel
theorem dX2_extend_101 : decode cX2_extend 101 = .ok (.iload 7, 2) := by decide +kernel
theorem dX2_extend_103 : decode cX2_extend 103 = .ok (.invokevirtual 43, 3) := by decide +kernel
theorem dX2_extend_106 : decode cX2_extend 106 = .ok (.ifCond .eq 32, 3) := by decide +kernel
theorem dX2_extend_109 : decode cX2_extend 109 = .ok (.aload_n 1, 1) := by decide +kernel
theorem dX2_extend_110 : decode cX2_extend 110 = .ok (.iload 4, 2) := by decide +kernel
theorem dX2_extend_112 : decode cX2_extend 112 = .ok (.iload 7, 2) := by decide +kernel
theorem dX2_extend_114 : decode cX2_extend 114 = .ok (.iastore, 1) := by decide +kernel
theorem dX2_extend_115 : decode cX2_extend 115 = .ok (.aload_n 0, 1) := by decide +kernel
theorem dX2_extend_116 : decode cX2_extend 116 = .ok (.aload_n 1, 1) := by decide +kernel
theorem dX2_extend_117 : decode cX2_extend 117 = .ok (.aload_n 2, 1) := by decide +kernel
theorem dX2_extend_118 : decode cX2_extend 118 = .ok (.iload_n 3, 1) := by decide +kernel
theorem dX2_extend_119 : decode cX2_extend 119 = .ok (.iload 7, 2) := by decide +kernel
theorem dX2_extend_121 : decode cX2_extend 121 = .ok (.invokestatic 36, 3) := by decide +kernel
theorem dX2_extend_124 : decode cX2_extend 124 = .ok (.iload 4, 2) := by decide +kernel
theorem dX2_extend_126 : decode cX2_extend 126 = .ok (.iconst 1, 1) := by decide +kernel
theorem dX2_extend_127 : decode cX2_extend 127 = .ok (.iadd, 1) := by decide +kernel
theorem dX2_extend_128 : decode cX2_extend 128 = .ok (.iload 5, 2) := by decide +kernel
theorem dX2_extend_130 : decode cX2_extend 130 = .ok (.invokestatic 39, 3) := by decide +kernel
theorem dX2_extend_133 : decode cX2_extend 133 = .ok (.ifCond .eq 5, 3) := by decide +kernel
theorem dX2_extend_136 : decode cX2_extend 136 = .ok (.iconst 1, 1) := by decide +kernel
theorem dX2_extend_137 : decode cX2_extend 137 = .ok (.ireturn, 1) := by decide +kernel
theorem dX2_extend_138 : decode cX2_extend 138 = .ok (.iinc 7 1, 3) := by decide +kernel
theorem dX2_extend_141 : decode cX2_extend 141 = .ok (.goto (-68), 3) := by decide +kernel
theorem dX2_extend_144 : decode cX2_extend 144 = .ok (.aload_n 2, 1) := by decide +kernel
theorem dX2_extend_145 : decode cX2_extend 145 = .ok (.iload_n 3, 1) := by decide +kernel
theorem dX2_extend_146 : decode cX2_extend 146 = .ok (.dup2, 1) := by decide +kernel
theorem dX2_extend_147 : decode cX2_extend 147 = .ok (.iaload, 1) := by decide +kernel
theorem dX2_extend_148 : decode cX2_extend 148 = .ok (.iload 6, 2) := by decide +kernel
theorem dX2_extend_150 : decode cX2_extend 150 = .ok (.invokestatic 56, 3) := by decide +kernel
theorem dX2_extend_153 : decode cX2_extend 153 = .ok (.ior, 1) := by decide +kernel
theorem dX2_extend_154 : decode cX2_extend 154 = .ok (.iastore, 1) := by decide +kernel
theorem dX2_extend_155 : decode cX2_extend 155 = .ok (.iconst 0, 1) := by decide +kernel
theorem dX2_extend_156 : decode cX2_extend 156 = .ok (.ireturn, 1) := by decide +kernel
theorem dX3_init_0 : decode cX3_init 0 = .ok (.aload_n 0, 1) := by decide +kernel
theorem dX3_init_1 : decode cX3_init 1 = .ok (.invokespecial 3, 3) := by decide +kernel
theorem dX3_init_4 : decode cX3_init 4 = .ok (.aload_n 0, 1) := by decide +kernel
theorem dX3_init_5 : decode cX3_init 5 = .ok (.bipush 8, 2) := by decide +kernel
theorem dX3_init_7 : decode cX3_init 7 = .ok (.anewarray 9, 3) := by decide +kernel
theorem dX3_init_10 : decode cX3_init 10 = .ok (.putfield 11, 3) := by decide +kernel
theorem dX3_init_13 : decode cX3_init 13 = .ok (.iconst 0, 1) := by decide +kernel
theorem dX3_init_14 : decode cX3_init 14 = .ok (.istore_n 1, 1) := by decide +kernel
theorem dX3_init_15 : decode cX3_init 15 = .ok (.iload_n 1, 1) := by decide +kernel
theorem dX3_init_16 : decode cX3_init 16 = .ok (.aload_n 0, 1) := by decide +kernel
theorem dX3_init_17 : decode cX3_init 17 = .ok (.getfield 11, 3) := by decide +kernel
theorem dX3_init_20 : decode cX3_init 20 = .ok (.arraylength, 1) := by decide +kernel
theorem dX3_init_21 : decode cX3_init 21 = .ok (.if_icmp .ge 22, 3) := by decide +kernel
theorem dX3_init_24 : decode cX3_init 24 = .ok (.aload_n 0, 1) := by decide +kernel
theorem dX3_init_25 : decode cX3_init 25 = .ok (.getfield 11, 3) := by decide +kernel
theorem dX3_init_28 : decode cX3_init 28 = .ok (.iload_n 1, 1) := by decide +kernel
theorem dX3_init_29 : decode cX3_init 29 = .ok (.new 9, 3) := by decide +kernel
theorem dX3_init_32 : decode cX3_init 32 = .ok (.dup, 1) := by decide +kernel
theorem dX3_init_33 : decode cX3_init 33 = .ok (.invokespecial 17, 3) := by decide +kernel
theorem dX3_init_36 : decode cX3_init 36 = .ok (.aastore, 1) := by decide +kernel
theorem dX3_init_37 : decode cX3_init 37 = .ok (.iinc 1 1, 3) := by decide +kernel
theorem dX3_init_40 : decode cX3_init 40 = .ok (.goto (-25), 3) := by decide +kernel
theorem dX3_init_43 : decode cX3_init 43 = .ok (.return_, 1) := by decide +kernel
theorem dX3_size_0 : decode cX3_size 0 = .ok (.aload_n 0, 1) := by decide +kernel
theorem dX3_size_1 : decode cX3_size 1 = .ok (.getfield 18, 3) := by decide +kernel
theorem dX3_size_4 : decode cX3_size 4 = .ok (.ireturn, 1) := by decide +kernel
theorem dX3_isEmpty_0 : decode cX3_isEmpty 0 = .ok (.aload_n 0, 1) := by decide +kernel
theorem dX3_isEmpty_1 : decode cX3_isEmpty 1 = .ok (.getfield 18, 3) := by decide +kernel
theorem dX3_isEmpty_4 : decode cX3_isEmpty 4 = .ok (.ifCond .ne 7, 3) := by decide +kernel
theorem dX3_isEmpty_7 : decode cX3_isEmpty 7 = .ok (.iconst 1, 1) := by decide +kernel
theorem dX3_isEmpty_8 : decode cX3_isEmpty 8 = .ok (.goto 4, 3) := by decide +kernel
theorem dX3_isEmpty_11 : decode cX3_isEmpty 11 = .ok (.iconst 0, 1) := by decide +kernel
theorem dX3_isEmpty_12 : decode cX3_isEmpty 12 = .ok (.ireturn, 1) := by decide +kernel
theorem dX3_stateAt_0 : decode cX3_stateAt 0 = .ok (.aload_n 0, 1) := by decide +kernel
theorem dX3_stateAt_1 : decode cX3_stateAt 1 = .ok (.getfield 22, 3) := by decide +kernel
theorem dX3_stateAt_4 : decode cX3_stateAt 4 = .ok (.iload_n 1, 1) := by decide +kernel
theorem dX3_stateAt_5 : decode cX3_stateAt 5 = .ok (.iadd, 1) := by decide +kernel
theorem dX3_stateAt_6 : decode cX3_stateAt 6 = .ok (.bipush 8, 2) := by decide +kernel
theorem dX3_stateAt_8 : decode cX3_stateAt 8 = .ok (.invokestatic 25, 3) := by decide +kernel
theorem dX3_stateAt_11 : decode cX3_stateAt 11 = .ok (.istore_n 2, 1) := by decide +kernel
theorem dX3_stateAt_12 : decode cX3_stateAt 12 = .ok (.iload_n 2, 1) := by decide +kernel
theorem dX3_stateAt_13 : decode cX3_stateAt 13 = .ok (.ifCond .lt 21, 3) := by decide +kernel
theorem dX3_stateAt_16 : decode cX3_stateAt 16 = .ok (.iload_n 2, 1) := by decide +kernel
theorem dX3_stateAt_17 : decode cX3_stateAt 17 = .ok (.aload_n 0, 1) := by decide +kernel
theorem dX3_stateAt_18 : decode cX3_stateAt 18 = .ok (.getfield 11, 3) := by decide +kernel
theorem dX3_stateAt_21 : decode cX3_stateAt 21 = .ok (.arraylength, 1) := by decide +kernel
theorem dX3_stateAt_22 : decode cX3_stateAt 22 = .ok (.if_icmp .ge 12, 3) := by decide +kernel
theorem dX3_stateAt_25 : decode cX3_stateAt 25 = .ok (.aload_n 0, 1) := by decide +kernel
theorem dX3_stateAt_26 : decode cX3_stateAt 26 = .ok (.getfield 11, 3) := by decide +kernel
theorem dX3_stateAt_29 : decode cX3_stateAt 29 = .ok (.iload_n 2, 1) := by decide +kernel
theorem dX3_stateAt_30 : decode cX3_stateAt 30 = .ok (.aaload, 1) := by decide +kernel
theorem dX3_stateAt_31 : decode cX3_stateAt 31 = .ok (.goto 4, 3) := by decide +kernel
theorem dX3_stateAt_34 : decode cX3_stateAt 34 = .ok (.aconst_null, 1) := by decide +kernel
theorem dX3_stateAt_35 : decode cX3_stateAt 35 = .ok (.areturn, 1) := by decide +kernel
theorem dX3_record_0 : decode cX3_record 0 = .ok (.aload_n 0, 1) := by decide +kernel
theorem dX3_record_1 : decode cX3_record 1 = .ok (.getfield 18, 3) := by decide +kernel
theorem dX3_record_4 : decode cX3_record 4 = .ok (.bipush 8, 2) := by decide +kernel
theorem dX3_record_6 : decode cX3_record 6 = .ok (.if_icmp .ne 28, 3) := by decide +kernel
theorem dX3_record_9 : decode cX3_record 9 = .ok (.aload_n 0, 1) := by decide +kernel
theorem dX3_record_10 : decode cX3_record 10 = .ok (.aload_n 0, 1) := by decide +kernel
theorem dX3_record_11 : decode cX3_record 11 = .ok (.getfield 22, 3) := by decide +kernel
theorem dX3_record_14 : decode cX3_record 14 = .ok (.iconst 1, 1) := by decide +kernel
theorem dX3_record_15 : decode cX3_record 15 = .ok (.iadd, 1) := by decide +kernel
theorem dX3_record_16 : decode cX3_record 16 = .ok (.bipush 8, 2) := by decide +kernel
theorem dX3_record_18 : decode cX3_record 18 = .ok (.invokestatic 25, 3) := by decide +kernel
theorem dX3_record_21 : decode cX3_record 21 = .ok (.putfield 22, 3) := by decide +kernel
theorem dX3_record_24 : decode cX3_record 24 = .ok (.aload_n 0, 1) := by decide +kernel
theorem dX3_record_25 : decode cX3_record 25 = .ok (.dup, 1) := by decide +kernel
theorem dX3_record_26 : decode cX3_record 26 = .ok (.getfield 18, 3) := by decide +kernel
theorem dX3_record_29 : decode cX3_record 29 = .ok (.iconst 1, 1) := by decide +kernel
theorem dX3_record_30 : decode cX3_record 30 = .ok (.isub, 1) := by decide +kernel
theorem dX3_record_31 : decode cX3_record 31 = .ok (.putfield 18, 3) := by decide +kernel
theorem dX3_record_34 : decode cX3_record 34 = .ok (.aload_n 0, 1) := by decide +kernel
theorem dX3_record_35 : decode cX3_record 35 = .ok (.aload_n 0, 1) := by decide +kernel
theorem dX3_record_36 : decode cX3_record 36 = .ok (.getfield 18, 3) := by decide +kernel
theorem dX3_record_39 : decode cX3_record 39 = .ok (.invokevirtual 31, 3) := by decide +kernel
theorem dX3_record_42 : decode cX3_record 42 = .ok (.astore_n 2, 1) := by decide +kernel
theorem dX3_record_43 : decode cX3_record 43 = .ok (.aload_n 2, 1) := by decide +kernel
theorem dX3_record_44 : decode cX3_record 44 = .ok (.ifnull 18, 3) := by decide +kernel
theorem dX3_record_47 : decode cX3_record 47 = .ok (.aload_n 2, 1) := by decide +kernel
theorem dX3_record_48 : decode cX3_record 48 = .ok (.aload_n 1, 1) := by decide +kernel
theorem dX3_record_49 : decode cX3_record 49 = .ok (.invokevirtual 35, 3) := by decide +kernel
theorem dX3_record_52 : decode cX3_record 52 = .ok (.aload_n 0, 1) := by decide +kernel
theorem dX3_record_53 : decode cX3_record 53 = .ok (.dup, 1) := by decide +kernel
theorem dX3_record_54 : decode cX3_record 54 = .ok (.getfield 18, 3) := by decide +kernel
theorem dX3_record_57 : decode cX3_record 57 = .ok (.iconst 1, 1) := by decide +kernel
theorem dX3_record_58 : decode cX3_record 58 = .ok (.iadd, 1) := by decide +kernel
theorem dX3_record_59 : decode cX3_record 59 = .ok (.putfield 18, 3) := by decide +kernel
theorem dX3_record_62 : decode cX3_record 62 = .ok (.return_, 1) := by decide +kernel
theorem dX3_takeLatest_0 : decode cX3_takeLatest 0 = .ok (.aload_n 0, 1) := by decide +kernel
theorem dX3_takeLatest_1 : decode cX3_takeLatest 1 = .ok (.aload_n 0, 1) := by decide +kernel
theorem dX3_takeLatest_2 : decode cX3_takeLatest 2 = .ok (.getfield 18, 3) := by decide +kernel
theorem dX3_takeLatest_5 : decode cX3_takeLatest 5 = .ok (.iconst 1, 1) := by decide +kernel
theorem dX3_takeLatest_6 : decode cX3_takeLatest 6 = .ok (.isub, 1) := by decide +kernel
theorem dX3_takeLatest_7 : decode cX3_takeLatest 7 = .ok (.invokevirtual 31, 3) := by decide +kernel
theorem dX3_takeLatest_10 : decode cX3_takeLatest 10 = .ok (.astore_n 2, 1) := by decide +kernel
theorem dX3_takeLatest_11 : decode cX3_takeLatest 11 = .ok (.aload_n 0, 1) := by decide +kernel
theorem dX3_takeLatest_12 : decode cX3_takeLatest 12 = .ok (.getfield 18, 3) := by decide +kernel
theorem dX3_takeLatest_15 : decode cX3_takeLatest 15 = .ok (.ifCond .le 22, 3) := by decide +kernel
theorem dX3_takeLatest_18 : decode cX3_takeLatest 18 = .ok (.aload_n 2, 1) := by decide +kernel
theorem dX3_takeLatest_19 : decode cX3_takeLatest 19 = .ok (.ifnull 18, 3) := by decide +kernel
theorem dX3_takeLatest_22 : decode cX3_takeLatest 22 = .ok (.aload_n 1, 1) := by decide +kernel
theorem dX3_takeLatest_23 : decode cX3_takeLatest 23 = .ok (.aload_n 2, 1) := by decide +kernel
theorem dX3_takeLatest_24 : decode cX3_takeLatest 24 = .ok (.invokevirtual 35, 3) := by decide +kernel
theorem dX3_takeLatest_27 : decode cX3_takeLatest 27 = .ok (.aload_n 0, 1) := by decide +kernel
theorem dX3_takeLatest_28 : decode cX3_takeLatest 28 = .ok (.dup, 1) := by decide +kernel
theorem dX3_takeLatest_29 : decode cX3_takeLatest 29 = .ok (.getfield 18, 3) := by decide +kernel
theorem dX3_takeLatest_32 : decode cX3_takeLatest 32 = .ok (.iconst 1, 1) := by decide +kernel
theorem dX3_takeLatest_33 : decode cX3_takeLatest 33 = .ok (.isub, 1) := by decide +kernel
theorem dX3_takeLatest_34 : decode cX3_takeLatest 34 = .ok (.putfield 18, 3) := by decide +kernel
theorem dX3_takeLatest_37 : decode cX3_takeLatest 37 = .ok (.return_, 1) := by decide +kernel
theorem dX4_init_0 : decode cX4_init 0 = .ok (.aload_n 0, 1) := by decide +kernel
theorem dX4_init_1 : decode cX4_init 1 = .ok (.invokespecial 3, 3) := by decide +kernel
theorem dX4_init_4 : decode cX4_init 4 = .ok (.aload_n 0, 1) := by decide +kernel
theorem dX4_init_5 : decode cX4_init 5 = .ok (.bipush 10, 2) := by decide +kernel
theorem dX4_init_7 : decode cX4_init 7 = .ok (.newarray .int, 2) := by decide +kernel
theorem dX4_init_9 : decode cX4_init 9 = .ok (.putfield 9, 3) := by decide +kernel
theorem dX4_init_12 : decode cX4_init 12 = .ok (.return_, 1) := by decide +kernel
theorem dX4_countDiffering_0 : decode cX4_countDiffering 0 = .ok (.iconst 0, 1) := by decide +kernel
theorem dX4_countDiffering_1 : decode cX4_countDiffering 1 = .ok (.istore_n 2, 1) := by decide +kernel
theorem dX4_countDiffering_2 : decode cX4_countDiffering 2 = .ok (.iconst 0, 1) := by decide +kernel
theorem dX4_countDiffering_3 : decode cX4_countDiffering 3 = .ok (.istore_n 3, 1) := by decide +kernel
theorem dX4_countDiffering_4 : decode cX4_countDiffering 4 = .ok (.iload_n 3, 1) := by decide +kernel
theorem dX4_countDiffering_5 : decode cX4_countDiffering 5 = .ok (.aload_n 0, 1) := by decide +kernel
theorem dX4_countDiffering_6 : decode cX4_countDiffering 6 = .ok (.invokevirtual 15, 3) := by decide +kernel
theorem dX4_countDiffering_9 : decode cX4_countDiffering 9 = .ok (.if_icmp .ge 26, 3) := by decide +kernel
theorem dX4_countDiffering_12 : decode cX4_countDiffering 12 = .ok (.iload_n 2, 1) := by decide +kernel
theorem dX4_countDiffering_13 : decode cX4_countDiffering 13 = .ok (.aload_n 0, 1) := by decide +kernel
theorem dX4_countDiffering_14 : decode cX4_countDiffering 14 = .ok (.iload_n 3, 1) := by decide +kernel
theorem dX4_countDiffering_15 : decode cX4_countDiffering 15 = .ok (.invokevirtual 21, 3) := by decide +kernel
theorem dX4_countDiffering_18 : decode cX4_countDiffering 18 = .ok (.aload_n 1, 1) := by decide +kernel
theorem dX4_countDiffering_19 : decode cX4_countDiffering 19 = .ok (.iload_n 3, 1) := by decide +kernel
theorem dX4_countDiffering_20 : decode cX4_countDiffering 20 = .ok (.invokevirtual 21, 3) := by decide +kernel
theorem dX4_countDiffering_23 : decode cX4_countDiffering 23 = .ok (.ixor, 1) := by decide +kernel
theorem dX4_countDiffering_24 : decode cX4_countDiffering 24 = .ok (.invokestatic 25, 3) := by decide +kernel
theorem dX4_countDiffering_27 : decode cX4_countDiffering 27 = .ok (.iadd, 1) := by decide +kernel
theorem dX4_countDiffering_28 : decode cX4_countDiffering 28 = .ok (.istore_n 2, 1) := by decide +kernel
theorem dX4_countDiffering_29 : decode cX4_countDiffering 29 = .ok (.iinc 3 1, 3) := by decide +kernel
theorem dX4_countDiffering_32 : decode cX4_countDiffering 32 = .ok (.goto (-28), 3) := by decide +kernel
theorem dX4_countDiffering_35 : decode cX4_countDiffering 35 = .ok (.iload_n 2, 1) := by decide +kernel
theorem dX4_countDiffering_36 : decode cX4_countDiffering 36 = .ok (.iconst 2, 1) := by decide +kernel
theorem dX4_countDiffering_37 : decode cX4_countDiffering 37 = .ok (.idiv, 1) := by decide +kernel
theorem dX4_countDiffering_38 : decode cX4_countDiffering 38 = .ok (.ireturn, 1) := by decide +kernel
theorem dX4_helpfulTriangle_0 : decode cX4_helpfulTriangle 0 = .ok (.iconst 0, 1) := by decide +kernel
theorem dX4_helpfulTriangle_1 : decode cX4_helpfulTriangle 1 = .ok (.istore_n 2, 1) := by decide +kernel
theorem dX4_helpfulTriangle_2 : decode cX4_helpfulTriangle 2 = .ok (.iload_n 2, 1) := by decide +kernel
theorem dX4_helpfulTriangle_3 : decode cX4_helpfulTriangle 3 = .ok (.aload_n 0, 1) := by decide +kernel
theorem dX4_helpfulTriangle_4 : decode cX4_helpfulTriangle 4 = .ok (.invokevirtual 15, 3) := by decide +kernel
theorem dX4_helpfulTriangle_7 : decode cX4_helpfulTriangle 7 = .ok (.if_icmp .ge 84, 3) := by decide +kernel
theorem dX4_helpfulTriangle_10 : decode cX4_helpfulTriangle 10 = .ok (.iload_n 2, 1) := by decide +kernel
theorem dX4_helpfulTriangle_11 : decode cX4_helpfulTriangle 11 = .ok (.iconst 1, 1) := by decide +kernel
theorem dX4_helpfulTriangle_12 : decode cX4_helpfulTriangle 12 = .ok (.iadd, 1) := by decide +kernel
theorem dX4_helpfulTriangle_13 : decode cX4_helpfulTriangle 13 = .ok (.istore_n 3, 1) := by decide +kernel
theorem dX4_helpfulTriangle_14 : decode cX4_helpfulTriangle 14 = .ok (.iload_n 3, 1) := by decide +kernel
theorem dX4_helpfulTriangle_15 : decode cX4_helpfulTriangle 15 = .ok (.aload_n 0, 1) := by decide +kernel
theorem dX4_helpfulTriangle_16 : decode cX4_helpfulTriangle 16 = .ok (.invokevirtual 15, 3) := by decide +kernel
theorem dX4_helpfulTriangle_19 : decode cX4_helpfulTriangle 19 = .ok (.if_icmp .ge 66, 3) := by decide +kernel
theorem dX4_helpfulTriangle_22 : decode cX4_helpfulTriangle 22 = .ok (.iload_n 3, 1) := by decide +kernel
theorem dX4_helpfulTriangle_23 : decode cX4_helpfulTriangle 23 = .ok (.iconst 1, 1) := by decide +kernel
theorem dX4_helpfulTriangle_24 : decode cX4_helpfulTriangle 24 = .ok (.iadd, 1) := by decide +kernel
theorem dX4_helpfulTriangle_25 : decode cX4_helpfulTriangle 25 = .ok (.istore 4, 2) := by decide +kernel
theorem dX4_helpfulTriangle_27 : decode cX4_helpfulTriangle 27 = .ok (.iload 4, 2) := by decide +kernel
theorem dX4_helpfulTriangle_29 : decode cX4_helpfulTriangle 29 = .ok (.aload_n 0, 1) := by decide +kernel
theorem dX4_helpfulTriangle_30 : decode cX4_helpfulTriangle 30 = .ok (.invokevirtual 15, 3) := by decide +kernel
theorem dX4_helpfulTriangle_33 : decode cX4_helpfulTriangle 33 = .ok (.if_icmp .ge 46, 3) := by decide +kernel
theorem dX4_helpfulTriangle_36 : decode cX4_helpfulTriangle 36 = .ok (.aload_n 0, 1) := by decide +kernel
theorem dX4_helpfulTriangle_37 : decode cX4_helpfulTriangle 37 = .ok (.iload_n 2, 1) := by decide +kernel
theorem dX4_helpfulTriangle_38 : decode cX4_helpfulTriangle 38 = .ok (.iload_n 3, 1) := by decide +kernel
theorem dX4_helpfulTriangle_39 : decode cX4_helpfulTriangle 39 = .ok (.iload 4, 2) := by decide +kernel
theorem dX4_helpfulTriangle_41 : decode cX4_helpfulTriangle 41 = .ok (.invokevirtual 30, 3) := by decide +kernel
theorem dX4_helpfulTriangle_44 : decode cX4_helpfulTriangle 44 = .ok (.ifCond .eq 29, 3) := by decide +kernel
theorem dX4_helpfulTriangle_47 : decode cX4_helpfulTriangle 47 = .ok (.aload_n 0, 1) := by decide +kernel
theorem dX4_helpfulTriangle_48 : decode cX4_helpfulTriangle 48 = .ok (.aload_n 1, 1) := by decide +kernel
theorem dX4_helpfulTriangle_49 : decode cX4_helpfulTriangle 49 = .ok (.iload_n 2, 1) := by decide +kernel
theorem dX4_helpfulTriangle_50 : decode cX4_helpfulTriangle 50 = .ok (.iload_n 3, 1) := by decide +kernel
theorem dX4_helpfulTriangle_51 : decode cX4_helpfulTriangle 51 = .ok (.iload 4, 2) := by decide +kernel
theorem dX4_helpfulTriangle_53 : decode cX4_helpfulTriangle 53 = .ok (.invokestatic 34, 3) := by decide +kernel
theorem dX4_helpfulTriangle_56 : decode cX4_helpfulTriangle 56 = .ok (.iconst 2, 1) := by decide +kernel
theorem dX4_helpfulTriangle_57 : decode cX4_helpfulTriangle 57 = .ok (.if_icmp .lt 16, 3) := by decide +kernel
theorem dX4_helpfulTriangle_60 : decode cX4_helpfulTriangle 60 = .ok (.bipush 100, 2) := by decide +kernel
theorem dX4_helpfulTriangle_62 : decode cX4_helpfulTriangle 62 = .ok (.iload_n 2, 1) := by decide +kernel
theorem dX4_helpfulTriangle_63 : decode cX4_helpfulTriangle 63 = .ok (.imul, 1) := by decide +kernel
theorem dX4_helpfulTriangle_64 : decode cX4_helpfulTriangle 64 = .ok (.bipush 10, 2) := by decide +kernel
theorem dX4_helpfulTriangle_66 : decode cX4_helpfulTriangle 66 = .ok (.iload_n 3, 1) := by decide +kernel
theorem dX4_helpfulTriangle_67 : decode cX4_helpfulTriangle 67 = .ok (.imul, 1) := by decide +kernel
theorem dX4_helpfulTriangle_68 : decode cX4_helpfulTriangle 68 = .ok (.iadd, 1) := by decide +kernel
theorem dX4_helpfulTriangle_69 : decode cX4_helpfulTriangle 69 = .ok (.iload 4, 2) := by decide +kernel
theorem dX4_helpfulTriangle_71 : decode cX4_helpfulTriangle 71 = .ok (.iadd, 1) := by decide +kernel
theorem dX4_helpfulTriangle_72 : decode cX4_helpfulTriangle 72 = .ok (.ireturn, 1) := by decide +kernel
theorem dX4_helpfulTriangle_73 : decode cX4_helpfulTriangle 73 = .ok (.iinc 4 1, 3) := by decide +kernel
theorem dX4_helpfulTriangle_76 : decode cX4_helpfulTriangle 76 = .ok (.goto (-49), 3) := by decide +kernel
theorem dX4_helpfulTriangle_79 : decode cX4_helpfulTriangle 79 = .ok (.iinc 3 1, 3) := by decide +kernel
theorem dX4_helpfulTriangle_82 : decode cX4_helpfulTriangle 82 = .ok (.goto (-68), 3) := by decide +kernel
theorem dX4_helpfulTriangle_85 : decode cX4_helpfulTriangle 85 = .ok (.iinc 2 1, 3) := by decide +kernel
theorem dX4_helpfulTriangle_88 : decode cX4_helpfulTriangle 88 = .ok (.goto (-86), 3) := by decide +kernel
theorem dX4_helpfulTriangle_91 : decode cX4_helpfulTriangle 91 = .ok (.bipush (-4), 2) := by decide +kernel
theorem dX4_helpfulTriangle_93 : decode cX4_helpfulTriangle 93 = .ok (.ireturn, 1) := by decide +kernel
theorem dX4_differingAmong_0 : decode cX4_differingAmong 0 = .ok (.aload_n 0, 1) := by decide +kernel
theorem dX4_differingAmong_1 : decode cX4_differingAmong 1 = .ok (.aload_n 1, 1) := by decide +kernel
theorem dX4_differingAmong_2 : decode cX4_differingAmong 2 = .ok (.iload_n 2, 1) := by decide +kernel
theorem dX4_differingAmong_3 : decode cX4_differingAmong 3 = .ok (.iload_n 3, 1) := by decide +kernel
theorem dX4_differingAmong_4 : decode cX4_differingAmong 4 = .ok (.invokestatic 38, 3) := by decide +kernel
theorem dX4_differingAmong_7 : decode cX4_differingAmong 7 = .ok (.aload_n 0, 1) := by decide +kernel
theorem dX4_differingAmong_8 : decode cX4_differingAmong 8 = .ok (.aload_n 1, 1) := by decide +kernel
theorem dX4_differingAmong_9 : decode cX4_differingAmong 9 = .ok (.iload_n 3, 1) := by decide +kernel
theorem dX4_differingAmong_10 : decode cX4_differingAmong 10 = .ok (.iload 4, 2) := by decide +kernel
theorem dX4_differingAmong_12 : decode cX4_differingAmong 12 = .ok (.invokestatic 38, 3) := by decide +kernel
theorem dX4_differingAmong_15 : decode cX4_differingAmong 15 = .ok (.iadd, 1) := by decide +kernel
theorem dX4_differingAmong_16 : decode cX4_differingAmong 16 = .ok (.aload_n 0, 1) := by decide +kernel
theorem dX4_differingAmong_17 : decode cX4_differingAmong 17 = .ok (.aload_n 1, 1) := by decide +kernel
theorem dX4_differingAmong_18 : decode cX4_differingAmong 18 = .ok (.iload_n 2, 1) := by decide +kernel
theorem dX4_differingAmong_19 : decode cX4_differingAmong 19 = .ok (.iload 4, 2) := by decide +kernel
theorem dX4_differingAmong_21 : decode cX4_differingAmong 21 = .ok (.invokestatic 38, 3) := by decide +kernel
theorem dX4_differingAmong_24 : decode cX4_differingAmong 24 = .ok (.iadd, 1) := by decide +kernel
theorem dX4_differingAmong_25 : decode cX4_differingAmong 25 = .ok (.ireturn, 1) := by decide +kernel
theorem dX4_differs_0 : decode cX4_differs 0 = .ok (.aload_n 0, 1) := by decide +kernel
theorem dX4_differs_1 : decode cX4_differs 1 = .ok (.iload_n 2, 1) := by decide +kernel
theorem dX4_differs_2 : decode cX4_differs 2 = .ok (.iload_n 3, 1) := by decide +kernel
theorem dX4_differs_3 : decode cX4_differs 3 = .ok (.invokevirtual 42, 3) := by decide +kernel
theorem dX4_differs_6 : decode cX4_differs 6 = .ok (.aload_n 1, 1) := by decide +kernel
theorem dX4_differs_7 : decode cX4_differs 7 = .ok (.iload_n 2, 1) := by decide +kernel
theorem dX4_differs_8 : decode cX4_differs 8 = .ok (.iload_n 3, 1) := by decide +kernel
theorem dX4_differs_9 : decode cX4_differs 9 = .ok (.invokevirtual 42, 3) := by decide +kernel
theorem dX4_differs_12 : decode cX4_differs 12 = .ok (.if_icmp .ne 7, 3) := by decide +kernel
theorem dX4_differs_15 : decode cX4_differs 15 = .ok (.iconst 0, 1) := by decide +kernel
theorem dX4_differs_16 : decode cX4_differs 16 = .ok (.goto 4, 3) := by decide +kernel
theorem dX4_differs_19 : decode cX4_differs 19 = .ok (.iconst 1, 1) := by decide +kernel
theorem dX4_differs_20 : decode cX4_differs 20 = .ok (.ireturn, 1) := by decide +kernel
theorem dX4_areAlike_0 : decode cX4_areAlike 0 = .ok (.aload_n 1, 1) := by decide +kernel
theorem dX4_areAlike_1 : decode cX4_areAlike 1 = .ok (.invokevirtual 15, 3) := by decide +kernel
theorem dX4_areAlike_4 : decode cX4_areAlike 4 = .ok (.aload_n 2, 1) := by decide +kernel
theorem dX4_areAlike_5 : decode cX4_areAlike 5 = .ok (.invokevirtual 15, 3) := by decide +kernel
theorem dX4_areAlike_8 : decode cX4_areAlike 8 = .ok (.if_icmp .ne 24, 3) := by decide +kernel
theorem dX4_areAlike_11 : decode cX4_areAlike 11 = .ok (.aload_n 1, 1) := by decide +kernel
theorem dX4_areAlike_12 : decode cX4_areAlike 12 = .ok (.aload_n 2, 1) := by decide +kernel
theorem dX4_areAlike_13 : decode cX4_areAlike 13 = .ok (.aload_n 0, 1) := by decide +kernel
theorem dX4_areAlike_14 : decode cX4_areAlike 14 = .ok (.getfield 9, 3) := by decide +kernel
theorem dX4_areAlike_17 : decode cX4_areAlike 17 = .ok (.aload_n 2, 1) := by decide +kernel
theorem dX4_areAlike_18 : decode cX4_areAlike 18 = .ok (.invokevirtual 46, 3) := by decide +kernel
theorem dX4_areAlike_21 : decode cX4_areAlike 21 = .ok (.iconst 0, 1) := by decide +kernel
theorem dX4_areAlike_22 : decode cX4_areAlike 22 = .ok (.invokestatic 49, 3) := by decide +kernel
theorem dX4_areAlike_25 : decode cX4_areAlike 25 = .ok (.ifCond .eq 7, 3) := by decide +kernel
theorem dX4_areAlike_28 : decode cX4_areAlike 28 = .ok (.iconst 1, 1) := by decide +kernel
theorem dX4_areAlike_29 : decode cX4_areAlike 29 = .ok (.goto 4, 3) := by decide +kernel
theorem dX4_areAlike_32 : decode cX4_areAlike 32 = .ok (.iconst 0, 1) := by decide +kernel
theorem dX4_areAlike_33 : decode cX4_areAlike 33 = .ok (.ireturn, 1) := by decide +kernel
theorem dX4_assign_0 : decode cX4_assign 0 = .ok (.iload 4, 2) := by decide +kernel
theorem dX4_assign_2 : decode cX4_assign 2 = .ok (.ifCond .lt 19, 3) := by decide +kernel
theorem dX4_assign_5 : decode cX4_assign 5 = .ok (.iload 4, 2) := by decide +kernel
theorem dX4_assign_7 : decode cX4_assign 7 = .ok (.aload_n 0, 1) := by decide +kernel
theorem dX4_assign_8 : decode cX4_assign 8 = .ok (.invokevirtual 15, 3) := by decide +kernel
theorem dX4_assign_11 : decode cX4_assign 11 = .ok (.if_icmp .ge 10, 3) := by decide +kernel
theorem dX4_assign_14 : decode cX4_assign 14 = .ok (.iload 4, 2) := by decide +kernel
theorem dX4_assign_16 : decode cX4_assign 16 = .ok (.aload_n 2, 1) := by decide +kernel
theorem dX4_assign_17 : decode cX4_assign 17 = .ok (.arraylength, 1) := by decide +kernel
theorem dX4_assign_18 : decode cX4_assign 18 = .ok (.if_icmp .lt 18, 3) := by decide +kernel
theorem dX4_assign_21 : decode cX4_assign 21 = .ok (.iload 4, 2) := by decide +kernel
theorem dX4_assign_23 : decode cX4_assign 23 = .ok (.aload_n 0, 1) := by decide +kernel
theorem dX4_assign_24 : decode cX4_assign 24 = .ok (.invokevirtual 15, 3) := by decide +kernel
theorem dX4_assign_27 : decode cX4_assign 27 = .ok (.if_icmp .ne 7, 3) := by decide +kernel
theorem dX4_assign_30 : decode cX4_assign 30 = .ok (.iconst 1, 1) := by decide +kernel
theorem dX4_assign_31 : decode cX4_assign 31 = .ok (.goto 4, 3) := by decide +kernel
theorem dX4_assign_34 : decode cX4_assign 34 = .ok (.iconst 0, 1) := by decide +kernel
theorem dX4_assign_35 : decode cX4_assign 35 = .ok (.ireturn, 1) := by decide +kernel
theorem dX4_assign_36 : decode cX4_assign 36 = .ok (.iconst 0, 1) := by decide +kernel
theorem dX4_assign_37 : decode cX4_assign 37 = .ok (.istore 5, 2) := by decide +kernel
theorem dX4_assign_39 : decode cX4_assign 39 = .ok (.iload 5, 2) := by decide +kernel
theorem dX4_assign_41 : decode cX4_assign 41 = .ok (.aload_n 1, 1) := by decide +kernel
theorem dX4_assign_42 : decode cX4_assign 42 = .ok (.invokevirtual 15, 3) := by decide +kernel
theorem dX4_assign_45 : decode cX4_assign 45 = .ok (.if_icmp .ge 58, 3) := by decide +kernel
theorem dX4_assign_48 : decode cX4_assign 48 = .ok (.iload_n 3, 1) := by decide +kernel
theorem dX4_assign_49 : decode cX4_assign 49 = .ok (.iload 5, 2) := by decide +kernel
theorem dX4_assign_51 : decode cX4_assign 51 = .ok (.invokestatic 53, 3) := by decide +kernel
theorem dX4_assign_54 : decode cX4_assign 54 = .ok (.ifCond .eq 43, 3) := by decide +kernel
theorem dX4_assign_57 : decode cX4_assign 57 = .ok (.aload_n 0, 1) := by decide +kernel
theorem dX4_assign_58 : decode cX4_assign 58 = .ok (.aload_n 1, 1) := by decide +kernel
theorem dX4_assign_59 : decode cX4_assign 59 = .ok (.aload_n 2, 1) := by decide +kernel
theorem dX4_assign_60 : decode cX4_assign 60 = .ok (.iload 4, 2) := by decide +kernel
theorem dX4_assign_62 : decode cX4_assign 62 = .ok (.iload 5, 2) := by decide +kernel
theorem dX4_assign_64 : decode cX4_assign 64 = .ok (.invokestatic 56, 3) := by decide +kernel
theorem dX4_assign_67 : decode cX4_assign 67 = .ok (.ifCond .eq 30, 3) := by decide +kernel
theorem dX4_assign_70 : decode cX4_assign 70 = .ok (.aload_n 2, 1) := by decide +kernel
theorem dX4_assign_71 : decode cX4_assign 71 = .ok (.iload 4, 2) := by decide +kernel
theorem dX4_assign_73 : decode cX4_assign 73 = .ok (.iload 5, 2) := by decide +kernel
theorem dX4_assign_75 : decode cX4_assign 75 = .ok (.iastore, 1) := by decide +kernel
theorem dX4_assign_76 : decode cX4_assign 76 = .ok (.aload_n 0, 1) := by decide +kernel
theorem dX4_assign_77 : decode cX4_assign 77 = .ok (.aload_n 1, 1) := by decide +kernel
theorem dX4_assign_78 : decode cX4_assign 78 = .ok (.aload_n 2, 1) := by decide +kernel
theorem dX4_assign_79 : decode cX4_assign 79 = .ok (.iload_n 3, 1) := by decide +kernel
theorem dX4_assign_80 : decode cX4_assign 80 = .ok (.iload 5, 2) := by decide +kernel
theorem dX4_assign_82 : decode cX4_assign 82 = .ok (.invokestatic 59, 3) := by decide +kernel
theorem dX4_assign_85 : decode cX4_assign 85 = .ok (.iload 4, 2) := by decide +kernel
theorem dX4_assign_87 : decode cX4_assign 87 = .ok (.iconst 1, 1) := by decide +kernel
theorem dX4_assign_88 : decode cX4_assign 88 = .ok (.iadd, 1) := by decide +kernel
theorem dX4_assign_89 : decode cX4_assign 89 = .ok (.invokestatic 49, 3) := by decide +kernel
theorem dX4_assign_92 : decode cX4_assign 92 = .ok (.ifCond .eq 5, 3) := by decide +kernel
theorem dX4_assign_95 : decode cX4_assign 95 = .ok (.iconst 1, 1) := by decide +kernel
theorem dX4_assign_96 : decode cX4_assign 96 = .ok (.ireturn, 1) := by decide +kernel
theorem dX4_assign_97 : decode cX4_assign 97 = .ok (.iinc 5 1, 3) := by decide +kernel
theorem dX4_assign_100 : decode cX4_assign 100 = .ok (.goto (-61), 3) := by decide +kernel
theorem dX4_assign_103 : decode cX4_assign 103 = .ok (.iconst 0, 1) := by decide +kernel
theorem dX4_assign_104 : decode cX4_assign 104 = .ok (.ireturn, 1) := by decide +kernel
theorem dX4_corresponds_0 : decode cX4_corresponds 0 = .ok (.aload_n 0, 1) := by decide +kernel
theorem dX4_corresponds_1 : decode cX4_corresponds 1 = .ok (.iload_n 3, 1) := by decide +kernel
theorem dX4_corresponds_2 : decode cX4_corresponds 2 = .ok (.invokevirtual 63, 3) := by decide +kernel
theorem dX4_corresponds_5 : decode cX4_corresponds 5 = .ok (.aload_n 1, 1) := by decide +kernel
theorem dX4_corresponds_6 : decode cX4_corresponds 6 = .ok (.iload 4, 2) := by decide +kernel
theorem dX4_corresponds_8 : decode cX4_corresponds 8 = .ok (.invokevirtual 63, 3) := by decide +kernel
theorem dX4_corresponds_11 : decode cX4_corresponds 11 = .ok (.if_icmp .eq 5, 3) := by decide +kernel
theorem dX4_corresponds_14 : decode cX4_corresponds 14 = .ok (.iconst 0, 1) := by decide +kernel
theorem dX4_corresponds_15 : decode cX4_corresponds 15 = .ok (.ireturn, 1) := by decide +kernel
theorem dX4_corresponds_16 : decode cX4_corresponds 16 = .ok (.iconst 0, 1) := by decide +kernel
theorem dX4_corresponds_17 : decode cX4_corresponds 17 = .ok (.istore 5, 2) := by decide +kernel
theorem dX4_corresponds_19 : decode cX4_corresponds 19 = .ok (.iload 5, 2) := by decide +kernel
theorem dX4_corresponds_21 : decode cX4_corresponds 21 = .ok (.iload_n 3, 1) := by decide +kernel
theorem dX4_corresponds_22 : decode cX4_corresponds 22 = .ok (.if_icmp .ge 38, 3) := by decide +kernel
theorem dX4_corresponds_25 : decode cX4_corresponds 25 = .ok (.iload 5, 2) := by decide +kernel
theorem dX4_corresponds_27 : decode cX4_corresponds 27 = .ok (.aload_n 2, 1) := by decide +kernel
theorem dX4_corresponds_28 : decode cX4_corresponds 28 = .ok (.arraylength, 1) := by decide +kernel
theorem dX4_corresponds_29 : decode cX4_corresponds 29 = .ok (.if_icmp .ge 31, 3) := by decide +kernel
theorem dX4_corresponds_32 : decode cX4_corresponds 32 = .ok (.aload_n 0, 1) := by decide +kernel
theorem dX4_corresponds_33 : decode cX4_corresponds 33 = .ok (.iload_n 3, 1) := by decide +kernel
theorem dX4_corresponds_34 : decode cX4_corresponds 34 = .ok (.iload 5, 2) := by decide +kernel
theorem dX4_corresponds_36 : decode cX4_corresponds 36 = .ok (.invokevirtual 42, 3) := by decide +kernel
theorem dX4_corresponds_39 : decode cX4_corresponds 39 = .ok (.aload_n 1, 1) := by decide +kernel
theorem dX4_corresponds_40 : decode cX4_corresponds 40 = .ok (.iload 4, 2) := by decide +kernel
theorem dX4_corresponds_42 : decode cX4_corresponds 42 = .ok (.aload_n 2, 1) := by decide +kernel
theorem dX4_corresponds_43 : decode cX4_corresponds 43 = .ok (.iload 5, 2) := by decide +kernel
theorem dX4_corresponds_45 : decode cX4_corresponds 45 = .ok (.iaload, 1) := by decide +kernel
theorem dX4_corresponds_46 : decode cX4_corresponds 46 = .ok (.invokevirtual 42, 3) := by decide +kernel
theorem dX4_corresponds_49 : decode cX4_corresponds 49 = .ok (.if_icmp .eq 5, 3) := by decide +kernel
theorem dX4_corresponds_52 : decode cX4_corresponds 52 = .ok (.iconst 0, 1) := by decide +kernel
theorem dX4_corresponds_53 : decode cX4_corresponds 53 = .ok (.ireturn, 1) := by decide +kernel
theorem dX4_corresponds_54 : decode cX4_corresponds 54 = .ok (.iinc 5 1, 3) := by decide +kernel
theorem dX4_corresponds_57 : decode cX4_corresponds 57 = .ok (.goto (-38), 3) := by decide +kernel
theorem dX4_corresponds_60 : decode cX4_corresponds 60 = .ok (.iconst 1, 1) := by decide +kernel
theorem dX4_corresponds_61 : decode cX4_corresponds 61 = .ok (.ireturn, 1) := by decide +kernel
theorem dX5_init_0 : decode cX5_init 0 = .ok (.aload_n 0, 1) := by decide +kernel
theorem dX5_init_1 : decode cX5_init 1 = .ok (.invokespecial 3, 3) := by decide +kernel
theorem dX5_init_4 : decode cX5_init 4 = .ok (.aload_n 0, 1) := by decide +kernel
theorem dX5_init_5 : decode cX5_init 5 = .ok (.sipush 1024, 3) := by decide +kernel
theorem dX5_init_8 : decode cX5_init 8 = .ok (.newarray .int, 2) := by decide +kernel
theorem dX5_init_10 : decode cX5_init 10 = .ok (.putfield 9, 3) := by decide +kernel
theorem dX5_init_13 : decode cX5_init 13 = .ok (.aload_n 0, 1) := by decide +kernel
theorem dX5_init_14 : decode cX5_init 14 = .ok (.sipush 320, 3) := by decide +kernel
theorem dX5_init_17 : decode cX5_init 17 = .ok (.newarray .int, 2) := by decide +kernel
theorem dX5_init_19 : decode cX5_init 19 = .ok (.putfield 15, 3) := by decide +kernel
theorem dX5_init_22 : decode cX5_init 22 = .ok (.aload_n 0, 1) := by decide +kernel
theorem dX5_init_23 : decode cX5_init 23 = .ok (.sipush 320, 3) := by decide +kernel
theorem dX5_init_26 : decode cX5_init 26 = .ok (.newarray .int, 2) := by decide +kernel
theorem dX5_init_28 : decode cX5_init 28 = .ok (.putfield 18, 3) := by decide +kernel
theorem dX5_init_31 : decode cX5_init 31 = .ok (.return_, 1) := by decide +kernel
theorem dX5_learn_0 : decode cX5_learn 0 = .ok (.aload_n 0, 1) := by decide +kernel
theorem dX5_learn_1 : decode cX5_learn 1 = .ok (.getfield 21, 3) := by decide +kernel
theorem dX5_learn_4 : decode cX5_learn 4 = .ok (.aload_n 1, 1) := by decide +kernel
theorem dX5_learn_5 : decode cX5_learn 5 = .ok (.invokevirtual 25, 3) := by decide +kernel
theorem dX5_learn_8 : decode cX5_learn 8 = .ok (.if_icmp .ne 4, 3) := by decide +kernel
theorem dX5_learn_11 : decode cX5_learn 11 = .ok (.return_, 1) := by decide +kernel
theorem dX5_learn_12 : decode cX5_learn 12 = .ok (.aload_n 0, 1) := by decide +kernel
theorem dX5_learn_13 : decode cX5_learn 13 = .ok (.aload_n 1, 1) := by decide +kernel
theorem dX5_learn_14 : decode cX5_learn 14 = .ok (.invokevirtual 25, 3) := by decide +kernel
theorem dX5_learn_17 : decode cX5_learn 17 = .ok (.putfield 21, 3) := by decide +kernel
theorem dX5_learn_20 : decode cX5_learn 20 = .ok (.iconst 0, 1) := by decide +kernel
theorem dX5_learn_21 : decode cX5_learn 21 = .ok (.istore_n 2, 1) := by decide +kernel
theorem dX5_learn_22 : decode cX5_learn 22 = .ok (.iload_n 2, 1) := by decide +kernel
theorem dX5_learn_23 : decode cX5_learn 23 = .ok (.aload_n 1, 1) := by decide +kernel
theorem dX5_learn_24 : decode cX5_learn 24 = .ok (.invokevirtual 31, 3) := by decide +kernel
theorem dX5_learn_27 : decode cX5_learn 27 = .ok (.if_icmp .ge 30, 3) := by decide +kernel
theorem dX5_learn_30 : decode cX5_learn 30 = .ok (.iconst 1, 1) := by decide +kernel
theorem dX5_learn_31 : decode cX5_learn 31 = .ok (.istore_n 3, 1) := by decide +kernel
theorem dX5_learn_32 : decode cX5_learn 32 = .ok (.iload_n 3, 1) := by decide +kernel
theorem dX5_learn_33 : decode cX5_learn 33 = .ok (.bipush 32, 2) := by decide +kernel
theorem dX5_learn_35 : decode cX5_learn 35 = .ok (.if_icmp .ge 16, 3) := by decide +kernel
theorem dX5_learn_38 : decode cX5_learn 38 = .ok (.aload_n 0, 1) := by decide +kernel
theorem dX5_learn_39 : decode cX5_learn 39 = .ok (.aload_n 1, 1) := by decide +kernel
theorem dX5_learn_40 : decode cX5_learn 40 = .ok (.iload_n 2, 1) := by decide +kernel
theorem dX5_learn_41 : decode cX5_learn 41 = .ok (.iload_n 3, 1) := by decide +kernel
theorem dX5_learn_42 : decode cX5_learn 42 = .ok (.invokevirtual 34, 3) := by decide +kernel
theorem dX5_learn_45 : decode cX5_learn 45 = .ok (.iinc 3 1, 3) := by decide +kernel
theorem dX5_learn_48 : decode cX5_learn 48 = .ok (.goto (-16), 3) := by decide +kernel
theorem dX5_learn_51 : decode cX5_learn 51 = .ok (.iinc 2 1, 3) := by decide +kernel
theorem dX5_learn_54 : decode cX5_learn 54 = .ok (.goto (-32), 3) := by decide +kernel
theorem dX5_learn_57 : decode cX5_learn 57 = .ok (.aload_n 1, 1) := by decide +kernel
theorem dX5_learn_58 : decode cX5_learn 58 = .ok (.invokevirtual 38, 3) := by decide +kernel
theorem dX5_learn_61 : decode cX5_learn 61 = .ok (.istore_n 2, 1) := by decide +kernel
theorem dX5_learn_62 : decode cX5_learn 62 = .ok (.iconst 1, 1) := by decide +kernel
theorem dX5_learn_63 : decode cX5_learn 63 = .ok (.istore_n 3, 1) := by decide +kernel
theorem dX5_learn_64 : decode cX5_learn 64 = .ok (.iload_n 3, 1) := by decide +kernel
theorem dX5_learn_65 : decode cX5_learn 65 = .ok (.iload_n 2, 1) := by decide +kernel
theorem dX5_learn_66 : decode cX5_learn 66 = .ok (.if_icmp .gt 33, 3) := by decide +kernel
theorem dX5_learn_69 : decode cX5_learn 69 = .ok (.iload_n 3, 1) := by decide +kernel
theorem dX5_learn_70 : decode cX5_learn 70 = .ok (.aload_n 0, 1) := by decide +kernel
theorem dX5_learn_71 : decode cX5_learn 71 = .ok (.getfield 9, 3) := by decide +kernel
theorem dX5_learn_74 : decode cX5_learn 74 = .ok (.arraylength, 1) := by decide +kernel
theorem dX5_learn_75 : decode cX5_learn 75 = .ok (.if_icmp .ge 24, 3) := by decide +kernel
theorem dX5_learn_78 : decode cX5_learn 78 = .ok (.aload_n 0, 1) := by decide +kernel
theorem dX5_learn_79 : decode cX5_learn 79 = .ok (.getfield 9, 3) := by decide +kernel
theorem dX5_learn_82 : decode cX5_learn 82 = .ok (.iload_n 3, 1) := by decide +kernel
theorem dX5_learn_83 : decode cX5_learn 83 = .ok (.aload_n 0, 1) := by decide +kernel
theorem dX5_learn_84 : decode cX5_learn 84 = .ok (.aload_n 1, 1) := by decide +kernel
theorem dX5_learn_85 : decode cX5_learn 85 = .ok (.invokevirtual 31, 3) := by decide +kernel
theorem dX5_learn_88 : decode cX5_learn 88 = .ok (.iload_n 3, 1) := by decide +kernel
theorem dX5_learn_89 : decode cX5_learn 89 = .ok (.invokevirtual 41, 3) := by decide +kernel
theorem dX5_learn_92 : decode cX5_learn 92 = .ok (.iastore, 1) := by decide +kernel
theorem dX5_learn_93 : decode cX5_learn 93 = .ok (.iinc 3 1, 3) := by decide +kernel
theorem dX5_learn_96 : decode cX5_learn 96 = .ok (.goto (-32), 3) := by decide +kernel
theorem dX5_learn_99 : decode cX5_learn 99 = .ok (.return_, 1) := by decide +kernel
theorem dX5_sumCosts_0 : decode cX5_sumCosts 0 = .ok (.iload_n 2, 1) := by decide +kernel
theorem dX5_sumCosts_1 : decode cX5_sumCosts 1 = .ok (.iconst 5, 1) := by decide +kernel
theorem dX5_sumCosts_2 : decode cX5_sumCosts 2 = .ok (.ishl, 1) := by decide +kernel
theorem dX5_sumCosts_3 : decode cX5_sumCosts 3 = .ok (.iload_n 3, 1) := by decide +kernel
theorem dX5_sumCosts_4 : decode cX5_sumCosts 4 = .ok (.iadd, 1) := by decide +kernel
theorem dX5_sumCosts_5 : decode cX5_sumCosts 5 = .ok (.istore 4, 2) := by decide +kernel
theorem dX5_sumCosts_7 : decode cX5_sumCosts 7 = .ok (.iload_n 2, 1) := by decide +kernel
theorem dX5_sumCosts_8 : decode cX5_sumCosts 8 = .ok (.iconst 5, 1) := by decide +kernel
theorem dX5_sumCosts_9 : decode cX5_sumCosts 9 = .ok (.ishl, 1) := by decide +kernel
theorem dX5_sumCosts_10 : decode cX5_sumCosts 10 = .ok (.iload_n 3, 1) := by decide +kernel
theorem dX5_sumCosts_11 : decode cX5_sumCosts 11 = .ok (.iload_n 3, 1) := by decide +kernel
theorem dX5_sumCosts_12 : decode cX5_sumCosts 12 = .ok (.iconst 1, 1) := by decide +kernel
theorem dX5_sumCosts_13 : decode cX5_sumCosts 13 = .ok (.isub, 1) := by decide +kernel
theorem dX5_sumCosts_14 : decode cX5_sumCosts 14 = .ok (.iand, 1) := by decide +kernel
theorem dX5_sumCosts_15 : decode cX5_sumCosts 15 = .ok (.iadd, 1) := by decide +kernel
theorem dX5_sumCosts_16 : decode cX5_sumCosts 16 = .ok (.istore 5, 2) := by decide +kernel
theorem dX5_sumCosts_18 : decode cX5_sumCosts 18 = .ok (.iload_n 3, 1) := by decide +kernel
theorem dX5_sumCosts_19 : decode cX5_sumCosts 19 = .ok (.invokestatic 45, 3) := by decide +kernel
theorem dX5_sumCosts_22 : decode cX5_sumCosts 22 = .ok (.istore 6, 2) := by decide +kernel
theorem dX5_sumCosts_24 : decode cX5_sumCosts 24 = .ok (.iload 5, 2) := by decide +kernel
theorem dX5_sumCosts_26 : decode cX5_sumCosts 26 = .ok (.ifCond .lt 76, 3) := by decide +kernel
theorem dX5_sumCosts_29 : decode cX5_sumCosts 29 = .ok (.iload 5, 2) := by decide +kernel
theorem dX5_sumCosts_31 : decode cX5_sumCosts 31 = .ok (.iload 4, 2) := by decide +kernel
theorem dX5_sumCosts_33 : decode cX5_sumCosts 33 = .ok (.if_icmp .ge 69, 3) := by decide +kernel
theorem dX5_sumCosts_36 : decode cX5_sumCosts 36 = .ok (.iload 4, 2) := by decide +kernel
theorem dX5_sumCosts_38 : decode cX5_sumCosts 38 = .ok (.aload_n 0, 1) := by decide +kernel
theorem dX5_sumCosts_39 : decode cX5_sumCosts 39 = .ok (.getfield 15, 3) := by decide +kernel
theorem dX5_sumCosts_42 : decode cX5_sumCosts 42 = .ok (.arraylength, 1) := by decide +kernel
theorem dX5_sumCosts_43 : decode cX5_sumCosts 43 = .ok (.if_icmp .ge 59, 3) := by decide +kernel
theorem dX5_sumCosts_46 : decode cX5_sumCosts 46 = .ok (.iload 4, 2) := by decide +kernel
theorem dX5_sumCosts_48 : decode cX5_sumCosts 48 = .ok (.aload_n 0, 1) := by decide +kernel
theorem dX5_sumCosts_49 : decode cX5_sumCosts 49 = .ok (.getfield 18, 3) := by decide +kernel
theorem dX5_sumCosts_52 : decode cX5_sumCosts 52 = .ok (.arraylength, 1) := by decide +kernel
theorem dX5_sumCosts_53 : decode cX5_sumCosts 53 = .ok (.if_icmp .ge 49, 3) := by decide +kernel
theorem dX5_sumCosts_56 : decode cX5_sumCosts 56 = .ok (.aload_n 0, 1) := by decide +kernel
theorem dX5_sumCosts_57 : decode cX5_sumCosts 57 = .ok (.getfield 15, 3) := by decide +kernel
theorem dX5_sumCosts_60 : decode cX5_sumCosts 60 = .ok (.iload 4, 2) := by decide +kernel
theorem dX5_sumCosts_62 : decode cX5_sumCosts 62 = .ok (.aload_n 0, 1) := by decide +kernel
theorem dX5_sumCosts_63 : decode cX5_sumCosts 63 = .ok (.getfield 15, 3) := by decide +kernel
theorem dX5_sumCosts_66 : decode cX5_sumCosts 66 = .ok (.iload 5, 2) := by decide +kernel
theorem dX5_sumCosts_68 : decode cX5_sumCosts 68 = .ok (.iaload, 1) := by decide +kernel
theorem dX5_sumCosts_69 : decode cX5_sumCosts 69 = .ok (.aload_n 1, 1) := by decide +kernel
theorem dX5_sumCosts_70 : decode cX5_sumCosts 70 = .ok (.iload_n 2, 1) := by decide +kernel
theorem dX5_sumCosts_71 : decode cX5_sumCosts 71 = .ok (.iload 6, 2) := by decide +kernel
theorem dX5_sumCosts_73 : decode cX5_sumCosts 73 = .ok (.invokevirtual 49, 3) := by decide +kernel
theorem dX5_sumCosts_76 : decode cX5_sumCosts 76 = .ok (.iadd, 1) := by decide +kernel
theorem dX5_sumCosts_77 : decode cX5_sumCosts 77 = .ok (.iastore, 1) := by decide +kernel
theorem dX5_sumCosts_78 : decode cX5_sumCosts 78 = .ok (.aload_n 0, 1) := by decide +kernel
theorem dX5_sumCosts_79 : decode cX5_sumCosts 79 = .ok (.getfield 18, 3) := by decide +kernel
theorem dX5_sumCosts_82 : decode cX5_sumCosts 82 = .ok (.iload 4, 2) := by decide +kernel
theorem dX5_sumCosts_84 : decode cX5_sumCosts 84 = .ok (.aload_n 0, 1) := by decide +kernel
theorem dX5_sumCosts_85 : decode cX5_sumCosts 85 = .ok (.getfield 18, 3) := by decide +kernel
theorem dX5_sumCosts_88 : decode cX5_sumCosts 88 = .ok (.iload 5, 2) := by decide +kernel
theorem dX5_sumCosts_90 : decode cX5_sumCosts 90 = .ok (.iaload, 1) := by decide +kernel
theorem dX5_sumCosts_91 : decode cX5_sumCosts 91 = .ok (.aload_n 1, 1) := by decide +kernel
theorem dX5_sumCosts_92 : decode cX5_sumCosts 92 = .ok (.iload_n 2, 1) := by decide +kernel
theorem dX5_sumCosts_93 : decode cX5_sumCosts 93 = .ok (.iload 6, 2) := by decide +kernel
theorem dX5_sumCosts_95 : decode cX5_sumCosts 95 = .ok (.iconst 5, 1) := by decide +kernel
theorem dX5_sumCosts_96 : decode cX5_sumCosts 96 = .ok (.iadd, 1) := by decide +kernel
theorem dX5_sumCosts_97 : decode cX5_sumCosts 97 = .ok (.invokevirtual 49, 3) := by decide +kernel
theorem dX5_sumCosts_100 : decode cX5_sumCosts 100 = .ok (.iadd, 1) := by decide +kernel
theorem dX5_sumCosts_101 : decode cX5_sumCosts 101 = .ok (.iastore, 1) := by decide +kernel
theorem dX5_sumCosts_102 : decode cX5_sumCosts 102 = .ok (.return_, 1) := by decide +kernel
theorem dX5_leastWithin_0 : decode cX5_leastWithin 0 = .ok (.aload_n 0, 1) := by decide +kernel
theorem dX5_leastWithin_1 : decode cX5_leastWithin 1 = .ok (.iload_n 2, 1) := by decide +kernel
theorem dX5_leastWithin_2 : decode cX5_leastWithin 2 = .ok (.iload_n 2, 1) := by decide +kernel
theorem dX5_leastWithin_3 : decode cX5_leastWithin 3 = .ok (.invokestatic 45, 3) := by decide +kernel
theorem dX5_leastWithin_6 : decode cX5_leastWithin 6 = .ok (.invokevirtual 52, 3) := by decide +kernel
theorem dX5_leastWithin_9 : decode cX5_leastWithin 9 = .ok (.istore_n 3, 1) := by decide +kernel
theorem dX5_leastWithin_10 : decode cX5_leastWithin 10 = .ok (.iconst 0, 1) := by decide +kernel
theorem dX5_leastWithin_11 : decode cX5_leastWithin 11 = .ok (.istore 4, 2) := by decide +kernel
theorem dX5_leastWithin_13 : decode cX5_leastWithin 13 = .ok (.iload 4, 2) := by decide +kernel
theorem dX5_leastWithin_15 : decode cX5_leastWithin 15 = .ok (.iload_n 1, 1) := by decide +kernel
theorem dX5_leastWithin_16 : decode cX5_leastWithin 16 = .ok (.if_icmp .ge 30, 3) := by decide +kernel
theorem dX5_leastWithin_19 : decode cX5_leastWithin 19 = .ok (.iload_n 2, 1) := by decide +kernel
theorem dX5_leastWithin_20 : decode cX5_leastWithin 20 = .ok (.iload 4, 2) := by decide +kernel
theorem dX5_leastWithin_22 : decode cX5_leastWithin 22 = .ok (.invokestatic 55, 3) := by decide +kernel
theorem dX5_leastWithin_25 : decode cX5_leastWithin 25 = .ok (.ifCond .eq 15, 3) := by decide +kernel
theorem dX5_leastWithin_28 : decode cX5_leastWithin 28 = .ok (.iload_n 3, 1) := by decide +kernel
theorem dX5_leastWithin_29 : decode cX5_leastWithin 29 = .ok (.aload_n 0, 1) := by decide +kernel
theorem dX5_leastWithin_30 : decode cX5_leastWithin 30 = .ok (.iload_n 2, 1) := by decide +kernel
theorem dX5_leastWithin_31 : decode cX5_leastWithin 31 = .ok (.iload 4, 2) := by decide +kernel
theorem dX5_leastWithin_33 : decode cX5_leastWithin 33 = .ok (.invokevirtual 52, 3) := by decide +kernel
theorem dX5_leastWithin_36 : decode cX5_leastWithin 36 = .ok (.invokestatic 59, 3) := by decide +kernel
theorem dX5_leastWithin_39 : decode cX5_leastWithin 39 = .ok (.istore_n 3, 1) := by decide +kernel
theorem dX5_leastWithin_40 : decode cX5_leastWithin 40 = .ok (.iinc 4 1, 3) := by decide +kernel
theorem dX5_leastWithin_43 : decode cX5_leastWithin 43 = .ok (.goto (-30), 3) := by decide +kernel
theorem dX5_leastWithin_46 : decode cX5_leastWithin 46 = .ok (.iload_n 3, 1) := by decide +kernel
theorem dX5_leastWithin_47 : decode cX5_leastWithin 47 = .ok (.ireturn, 1) := by decide +kernel
theorem dX5_costWithFirst_0 : decode cX5_costWithFirst 0 = .ok (.iload_n 2, 1) := by decide +kernel
theorem dX5_costWithFirst_1 : decode cX5_costWithFirst 1 = .ok (.iconst 5, 1) := by decide +kernel
theorem dX5_costWithFirst_2 : decode cX5_costWithFirst 2 = .ok (.ishl, 1) := by decide +kernel
theorem dX5_costWithFirst_3 : decode cX5_costWithFirst 3 = .ok (.iload_n 1, 1) := by decide +kernel
theorem dX5_costWithFirst_4 : decode cX5_costWithFirst 4 = .ok (.bipush 31, 2) := by decide +kernel
theorem dX5_costWithFirst_6 : decode cX5_costWithFirst 6 = .ok (.iand, 1) := by decide +kernel
theorem dX5_costWithFirst_7 : decode cX5_costWithFirst 7 = .ok (.iadd, 1) := by decide +kernel
theorem dX5_costWithFirst_8 : decode cX5_costWithFirst 8 = .ok (.istore_n 3, 1) := by decide +kernel
theorem dX5_costWithFirst_9 : decode cX5_costWithFirst 9 = .ok (.iload_n 2, 1) := by decide +kernel
theorem dX5_costWithFirst_10 : decode cX5_costWithFirst 10 = .ok (.iconst 5, 1) := by decide +kernel
theorem dX5_costWithFirst_11 : decode cX5_costWithFirst 11 = .ok (.ishl, 1) := by decide +kernel
theorem dX5_costWithFirst_12 : decode cX5_costWithFirst 12 = .ok (.iload_n 1, 1) := by decide +kernel
theorem dX5_costWithFirst_13 : decode cX5_costWithFirst 13 = .ok (.iconst 5, 1) := by decide +kernel
theorem dX5_costWithFirst_14 : decode cX5_costWithFirst 14 = .ok (.ishr, 1) := by decide +kernel
theorem dX5_costWithFirst_15 : decode cX5_costWithFirst 15 = .ok (.iadd, 1) := by decide +kernel
theorem dX5_costWithFirst_16 : decode cX5_costWithFirst 16 = .ok (.istore 4, 2) := by decide +kernel
theorem dX5_costWithFirst_18 : decode cX5_costWithFirst 18 = .ok (.iload_n 3, 1) := by decide +kernel
theorem dX5_costWithFirst_19 : decode cX5_costWithFirst 19 = .ok (.ifCond .lt 27, 3) := by decide +kernel
theorem dX5_costWithFirst_22 : decode cX5_costWithFirst 22 = .ok (.iload_n 3, 1) := by decide +kernel
theorem dX5_costWithFirst_23 : decode cX5_costWithFirst 23 = .ok (.aload_n 0, 1) := by decide +kernel
theorem dX5_costWithFirst_24 : decode cX5_costWithFirst 24 = .ok (.getfield 15, 3) := by decide +kernel
theorem dX5_costWithFirst_27 : decode cX5_costWithFirst 27 = .ok (.arraylength, 1) := by decide +kernel
theorem dX5_costWithFirst_28 : decode cX5_costWithFirst 28 = .ok (.if_icmp .ge 18, 3) := by decide +kernel
theorem dX5_costWithFirst_31 : decode cX5_costWithFirst 31 = .ok (.iload 4, 2) := by decide +kernel
theorem dX5_costWithFirst_33 : decode cX5_costWithFirst 33 = .ok (.ifCond .lt 13, 3) := by decide +kernel
theorem dX5_costWithFirst_36 : decode cX5_costWithFirst 36 = .ok (.iload 4, 2) := by decide +kernel
theorem dX5_costWithFirst_38 : decode cX5_costWithFirst 38 = .ok (.aload_n 0, 1) := by decide +kernel
theorem dX5_costWithFirst_39 : decode cX5_costWithFirst 39 = .ok (.getfield 18, 3) := by decide +kernel
theorem dX5_costWithFirst_42 : decode cX5_costWithFirst 42 = .ok (.arraylength, 1) := by decide +kernel
theorem dX5_costWithFirst_43 : decode cX5_costWithFirst 43 = .ok (.if_icmp .lt 5, 3) := by decide +kernel
theorem dX5_costWithFirst_46 : decode cX5_costWithFirst 46 = .ok (.iconst 0, 1) := by decide +kernel
theorem dX5_costWithFirst_47 : decode cX5_costWithFirst 47 = .ok (.ireturn, 1) := by decide +kernel
theorem dX5_costWithFirst_48 : decode cX5_costWithFirst 48 = .ok (.aload_n 0, 1) := by decide +kernel
theorem dX5_costWithFirst_49 : decode cX5_costWithFirst 49 = .ok (.iload_n 1, 1) := by decide +kernel
theorem dX5_costWithFirst_50 : decode cX5_costWithFirst 50 = .ok (.iload_n 2, 1) := by decide +kernel
theorem dX5_costWithFirst_51 : decode cX5_costWithFirst 51 = .ok (.invokestatic 64, 3) := by decide +kernel
theorem dX5_costWithFirst_54 : decode cX5_costWithFirst 54 = .ok (.invokevirtual 67, 3) := by decide +kernel
theorem dX5_costWithFirst_57 : decode cX5_costWithFirst 57 = .ok (.aload_n 0, 1) := by decide +kernel
theorem dX5_costWithFirst_58 : decode cX5_costWithFirst 58 = .ok (.getfield 15, 3) := by decide +kernel
theorem dX5_costWithFirst_61 : decode cX5_costWithFirst 61 = .ok (.iload_n 3, 1) := by decide +kernel
theorem dX5_costWithFirst_62 : decode cX5_costWithFirst 62 = .ok (.iaload, 1) := by decide +kernel
theorem dX5_costWithFirst_63 : decode cX5_costWithFirst 63 = .ok (.iadd, 1) := by decide +kernel
theorem dX5_costWithFirst_64 : decode cX5_costWithFirst 64 = .ok (.aload_n 0, 1) := by decide +kernel
theorem dX5_costWithFirst_65 : decode cX5_costWithFirst 65 = .ok (.getfield 18, 3) := by decide +kernel
theorem dX5_costWithFirst_68 : decode cX5_costWithFirst 68 = .ok (.iload 4, 2) := by decide +kernel
theorem dX5_costWithFirst_70 : decode cX5_costWithFirst 70 = .ok (.iaload, 1) := by decide +kernel
theorem dX5_costWithFirst_71 : decode cX5_costWithFirst 71 = .ok (.iadd, 1) := by decide +kernel
theorem dX5_costWithFirst_72 : decode cX5_costWithFirst 72 = .ok (.ireturn, 1) := by decide +kernel
theorem dX5_leastFor_0 : decode cX5_leastFor 0 = .ok (.iload_n 1, 1) := by decide +kernel
theorem dX5_leastFor_1 : decode cX5_leastFor 1 = .ok (.ifCond .lt 21, 3) := by decide +kernel
theorem dX5_leastFor_4 : decode cX5_leastFor 4 = .ok (.iload_n 1, 1) := by decide +kernel
theorem dX5_leastFor_5 : decode cX5_leastFor 5 = .ok (.aload_n 0, 1) := by decide +kernel
theorem dX5_leastFor_6 : decode cX5_leastFor 6 = .ok (.getfield 9, 3) := by decide +kernel
theorem dX5_leastFor_9 : decode cX5_leastFor 9 = .ok (.arraylength, 1) := by decide +kernel
theorem dX5_leastFor_10 : decode cX5_leastFor 10 = .ok (.if_icmp .ge 12, 3) := by decide +kernel
theorem dX5_leastFor_13 : decode cX5_leastFor 13 = .ok (.aload_n 0, 1) := by decide +kernel
theorem dX5_leastFor_14 : decode cX5_leastFor 14 = .ok (.getfield 9, 3) := by decide +kernel
theorem dX5_leastFor_17 : decode cX5_leastFor 17 = .ok (.iload_n 1, 1) := by decide +kernel
theorem dX5_leastFor_18 : decode cX5_leastFor 18 = .ok (.iaload, 1) := by decide +kernel
theorem dX5_leastFor_19 : decode cX5_leastFor 19 = .ok (.goto 4, 3) := by decide +kernel
theorem dX5_leastFor_22 : decode cX5_leastFor 22 = .ok (.iconst 0, 1) := by decide +kernel
theorem dX5_leastFor_23 : decode cX5_leastFor 23 = .ok (.ireturn, 1) := by decide +kernel
theorem dX5_firstOnesWithin_0 : decode cX5_firstOnesWithin 0 = .ok (.iconst 0, 1) := by decide +kernel
theorem dX5_firstOnesWithin_1 : decode cX5_firstOnesWithin 1 = .ok (.istore_n 3, 1) := by decide +kernel
theorem dX5_firstOnesWithin_2 : decode cX5_firstOnesWithin 2 = .ok (.iconst 0, 1) := by decide +kernel
theorem dX5_firstOnesWithin_3 : decode cX5_firstOnesWithin 3 = .ok (.istore 4, 2) := by decide +kernel
theorem dX5_firstOnesWithin_5 : decode cX5_firstOnesWithin 5 = .ok (.iload 4, 2) := by decide +kernel
theorem dX5_firstOnesWithin_7 : decode cX5_firstOnesWithin 7 = .ok (.iload_n 1, 1) := by decide +kernel
theorem dX5_firstOnesWithin_8 : decode cX5_firstOnesWithin 8 = .ok (.if_icmp .ge 41, 3) := by decide +kernel
theorem dX5_firstOnesWithin_11 : decode cX5_firstOnesWithin 11 = .ok (.iload_n 2, 1) := by decide +kernel
theorem dX5_firstOnesWithin_12 : decode cX5_firstOnesWithin 12 = .ok (.iload 4, 2) := by decide +kernel
theorem dX5_firstOnesWithin_14 : decode cX5_firstOnesWithin 14 = .ok (.invokestatic 55, 3) := by decide +kernel
theorem dX5_firstOnesWithin_17 : decode cX5_firstOnesWithin 17 = .ok (.ifCond .eq 26, 3) := by decide +kernel
theorem dX5_firstOnesWithin_20 : decode cX5_firstOnesWithin 20 = .ok (.aload_n 0, 1) := by decide +kernel
theorem dX5_firstOnesWithin_21 : decode cX5_firstOnesWithin 21 = .ok (.iload_n 2, 1) := by decide +kernel
theorem dX5_firstOnesWithin_22 : decode cX5_firstOnesWithin 22 = .ok (.iload 4, 2) := by decide +kernel
theorem dX5_firstOnesWithin_24 : decode cX5_firstOnesWithin 24 = .ok (.invokevirtual 52, 3) := by decide +kernel
theorem dX5_firstOnesWithin_27 : decode cX5_firstOnesWithin 27 = .ok (.aload_n 0, 1) := by decide +kernel
theorem dX5_firstOnesWithin_28 : decode cX5_firstOnesWithin 28 = .ok (.iload_n 2, 1) := by decide +kernel
theorem dX5_firstOnesWithin_29 : decode cX5_firstOnesWithin 29 = .ok (.invokevirtual 67, 3) := by decide +kernel
theorem dX5_firstOnesWithin_32 : decode cX5_firstOnesWithin 32 = .ok (.if_icmp .ne 11, 3) := by decide +kernel
theorem dX5_firstOnesWithin_35 : decode cX5_firstOnesWithin 35 = .ok (.iload_n 3, 1) := by decide +kernel
theorem dX5_firstOnesWithin_36 : decode cX5_firstOnesWithin 36 = .ok (.iload 4, 2) := by decide +kernel
theorem dX5_firstOnesWithin_38 : decode cX5_firstOnesWithin 38 = .ok (.invokestatic 70, 3) := by decide +kernel
theorem dX5_firstOnesWithin_41 : decode cX5_firstOnesWithin 41 = .ok (.ior, 1) := by decide +kernel
theorem dX5_firstOnesWithin_42 : decode cX5_firstOnesWithin 42 = .ok (.istore_n 3, 1) := by decide +kernel
theorem dX5_firstOnesWithin_43 : decode cX5_firstOnesWithin 43 = .ok (.iinc 4 1, 3) := by decide +kernel
theorem dX5_firstOnesWithin_46 : decode cX5_firstOnesWithin 46 = .ok (.goto (-41), 3) := by decide +kernel
theorem dX5_firstOnesWithin_49 : decode cX5_firstOnesWithin 49 = .ok (.iload_n 3, 1) := by decide +kernel
theorem dX5_firstOnesWithin_50 : decode cX5_firstOnesWithin 50 = .ok (.ireturn, 1) := by decide +kernel
theorem dX5_leastCostOf_0 : decode cX5_leastCostOf 0 = .ok (.aload_n 0, 1) := by decide +kernel
theorem dX5_leastCostOf_1 : decode cX5_leastCostOf 1 = .ok (.aload_n 1, 1) := by decide +kernel
theorem dX5_leastCostOf_2 : decode cX5_leastCostOf 2 = .ok (.invokevirtual 73, 3) := by decide +kernel
theorem dX5_leastCostOf_5 : decode cX5_leastCostOf 5 = .ok (.aload_n 0, 1) := by decide +kernel
theorem dX5_leastCostOf_6 : decode cX5_leastCostOf 6 = .ok (.aload_n 1, 1) := by decide +kernel
theorem dX5_leastCostOf_7 : decode cX5_leastCostOf 7 = .ok (.invokevirtual 38, 3) := by decide +kernel
theorem dX5_leastCostOf_10 : decode cX5_leastCostOf 10 = .ok (.invokevirtual 67, 3) := by decide +kernel
theorem dX5_leastCostOf_13 : decode cX5_leastCostOf 13 = .ok (.ireturn, 1) := by decide +kernel
theorem dX5_firstOnes_0 : decode cX5_firstOnes 0 = .ok (.aload_n 0, 1) := by decide +kernel
theorem dX5_firstOnes_1 : decode cX5_firstOnes 1 = .ok (.aload_n 1, 1) := by decide +kernel
theorem dX5_firstOnes_2 : decode cX5_firstOnes 2 = .ok (.invokevirtual 73, 3) := by decide +kernel
theorem dX5_firstOnes_5 : decode cX5_firstOnes 5 = .ok (.aload_n 0, 1) := by decide +kernel
theorem dX5_firstOnes_6 : decode cX5_firstOnes 6 = .ok (.aload_n 1, 1) := by decide +kernel
theorem dX5_firstOnes_7 : decode cX5_firstOnes 7 = .ok (.invokevirtual 31, 3) := by decide +kernel
theorem dX5_firstOnes_10 : decode cX5_firstOnes 10 = .ok (.aload_n 1, 1) := by decide +kernel
theorem dX5_firstOnes_11 : decode cX5_firstOnes 11 = .ok (.invokevirtual 38, 3) := by decide +kernel
theorem dX5_firstOnes_14 : decode cX5_firstOnes 14 = .ok (.invokevirtual 77, 3) := by decide +kernel
theorem dX5_firstOnes_17 : decode cX5_firstOnes 17 = .ok (.ireturn, 1) := by decide +kernel
theorem dX5_playerAt_0 : decode cX5_playerAt 0 = .ok (.aload_n 0, 1) := by decide +kernel
theorem dX5_playerAt_1 : decode cX5_playerAt 1 = .ok (.aload_n 1, 1) := by decide +kernel
theorem dX5_playerAt_2 : decode cX5_playerAt 2 = .ok (.invokevirtual 73, 3) := by decide +kernel
theorem dX5_playerAt_5 : decode cX5_playerAt 5 = .ok (.aload_n 1, 1) := by decide +kernel
theorem dX5_playerAt_6 : decode cX5_playerAt 6 = .ok (.invokevirtual 38, 3) := by decide +kernel
theorem dX5_playerAt_9 : decode cX5_playerAt 9 = .ok (.istore_n 3, 1) := by decide +kernel
theorem dX5_playerAt_10 : decode cX5_playerAt 10 = .ok (.iconst 0, 1) := by decide +kernel
theorem dX5_playerAt_11 : decode cX5_playerAt 11 = .ok (.istore 4, 2) := by decide +kernel
theorem dX5_playerAt_13 : decode cX5_playerAt 13 = .ok (.iload 4, 2) := by decide +kernel
theorem dX5_playerAt_15 : decode cX5_playerAt 15 = .ok (.iload_n 2, 1) := by decide +kernel
theorem dX5_playerAt_16 : decode cX5_playerAt 16 = .ok (.if_icmp .ge 33, 3) := by decide +kernel
theorem dX5_playerAt_19 : decode cX5_playerAt 19 = .ok (.iload 4, 2) := by decide +kernel
theorem dX5_playerAt_21 : decode cX5_playerAt 21 = .ok (.bipush 10, 2) := by decide +kernel
theorem dX5_playerAt_23 : decode cX5_playerAt 23 = .ok (.if_icmp .ge 26, 3) := by decide +kernel
theorem dX5_playerAt_26 : decode cX5_playerAt 26 = .ok (.iload_n 3, 1) := by decide +kernel
theorem dX5_playerAt_27 : decode cX5_playerAt 27 = .ok (.aload_n 0, 1) := by decide +kernel
theorem dX5_playerAt_28 : decode cX5_playerAt 28 = .ok (.aload_n 1, 1) := by decide +kernel
theorem dX5_playerAt_29 : decode cX5_playerAt 29 = .ok (.invokevirtual 31, 3) := by decide +kernel
theorem dX5_playerAt_32 : decode cX5_playerAt 32 = .ok (.iload_n 3, 1) := by decide +kernel
theorem dX5_playerAt_33 : decode cX5_playerAt 33 = .ok (.invokevirtual 77, 3) := by decide +kernel
theorem dX5_playerAt_36 : decode cX5_playerAt 36 = .ok (.invokestatic 45, 3) := by decide +kernel
theorem dX5_playerAt_39 : decode cX5_playerAt 39 = .ok (.invokestatic 64, 3) := by decide +kernel
theorem dX5_playerAt_42 : decode cX5_playerAt 42 = .ok (.istore_n 3, 1) := by decide +kernel
theorem dX5_playerAt_43 : decode cX5_playerAt 43 = .ok (.iinc 4 1, 3) := by decide +kernel
theorem dX5_playerAt_46 : decode cX5_playerAt 46 = .ok (.goto (-33), 3) := by decide +kernel
theorem dX5_playerAt_49 : decode cX5_playerAt 49 = .ok (.aload_n 0, 1) := by decide +kernel
theorem dX5_playerAt_50 : decode cX5_playerAt 50 = .ok (.aload_n 1, 1) := by decide +kernel
theorem dX5_playerAt_51 : decode cX5_playerAt 51 = .ok (.invokevirtual 31, 3) := by decide +kernel
theorem dX5_playerAt_54 : decode cX5_playerAt 54 = .ok (.iload_n 3, 1) := by decide +kernel
theorem dX5_playerAt_55 : decode cX5_playerAt 55 = .ok (.invokevirtual 77, 3) := by decide +kernel
theorem dX5_playerAt_58 : decode cX5_playerAt 58 = .ok (.invokestatic 45, 3) := by decide +kernel
theorem dX5_playerAt_61 : decode cX5_playerAt 61 = .ok (.ireturn, 1) := by decide +kernel
theorem dX6_init_0 : decode cX6_init 0 = .ok (.aload_n 0, 1) := by decide +kernel
theorem dX6_init_1 : decode cX6_init 1 = .ok (.invokespecial 3, 3) := by decide +kernel
theorem dX6_init_4 : decode cX6_init 4 = .ok (.aload_n 0, 1) := by decide +kernel
theorem dX6_init_5 : decode cX6_init 5 = .ok (.bipush 10, 2) := by decide +kernel
theorem dX6_init_7 : decode cX6_init 7 = .ok (.newarray .int, 2) := by decide +kernel
theorem dX6_init_9 : decode cX6_init 9 = .ok (.putfield 9, 3) := by decide +kernel
theorem dX6_init_12 : decode cX6_init 12 = .ok (.aload_n 0, 1) := by decide +kernel
theorem dX6_init_13 : decode cX6_init 13 = .ok (.sipush 10240, 3) := by decide +kernel
theorem dX6_init_16 : decode cX6_init 16 = .ok (.newarray .int, 2) := by decide +kernel
theorem dX6_init_18 : decode cX6_init 18 = .ok (.putfield 15, 3) := by decide +kernel
theorem dX6_init_21 : decode cX6_init 21 = .ok (.return_, 1) := by decide +kernel
theorem dX6_playerAt_0 : decode cX6_playerAt 0 = .ok (.iload_n 1, 1) := by decide +kernel
theorem dX6_playerAt_1 : decode cX6_playerAt 1 = .ok (.ifCond .lt 21, 3) := by decide +kernel
theorem dX6_playerAt_4 : decode cX6_playerAt 4 = .ok (.iload_n 1, 1) := by decide +kernel
theorem dX6_playerAt_5 : decode cX6_playerAt 5 = .ok (.aload_n 0, 1) := by decide +kernel
theorem dX6_playerAt_6 : decode cX6_playerAt 6 = .ok (.getfield 9, 3) := by decide +kernel
theorem dX6_playerAt_9 : decode cX6_playerAt 9 = .ok (.arraylength, 1) := by decide +kernel
theorem dX6_playerAt_10 : decode cX6_playerAt 10 = .ok (.if_icmp .ge 12, 3) := by decide +kernel
theorem dX6_playerAt_13 : decode cX6_playerAt 13 = .ok (.aload_n 0, 1) := by decide +kernel
theorem dX6_playerAt_14 : decode cX6_playerAt 14 = .ok (.getfield 9, 3) := by decide +kernel
theorem dX6_playerAt_17 : decode cX6_playerAt 17 = .ok (.iload_n 1, 1) := by decide +kernel
theorem dX6_playerAt_18 : decode cX6_playerAt 18 = .ok (.iaload, 1) := by decide +kernel
theorem dX6_playerAt_19 : decode cX6_playerAt 19 = .ok (.goto 5, 3) := by decide +kernel
theorem dX6_playerAt_22 : decode cX6_playerAt 22 = .ok (.bipush (-4), 2) := by decide +kernel
theorem dX6_playerAt_24 : decode cX6_playerAt 24 = .ok (.ireturn, 1) := by decide +kernel
theorem dX6_put_0 : decode cX6_put 0 = .ok (.iload_n 1, 1) := by decide +kernel
theorem dX6_put_1 : decode cX6_put 1 = .ok (.ifCond .lt 19, 3) := by decide +kernel
theorem dX6_put_4 : decode cX6_put 4 = .ok (.iload_n 1, 1) := by decide +kernel
theorem dX6_put_5 : decode cX6_put 5 = .ok (.aload_n 0, 1) := by decide +kernel
theorem dX6_put_6 : decode cX6_put 6 = .ok (.getfield 9, 3) := by decide +kernel
theorem dX6_put_9 : decode cX6_put 9 = .ok (.arraylength, 1) := by decide +kernel
theorem dX6_put_10 : decode cX6_put 10 = .ok (.if_icmp .ge 10, 3) := by decide +kernel
theorem dX6_put_13 : decode cX6_put 13 = .ok (.aload_n 0, 1) := by decide +kernel
theorem dX6_put_14 : decode cX6_put 14 = .ok (.getfield 9, 3) := by decide +kernel
theorem dX6_put_17 : decode cX6_put 17 = .ok (.iload_n 1, 1) := by decide +kernel
theorem dX6_put_18 : decode cX6_put 18 = .ok (.iload_n 2, 1) := by decide +kernel
theorem dX6_put_19 : decode cX6_put 19 = .ok (.iastore, 1) := by decide +kernel
theorem dX6_put_20 : decode cX6_put 20 = .ok (.return_, 1) := by decide +kernel
theorem dX6_stepsBetween_0 : decode cX6_stepsBetween 0 = .ok (.iload_n 1, 1) := by decide +kernel
theorem dX6_stepsBetween_1 : decode cX6_stepsBetween 1 = .ok (.invokestatic 18, 3) := by decide +kernel
theorem dX6_stepsBetween_4 : decode cX6_stepsBetween 4 = .ok (.istore_n 3, 1) := by decide +kernel
theorem dX6_stepsBetween_5 : decode cX6_stepsBetween 5 = .ok (.iconst 0, 1) := by decide +kernel
theorem dX6_stepsBetween_6 : decode cX6_stepsBetween 6 = .ok (.istore 4, 2) := by decide +kernel
theorem dX6_stepsBetween_8 : decode cX6_stepsBetween 8 = .ok (.iload 4, 2) := by decide +kernel
theorem dX6_stepsBetween_10 : decode cX6_stepsBetween 10 = .ok (.aload_n 0, 1) := by decide +kernel
theorem dX6_stepsBetween_11 : decode cX6_stepsBetween 11 = .ok (.invokevirtual 22, 3) := by decide +kernel
theorem dX6_stepsBetween_14 : decode cX6_stepsBetween 14 = .ok (.if_icmp .ge 28, 3) := by decide +kernel
theorem dX6_stepsBetween_17 : decode cX6_stepsBetween 17 = .ok (.iload_n 3, 1) := by decide +kernel
theorem dX6_stepsBetween_18 : decode cX6_stepsBetween 18 = .ok (.iload_n 2, 1) := by decide +kernel
theorem dX6_stepsBetween_19 : decode cX6_stepsBetween 19 = .ok (.invokestatic 28, 3) := by decide +kernel
theorem dX6_stepsBetween_22 : decode cX6_stepsBetween 22 = .ok (.ifCond .eq 6, 3) := by decide +kernel
theorem dX6_stepsBetween_25 : decode cX6_stepsBetween 25 = .ok (.iload 4, 2) := by decide +kernel
theorem dX6_stepsBetween_27 : decode cX6_stepsBetween 27 = .ok (.ireturn, 1) := by decide +kernel
theorem dX6_stepsBetween_28 : decode cX6_stepsBetween 28 = .ok (.iload_n 3, 1) := by decide +kernel
theorem dX6_stepsBetween_29 : decode cX6_stepsBetween 29 = .ok (.aload_n 0, 1) := by decide +kernel
theorem dX6_stepsBetween_30 : decode cX6_stepsBetween 30 = .ok (.iload_n 3, 1) := by decide +kernel
theorem dX6_stepsBetween_31 : decode cX6_stepsBetween 31 = .ok (.invokestatic 32, 3) := by decide +kernel
theorem dX6_stepsBetween_34 : decode cX6_stepsBetween 34 = .ok (.ior, 1) := by decide +kernel
theorem dX6_stepsBetween_35 : decode cX6_stepsBetween 35 = .ok (.istore_n 3, 1) := by decide +kernel
theorem dX6_stepsBetween_36 : decode cX6_stepsBetween 36 = .ok (.iinc 4 1, 3) := by decide +kernel
theorem dX6_stepsBetween_39 : decode cX6_stepsBetween 39 = .ok (.goto (-31), 3) := by decide +kernel
theorem dX6_stepsBetween_42 : decode cX6_stepsBetween 42 = .ok (.bipush (-4), 2) := by decide +kernel
theorem dX6_stepsBetween_44 : decode cX6_stepsBetween 44 = .ok (.ireturn, 1) := by decide +kernel
theorem dX6_beatenByAny_0 : decode cX6_beatenByAny 0 = .ok (.iconst 0, 1) := by decide +kernel
theorem dX6_beatenByAny_1 : decode cX6_beatenByAny 1 = .ok (.istore_n 2, 1) := by decide +kernel
theorem dX6_beatenByAny_2 : decode cX6_beatenByAny 2 = .ok (.iconst 0, 1) := by decide +kernel
theorem dX6_beatenByAny_3 : decode cX6_beatenByAny 3 = .ok (.istore_n 3, 1) := by decide +kernel
theorem dX6_beatenByAny_4 : decode cX6_beatenByAny 4 = .ok (.iload_n 3, 1) := by decide +kernel
theorem dX6_beatenByAny_5 : decode cX6_beatenByAny 5 = .ok (.aload_n 0, 1) := by decide +kernel
theorem dX6_beatenByAny_6 : decode cX6_beatenByAny 6 = .ok (.invokevirtual 22, 3) := by decide +kernel
theorem dX6_beatenByAny_9 : decode cX6_beatenByAny 9 = .ok (.if_icmp .ge 25, 3) := by decide +kernel
theorem dX6_beatenByAny_12 : decode cX6_beatenByAny 12 = .ok (.iload_n 1, 1) := by decide +kernel
theorem dX6_beatenByAny_13 : decode cX6_beatenByAny 13 = .ok (.iload_n 3, 1) := by decide +kernel
theorem dX6_beatenByAny_14 : decode cX6_beatenByAny 14 = .ok (.invokestatic 28, 3) := by decide +kernel
theorem dX6_beatenByAny_17 : decode cX6_beatenByAny 17 = .ok (.ifCond .eq 11, 3) := by decide +kernel
theorem dX6_beatenByAny_20 : decode cX6_beatenByAny 20 = .ok (.iload_n 2, 1) := by decide +kernel
theorem dX6_beatenByAny_21 : decode cX6_beatenByAny 21 = .ok (.aload_n 0, 1) := by decide +kernel
theorem dX6_beatenByAny_22 : decode cX6_beatenByAny 22 = .ok (.iload_n 3, 1) := by decide +kernel
theorem dX6_beatenByAny_23 : decode cX6_beatenByAny 23 = .ok (.invokevirtual 36, 3) := by decide +kernel
theorem dX6_beatenByAny_26 : decode cX6_beatenByAny 26 = .ok (.ior, 1) := by decide +kernel
theorem dX6_beatenByAny_27 : decode cX6_beatenByAny 27 = .ok (.istore_n 2, 1) := by decide +kernel
theorem dX6_beatenByAny_28 : decode cX6_beatenByAny 28 = .ok (.iinc 3 1, 3) := by decide +kernel
theorem dX6_beatenByAny_31 : decode cX6_beatenByAny 31 = .ok (.goto (-27), 3) := by decide +kernel
theorem dX6_beatenByAny_34 : decode cX6_beatenByAny 34 = .ok (.iload_n 2, 1) := by decide +kernel
theorem dX6_beatenByAny_35 : decode cX6_beatenByAny 35 = .ok (.ireturn, 1) := by decide +kernel
theorem dX6_findShortest_0 : decode cX6_findShortest 0 = .ok (.aload_n 1, 1) := by decide +kernel
theorem dX6_findShortest_1 : decode cX6_findShortest 1 = .ok (.iload_n 2, 1) := by decide +kernel
theorem dX6_findShortest_2 : decode cX6_findShortest 2 = .ok (.iload_n 3, 1) := by decide +kernel
theorem dX6_findShortest_3 : decode cX6_findShortest 3 = .ok (.invokestatic 39, 3) := by decide +kernel
theorem dX6_findShortest_6 : decode cX6_findShortest 6 = .ok (.istore 4, 2) := by decide +kernel
theorem dX6_findShortest_8 : decode cX6_findShortest 8 = .ok (.aload_n 0, 1) := by decide +kernel
theorem dX6_findShortest_9 : decode cX6_findShortest 9 = .ok (.iconst 0, 1) := by decide +kernel
theorem dX6_findShortest_10 : decode cX6_findShortest 10 = .ok (.iload_n 2, 1) := by decide +kernel
theorem dX6_findShortest_11 : decode cX6_findShortest 11 = .ok (.invokevirtual 43, 3) := by decide +kernel
theorem dX6_findShortest_14 : decode cX6_findShortest 14 = .ok (.iconst 1, 1) := by decide +kernel
theorem dX6_findShortest_15 : decode cX6_findShortest 15 = .ok (.istore 5, 2) := by decide +kernel
theorem dX6_findShortest_17 : decode cX6_findShortest 17 = .ok (.iload 5, 2) := by decide +kernel
theorem dX6_findShortest_19 : decode cX6_findShortest 19 = .ok (.iload 4, 2) := by decide +kernel
theorem dX6_findShortest_21 : decode cX6_findShortest 21 = .ok (.if_icmp .gt 40, 3) := by decide +kernel
theorem dX6_findShortest_24 : decode cX6_findShortest 24 = .ok (.iload 5, 2) := by decide +kernel
theorem dX6_findShortest_26 : decode cX6_findShortest 26 = .ok (.bipush 10, 2) := by decide +kernel
theorem dX6_findShortest_28 : decode cX6_findShortest 28 = .ok (.if_icmp .ge 33, 3) := by decide +kernel
theorem dX6_findShortest_31 : decode cX6_findShortest 31 = .ok (.aload_n 0, 1) := by decide +kernel
theorem dX6_findShortest_32 : decode cX6_findShortest 32 = .ok (.iload 5, 2) := by decide +kernel
theorem dX6_findShortest_34 : decode cX6_findShortest 34 = .ok (.aload_n 1, 1) := by decide +kernel
theorem dX6_findShortest_35 : decode cX6_findShortest 35 = .ok (.aload_n 0, 1) := by decide +kernel
theorem dX6_findShortest_36 : decode cX6_findShortest 36 = .ok (.iload 5, 2) := by decide +kernel
theorem dX6_findShortest_38 : decode cX6_findShortest 38 = .ok (.iconst 1, 1) := by decide +kernel
theorem dX6_findShortest_39 : decode cX6_findShortest 39 = .ok (.isub, 1) := by decide +kernel
theorem dX6_findShortest_40 : decode cX6_findShortest 40 = .ok (.invokevirtual 47, 3) := by decide +kernel
theorem dX6_findShortest_43 : decode cX6_findShortest 43 = .ok (.iload_n 3, 1) := by decide +kernel
theorem dX6_findShortest_44 : decode cX6_findShortest 44 = .ok (.iload 4, 2) := by decide +kernel
theorem dX6_findShortest_46 : decode cX6_findShortest 46 = .ok (.iload 5, 2) := by decide +kernel
theorem dX6_findShortest_48 : decode cX6_findShortest 48 = .ok (.isub, 1) := by decide +kernel
theorem dX6_findShortest_49 : decode cX6_findShortest 49 = .ok (.invokestatic 50, 3) := by decide +kernel
theorem dX6_findShortest_52 : decode cX6_findShortest 52 = .ok (.invokevirtual 43, 3) := by decide +kernel
theorem dX6_findShortest_55 : decode cX6_findShortest 55 = .ok (.iinc 5 1, 3) := by decide +kernel
theorem dX6_findShortest_58 : decode cX6_findShortest 58 = .ok (.goto (-41), 3) := by decide +kernel
theorem dX6_findShortest_61 : decode cX6_findShortest 61 = .ok (.return_, 1) := by decide +kernel
theorem dX6_nextTowards_0 : decode cX6_nextTowards 0 = .ok (.iconst 0, 1) := by decide +kernel
theorem dX6_nextTowards_1 : decode cX6_nextTowards 1 = .ok (.istore 4, 2) := by decide +kernel
theorem dX6_nextTowards_3 : decode cX6_nextTowards 3 = .ok (.iload 4, 2) := by decide +kernel
theorem dX6_nextTowards_5 : decode cX6_nextTowards 5 = .ok (.aload_n 0, 1) := by decide +kernel
theorem dX6_nextTowards_6 : decode cX6_nextTowards 6 = .ok (.invokevirtual 22, 3) := by decide +kernel
theorem dX6_nextTowards_9 : decode cX6_nextTowards 9 = .ok (.if_icmp .ge 33, 3) := by decide +kernel
theorem dX6_nextTowards_12 : decode cX6_nextTowards 12 = .ok (.aload_n 0, 1) := by decide +kernel
theorem dX6_nextTowards_13 : decode cX6_nextTowards 13 = .ok (.iload_n 1, 1) := by decide +kernel
theorem dX6_nextTowards_14 : decode cX6_nextTowards 14 = .ok (.iload 4, 2) := by decide +kernel
theorem dX6_nextTowards_16 : decode cX6_nextTowards 16 = .ok (.invokevirtual 54, 3) := by decide +kernel
theorem dX6_nextTowards_19 : decode cX6_nextTowards 19 = .ok (.ifCond .eq 17, 3) := by decide +kernel
theorem dX6_nextTowards_22 : decode cX6_nextTowards 22 = .ok (.aload_n 0, 1) := by decide +kernel
theorem dX6_nextTowards_23 : decode cX6_nextTowards 23 = .ok (.iload 4, 2) := by decide +kernel
theorem dX6_nextTowards_25 : decode cX6_nextTowards 25 = .ok (.iload_n 2, 1) := by decide +kernel
theorem dX6_nextTowards_26 : decode cX6_nextTowards 26 = .ok (.invokestatic 39, 3) := by decide +kernel
theorem dX6_nextTowards_29 : decode cX6_nextTowards 29 = .ok (.iload_n 3, 1) := by decide +kernel
theorem dX6_nextTowards_30 : decode cX6_nextTowards 30 = .ok (.if_icmp .ne 6, 3) := by decide +kernel
theorem dX6_nextTowards_33 : decode cX6_nextTowards 33 = .ok (.iload 4, 2) := by decide +kernel
theorem dX6_nextTowards_35 : decode cX6_nextTowards 35 = .ok (.ireturn, 1) := by decide +kernel
theorem dX6_nextTowards_36 : decode cX6_nextTowards 36 = .ok (.iinc 4 1, 3) := by decide +kernel
theorem dX6_nextTowards_39 : decode cX6_nextTowards 39 = .ok (.goto (-36), 3) := by decide +kernel
theorem dX6_nextTowards_42 : decode cX6_nextTowards 42 = .ok (.bipush (-4), 2) := by decide +kernel
theorem dX6_nextTowards_44 : decode cX6_nextTowards 44 = .ok (.ireturn, 1) := by decide +kernel
theorem dX6_findSpanning_0 : decode cX6_findSpanning 0 = .ok (.aload_n 1, 1) := by decide +kernel
theorem dX6_findSpanning_1 : decode cX6_findSpanning 1 = .ok (.invokevirtual 57, 3) := by decide +kernel
theorem dX6_findSpanning_4 : decode cX6_findSpanning 4 = .ok (.istore_n 2, 1) := by decide +kernel
theorem dX6_findSpanning_5 : decode cX6_findSpanning 5 = .ok (.iload_n 2, 1) := by decide +kernel
theorem dX6_findSpanning_6 : decode cX6_findSpanning 6 = .ok (.istore_n 3, 1) := by decide +kernel
theorem dX6_findSpanning_7 : decode cX6_findSpanning 7 = .ok (.iconst 0, 1) := by decide +kernel
theorem dX6_findSpanning_8 : decode cX6_findSpanning 8 = .ok (.istore 4, 2) := by decide +kernel
theorem dX6_findSpanning_10 : decode cX6_findSpanning 10 = .ok (.iload 4, 2) := by decide +kernel
theorem dX6_findSpanning_12 : decode cX6_findSpanning 12 = .ok (.aload_n 1, 1) := by decide +kernel
theorem dX6_findSpanning_13 : decode cX6_findSpanning 13 = .ok (.invokevirtual 22, 3) := by decide +kernel
theorem dX6_findSpanning_16 : decode cX6_findSpanning 16 = .ok (.if_icmp .ge 43, 3) := by decide +kernel
theorem dX6_findSpanning_19 : decode cX6_findSpanning 19 = .ok (.aload_n 1, 1) := by decide +kernel
theorem dX6_findSpanning_20 : decode cX6_findSpanning 20 = .ok (.iload_n 2, 1) := by decide +kernel
theorem dX6_findSpanning_21 : decode cX6_findSpanning 21 = .ok (.invokestatic 60, 3) := by decide +kernel
theorem dX6_findSpanning_24 : decode cX6_findSpanning 24 = .ok (.iload_n 3, 1) := by decide +kernel
theorem dX6_findSpanning_25 : decode cX6_findSpanning 25 = .ok (.iand, 1) := by decide +kernel
theorem dX6_findSpanning_26 : decode cX6_findSpanning 26 = .ok (.invokestatic 65, 3) := by decide +kernel
theorem dX6_findSpanning_29 : decode cX6_findSpanning 29 = .ok (.istore 5, 2) := by decide +kernel
theorem dX6_findSpanning_31 : decode cX6_findSpanning 31 = .ok (.aload_n 0, 1) := by decide +kernel
theorem dX6_findSpanning_32 : decode cX6_findSpanning 32 = .ok (.iload 4, 2) := by decide +kernel
theorem dX6_findSpanning_34 : decode cX6_findSpanning 34 = .ok (.iload 5, 2) := by decide +kernel
theorem dX6_findSpanning_36 : decode cX6_findSpanning 36 = .ok (.invokevirtual 43, 3) := by decide +kernel
theorem dX6_findSpanning_39 : decode cX6_findSpanning 39 = .ok (.iload_n 2, 1) := by decide +kernel
theorem dX6_findSpanning_40 : decode cX6_findSpanning 40 = .ok (.iload 5, 2) := by decide +kernel
theorem dX6_findSpanning_42 : decode cX6_findSpanning 42 = .ok (.invokestatic 68, 3) := by decide +kernel
theorem dX6_findSpanning_45 : decode cX6_findSpanning 45 = .ok (.istore_n 2, 1) := by decide +kernel
theorem dX6_findSpanning_46 : decode cX6_findSpanning 46 = .ok (.aload_n 1, 1) := by decide +kernel
theorem dX6_findSpanning_47 : decode cX6_findSpanning 47 = .ok (.iload 5, 2) := by decide +kernel
theorem dX6_findSpanning_49 : decode cX6_findSpanning 49 = .ok (.invokevirtual 36, 3) := by decide +kernel
theorem dX6_findSpanning_52 : decode cX6_findSpanning 52 = .ok (.istore_n 3, 1) := by decide +kernel
theorem dX6_findSpanning_53 : decode cX6_findSpanning 53 = .ok (.iinc 4 1, 3) := by decide +kernel
theorem dX6_findSpanning_56 : decode cX6_findSpanning 56 = .ok (.goto (-46), 3) := by decide +kernel
theorem dX6_findSpanning_59 : decode cX6_findSpanning 59 = .ok (.return_, 1) := by decide +kernel
theorem dX6_countSpanning_0 : decode cX6_countSpanning 0 = .ok (.aload_n 1, 1) := by decide +kernel
theorem dX6_countSpanning_1 : decode cX6_countSpanning 1 = .ok (.invokevirtual 57, 3) := by decide +kernel
theorem dX6_countSpanning_4 : decode cX6_countSpanning 4 = .ok (.istore_n 2, 1) := by decide +kernel
theorem dX6_countSpanning_5 : decode cX6_countSpanning 5 = .ok (.iconst 1, 1) := by decide +kernel
theorem dX6_countSpanning_6 : decode cX6_countSpanning 6 = .ok (.istore_n 3, 1) := by decide +kernel
theorem dX6_countSpanning_7 : decode cX6_countSpanning 7 = .ok (.iload_n 3, 1) := by decide +kernel
theorem dX6_countSpanning_8 : decode cX6_countSpanning 8 = .ok (.iload_n 2, 1) := by decide +kernel
theorem dX6_countSpanning_9 : decode cX6_countSpanning 9 = .ok (.if_icmp .gt 56, 3) := by decide +kernel
theorem dX6_countSpanning_12 : decode cX6_countSpanning 12 = .ok (.iconst 0, 1) := by decide +kernel
theorem dX6_countSpanning_13 : decode cX6_countSpanning 13 = .ok (.istore 4, 2) := by decide +kernel
theorem dX6_countSpanning_15 : decode cX6_countSpanning 15 = .ok (.iload 4, 2) := by decide +kernel
theorem dX6_countSpanning_17 : decode cX6_countSpanning 17 = .ok (.aload_n 1, 1) := by decide +kernel
theorem dX6_countSpanning_18 : decode cX6_countSpanning 18 = .ok (.invokevirtual 22, 3) := by decide +kernel
theorem dX6_countSpanning_21 : decode cX6_countSpanning 21 = .ok (.if_icmp .ge 38, 3) := by decide +kernel
theorem dX6_countSpanning_24 : decode cX6_countSpanning 24 = .ok (.iload_n 3, 1) := by decide +kernel
theorem dX6_countSpanning_25 : decode cX6_countSpanning 25 = .ok (.iload 4, 2) := by decide +kernel
theorem dX6_countSpanning_27 : decode cX6_countSpanning 27 = .ok (.invokestatic 28, 3) := by decide +kernel
theorem dX6_countSpanning_30 : decode cX6_countSpanning 30 = .ok (.ifCond .eq 23, 3) := by decide +kernel
theorem dX6_countSpanning_33 : decode cX6_countSpanning 33 = .ok (.aload_n 0, 1) := by decide +kernel
theorem dX6_countSpanning_34 : decode cX6_countSpanning 34 = .ok (.iload_n 3, 1) := by decide +kernel
theorem dX6_countSpanning_35 : decode cX6_countSpanning 35 = .ok (.iload 4, 2) := by decide +kernel
theorem dX6_countSpanning_37 : decode cX6_countSpanning 37 = .ok (.aload_n 0, 1) := by decide +kernel
theorem dX6_countSpanning_38 : decode cX6_countSpanning 38 = .ok (.aload_n 1, 1) := by decide +kernel
theorem dX6_countSpanning_39 : decode cX6_countSpanning 39 = .ok (.iload_n 3, 1) := by decide +kernel
theorem dX6_countSpanning_40 : decode cX6_countSpanning 40 = .ok (.iload 4, 2) := by decide +kernel
theorem dX6_countSpanning_42 : decode cX6_countSpanning 42 = .ok (.invokestatic 68, 3) := by decide +kernel
theorem dX6_countSpanning_45 : decode cX6_countSpanning 45 = .ok (.iload 4, 2) := by decide +kernel
theorem dX6_countSpanning_47 : decode cX6_countSpanning 47 = .ok (.invokevirtual 72, 3) := by decide +kernel
theorem dX6_countSpanning_50 : decode cX6_countSpanning 50 = .ok (.invokevirtual 75, 3) := by decide +kernel
theorem dX6_countSpanning_53 : decode cX6_countSpanning 53 = .ok (.iinc 4 1, 3) := by decide +kernel
theorem dX6_countSpanning_56 : decode cX6_countSpanning 56 = .ok (.goto (-41), 3) := by decide +kernel
theorem dX6_countSpanning_59 : decode cX6_countSpanning 59 = .ok (.iinc 3 1, 3) := by decide +kernel
theorem dX6_countSpanning_62 : decode cX6_countSpanning 62 = .ok (.goto (-55), 3) := by decide +kernel
theorem dX6_countSpanning_65 : decode cX6_countSpanning 65 = .ok (.aload_n 0, 1) := by decide +kernel
theorem dX6_countSpanning_66 : decode cX6_countSpanning 66 = .ok (.iload_n 2, 1) := by decide +kernel
theorem dX6_countSpanning_67 : decode cX6_countSpanning 67 = .ok (.iload_n 2, 1) := by decide +kernel
theorem dX6_countSpanning_68 : decode cX6_countSpanning 68 = .ok (.invokevirtual 79, 3) := by decide +kernel
theorem dX6_countSpanning_71 : decode cX6_countSpanning 71 = .ok (.ireturn, 1) := by decide +kernel
theorem dX6_countEnding_0 : decode cX6_countEnding 0 = .ok (.iload_n 2, 1) := by decide +kernel
theorem dX6_countEnding_1 : decode cX6_countEnding 1 = .ok (.ifCond .ne 7, 3) := by decide +kernel
theorem dX6_countEnding_4 : decode cX6_countEnding 4 = .ok (.iconst 1, 1) := by decide +kernel
theorem dX6_countEnding_5 : decode cX6_countEnding 5 = .ok (.goto 17, 3) := by decide +kernel
theorem dX6_countEnding_8 : decode cX6_countEnding 8 = .ok (.aload_n 0, 1) := by decide +kernel
theorem dX6_countEnding_9 : decode cX6_countEnding 9 = .ok (.iload_n 2, 1) := by decide +kernel
theorem dX6_countEnding_10 : decode cX6_countEnding 10 = .ok (.iload_n 2, 1) := by decide +kernel
theorem dX6_countEnding_11 : decode cX6_countEnding 11 = .ok (.aload_n 1, 1) := by decide +kernel
theorem dX6_countEnding_12 : decode cX6_countEnding 12 = .ok (.iload_n 3, 1) := by decide +kernel
theorem dX6_countEnding_13 : decode cX6_countEnding 13 = .ok (.invokevirtual 36, 3) := by decide +kernel
theorem dX6_countEnding_16 : decode cX6_countEnding 16 = .ok (.iconst (-1), 1) := by decide +kernel
theorem dX6_countEnding_17 : decode cX6_countEnding 17 = .ok (.ixor, 1) := by decide +kernel
theorem dX6_countEnding_18 : decode cX6_countEnding 18 = .ok (.iand, 1) := by decide +kernel
theorem dX6_countEnding_19 : decode cX6_countEnding 19 = .ok (.invokevirtual 79, 3) := by decide +kernel
theorem dX6_countEnding_22 : decode cX6_countEnding 22 = .ok (.ireturn, 1) := by decide +kernel
theorem dX6_sumOfCounts_0 : decode cX6_sumOfCounts 0 = .ok (.iload_n 2, 1) := by decide +kernel
theorem dX6_sumOfCounts_1 : decode cX6_sumOfCounts 1 = .ok (.istore_n 3, 1) := by decide +kernel
theorem dX6_sumOfCounts_2 : decode cX6_sumOfCounts 2 = .ok (.iconst 0, 1) := by decide +kernel
theorem dX6_sumOfCounts_3 : decode cX6_sumOfCounts 3 = .ok (.istore 4, 2) := by decide +kernel
theorem dX6_sumOfCounts_5 : decode cX6_sumOfCounts 5 = .ok (.iconst 0, 1) := by decide +kernel
theorem dX6_sumOfCounts_6 : decode cX6_sumOfCounts 6 = .ok (.istore 5, 2) := by decide +kernel
theorem dX6_sumOfCounts_8 : decode cX6_sumOfCounts 8 = .ok (.iload 5, 2) := by decide +kernel
