theorem dX6_sumOfCounts_10 : decode cX6_sumOfCounts 10 = .ok (.bipush 10, 2) := by decide +kernel
theorem dX6_sumOfCounts_12 : decode cX6_sumOfCounts 12 = .ok (.if_icmp .ge 61, 3) := by decide +kernel
theorem dX6_sumOfCounts_15 : decode cX6_sumOfCounts 15 = .ok (.iload_n 3, 1) := by decide +kernel
theorem dX6_sumOfCounts_16 : decode cX6_sumOfCounts 16 = .ok (.ifCond .eq 57, 3) := by decide +kernel
theorem dX6_sumOfCounts_19 : decode cX6_sumOfCounts 19 = .ok (.iload_n 1, 1) := by decide +kernel
theorem dX6_sumOfCounts_20 : decode cX6_sumOfCounts 20 = .ok (.bipush 10, 2) := by decide +kernel
theorem dX6_sumOfCounts_22 : decode cX6_sumOfCounts 22 = .ok (.imul, 1) := by decide +kernel
theorem dX6_sumOfCounts_23 : decode cX6_sumOfCounts 23 = .ok (.iload_n 3, 1) := by decide +kernel
theorem dX6_sumOfCounts_24 : decode cX6_sumOfCounts 24 = .ok (.invokestatic 65, 3) := by decide +kernel
theorem dX6_sumOfCounts_27 : decode cX6_sumOfCounts 27 = .ok (.iadd, 1) := by decide +kernel
theorem dX6_sumOfCounts_28 : decode cX6_sumOfCounts 28 = .ok (.istore 6, 2) := by decide +kernel
theorem dX6_sumOfCounts_30 : decode cX6_sumOfCounts 30 = .ok (.iload 4, 2) := by decide +kernel
theorem dX6_sumOfCounts_32 : decode cX6_sumOfCounts 32 = .ok (.iload 6, 2) := by decide +kernel
theorem dX6_sumOfCounts_34 : decode cX6_sumOfCounts 34 = .ok (.ifCond .lt 23, 3) := by decide +kernel
theorem dX6_sumOfCounts_37 : decode cX6_sumOfCounts 37 = .ok (.iload 6, 2) := by decide +kernel
theorem dX6_sumOfCounts_39 : decode cX6_sumOfCounts 39 = .ok (.aload_n 0, 1) := by decide +kernel
theorem dX6_sumOfCounts_40 : decode cX6_sumOfCounts 40 = .ok (.getfield 15, 3) := by decide +kernel
theorem dX6_sumOfCounts_43 : decode cX6_sumOfCounts 43 = .ok (.arraylength, 1) := by decide +kernel
theorem dX6_sumOfCounts_44 : decode cX6_sumOfCounts 44 = .ok (.if_icmp .ge 13, 3) := by decide +kernel
theorem dX6_sumOfCounts_47 : decode cX6_sumOfCounts 47 = .ok (.aload_n 0, 1) := by decide +kernel
theorem dX6_sumOfCounts_48 : decode cX6_sumOfCounts 48 = .ok (.getfield 15, 3) := by decide +kernel
theorem dX6_sumOfCounts_51 : decode cX6_sumOfCounts 51 = .ok (.iload 6, 2) := by decide +kernel
theorem dX6_sumOfCounts_53 : decode cX6_sumOfCounts 53 = .ok (.iaload, 1) := by decide +kernel
theorem dX6_sumOfCounts_54 : decode cX6_sumOfCounts 54 = .ok (.goto 4, 3) := by decide +kernel
theorem dX6_sumOfCounts_57 : decode cX6_sumOfCounts 57 = .ok (.iconst 0, 1) := by decide +kernel
theorem dX6_sumOfCounts_58 : decode cX6_sumOfCounts 58 = .ok (.iadd, 1) := by decide +kernel
theorem dX6_sumOfCounts_59 : decode cX6_sumOfCounts 59 = .ok (.istore 4, 2) := by decide +kernel
theorem dX6_sumOfCounts_61 : decode cX6_sumOfCounts 61 = .ok (.iload_n 3, 1) := by decide +kernel
theorem dX6_sumOfCounts_62 : decode cX6_sumOfCounts 62 = .ok (.iload_n 3, 1) := by decide +kernel
theorem dX6_sumOfCounts_63 : decode cX6_sumOfCounts 63 = .ok (.iconst 1, 1) := by decide +kernel
theorem dX6_sumOfCounts_64 : decode cX6_sumOfCounts 64 = .ok (.isub, 1) := by decide +kernel
theorem dX6_sumOfCounts_65 : decode cX6_sumOfCounts 65 = .ok (.iand, 1) := by decide +kernel
theorem dX6_sumOfCounts_66 : decode cX6_sumOfCounts 66 = .ok (.istore_n 3, 1) := by decide +kernel
theorem dX6_sumOfCounts_67 : decode cX6_sumOfCounts 67 = .ok (.iinc 5 1, 3) := by decide +kernel
theorem dX6_sumOfCounts_70 : decode cX6_sumOfCounts 70 = .ok (.goto (-62), 3) := by decide +kernel
theorem dX6_sumOfCounts_73 : decode cX6_sumOfCounts 73 = .ok (.iload 4, 2) := by decide +kernel
theorem dX6_sumOfCounts_75 : decode cX6_sumOfCounts 75 = .ok (.ireturn, 1) := by decide +kernel
theorem dX6_putCount_0 : decode cX6_putCount 0 = .ok (.iload_n 1, 1) := by decide +kernel
theorem dX6_putCount_1 : decode cX6_putCount 1 = .ok (.bipush 10, 2) := by decide +kernel
theorem dX6_putCount_3 : decode cX6_putCount 3 = .ok (.imul, 1) := by decide +kernel
theorem dX6_putCount_4 : decode cX6_putCount 4 = .ok (.iload_n 2, 1) := by decide +kernel
theorem dX6_putCount_5 : decode cX6_putCount 5 = .ok (.iadd, 1) := by decide +kernel
theorem dX6_putCount_6 : decode cX6_putCount 6 = .ok (.istore 4, 2) := by decide +kernel
theorem dX6_putCount_8 : decode cX6_putCount 8 = .ok (.iload 4, 2) := by decide +kernel
theorem dX6_putCount_10 : decode cX6_putCount 10 = .ok (.ifCond .lt 21, 3) := by decide +kernel
theorem dX6_putCount_13 : decode cX6_putCount 13 = .ok (.iload 4, 2) := by decide +kernel
theorem dX6_putCount_15 : decode cX6_putCount 15 = .ok (.aload_n 0, 1) := by decide +kernel
theorem dX6_putCount_16 : decode cX6_putCount 16 = .ok (.getfield 15, 3) := by decide +kernel
theorem dX6_putCount_19 : decode cX6_putCount 19 = .ok (.arraylength, 1) := by decide +kernel
theorem dX6_putCount_20 : decode cX6_putCount 20 = .ok (.if_icmp .ge 11, 3) := by decide +kernel
theorem dX6_putCount_23 : decode cX6_putCount 23 = .ok (.aload_n 0, 1) := by decide +kernel
theorem dX6_putCount_24 : decode cX6_putCount 24 = .ok (.getfield 15, 3) := by decide +kernel
theorem dX6_putCount_27 : decode cX6_putCount 27 = .ok (.iload 4, 2) := by decide +kernel
theorem dX6_putCount_29 : decode cX6_putCount 29 = .ok (.iload_n 3, 1) := by decide +kernel
theorem dX6_putCount_30 : decode cX6_putCount 30 = .ok (.iastore, 1) := by decide +kernel
theorem dX6_putCount_31 : decode cX6_putCount 31 = .ok (.return_, 1) := by decide +kernel
theorem dX7_init_0 : decode cX7_init 0 = .ok (.aload_n 0, 1) := by decide +kernel
theorem dX7_init_1 : decode cX7_init 1 = .ok (.invokespecial 3, 3) := by decide +kernel
theorem dX7_init_4 : decode cX7_init 4 = .ok (.aload_n 0, 1) := by decide +kernel
theorem dX7_init_5 : decode cX7_init 5 = .ok (.bipush 120, 2) := by decide +kernel
theorem dX7_init_7 : decode cX7_init 7 = .ok (.newarray .char, 2) := by decide +kernel
theorem dX7_init_9 : decode cX7_init 9 = .ok (.putfield 9, 3) := by decide +kernel
theorem dX7_init_12 : decode cX7_init 12 = .ok (.return_, 1) := by decide +kernel
theorem dX7_size_0 : decode cX7_size 0 = .ok (.aload_n 0, 1) := by decide +kernel
theorem dX7_size_1 : decode cX7_size 1 = .ok (.getfield 15, 3) := by decide +kernel
theorem dX7_size_4 : decode cX7_size 4 = .ok (.ireturn, 1) := by decide +kernel
theorem dX7_empty_0 : decode cX7_empty 0 = .ok (.aload_n 0, 1) := by decide +kernel
theorem dX7_empty_1 : decode cX7_empty 1 = .ok (.iconst 0, 1) := by decide +kernel
theorem dX7_empty_2 : decode cX7_empty 2 = .ok (.putfield 15, 3) := by decide +kernel
theorem dX7_empty_5 : decode cX7_empty 5 = .ok (.return_, 1) := by decide +kernel
theorem dX7_add_0 : decode cX7_add 0 = .ok (.aload_n 0, 1) := by decide +kernel
theorem dX7_add_1 : decode cX7_add 1 = .ok (.getfield 15, 3) := by decide +kernel
theorem dX7_add_4 : decode cX7_add 4 = .ok (.ifCond .lt 15, 3) := by decide +kernel
theorem dX7_add_7 : decode cX7_add 7 = .ok (.aload_n 0, 1) := by decide +kernel
theorem dX7_add_8 : decode cX7_add 8 = .ok (.getfield 15, 3) := by decide +kernel
theorem dX7_add_11 : decode cX7_add 11 = .ok (.aload_n 0, 1) := by decide +kernel
theorem dX7_add_12 : decode cX7_add 12 = .ok (.getfield 9, 3) := by decide +kernel
theorem dX7_add_15 : decode cX7_add 15 = .ok (.arraylength, 1) := by decide +kernel
theorem dX7_add_16 : decode cX7_add 16 = .ok (.if_icmp .lt 5, 3) := by decide +kernel
theorem dX7_add_19 : decode cX7_add 19 = .ok (.iconst 0, 1) := by decide +kernel
theorem dX7_add_20 : decode cX7_add 20 = .ok (.ireturn, 1) := by decide +kernel
theorem dX7_add_21 : decode cX7_add 21 = .ok (.aload_n 0, 1) := by decide +kernel
theorem dX7_add_22 : decode cX7_add 22 = .ok (.getfield 9, 3) := by decide +kernel
theorem dX7_add_25 : decode cX7_add 25 = .ok (.aload_n 0, 1) := by decide +kernel
theorem dX7_add_26 : decode cX7_add 26 = .ok (.getfield 15, 3) := by decide +kernel
theorem dX7_add_29 : decode cX7_add 29 = .ok (.iload_n 1, 1) := by decide +kernel
theorem dX7_add_30 : decode cX7_add 30 = .ok (.castore, 1) := by decide +kernel
theorem dX7_add_31 : decode cX7_add 31 = .ok (.aload_n 0, 1) := by decide +kernel
theorem dX7_add_32 : decode cX7_add 32 = .ok (.dup, 1) := by decide +kernel
theorem dX7_add_33 : decode cX7_add 33 = .ok (.getfield 15, 3) := by decide +kernel
theorem dX7_add_36 : decode cX7_add 36 = .ok (.iconst 1, 1) := by decide +kernel
theorem dX7_add_37 : decode cX7_add 37 = .ok (.iadd, 1) := by decide +kernel
theorem dX7_add_38 : decode cX7_add 38 = .ok (.putfield 15, 3) := by decide +kernel
theorem dX7_add_41 : decode cX7_add 41 = .ok (.iconst 1, 1) := by decide +kernel
theorem dX7_add_42 : decode cX7_add 42 = .ok (.ireturn, 1) := by decide +kernel
theorem dX7_at_0 : decode cX7_at 0 = .ok (.iload_n 1, 1) := by decide +kernel
theorem dX7_at_1 : decode cX7_at 1 = .ok (.ifCond .lt 29, 3) := by decide +kernel
theorem dX7_at_4 : decode cX7_at 4 = .ok (.iload_n 1, 1) := by decide +kernel
theorem dX7_at_5 : decode cX7_at 5 = .ok (.aload_n 0, 1) := by decide +kernel
theorem dX7_at_6 : decode cX7_at 6 = .ok (.getfield 15, 3) := by decide +kernel
theorem dX7_at_9 : decode cX7_at 9 = .ok (.if_icmp .ge 21, 3) := by decide +kernel
theorem dX7_at_12 : decode cX7_at 12 = .ok (.iload_n 1, 1) := by decide +kernel
theorem dX7_at_13 : decode cX7_at 13 = .ok (.aload_n 0, 1) := by decide +kernel
theorem dX7_at_14 : decode cX7_at 14 = .ok (.getfield 9, 3) := by decide +kernel
theorem dX7_at_17 : decode cX7_at 17 = .ok (.arraylength, 1) := by decide +kernel
theorem dX7_at_18 : decode cX7_at 18 = .ok (.if_icmp .ge 12, 3) := by decide +kernel
theorem dX7_at_21 : decode cX7_at 21 = .ok (.aload_n 0, 1) := by decide +kernel
theorem dX7_at_22 : decode cX7_at 22 = .ok (.getfield 9, 3) := by decide +kernel
theorem dX7_at_25 : decode cX7_at 25 = .ok (.iload_n 1, 1) := by decide +kernel
theorem dX7_at_26 : decode cX7_at 26 = .ok (.caload, 1) := by decide +kernel
theorem dX7_at_27 : decode cX7_at 27 = .ok (.goto 5, 3) := by decide +kernel
theorem dX7_at_30 : decode cX7_at 30 = .ok (.bipush 32, 2) := by decide +kernel
theorem dX7_at_32 : decode cX7_at 32 = .ok (.ireturn, 1) := by decide +kernel
theorem dX7_faultFor_0 : decode cX7_faultFor 0 = .ok (.iconst 0, 1) := by decide +kernel
theorem dX7_faultFor_1 : decode cX7_faultFor 1 = .ok (.istore_n 2, 1) := by decide +kernel
theorem dX7_faultFor_2 : decode cX7_faultFor 2 = .ok (.iload_n 2, 1) := by decide +kernel
theorem dX7_faultFor_3 : decode cX7_faultFor 3 = .ok (.aload_n 0, 1) := by decide +kernel
theorem dX7_faultFor_4 : decode cX7_faultFor 4 = .ok (.getfield 15, 3) := by decide +kernel
theorem dX7_faultFor_7 : decode cX7_faultFor 7 = .ok (.if_icmp .ge 20, 3) := by decide +kernel
theorem dX7_faultFor_10 : decode cX7_faultFor 10 = .ok (.aload_n 0, 1) := by decide +kernel
theorem dX7_faultFor_11 : decode cX7_faultFor 11 = .ok (.aload_n 1, 1) := by decide +kernel
theorem dX7_faultFor_12 : decode cX7_faultFor 12 = .ok (.iload_n 2, 1) := by decide +kernel
theorem dX7_faultFor_13 : decode cX7_faultFor 13 = .ok (.invokevirtual 19, 3) := by decide +kernel
theorem dX7_faultFor_16 : decode cX7_faultFor 16 = .ok (.ifCond .ne 5, 3) := by decide +kernel
theorem dX7_faultFor_19 : decode cX7_faultFor 19 = .ok (.iload_n 2, 1) := by decide +kernel
theorem dX7_faultFor_20 : decode cX7_faultFor 20 = .ok (.ireturn, 1) := by decide +kernel
theorem dX7_faultFor_21 : decode cX7_faultFor 21 = .ok (.iinc 2 4, 3) := by decide +kernel
theorem dX7_faultFor_24 : decode cX7_faultFor 24 = .ok (.goto (-22), 3) := by decide +kernel
theorem dX7_faultFor_27 : decode cX7_faultFor 27 = .ok (.bipush (-4), 2) := by decide +kernel
theorem dX7_faultFor_29 : decode cX7_faultFor 29 = .ok (.ireturn, 1) := by decide +kernel
theorem dX7_isResult_0 : decode cX7_isResult 0 = .ok (.aload_n 0, 1) := by decide +kernel
theorem dX7_isResult_1 : decode cX7_isResult 1 = .ok (.iload_n 2, 1) := by decide +kernel
theorem dX7_isResult_2 : decode cX7_isResult 2 = .ok (.iconst 1, 1) := by decide +kernel
theorem dX7_isResult_3 : decode cX7_isResult 3 = .ok (.iadd, 1) := by decide +kernel
theorem dX7_isResult_4 : decode cX7_isResult 4 = .ok (.invokevirtual 23, 3) := by decide +kernel
theorem dX7_isResult_7 : decode cX7_isResult 7 = .ok (.istore_n 3, 1) := by decide +kernel
theorem dX7_isResult_8 : decode cX7_isResult 8 = .ok (.aload_n 1, 1) := by decide +kernel
theorem dX7_isResult_9 : decode cX7_isResult 9 = .ok (.aload_n 0, 1) := by decide +kernel
theorem dX7_isResult_10 : decode cX7_isResult 10 = .ok (.iload_n 2, 1) := by decide +kernel
theorem dX7_isResult_11 : decode cX7_isResult 11 = .ok (.invokevirtual 23, 3) := by decide +kernel
theorem dX7_isResult_14 : decode cX7_isResult 14 = .ok (.bipush 48, 2) := by decide +kernel
theorem dX7_isResult_16 : decode cX7_isResult 16 = .ok (.isub, 1) := by decide +kernel
theorem dX7_isResult_17 : decode cX7_isResult 17 = .ok (.aload_n 0, 1) := by decide +kernel
theorem dX7_isResult_18 : decode cX7_isResult 18 = .ok (.iload_n 2, 1) := by decide +kernel
theorem dX7_isResult_19 : decode cX7_isResult 19 = .ok (.iconst 2, 1) := by decide +kernel
theorem dX7_isResult_20 : decode cX7_isResult 20 = .ok (.iadd, 1) := by decide +kernel
theorem dX7_isResult_21 : decode cX7_isResult 21 = .ok (.invokevirtual 23, 3) := by decide +kernel
theorem dX7_isResult_24 : decode cX7_isResult 24 = .ok (.bipush 48, 2) := by decide +kernel
theorem dX7_isResult_26 : decode cX7_isResult 26 = .ok (.isub, 1) := by decide +kernel
theorem dX7_isResult_27 : decode cX7_isResult 27 = .ok (.invokevirtual 27, 3) := by decide +kernel
theorem dX7_isResult_30 : decode cX7_isResult 30 = .ok (.ifCond .eq 31, 3) := by decide +kernel
theorem dX7_isResult_33 : decode cX7_isResult 33 = .ok (.iload_n 3, 1) := by decide +kernel
theorem dX7_isResult_34 : decode cX7_isResult 34 = .ok (.bipush 62, 2) := by decide +kernel
theorem dX7_isResult_36 : decode cX7_isResult 36 = .ok (.if_icmp .eq 9, 3) := by decide +kernel
theorem dX7_isResult_39 : decode cX7_isResult 39 = .ok (.iload_n 3, 1) := by decide +kernel
theorem dX7_isResult_40 : decode cX7_isResult 40 = .ok (.bipush 60, 2) := by decide +kernel
theorem dX7_isResult_42 : decode cX7_isResult 42 = .ok (.if_icmp .ne 19, 3) := by decide +kernel
theorem dX7_isResult_45 : decode cX7_isResult 45 = .ok (.aload_n 0, 1) := by decide +kernel
theorem dX7_isResult_46 : decode cX7_isResult 46 = .ok (.iload_n 2, 1) := by decide +kernel
theorem dX7_isResult_47 : decode cX7_isResult 47 = .ok (.iconst 3, 1) := by decide +kernel
theorem dX7_isResult_48 : decode cX7_isResult 48 = .ok (.iadd, 1) := by decide +kernel
theorem dX7_isResult_49 : decode cX7_isResult 49 = .ok (.invokevirtual 23, 3) := by decide +kernel
theorem dX7_isResult_52 : decode cX7_isResult 52 = .ok (.bipush 59, 2) := by decide +kernel
theorem dX7_isResult_54 : decode cX7_isResult 54 = .ok (.if_icmp .ne 7, 3) := by decide +kernel
theorem dX7_isResult_57 : decode cX7_isResult 57 = .ok (.iconst 1, 1) := by decide +kernel
theorem dX7_isResult_58 : decode cX7_isResult 58 = .ok (.goto 4, 3) := by decide +kernel
theorem dX7_isResult_61 : decode cX7_isResult 61 = .ok (.iconst 0, 1) := by decide +kernel
theorem dX7_isResult_62 : decode cX7_isResult 62 = .ok (.ireturn, 1) := by decide +kernel
theorem dX7_enterInto_0 : decode cX7_enterInto 0 = .ok (.iconst 0, 1) := by decide +kernel
theorem dX7_enterInto_1 : decode cX7_enterInto 1 = .ok (.istore_n 2, 1) := by decide +kernel
theorem dX7_enterInto_2 : decode cX7_enterInto 2 = .ok (.iconst 0, 1) := by decide +kernel
theorem dX7_enterInto_3 : decode cX7_enterInto 3 = .ok (.istore_n 3, 1) := by decide +kernel
theorem dX7_enterInto_4 : decode cX7_enterInto 4 = .ok (.iload_n 3, 1) := by decide +kernel
theorem dX7_enterInto_5 : decode cX7_enterInto 5 = .ok (.aload_n 0, 1) := by decide +kernel
theorem dX7_enterInto_6 : decode cX7_enterInto 6 = .ok (.getfield 15, 3) := by decide +kernel
theorem dX7_enterInto_9 : decode cX7_enterInto 9 = .ok (.if_icmp .ge 81, 3) := by decide +kernel
theorem dX7_enterInto_12 : decode cX7_enterInto 12 = .ok (.aload_n 0, 1) := by decide +kernel
theorem dX7_enterInto_13 : decode cX7_enterInto 13 = .ok (.iload_n 3, 1) := by decide +kernel
theorem dX7_enterInto_14 : decode cX7_enterInto 14 = .ok (.invokevirtual 23, 3) := by decide +kernel
theorem dX7_enterInto_17 : decode cX7_enterInto 17 = .ok (.bipush 48, 2) := by decide +kernel
theorem dX7_enterInto_19 : decode cX7_enterInto 19 = .ok (.isub, 1) := by decide +kernel
theorem dX7_enterInto_20 : decode cX7_enterInto 20 = .ok (.istore 4, 2) := by decide +kernel
theorem dX7_enterInto_22 : decode cX7_enterInto 22 = .ok (.aload_n 0, 1) := by decide +kernel
theorem dX7_enterInto_23 : decode cX7_enterInto 23 = .ok (.iload_n 3, 1) := by decide +kernel
theorem dX7_enterInto_24 : decode cX7_enterInto 24 = .ok (.iconst 2, 1) := by decide +kernel
theorem dX7_enterInto_25 : decode cX7_enterInto 25 = .ok (.iadd, 1) := by decide +kernel
theorem dX7_enterInto_26 : decode cX7_enterInto 26 = .ok (.invokevirtual 23, 3) := by decide +kernel
theorem dX7_enterInto_29 : decode cX7_enterInto 29 = .ok (.bipush 48, 2) := by decide +kernel
theorem dX7_enterInto_31 : decode cX7_enterInto 31 = .ok (.isub, 1) := by decide +kernel
theorem dX7_enterInto_32 : decode cX7_enterInto 32 = .ok (.istore 5, 2) := by decide +kernel
theorem dX7_enterInto_34 : decode cX7_enterInto 34 = .ok (.aload_n 0, 1) := by decide +kernel
theorem dX7_enterInto_35 : decode cX7_enterInto 35 = .ok (.iload_n 3, 1) := by decide +kernel
theorem dX7_enterInto_36 : decode cX7_enterInto 36 = .ok (.iconst 1, 1) := by decide +kernel
theorem dX7_enterInto_37 : decode cX7_enterInto 37 = .ok (.iadd, 1) := by decide +kernel
theorem dX7_enterInto_38 : decode cX7_enterInto 38 = .ok (.invokevirtual 23, 3) := by decide +kernel
theorem dX7_enterInto_41 : decode cX7_enterInto 41 = .ok (.bipush 62, 2) := by decide +kernel
theorem dX7_enterInto_43 : decode cX7_enterInto 43 = .ok (.if_icmp .ne 7, 3) := by decide +kernel
theorem dX7_enterInto_46 : decode cX7_enterInto 46 = .ok (.iconst 1, 1) := by decide +kernel
theorem dX7_enterInto_47 : decode cX7_enterInto 47 = .ok (.goto 4, 3) := by decide +kernel
theorem dX7_enterInto_50 : decode cX7_enterInto 50 = .ok (.iconst 0, 1) := by decide +kernel
theorem dX7_enterInto_51 : decode cX7_enterInto 51 = .ok (.istore 6, 2) := by decide +kernel
theorem dX7_enterInto_53 : decode cX7_enterInto 53 = .ok (.aload_n 1, 1) := by decide +kernel
theorem dX7_enterInto_54 : decode cX7_enterInto 54 = .ok (.iload 6, 2) := by decide +kernel
theorem dX7_enterInto_56 : decode cX7_enterInto 56 = .ok (.ifCond .eq 8, 3) := by decide +kernel
theorem dX7_enterInto_59 : decode cX7_enterInto 59 = .ok (.iload 4, 2) := by decide +kernel
theorem dX7_enterInto_61 : decode cX7_enterInto 61 = .ok (.goto 5, 3) := by decide +kernel
theorem dX7_enterInto_64 : decode cX7_enterInto 64 = .ok (.iload 5, 2) := by decide +kernel
theorem dX7_enterInto_66 : decode cX7_enterInto 66 = .ok (.iload 6, 2) := by decide +kernel
theorem dX7_enterInto_68 : decode cX7_enterInto 68 = .ok (.ifCond .eq 8, 3) := by decide +kernel
theorem dX7_enterInto_71 : decode cX7_enterInto 71 = .ok (.iload 5, 2) := by decide +kernel
theorem dX7_enterInto_73 : decode cX7_enterInto 73 = .ok (.goto 5, 3) := by decide +kernel
theorem dX7_enterInto_76 : decode cX7_enterInto 76 = .ok (.iload 4, 2) := by decide +kernel
theorem dX7_enterInto_78 : decode cX7_enterInto 78 = .ok (.invokevirtual 33, 3) := by decide +kernel
theorem dX7_enterInto_81 : decode cX7_enterInto 81 = .ok (.iinc 2 1, 3) := by decide +kernel
theorem dX7_enterInto_84 : decode cX7_enterInto 84 = .ok (.iinc 3 4, 3) := by decide +kernel
theorem dX7_enterInto_87 : decode cX7_enterInto 87 = .ok (.goto (-83), 3) := by decide +kernel
theorem dX7_enterInto_90 : decode cX7_enterInto 90 = .ok (.iload_n 2, 1) := by decide +kernel
theorem dX7_enterInto_91 : decode cX7_enterInto 91 = .ok (.ireturn, 1) := by decide +kernel
theorem dX8_init_0 : decode cX8_init 0 = .ok (.aload_n 0, 1) := by decide +kernel
theorem dX8_init_1 : decode cX8_init 1 = .ok (.invokespecial 3, 3) := by decide +kernel
theorem dX8_init_4 : decode cX8_init 4 = .ok (.aload_n 0, 1) := by decide +kernel
theorem dX8_init_5 : decode cX8_init 5 = .ok (.bipush 10, 2) := by decide +kernel
theorem dX8_init_7 : decode cX8_init 7 = .ok (.newarray .int, 2) := by decide +kernel
theorem dX8_init_9 : decode cX8_init 9 = .ok (.putfield 9, 3) := by decide +kernel
theorem dX8_init_12 : decode cX8_init 12 = .ok (.return_, 1) := by decide +kernel
theorem dX8_size_0 : decode cX8_size 0 = .ok (.aload_n 0, 1) := by decide +kernel
theorem dX8_size_1 : decode cX8_size 1 = .ok (.getfield 15, 3) := by decide +kernel
theorem dX8_size_4 : decode cX8_size 4 = .ok (.ireturn, 1) := by decide +kernel
theorem dX8_empty_0 : decode cX8_empty 0 = .ok (.aload_n 0, 1) := by decide +kernel
theorem dX8_empty_1 : decode cX8_empty 1 = .ok (.iconst 0, 1) := by decide +kernel
theorem dX8_empty_2 : decode cX8_empty 2 = .ok (.putfield 15, 3) := by decide +kernel
theorem dX8_empty_5 : decode cX8_empty 5 = .ok (.return_, 1) := by decide +kernel
theorem dX8_add_0 : decode cX8_add 0 = .ok (.aload_n 0, 1) := by decide +kernel
theorem dX8_add_1 : decode cX8_add 1 = .ok (.getfield 15, 3) := by decide +kernel
theorem dX8_add_4 : decode cX8_add 4 = .ok (.ifCond .lt 15, 3) := by decide +kernel
theorem dX8_add_7 : decode cX8_add 7 = .ok (.aload_n 0, 1) := by decide +kernel
theorem dX8_add_8 : decode cX8_add 8 = .ok (.getfield 15, 3) := by decide +kernel
theorem dX8_add_11 : decode cX8_add 11 = .ok (.aload_n 0, 1) := by decide +kernel
theorem dX8_add_12 : decode cX8_add 12 = .ok (.getfield 9, 3) := by decide +kernel
theorem dX8_add_15 : decode cX8_add 15 = .ok (.arraylength, 1) := by decide +kernel
theorem dX8_add_16 : decode cX8_add 16 = .ok (.if_icmp .lt 5, 3) := by decide +kernel
theorem dX8_add_19 : decode cX8_add 19 = .ok (.iconst 0, 1) := by decide +kernel
theorem dX8_add_20 : decode cX8_add 20 = .ok (.ireturn, 1) := by decide +kernel
theorem dX8_add_21 : decode cX8_add 21 = .ok (.aload_n 0, 1) := by decide +kernel
theorem dX8_add_22 : decode cX8_add 22 = .ok (.getfield 9, 3) := by decide +kernel
theorem dX8_add_25 : decode cX8_add 25 = .ok (.aload_n 0, 1) := by decide +kernel
theorem dX8_add_26 : decode cX8_add 26 = .ok (.getfield 15, 3) := by decide +kernel
theorem dX8_add_29 : decode cX8_add 29 = .ok (.iload_n 1, 1) := by decide +kernel
theorem dX8_add_30 : decode cX8_add 30 = .ok (.iastore, 1) := by decide +kernel
theorem dX8_add_31 : decode cX8_add 31 = .ok (.aload_n 0, 1) := by decide +kernel
theorem dX8_add_32 : decode cX8_add 32 = .ok (.dup, 1) := by decide +kernel
theorem dX8_add_33 : decode cX8_add 33 = .ok (.getfield 15, 3) := by decide +kernel
theorem dX8_add_36 : decode cX8_add 36 = .ok (.iconst 1, 1) := by decide +kernel
theorem dX8_add_37 : decode cX8_add 37 = .ok (.iadd, 1) := by decide +kernel
theorem dX8_add_38 : decode cX8_add 38 = .ok (.putfield 15, 3) := by decide +kernel
theorem dX8_add_41 : decode cX8_add 41 = .ok (.iconst 1, 1) := by decide +kernel
theorem dX8_add_42 : decode cX8_add 42 = .ok (.ireturn, 1) := by decide +kernel
theorem dX8_numberAt_0 : decode cX8_numberAt 0 = .ok (.iload_n 1, 1) := by decide +kernel
theorem dX8_numberAt_1 : decode cX8_numberAt 1 = .ok (.ifCond .lt 29, 3) := by decide +kernel
theorem dX8_numberAt_4 : decode cX8_numberAt 4 = .ok (.iload_n 1, 1) := by decide +kernel
theorem dX8_numberAt_5 : decode cX8_numberAt 5 = .ok (.aload_n 0, 1) := by decide +kernel
theorem dX8_numberAt_6 : decode cX8_numberAt 6 = .ok (.getfield 15, 3) := by decide +kernel
theorem dX8_numberAt_9 : decode cX8_numberAt 9 = .ok (.if_icmp .ge 21, 3) := by decide +kernel
theorem dX8_numberAt_12 : decode cX8_numberAt 12 = .ok (.iload_n 1, 1) := by decide +kernel
theorem dX8_numberAt_13 : decode cX8_numberAt 13 = .ok (.aload_n 0, 1) := by decide +kernel
theorem dX8_numberAt_14 : decode cX8_numberAt 14 = .ok (.getfield 9, 3) := by decide +kernel
theorem dX8_numberAt_17 : decode cX8_numberAt 17 = .ok (.arraylength, 1) := by decide +kernel
theorem dX8_numberAt_18 : decode cX8_numberAt 18 = .ok (.if_icmp .ge 12, 3) := by decide +kernel
theorem dX8_numberAt_21 : decode cX8_numberAt 21 = .ok (.aload_n 0, 1) := by decide +kernel
theorem dX8_numberAt_22 : decode cX8_numberAt 22 = .ok (.getfield 9, 3) := by decide +kernel
theorem dX8_numberAt_25 : decode cX8_numberAt 25 = .ok (.iload_n 1, 1) := by decide +kernel
theorem dX8_numberAt_26 : decode cX8_numberAt 26 = .ok (.iaload, 1) := by decide +kernel
theorem dX8_numberAt_27 : decode cX8_numberAt 27 = .ok (.goto 4, 3) := by decide +kernel
theorem dX8_numberAt_30 : decode cX8_numberAt 30 = .ok (.iconst 0, 1) := by decide +kernel
theorem dX8_numberAt_31 : decode cX8_numberAt 31 = .ok (.ireturn, 1) := by decide +kernel
theorem dX8_failingCount_0 : decode cX8_failingCount 0 = .ok (.aload_n 0, 1) := by decide +kernel
theorem dX8_failingCount_1 : decode cX8_failingCount 1 = .ok (.getfield 15, 3) := by decide +kernel
theorem dX8_failingCount_4 : decode cX8_failingCount 4 = .ok (.iconst 2, 1) := by decide +kernel
theorem dX8_failingCount_5 : decode cX8_failingCount 5 = .ok (.if_icmp .ge 6, 3) := by decide +kernel
theorem dX8_failingCount_8 : decode cX8_failingCount 8 = .ok (.bipush (-2), 2) := by decide +kernel
theorem dX8_failingCount_10 : decode cX8_failingCount 10 = .ok (.ireturn, 1) := by decide +kernel
theorem dX8_failingCount_11 : decode cX8_failingCount 11 = .ok (.iconst 1, 1) := by decide +kernel
theorem dX8_failingCount_12 : decode cX8_failingCount 12 = .ok (.istore_n 1, 1) := by decide +kernel
theorem dX8_failingCount_13 : decode cX8_failingCount 13 = .ok (.iload_n 1, 1) := by decide +kernel
theorem dX8_failingCount_14 : decode cX8_failingCount 14 = .ok (.aload_n 0, 1) := by decide +kernel
theorem dX8_failingCount_15 : decode cX8_failingCount 15 = .ok (.getfield 15, 3) := by decide +kernel
theorem dX8_failingCount_18 : decode cX8_failingCount 18 = .ok (.if_icmp .gt 43, 3) := by decide +kernel
theorem dX8_failingCount_21 : decode cX8_failingCount 21 = .ok (.aload_n 0, 1) := by decide +kernel
theorem dX8_failingCount_22 : decode cX8_failingCount 22 = .ok (.iload_n 1, 1) := by decide +kernel
theorem dX8_failingCount_23 : decode cX8_failingCount 23 = .ok (.invokevirtual 19, 3) := by decide +kernel
theorem dX8_failingCount_26 : decode cX8_failingCount 26 = .ok (.istore_n 2, 1) := by decide +kernel
theorem dX8_failingCount_27 : decode cX8_failingCount 27 = .ok (.iload_n 1, 1) := by decide +kernel
theorem dX8_failingCount_28 : decode cX8_failingCount 28 = .ok (.iload_n 1, 1) := by decide +kernel
theorem dX8_failingCount_29 : decode cX8_failingCount 29 = .ok (.iconst 1, 1) := by decide +kernel
theorem dX8_failingCount_30 : decode cX8_failingCount 30 = .ok (.isub, 1) := by decide +kernel
theorem dX8_failingCount_31 : decode cX8_failingCount 31 = .ok (.imul, 1) := by decide +kernel
theorem dX8_failingCount_32 : decode cX8_failingCount 32 = .ok (.iconst 2, 1) := by decide +kernel
theorem dX8_failingCount_33 : decode cX8_failingCount 33 = .ok (.idiv, 1) := by decide +kernel
theorem dX8_failingCount_34 : decode cX8_failingCount 34 = .ok (.istore_n 3, 1) := by decide +kernel
theorem dX8_failingCount_35 : decode cX8_failingCount 35 = .ok (.iload_n 2, 1) := by decide +kernel
theorem dX8_failingCount_36 : decode cX8_failingCount 36 = .ok (.iload_n 3, 1) := by decide +kernel
theorem dX8_failingCount_37 : decode cX8_failingCount 37 = .ok (.if_icmp .lt 16, 3) := by decide +kernel
theorem dX8_failingCount_40 : decode cX8_failingCount 40 = .ok (.iload_n 1, 1) := by decide +kernel
theorem dX8_failingCount_41 : decode cX8_failingCount 41 = .ok (.aload_n 0, 1) := by decide +kernel
theorem dX8_failingCount_42 : decode cX8_failingCount 42 = .ok (.getfield 15, 3) := by decide +kernel
theorem dX8_failingCount_45 : decode cX8_failingCount 45 = .ok (.if_icmp .ne 10, 3) := by decide +kernel
theorem dX8_failingCount_48 : decode cX8_failingCount 48 = .ok (.iload_n 2, 1) := by decide +kernel
theorem dX8_failingCount_49 : decode cX8_failingCount 49 = .ok (.iload_n 3, 1) := by decide +kernel
theorem dX8_failingCount_50 : decode cX8_failingCount 50 = .ok (.if_icmp .le 5, 3) := by decide +kernel
theorem dX8_failingCount_53 : decode cX8_failingCount 53 = .ok (.iload_n 1, 1) := by decide +kernel
theorem dX8_failingCount_54 : decode cX8_failingCount 54 = .ok (.ireturn, 1) := by decide +kernel
theorem dX8_failingCount_55 : decode cX8_failingCount 55 = .ok (.iinc 1 1, 3) := by decide +kernel
theorem dX8_failingCount_58 : decode cX8_failingCount 58 = .ok (.goto (-45), 3) := by decide +kernel
theorem dX8_failingCount_61 : decode cX8_failingCount 61 = .ok (.iconst 0, 1) := by decide +kernel
theorem dX8_failingCount_62 : decode cX8_failingCount 62 = .ok (.ireturn, 1) := by decide +kernel
theorem dX8_sumOfSmallest_0 : decode cX8_sumOfSmallest 0 = .ok (.iconst 0, 1) := by decide +kernel
theorem dX8_sumOfSmallest_1 : decode cX8_sumOfSmallest 1 = .ok (.istore_n 2, 1) := by decide +kernel
theorem dX8_sumOfSmallest_2 : decode cX8_sumOfSmallest 2 = .ok (.iload_n 1, 1) := by decide +kernel
theorem dX8_sumOfSmallest_3 : decode cX8_sumOfSmallest 3 = .ok (.istore_n 3, 1) := by decide +kernel
theorem dX8_sumOfSmallest_4 : decode cX8_sumOfSmallest 4 = .ok (.iconst 0, 1) := by decide +kernel
theorem dX8_sumOfSmallest_5 : decode cX8_sumOfSmallest 5 = .ok (.istore 4, 2) := by decide +kernel
theorem dX8_sumOfSmallest_7 : decode cX8_sumOfSmallest 7 = .ok (.iload 4, 2) := by decide +kernel
theorem dX8_sumOfSmallest_9 : decode cX8_sumOfSmallest 9 = .ok (.bipush 9, 2) := by decide +kernel
theorem dX8_sumOfSmallest_11 : decode cX8_sumOfSmallest 11 = .ok (.if_icmp .gt 34, 3) := by decide +kernel
theorem dX8_sumOfSmallest_14 : decode cX8_sumOfSmallest 14 = .ok (.iload_n 3, 1) := by decide +kernel
theorem dX8_sumOfSmallest_15 : decode cX8_sumOfSmallest 15 = .ok (.aload_n 0, 1) := by decide +kernel
theorem dX8_sumOfSmallest_16 : decode cX8_sumOfSmallest 16 = .ok (.iload 4, 2) := by decide +kernel
theorem dX8_sumOfSmallest_18 : decode cX8_sumOfSmallest 18 = .ok (.invokevirtual 23, 3) := by decide +kernel
theorem dX8_sumOfSmallest_21 : decode cX8_sumOfSmallest 21 = .ok (.invokestatic 26, 3) := by decide +kernel
theorem dX8_sumOfSmallest_24 : decode cX8_sumOfSmallest 24 = .ok (.istore 5, 2) := by decide +kernel
theorem dX8_sumOfSmallest_26 : decode cX8_sumOfSmallest 26 = .ok (.iload_n 2, 1) := by decide +kernel
theorem dX8_sumOfSmallest_27 : decode cX8_sumOfSmallest 27 = .ok (.iload 5, 2) := by decide +kernel
theorem dX8_sumOfSmallest_29 : decode cX8_sumOfSmallest 29 = .ok (.iload 4, 2) := by decide +kernel
theorem dX8_sumOfSmallest_31 : decode cX8_sumOfSmallest 31 = .ok (.imul, 1) := by decide +kernel
theorem dX8_sumOfSmallest_32 : decode cX8_sumOfSmallest 32 = .ok (.iadd, 1) := by decide +kernel
theorem dX8_sumOfSmallest_33 : decode cX8_sumOfSmallest 33 = .ok (.istore_n 2, 1) := by decide +kernel
theorem dX8_sumOfSmallest_34 : decode cX8_sumOfSmallest 34 = .ok (.iload_n 3, 1) := by decide +kernel
theorem dX8_sumOfSmallest_35 : decode cX8_sumOfSmallest 35 = .ok (.iload 5, 2) := by decide +kernel
theorem dX8_sumOfSmallest_37 : decode cX8_sumOfSmallest 37 = .ok (.isub, 1) := by decide +kernel
theorem dX8_sumOfSmallest_38 : decode cX8_sumOfSmallest 38 = .ok (.istore_n 3, 1) := by decide +kernel
theorem dX8_sumOfSmallest_39 : decode cX8_sumOfSmallest 39 = .ok (.iinc 4 1, 3) := by decide +kernel
theorem dX8_sumOfSmallest_42 : decode cX8_sumOfSmallest 42 = .ok (.goto (-35), 3) := by decide +kernel
theorem dX8_sumOfSmallest_45 : decode cX8_sumOfSmallest 45 = .ok (.iload_n 2, 1) := by decide +kernel
theorem dX8_sumOfSmallest_46 : decode cX8_sumOfSmallest 46 = .ok (.ireturn, 1) := by decide +kernel
theorem dX8_timesOf_0 : decode cX8_timesOf 0 = .ok (.iconst 0, 1) := by decide +kernel
theorem dX8_timesOf_1 : decode cX8_timesOf 1 = .ok (.istore_n 2, 1) := by decide +kernel
theorem dX8_timesOf_2 : decode cX8_timesOf 2 = .ok (.iconst 0, 1) := by decide +kernel
theorem dX8_timesOf_3 : decode cX8_timesOf 3 = .ok (.istore_n 3, 1) := by decide +kernel
theorem dX8_timesOf_4 : decode cX8_timesOf 4 = .ok (.iload_n 3, 1) := by decide +kernel
theorem dX8_timesOf_5 : decode cX8_timesOf 5 = .ok (.aload_n 0, 1) := by decide +kernel
theorem dX8_timesOf_6 : decode cX8_timesOf 6 = .ok (.getfield 15, 3) := by decide +kernel
theorem dX8_timesOf_9 : decode cX8_timesOf 9 = .ok (.if_icmp .ge 26, 3) := by decide +kernel
theorem dX8_timesOf_12 : decode cX8_timesOf 12 = .ok (.iload_n 2, 1) := by decide +kernel
theorem dX8_timesOf_13 : decode cX8_timesOf 13 = .ok (.aload_n 0, 1) := by decide +kernel
theorem dX8_timesOf_14 : decode cX8_timesOf 14 = .ok (.iload_n 3, 1) := by decide +kernel
theorem dX8_timesOf_15 : decode cX8_timesOf 15 = .ok (.invokevirtual 32, 3) := by decide +kernel
theorem dX8_timesOf_18 : decode cX8_timesOf 18 = .ok (.iload_n 1, 1) := by decide +kernel
theorem dX8_timesOf_19 : decode cX8_timesOf 19 = .ok (.if_icmp .ne 7, 3) := by decide +kernel
theorem dX8_timesOf_22 : decode cX8_timesOf 22 = .ok (.iconst 1, 1) := by decide +kernel
theorem dX8_timesOf_23 : decode cX8_timesOf 23 = .ok (.goto 4, 3) := by decide +kernel
theorem dX8_timesOf_26 : decode cX8_timesOf 26 = .ok (.iconst 0, 1) := by decide +kernel
theorem dX8_timesOf_27 : decode cX8_timesOf 27 = .ok (.iadd, 1) := by decide +kernel
theorem dX8_timesOf_28 : decode cX8_timesOf 28 = .ok (.istore_n 2, 1) := by decide +kernel
theorem dX8_timesOf_29 : decode cX8_timesOf 29 = .ok (.iinc 3 1, 3) := by decide +kernel
theorem dX8_timesOf_32 : decode cX8_timesOf 32 = .ok (.goto (-28), 3) := by decide +kernel
theorem dX8_timesOf_35 : decode cX8_timesOf 35 = .ok (.iload_n 2, 1) := by decide +kernel
theorem dX8_timesOf_36 : decode cX8_timesOf 36 = .ok (.ireturn, 1) := by decide +kernel
theorem dX9_leadersOf_0 : decode cX9_leadersOf 0 = .ok (.iconst (-1), 1) := by decide +kernel
theorem dX9_leadersOf_1 : decode cX9_leadersOf 1 = .ok (.istore_n 2, 1) := by decide +kernel
theorem dX9_leadersOf_2 : decode cX9_leadersOf 2 = .ok (.iconst 0, 1) := by decide +kernel
theorem dX9_leadersOf_3 : decode cX9_leadersOf 3 = .ok (.istore_n 3, 1) := by decide +kernel
theorem dX9_leadersOf_4 : decode cX9_leadersOf 4 = .ok (.iconst 0, 1) := by decide +kernel
theorem dX9_leadersOf_5 : decode cX9_leadersOf 5 = .ok (.istore 4, 2) := by decide +kernel
theorem dX9_leadersOf_7 : decode cX9_leadersOf 7 = .ok (.iload 4, 2) := by decide +kernel
theorem dX9_leadersOf_9 : decode cX9_leadersOf 9 = .ok (.aload_n 0, 1) := by decide +kernel
theorem dX9_leadersOf_10 : decode cX9_leadersOf 10 = .ok (.invokevirtual 9, 3) := by decide +kernel
theorem dX9_leadersOf_13 : decode cX9_leadersOf 13 = .ok (.if_icmp .ge 62, 3) := by decide +kernel
theorem dX9_leadersOf_16 : decode cX9_leadersOf 16 = .ok (.aload_n 0, 1) := by decide +kernel
theorem dX9_leadersOf_17 : decode cX9_leadersOf 17 = .ok (.iload 4, 2) := by decide +kernel
theorem dX9_leadersOf_19 : decode cX9_leadersOf 19 = .ok (.invokevirtual 15, 3) := by decide +kernel
theorem dX9_leadersOf_22 : decode cX9_leadersOf 22 = .ok (.iload_n 1, 1) := by decide +kernel
theorem dX9_leadersOf_23 : decode cX9_leadersOf 23 = .ok (.iand, 1) := by decide +kernel
theorem dX9_leadersOf_24 : decode cX9_leadersOf 24 = .ok (.invokestatic 19, 3) := by decide +kernel
theorem dX9_leadersOf_27 : decode cX9_leadersOf 27 = .ok (.istore 5, 2) := by decide +kernel
theorem dX9_leadersOf_29 : decode cX9_leadersOf 29 = .ok (.iload_n 1, 1) := by decide +kernel
theorem dX9_leadersOf_30 : decode cX9_leadersOf 30 = .ok (.iload 4, 2) := by decide +kernel
theorem dX9_leadersOf_32 : decode cX9_leadersOf 32 = .ok (.invokestatic 24, 3) := by decide +kernel
theorem dX9_leadersOf_35 : decode cX9_leadersOf 35 = .ok (.ifCond .eq 34, 3) := by decide +kernel
theorem dX9_leadersOf_38 : decode cX9_leadersOf 38 = .ok (.iload 5, 2) := by decide +kernel
theorem dX9_leadersOf_40 : decode cX9_leadersOf 40 = .ok (.iload_n 2, 1) := by decide +kernel
theorem dX9_leadersOf_41 : decode cX9_leadersOf 41 = .ok (.if_icmp .lt 28, 3) := by decide +kernel
theorem dX9_leadersOf_44 : decode cX9_leadersOf 44 = .ok (.iload 5, 2) := by decide +kernel
theorem dX9_leadersOf_46 : decode cX9_leadersOf 46 = .ok (.iload_n 2, 1) := by decide +kernel
theorem dX9_leadersOf_47 : decode cX9_leadersOf 47 = .ok (.if_icmp .le 11, 3) := by decide +kernel
theorem dX9_leadersOf_50 : decode cX9_leadersOf 50 = .ok (.iload 4, 2) := by decide +kernel
theorem dX9_leadersOf_52 : decode cX9_leadersOf 52 = .ok (.invokestatic 28, 3) := by decide +kernel
theorem dX9_leadersOf_55 : decode cX9_leadersOf 55 = .ok (.goto 10, 3) := by decide +kernel
theorem dX9_leadersOf_58 : decode cX9_leadersOf 58 = .ok (.iload_n 3, 1) := by decide +kernel
theorem dX9_leadersOf_59 : decode cX9_leadersOf 59 = .ok (.iload 4, 2) := by decide +kernel
theorem dX9_leadersOf_61 : decode cX9_leadersOf 61 = .ok (.invokestatic 28, 3) := by decide +kernel
theorem dX9_leadersOf_64 : decode cX9_leadersOf 64 = .ok (.ior, 1) := by decide +kernel
theorem dX9_leadersOf_65 : decode cX9_leadersOf 65 = .ok (.istore_n 3, 1) := by decide +kernel
theorem dX9_leadersOf_66 : decode cX9_leadersOf 66 = .ok (.iload 5, 2) := by decide +kernel
theorem dX9_leadersOf_68 : decode cX9_leadersOf 68 = .ok (.istore_n 2, 1) := by decide +kernel
theorem dX9_leadersOf_69 : decode cX9_leadersOf 69 = .ok (.iinc 4 1, 3) := by decide +kernel
theorem dX9_leadersOf_72 : decode cX9_leadersOf 72 = .ok (.goto (-65), 3) := by decide +kernel
theorem dX9_leadersOf_75 : decode cX9_leadersOf 75 = .ok (.iload_n 3, 1) := by decide +kernel
theorem dX9_leadersOf_76 : decode cX9_leadersOf 76 = .ok (.ireturn, 1) := by decide +kernel
theorem dX9_topOf_0 : decode cX9_topOf 0 = .ok (.aload_n 0, 1) := by decide +kernel
theorem dX9_topOf_1 : decode cX9_topOf 1 = .ok (.iload_n 1, 1) := by decide +kernel
theorem dX9_topOf_2 : decode cX9_topOf 2 = .ok (.invokestatic 31, 3) := by decide +kernel
theorem dX9_topOf_5 : decode cX9_topOf 5 = .ok (.istore_n 2, 1) := by decide +kernel
theorem dX9_topOf_6 : decode cX9_topOf 6 = .ok (.iconst 0, 1) := by decide +kernel
theorem dX9_topOf_7 : decode cX9_topOf 7 = .ok (.istore_n 3, 1) := by decide +kernel
theorem dX9_topOf_8 : decode cX9_topOf 8 = .ok (.iload_n 3, 1) := by decide +kernel
theorem dX9_topOf_9 : decode cX9_topOf 9 = .ok (.aload_n 0, 1) := by decide +kernel
theorem dX9_topOf_10 : decode cX9_topOf 10 = .ok (.invokevirtual 9, 3) := by decide +kernel
theorem dX9_topOf_13 : decode cX9_topOf 13 = .ok (.if_icmp .ge 55, 3) := by decide +kernel
theorem dX9_topOf_16 : decode cX9_topOf 16 = .ok (.iconst 0, 1) := by decide +kernel
theorem dX9_topOf_17 : decode cX9_topOf 17 = .ok (.istore 4, 2) := by decide +kernel
theorem dX9_topOf_19 : decode cX9_topOf 19 = .ok (.iload 4, 2) := by decide +kernel
theorem dX9_topOf_21 : decode cX9_topOf 21 = .ok (.aload_n 0, 1) := by decide +kernel
theorem dX9_topOf_22 : decode cX9_topOf 22 = .ok (.invokevirtual 9, 3) := by decide +kernel
theorem dX9_topOf_25 : decode cX9_topOf 25 = .ok (.if_icmp .ge 37, 3) := by decide +kernel
theorem dX9_topOf_28 : decode cX9_topOf 28 = .ok (.iload_n 1, 1) := by decide +kernel
theorem dX9_topOf_29 : decode cX9_topOf 29 = .ok (.iload 4, 2) := by decide +kernel
theorem dX9_topOf_31 : decode cX9_topOf 31 = .ok (.invokestatic 24, 3) := by decide +kernel
theorem dX9_topOf_34 : decode cX9_topOf 34 = .ok (.ifCond .eq 22, 3) := by decide +kernel
theorem dX9_topOf_37 : decode cX9_topOf 37 = .ok (.aload_n 0, 1) := by decide +kernel
theorem dX9_topOf_38 : decode cX9_topOf 38 = .ok (.iload 4, 2) := by decide +kernel
theorem dX9_topOf_40 : decode cX9_topOf 40 = .ok (.invokevirtual 15, 3) := by decide +kernel
theorem dX9_topOf_43 : decode cX9_topOf 43 = .ok (.iload_n 2, 1) := by decide +kernel
theorem dX9_topOf_44 : decode cX9_topOf 44 = .ok (.iand, 1) := by decide +kernel
theorem dX9_topOf_45 : decode cX9_topOf 45 = .ok (.ifCond .eq 11, 3) := by decide +kernel
theorem dX9_topOf_48 : decode cX9_topOf 48 = .ok (.iload_n 2, 1) := by decide +kernel
theorem dX9_topOf_49 : decode cX9_topOf 49 = .ok (.iload 4, 2) := by decide +kernel
theorem dX9_topOf_51 : decode cX9_topOf 51 = .ok (.invokestatic 28, 3) := by decide +kernel
theorem dX9_topOf_54 : decode cX9_topOf 54 = .ok (.ior, 1) := by decide +kernel
theorem dX9_topOf_55 : decode cX9_topOf 55 = .ok (.istore_n 2, 1) := by decide +kernel
theorem dX9_topOf_56 : decode cX9_topOf 56 = .ok (.iinc 4 1, 3) := by decide +kernel
theorem dX9_topOf_59 : decode cX9_topOf 59 = .ok (.goto (-40), 3) := by decide +kernel
theorem dX9_topOf_62 : decode cX9_topOf 62 = .ok (.iinc 3 1, 3) := by decide +kernel
theorem dX9_topOf_65 : decode cX9_topOf 65 = .ok (.goto (-57), 3) := by decide +kernel
theorem dX9_topOf_68 : decode cX9_topOf 68 = .ok (.iload_n 2, 1) := by decide +kernel
theorem dX9_topOf_69 : decode cX9_topOf 69 = .ok (.ireturn, 1) := by decide +kernel
theorem dX9_countParts_0 : decode cX9_countParts 0 = .ok (.aload_n 0, 1) := by decide +kernel
theorem dX9_countParts_1 : decode cX9_countParts 1 = .ok (.invokevirtual 37, 3) := by decide +kernel
theorem dX9_countParts_4 : decode cX9_countParts 4 = .ok (.istore_n 1, 1) := by decide +kernel
theorem dX9_countParts_5 : decode cX9_countParts 5 = .ok (.iconst 0, 1) := by decide +kernel
theorem dX9_countParts_6 : decode cX9_countParts 6 = .ok (.istore_n 2, 1) := by decide +kernel
theorem dX9_countParts_7 : decode cX9_countParts 7 = .ok (.iconst 0, 1) := by decide +kernel
theorem dX9_countParts_8 : decode cX9_countParts 8 = .ok (.istore_n 3, 1) := by decide +kernel
theorem dX9_countParts_9 : decode cX9_countParts 9 = .ok (.iload_n 3, 1) := by decide +kernel
theorem dX9_countParts_10 : decode cX9_countParts 10 = .ok (.bipush 10, 2) := by decide +kernel
theorem dX9_countParts_12 : decode cX9_countParts 12 = .ok (.if_icmp .ge 26, 3) := by decide +kernel
theorem dX9_countParts_15 : decode cX9_countParts 15 = .ok (.iload_n 1, 1) := by decide +kernel
theorem dX9_countParts_16 : decode cX9_countParts 16 = .ok (.ifCond .eq 22, 3) := by decide +kernel
theorem dX9_countParts_19 : decode cX9_countParts 19 = .ok (.iload_n 1, 1) := by decide +kernel
theorem dX9_countParts_20 : decode cX9_countParts 20 = .ok (.aload_n 0, 1) := by decide +kernel
theorem dX9_countParts_21 : decode cX9_countParts 21 = .ok (.iload_n 1, 1) := by decide +kernel
theorem dX9_countParts_22 : decode cX9_countParts 22 = .ok (.invokestatic 40, 3) := by decide +kernel
theorem dX9_countParts_25 : decode cX9_countParts 25 = .ok (.iconst (-1), 1) := by decide +kernel
theorem dX9_countParts_26 : decode cX9_countParts 26 = .ok (.ixor, 1) := by decide +kernel
theorem dX9_countParts_27 : decode cX9_countParts 27 = .ok (.iand, 1) := by decide +kernel
theorem dX9_countParts_28 : decode cX9_countParts 28 = .ok (.istore_n 1, 1) := by decide +kernel
theorem dX9_countParts_29 : decode cX9_countParts 29 = .ok (.iinc 2 1, 3) := by decide +kernel
theorem dX9_countParts_32 : decode cX9_countParts 32 = .ok (.iinc 3 1, 3) := by decide +kernel
theorem dX9_countParts_35 : decode cX9_countParts 35 = .ok (.goto (-26), 3) := by decide +kernel
theorem dX9_countParts_38 : decode cX9_countParts 38 = .ok (.iload_n 2, 1) := by decide +kernel
theorem dX9_countParts_39 : decode cX9_countParts 39 = .ok (.ireturn, 1) := by decide +kernel
theorem dX9_partNumber_0 : decode cX9_partNumber 0 = .ok (.aload_n 0, 1) := by decide +kernel
theorem dX9_partNumber_1 : decode cX9_partNumber 1 = .ok (.invokevirtual 37, 3) := by decide +kernel
theorem dX9_partNumber_4 : decode cX9_partNumber 4 = .ok (.aload_n 0, 1) := by decide +kernel
theorem dX9_partNumber_5 : decode cX9_partNumber 5 = .ok (.aload_n 0, 1) := by decide +kernel
theorem dX9_partNumber_6 : decode cX9_partNumber 6 = .ok (.invokevirtual 37, 3) := by decide +kernel
theorem dX9_partNumber_9 : decode cX9_partNumber 9 = .ok (.invokestatic 40, 3) := by decide +kernel
theorem dX9_partNumber_12 : decode cX9_partNumber 12 = .ok (.iconst (-1), 1) := by decide +kernel
theorem dX9_partNumber_13 : decode cX9_partNumber 13 = .ok (.ixor, 1) := by decide +kernel
theorem dX9_partNumber_14 : decode cX9_partNumber 14 = .ok (.iand, 1) := by decide +kernel
theorem dX9_partNumber_15 : decode cX9_partNumber 15 = .ok (.istore_n 2, 1) := by decide +kernel
theorem dX9_partNumber_16 : decode cX9_partNumber 16 = .ok (.iconst 0, 1) := by decide +kernel
theorem dX9_partNumber_17 : decode cX9_partNumber 17 = .ok (.istore_n 3, 1) := by decide +kernel
theorem dX9_partNumber_18 : decode cX9_partNumber 18 = .ok (.iconst 0, 1) := by decide +kernel
theorem dX9_partNumber_19 : decode cX9_partNumber 19 = .ok (.istore 4, 2) := by decide +kernel
theorem dX9_partNumber_21 : decode cX9_partNumber 21 = .ok (.iload 4, 2) := by decide +kernel
theorem dX9_partNumber_23 : decode cX9_partNumber 23 = .ok (.bipush 10, 2) := by decide +kernel
theorem dX9_partNumber_25 : decode cX9_partNumber 25 = .ok (.if_icmp .ge 30, 3) := by decide +kernel
theorem dX9_partNumber_28 : decode cX9_partNumber 28 = .ok (.iload_n 2, 1) := by decide +kernel
theorem dX9_partNumber_29 : decode cX9_partNumber 29 = .ok (.iload_n 1, 1) := by decide +kernel
theorem dX9_partNumber_30 : decode cX9_partNumber 30 = .ok (.invokestatic 24, 3) := by decide +kernel
theorem dX9_partNumber_33 : decode cX9_partNumber 33 = .ok (.ifCond .eq 22, 3) := by decide +kernel
theorem dX9_partNumber_36 : decode cX9_partNumber 36 = .ok (.iload_n 2, 1) := by decide +kernel
theorem dX9_partNumber_37 : decode cX9_partNumber 37 = .ok (.aload_n 0, 1) := by decide +kernel
theorem dX9_partNumber_38 : decode cX9_partNumber 38 = .ok (.iload_n 2, 1) := by decide +kernel
theorem dX9_partNumber_39 : decode cX9_partNumber 39 = .ok (.invokestatic 40, 3) := by decide +kernel
theorem dX9_partNumber_42 : decode cX9_partNumber 42 = .ok (.iconst (-1), 1) := by decide +kernel
theorem dX9_partNumber_43 : decode cX9_partNumber 43 = .ok (.ixor, 1) := by decide +kernel
theorem dX9_partNumber_44 : decode cX9_partNumber 44 = .ok (.iand, 1) := by decide +kernel
theorem dX9_partNumber_45 : decode cX9_partNumber 45 = .ok (.istore_n 2, 1) := by decide +kernel
theorem dX9_partNumber_46 : decode cX9_partNumber 46 = .ok (.iinc 3 1, 3) := by decide +kernel
theorem dX9_partNumber_49 : decode cX9_partNumber 49 = .ok (.iinc 4 1, 3) := by decide +kernel
theorem dX9_partNumber_52 : decode cX9_partNumber 52 = .ok (.goto (-31), 3) := by decide +kernel
theorem dX9_partNumber_55 : decode cX9_partNumber 55 = .ok (.iload_n 3, 1) := by decide +kernel
theorem dX9_partNumber_56 : decode cX9_partNumber 56 = .ok (.ireturn, 1) := by decide +kernel
theorem dX9_partWith_0 : decode cX9_partWith 0 = .ok (.aload_n 0, 1) := by decide +kernel
theorem dX9_partWith_1 : decode cX9_partWith 1 = .ok (.invokevirtual 37, 3) := by decide +kernel
theorem dX9_partWith_4 : decode cX9_partWith 4 = .ok (.istore_n 2, 1) := by decide +kernel
theorem dX9_partWith_5 : decode cX9_partWith 5 = .ok (.aload_n 0, 1) := by decide +kernel
theorem dX9_partWith_6 : decode cX9_partWith 6 = .ok (.iload_n 2, 1) := by decide +kernel
theorem dX9_partWith_7 : decode cX9_partWith 7 = .ok (.invokestatic 40, 3) := by decide +kernel
theorem dX9_partWith_10 : decode cX9_partWith 10 = .ok (.istore_n 3, 1) := by decide +kernel
theorem dX9_partWith_11 : decode cX9_partWith 11 = .ok (.iconst 0, 1) := by decide +kernel
theorem dX9_partWith_12 : decode cX9_partWith 12 = .ok (.istore 4, 2) := by decide +kernel
theorem dX9_partWith_14 : decode cX9_partWith 14 = .ok (.iload 4, 2) := by decide +kernel
theorem dX9_partWith_16 : decode cX9_partWith 16 = .ok (.bipush 10, 2) := by decide +kernel
theorem dX9_partWith_18 : decode cX9_partWith 18 = .ok (.if_icmp .ge 33, 3) := by decide +kernel
theorem dX9_partWith_21 : decode cX9_partWith 21 = .ok (.iload_n 3, 1) := by decide +kernel
theorem dX9_partWith_22 : decode cX9_partWith 22 = .ok (.iload_n 1, 1) := by decide +kernel
theorem dX9_partWith_23 : decode cX9_partWith 23 = .ok (.invokestatic 24, 3) := by decide +kernel
theorem dX9_partWith_26 : decode cX9_partWith 26 = .ok (.ifCond .ne 25, 3) := by decide +kernel
theorem dX9_partWith_29 : decode cX9_partWith 29 = .ok (.iload_n 2, 1) := by decide +kernel
theorem dX9_partWith_30 : decode cX9_partWith 30 = .ok (.ifCond .eq 21, 3) := by decide +kernel
theorem dX9_partWith_33 : decode cX9_partWith 33 = .ok (.iload_n 2, 1) := by decide +kernel
theorem dX9_partWith_34 : decode cX9_partWith 34 = .ok (.iload_n 3, 1) := by decide +kernel
theorem dX9_partWith_35 : decode cX9_partWith 35 = .ok (.iconst (-1), 1) := by decide +kernel
theorem dX9_partWith_36 : decode cX9_partWith 36 = .ok (.ixor, 1) := by decide +kernel
theorem dX9_partWith_37 : decode cX9_partWith 37 = .ok (.iand, 1) := by decide +kernel
theorem dX9_partWith_38 : decode cX9_partWith 38 = .ok (.istore_n 2, 1) := by decide +kernel
theorem dX9_partWith_39 : decode cX9_partWith 39 = .ok (.aload_n 0, 1) := by decide +kernel
theorem dX9_partWith_40 : decode cX9_partWith 40 = .ok (.iload_n 2, 1) := by decide +kernel
theorem dX9_partWith_41 : decode cX9_partWith 41 = .ok (.invokestatic 40, 3) := by decide +kernel
theorem dX9_partWith_44 : decode cX9_partWith 44 = .ok (.istore_n 3, 1) := by decide +kernel
theorem dX9_partWith_45 : decode cX9_partWith 45 = .ok (.iinc 4 1, 3) := by decide +kernel
theorem dX9_partWith_48 : decode cX9_partWith 48 = .ok (.goto (-34), 3) := by decide +kernel
theorem dX9_partWith_51 : decode cX9_partWith 51 = .ok (.iload_n 3, 1) := by decide +kernel
theorem dX9_partWith_52 : decode cX9_partWith 52 = .ok (.ireturn, 1) := by decide +kernel
theorem dX9_kingsOf_0 : decode cX9_kingsOf 0 = .ok (.iconst 0, 1) := by decide +kernel
theorem dX9_kingsOf_1 : decode cX9_kingsOf 1 = .ok (.istore_n 1, 1) := by decide +kernel
theorem dX9_kingsOf_2 : decode cX9_kingsOf 2 = .ok (.iconst 0, 1) := by decide +kernel
theorem dX9_kingsOf_3 : decode cX9_kingsOf 3 = .ok (.istore_n 2, 1) := by decide +kernel
theorem dX9_kingsOf_4 : decode cX9_kingsOf 4 = .ok (.iload_n 2, 1) := by decide +kernel
theorem dX9_kingsOf_5 : decode cX9_kingsOf 5 = .ok (.aload_n 0, 1) := by decide +kernel
theorem dX9_kingsOf_6 : decode cX9_kingsOf 6 = .ok (.invokevirtual 9, 3) := by decide +kernel
theorem dX9_kingsOf_9 : decode cX9_kingsOf 9 = .ok (.if_icmp .ge 24, 3) := by decide +kernel
theorem dX9_kingsOf_12 : decode cX9_kingsOf 12 = .ok (.aload_n 0, 1) := by decide +kernel
theorem dX9_kingsOf_13 : decode cX9_kingsOf 13 = .ok (.iload_n 2, 1) := by decide +kernel
theorem dX9_kingsOf_14 : decode cX9_kingsOf 14 = .ok (.invokestatic 43, 3) := by decide +kernel
theorem dX9_kingsOf_17 : decode cX9_kingsOf 17 = .ok (.ifCond .eq 10, 3) := by decide +kernel
theorem dX9_kingsOf_20 : decode cX9_kingsOf 20 = .ok (.iload_n 1, 1) := by decide +kernel
theorem dX9_kingsOf_21 : decode cX9_kingsOf 21 = .ok (.iload_n 2, 1) := by decide +kernel
theorem dX9_kingsOf_22 : decode cX9_kingsOf 22 = .ok (.invokestatic 28, 3) := by decide +kernel
theorem dX9_kingsOf_25 : decode cX9_kingsOf 25 = .ok (.ior, 1) := by decide +kernel
theorem dX9_kingsOf_26 : decode cX9_kingsOf 26 = .ok (.istore_n 1, 1) := by decide +kernel
theorem dX9_kingsOf_27 : decode cX9_kingsOf 27 = .ok (.iinc 2 1, 3) := by decide +kernel
theorem dX9_kingsOf_30 : decode cX9_kingsOf 30 = .ok (.goto (-26), 3) := by decide +kernel
theorem dX9_kingsOf_33 : decode cX9_kingsOf 33 = .ok (.iload_n 1, 1) := by decide +kernel
theorem dX9_kingsOf_34 : decode cX9_kingsOf 34 = .ok (.ireturn, 1) := by decide +kernel
theorem dX9_isKing_0 : decode cX9_isKing 0 = .ok (.iload_n 1, 1) := by decide +kernel
theorem dX9_isKing_1 : decode cX9_isKing 1 = .ok (.invokestatic 28, 3) := by decide +kernel
theorem dX9_isKing_4 : decode cX9_isKing 4 = .ok (.aload_n 0, 1) := by decide +kernel
theorem dX9_isKing_5 : decode cX9_isKing 5 = .ok (.iload_n 1, 1) := by decide +kernel
theorem dX9_isKing_6 : decode cX9_isKing 6 = .ok (.invokevirtual 15, 3) := by decide +kernel
theorem dX9_isKing_9 : decode cX9_isKing 9 = .ok (.ior, 1) := by decide +kernel
theorem dX9_isKing_10 : decode cX9_isKing 10 = .ok (.istore_n 2, 1) := by decide +kernel
theorem dX9_isKing_11 : decode cX9_isKing 11 = .ok (.iconst 0, 1) := by decide +kernel
theorem dX9_isKing_12 : decode cX9_isKing 12 = .ok (.istore_n 3, 1) := by decide +kernel
theorem dX9_isKing_13 : decode cX9_isKing 13 = .ok (.iload_n 3, 1) := by decide +kernel
theorem dX9_isKing_14 : decode cX9_isKing 14 = .ok (.aload_n 0, 1) := by decide +kernel
theorem dX9_isKing_15 : decode cX9_isKing 15 = .ok (.invokevirtual 9, 3) := by decide +kernel
theorem dX9_isKing_18 : decode cX9_isKing 18 = .ok (.if_icmp .ge 26, 3) := by decide +kernel
theorem dX9_isKing_21 : decode cX9_isKing 21 = .ok (.aload_n 0, 1) := by decide +kernel
theorem dX9_isKing_22 : decode cX9_isKing 22 = .ok (.iload_n 1, 1) := by decide +kernel
theorem dX9_isKing_23 : decode cX9_isKing 23 = .ok (.iload_n 3, 1) := by decide +kernel
theorem dX9_isKing_24 : decode cX9_isKing 24 = .ok (.invokevirtual 47, 3) := by decide +kernel
theorem dX9_isKing_27 : decode cX9_isKing 27 = .ok (.ifCond .eq 11, 3) := by decide +kernel
theorem dX9_isKing_30 : decode cX9_isKing 30 = .ok (.iload_n 2, 1) := by decide +kernel
theorem dX9_isKing_31 : decode cX9_isKing 31 = .ok (.aload_n 0, 1) := by decide +kernel
theorem dX9_isKing_32 : decode cX9_isKing 32 = .ok (.iload_n 3, 1) := by decide +kernel
theorem dX9_isKing_33 : decode cX9_isKing 33 = .ok (.invokevirtual 15, 3) := by decide +kernel
theorem dX9_isKing_36 : decode cX9_isKing 36 = .ok (.ior, 1) := by decide +kernel
theorem dX9_isKing_37 : decode cX9_isKing 37 = .ok (.istore_n 2, 1) := by decide +kernel
theorem dX9_isKing_38 : decode cX9_isKing 38 = .ok (.iinc 3 1, 3) := by decide +kernel
theorem dX9_isKing_41 : decode cX9_isKing 41 = .ok (.goto (-28), 3) := by decide +kernel
theorem dX9_isKing_44 : decode cX9_isKing 44 = .ok (.iload_n 2, 1) := by decide +kernel
theorem dX9_isKing_45 : decode cX9_isKing 45 = .ok (.aload_n 0, 1) := by decide +kernel
theorem dX9_isKing_46 : decode cX9_isKing 46 = .ok (.invokevirtual 37, 3) := by decide +kernel
theorem dX9_isKing_49 : decode cX9_isKing 49 = .ok (.if_icmp .ne 7, 3) := by decide +kernel
theorem dX9_isKing_52 : decode cX9_isKing 52 = .ok (.iconst 1, 1) := by decide +kernel
theorem dX9_isKing_53 : decode cX9_isKing 53 = .ok (.goto 4, 3) := by decide +kernel
theorem dX9_isKing_56 : decode cX9_isKing 56 = .ok (.iconst 0, 1) := by decide +kernel
theorem dX9_isKing_57 : decode cX9_isKing 57 = .ok (.ireturn, 1) := by decide +kernel
theorem dX9_chainTopsOf_0 : decode cX9_chainTopsOf 0 = .ok (.iconst 0, 1) := by decide +kernel
theorem dX9_chainTopsOf_1 : decode cX9_chainTopsOf 1 = .ok (.istore_n 1, 1) := by decide +kernel
theorem dX9_chainTopsOf_2 : decode cX9_chainTopsOf 2 = .ok (.iconst 0, 1) := by decide +kernel
theorem dX9_chainTopsOf_3 : decode cX9_chainTopsOf 3 = .ok (.istore_n 2, 1) := by decide +kernel
theorem dX9_chainTopsOf_4 : decode cX9_chainTopsOf 4 = .ok (.iload_n 2, 1) := by decide +kernel
theorem dX9_chainTopsOf_5 : decode cX9_chainTopsOf 5 = .ok (.aload_n 0, 1) := by decide +kernel
theorem dX9_chainTopsOf_6 : decode cX9_chainTopsOf 6 = .ok (.invokevirtual 9, 3) := by decide +kernel
theorem dX9_chainTopsOf_9 : decode cX9_chainTopsOf 9 = .ok (.if_icmp .ge 23, 3) := by decide +kernel
theorem dX9_chainTopsOf_12 : decode cX9_chainTopsOf 12 = .ok (.iload_n 1, 1) := by decide +kernel
theorem dX9_chainTopsOf_13 : decode cX9_chainTopsOf 13 = .ok (.aload_n 0, 1) := by decide +kernel
theorem dX9_chainTopsOf_14 : decode cX9_chainTopsOf 14 = .ok (.iload_n 2, 1) := by decide +kernel
theorem dX9_chainTopsOf_15 : decode cX9_chainTopsOf 15 = .ok (.aload_n 0, 1) := by decide +kernel
theorem dX9_chainTopsOf_16 : decode cX9_chainTopsOf 16 = .ok (.iload_n 2, 1) := by decide +kernel
theorem dX9_chainTopsOf_17 : decode cX9_chainTopsOf 17 = .ok (.invokevirtual 50, 3) := by decide +kernel
theorem dX9_chainTopsOf_20 : decode cX9_chainTopsOf 20 = .ok (.iconst 1, 1) := by decide +kernel
theorem dX9_chainTopsOf_21 : decode cX9_chainTopsOf 21 = .ok (.invokestatic 53, 3) := by decide +kernel
theorem dX9_chainTopsOf_24 : decode cX9_chainTopsOf 24 = .ok (.ior, 1) := by decide +kernel
theorem dX9_chainTopsOf_25 : decode cX9_chainTopsOf 25 = .ok (.istore_n 1, 1) := by decide +kernel
theorem dX9_chainTopsOf_26 : decode cX9_chainTopsOf 26 = .ok (.iinc 2 1, 3) := by decide +kernel
theorem dX9_chainTopsOf_29 : decode cX9_chainTopsOf 29 = .ok (.goto (-25), 3) := by decide +kernel
theorem dX9_chainTopsOf_32 : decode cX9_chainTopsOf 32 = .ok (.iload_n 1, 1) := by decide +kernel
theorem dX9_chainTopsOf_33 : decode cX9_chainTopsOf 33 = .ok (.ireturn, 1) := by decide +kernel
theorem dX9_topsAbove_0 : decode cX9_topsAbove 0 = .ok (.iload_n 2, 1) := by decide +kernel
theorem dX9_topsAbove_1 : decode cX9_topsAbove 1 = .ok (.ifCond .eq 9, 3) := by decide +kernel
theorem dX9_topsAbove_4 : decode cX9_topsAbove 4 = .ok (.iload_n 3, 1) := by decide +kernel
theorem dX9_topsAbove_5 : decode cX9_topsAbove 5 = .ok (.bipush 10, 2) := by decide +kernel
theorem dX9_topsAbove_7 : decode cX9_topsAbove 7 = .ok (.if_icmp .lt 16, 3) := by decide +kernel
theorem dX9_topsAbove_10 : decode cX9_topsAbove 10 = .ok (.iload_n 2, 1) := by decide +kernel
theorem dX9_topsAbove_11 : decode cX9_topsAbove 11 = .ok (.ifCond .ne 10, 3) := by decide +kernel
theorem dX9_topsAbove_14 : decode cX9_topsAbove 14 = .ok (.iload_n 1, 1) := by decide +kernel
theorem dX9_topsAbove_15 : decode cX9_topsAbove 15 = .ok (.invokestatic 28, 3) := by decide +kernel
theorem dX9_topsAbove_18 : decode cX9_topsAbove 18 = .ok (.goto 4, 3) := by decide +kernel
theorem dX9_topsAbove_21 : decode cX9_topsAbove 21 = .ok (.iconst 0, 1) := by decide +kernel
theorem dX9_topsAbove_22 : decode cX9_topsAbove 22 = .ok (.ireturn, 1) := by decide +kernel
theorem dX9_topsAbove_23 : decode cX9_topsAbove 23 = .ok (.iconst 0, 1) := by decide +kernel
theorem dX9_topsAbove_24 : decode cX9_topsAbove 24 = .ok (.istore 4, 2) := by decide +kernel
theorem dX9_topsAbove_26 : decode cX9_topsAbove 26 = .ok (.iconst 0, 1) := by decide +kernel
theorem dX9_topsAbove_27 : decode cX9_topsAbove 27 = .ok (.istore 5, 2) := by decide +kernel
theorem dX9_topsAbove_29 : decode cX9_topsAbove 29 = .ok (.iload 5, 2) := by decide +kernel
theorem dX9_topsAbove_31 : decode cX9_topsAbove 31 = .ok (.aload_n 0, 1) := by decide +kernel
theorem dX9_topsAbove_32 : decode cX9_topsAbove 32 = .ok (.invokevirtual 9, 3) := by decide +kernel
theorem dX9_topsAbove_35 : decode cX9_topsAbove 35 = .ok (.if_icmp .ge 40, 3) := by decide +kernel
theorem dX9_topsAbove_38 : decode cX9_topsAbove 38 = .ok (.iload_n 2, 1) := by decide +kernel
theorem dX9_topsAbove_39 : decode cX9_topsAbove 39 = .ok (.iload 5, 2) := by decide +kernel
theorem dX9_topsAbove_41 : decode cX9_topsAbove 41 = .ok (.invokestatic 24, 3) := by decide +kernel
theorem dX9_topsAbove_44 : decode cX9_topsAbove 44 = .ok (.ifCond .eq 25, 3) := by decide +kernel
theorem dX9_topsAbove_47 : decode cX9_topsAbove 47 = .ok (.iload 4, 2) := by decide +kernel
theorem dX9_topsAbove_49 : decode cX9_topsAbove 49 = .ok (.aload_n 0, 1) := by decide +kernel
theorem dX9_topsAbove_50 : decode cX9_topsAbove 50 = .ok (.iload 5, 2) := by decide +kernel
theorem dX9_topsAbove_52 : decode cX9_topsAbove 52 = .ok (.iload_n 2, 1) := by decide +kernel
theorem dX9_topsAbove_53 : decode cX9_topsAbove 53 = .ok (.aload_n 0, 1) := by decide +kernel
theorem dX9_topsAbove_54 : decode cX9_topsAbove 54 = .ok (.iload 5, 2) := by decide +kernel
theorem dX9_topsAbove_56 : decode cX9_topsAbove 56 = .ok (.invokevirtual 50, 3) := by decide +kernel
theorem dX9_topsAbove_59 : decode cX9_topsAbove 59 = .ok (.iand, 1) := by decide +kernel
theorem dX9_topsAbove_60 : decode cX9_topsAbove 60 = .ok (.iload_n 3, 1) := by decide +kernel
theorem dX9_topsAbove_61 : decode cX9_topsAbove 61 = .ok (.iconst 1, 1) := by decide +kernel
theorem dX9_topsAbove_62 : decode cX9_topsAbove 62 = .ok (.iadd, 1) := by decide +kernel
theorem dX9_topsAbove_63 : decode cX9_topsAbove 63 = .ok (.invokestatic 53, 3) := by decide +kernel
theorem dX9_topsAbove_66 : decode cX9_topsAbove 66 = .ok (.ior, 1) := by decide +kernel
theorem dX9_topsAbove_67 : decode cX9_topsAbove 67 = .ok (.istore 4, 2) := by decide +kernel
theorem dX9_topsAbove_69 : decode cX9_topsAbove 69 = .ok (.iinc 5 1, 3) := by decide +kernel
theorem dX9_topsAbove_72 : decode cX9_topsAbove 72 = .ok (.goto (-43), 3) := by decide +kernel
theorem dX9_topsAbove_75 : decode cX9_topsAbove 75 = .ok (.iload 4, 2) := by decide +kernel
theorem dX9_topsAbove_77 : decode cX9_topsAbove 77 = .ok (.ireturn, 1) := by decide +kernel
theorem dX10_init_0 : decode cX10_init 0 = .ok (.aload_n 0, 1) := by decide +kernel
theorem dX10_init_1 : decode cX10_init 1 = .ok (.invokespecial 1, 3) := by decide +kernel
theorem dX10_init_4 : decode cX10_init 4 = .ok (.aload_n 0, 1) := by decide +kernel
theorem dX10_init_5 : decode cX10_init 5 = .ok (.new 7, 3) := by decide +kernel
theorem dX10_init_8 : decode cX10_init 8 = .ok (.dup, 1) := by decide +kernel
theorem dX10_init_9 : decode cX10_init 9 = .ok (.invokespecial 9, 3) := by decide +kernel
theorem dX10_init_12 : decode cX10_init 12 = .ok (.putfield 10, 3) := by decide +kernel
theorem dX10_init_15 : decode cX10_init 15 = .ok (.aload_n 0, 1) := by decide +kernel
theorem dX10_init_16 : decode cX10_init 16 = .ok (.new 7, 3) := by decide +kernel
theorem dX10_init_19 : decode cX10_init 19 = .ok (.dup, 1) := by decide +kernel
theorem dX10_init_20 : decode cX10_init 20 = .ok (.invokespecial 9, 3) := by decide +kernel
theorem dX10_init_23 : decode cX10_init 23 = .ok (.putfield 16, 3) := by decide +kernel
theorem dX10_init_26 : decode cX10_init 26 = .ok (.aload_n 0, 1) := by decide +kernel
theorem dX10_init_27 : decode cX10_init 27 = .ok (.new 19, 3) := by decide +kernel
theorem dX10_init_30 : decode cX10_init 30 = .ok (.dup, 1) := by decide +kernel
theorem dX10_init_31 : decode cX10_init 31 = .ok (.invokespecial 21, 3) := by decide +kernel
theorem dX10_init_34 : decode cX10_init 34 = .ok (.putfield 22, 3) := by decide +kernel
theorem dX10_init_37 : decode cX10_init 37 = .ok (.aload_n 0, 1) := by decide +kernel
theorem dX10_init_38 : decode cX10_init 38 = .ok (.new 26, 3) := by decide +kernel
theorem dX10_init_41 : decode cX10_init 41 = .ok (.dup, 1) := by decide +kernel
theorem dX10_init_42 : decode cX10_init 42 = .ok (.invokespecial 28, 3) := by decide +kernel
theorem dX10_init_45 : decode cX10_init 45 = .ok (.putfield 29, 3) := by decide +kernel
theorem dX10_init_48 : decode cX10_init 48 = .ok (.aload_n 0, 1) := by decide +kernel
theorem dX10_init_49 : decode cX10_init 49 = .ok (.new 33, 3) := by decide +kernel
theorem dX10_init_52 : decode cX10_init 52 = .ok (.dup, 1) := by decide +kernel
theorem dX10_init_53 : decode cX10_init 53 = .ok (.invokespecial 35, 3) := by decide +kernel
theorem dX10_init_56 : decode cX10_init 56 = .ok (.putfield 36, 3) := by decide +kernel
theorem dX10_init_59 : decode cX10_init 59 = .ok (.aload_n 0, 1) := by decide +kernel
theorem dX10_init_60 : decode cX10_init 60 = .ok (.new 40, 3) := by decide +kernel
theorem dX10_init_63 : decode cX10_init 63 = .ok (.dup, 1) := by decide +kernel
theorem dX10_init_64 : decode cX10_init 64 = .ok (.invokespecial 42, 3) := by decide +kernel
theorem dX10_init_67 : decode cX10_init 67 = .ok (.putfield 43, 3) := by decide +kernel
theorem dX10_init_70 : decode cX10_init 70 = .ok (.aload_n 0, 1) := by decide +kernel
theorem dX10_init_71 : decode cX10_init 71 = .ok (.new 47, 3) := by decide +kernel
theorem dX10_init_74 : decode cX10_init 74 = .ok (.dup, 1) := by decide +kernel
theorem dX10_init_75 : decode cX10_init 75 = .ok (.invokespecial 49, 3) := by decide +kernel
theorem dX10_init_78 : decode cX10_init 78 = .ok (.putfield 50, 3) := by decide +kernel
theorem dX10_init_81 : decode cX10_init 81 = .ok (.aload_n 0, 1) := by decide +kernel
theorem dX10_init_82 : decode cX10_init 82 = .ok (.new 54, 3) := by decide +kernel
theorem dX10_init_85 : decode cX10_init 85 = .ok (.dup, 1) := by decide +kernel
theorem dX10_init_86 : decode cX10_init 86 = .ok (.invokespecial 56, 3) := by decide +kernel
theorem dX10_init_89 : decode cX10_init 89 = .ok (.putfield 57, 3) := by decide +kernel
theorem dX10_init_92 : decode cX10_init 92 = .ok (.aload_n 0, 1) := by decide +kernel
theorem dX10_init_93 : decode cX10_init 93 = .ok (.new 61, 3) := by decide +kernel
theorem dX10_init_96 : decode cX10_init 96 = .ok (.dup, 1) := by decide +kernel
theorem dX10_init_97 : decode cX10_init 97 = .ok (.invokespecial 63, 3) := by decide +kernel
theorem dX10_init_100 : decode cX10_init 100 = .ok (.putfield 64, 3) := by decide +kernel
theorem dX10_init_103 : decode cX10_init 103 = .ok (.aload_n 0, 1) := by decide +kernel
theorem dX10_init_104 : decode cX10_init 104 = .ok (.new 68, 3) := by decide +kernel
theorem dX10_init_107 : decode cX10_init 107 = .ok (.dup, 1) := by decide +kernel
theorem dX10_init_108 : decode cX10_init 108 = .ok (.invokespecial 70, 3) := by decide +kernel
theorem dX10_init_111 : decode cX10_init 111 = .ok (.putfield 71, 3) := by decide +kernel
theorem dX10_init_114 : decode cX10_init 114 = .ok (.return_, 1) := by decide +kernel
theorem dX10_reset_0 : decode cX10_reset 0 = .ok (.iload_n 1, 1) := by decide +kernel
theorem dX10_reset_1 : decode cX10_reset 1 = .ok (.iconst 2, 1) := by decide +kernel
theorem dX10_reset_2 : decode cX10_reset 2 = .ok (.if_icmp .lt 9, 3) := by decide +kernel
theorem dX10_reset_5 : decode cX10_reset 5 = .ok (.iload_n 1, 1) := by decide +kernel
theorem dX10_reset_6 : decode cX10_reset 6 = .ok (.bipush 10, 2) := by decide +kernel
theorem dX10_reset_8 : decode cX10_reset 8 = .ok (.if_icmp .le 5, 3) := by decide +kernel
theorem dX10_reset_11 : decode cX10_reset 11 = .ok (.iconst (-1), 1) := by decide +kernel
theorem dX10_reset_12 : decode cX10_reset 12 = .ok (.ireturn, 1) := by decide +kernel
theorem dX10_reset_13 : decode cX10_reset 13 = .ok (.aload_n 0, 1) := by decide +kernel
theorem dX10_reset_14 : decode cX10_reset 14 = .ok (.getfield 10, 3) := by decide +kernel
theorem dX10_reset_17 : decode cX10_reset 17 = .ok (.invokevirtual 75, 3) := by decide +kernel
theorem dX10_reset_20 : decode cX10_reset 20 = .ok (.istore_n 2, 1) := by decide +kernel
theorem dX10_reset_21 : decode cX10_reset 21 = .ok (.aload_n 0, 1) := by decide +kernel
theorem dX10_reset_22 : decode cX10_reset 22 = .ok (.getfield 22, 3) := by decide +kernel
theorem dX10_reset_25 : decode cX10_reset 25 = .ok (.aload_n 0, 1) := by decide +kernel
theorem dX10_reset_26 : decode cX10_reset 26 = .ok (.getfield 10, 3) := by decide +kernel
theorem dX10_reset_29 : decode cX10_reset 29 = .ok (.invokevirtual 79, 3) := by decide +kernel
theorem dX10_reset_32 : decode cX10_reset 32 = .ok (.aload_n 0, 1) := by decide +kernel
theorem dX10_reset_33 : decode cX10_reset 33 = .ok (.getfield 10, 3) := by decide +kernel
theorem dX10_reset_36 : decode cX10_reset 36 = .ok (.iload_n 1, 1) := by decide +kernel
theorem dX10_reset_37 : decode cX10_reset 37 = .ok (.invokevirtual 83, 3) := by decide +kernel
theorem dX10_reset_40 : decode cX10_reset 40 = .ok (.iload_n 2, 1) := by decide +kernel
theorem dX10_reset_41 : decode cX10_reset 41 = .ok (.ireturn, 1) := by decide +kernel
theorem dX10_setResult_0 : decode cX10_setResult 0 = .ok (.aload_n 0, 1) := by decide +kernel
theorem dX10_setResult_1 : decode cX10_setResult 1 = .ok (.getfield 10, 3) := by decide +kernel
theorem dX10_setResult_4 : decode cX10_setResult 4 = .ok (.iload_n 1, 1) := by decide +kernel
theorem dX10_setResult_5 : decode cX10_setResult 5 = .ok (.iload_n 2, 1) := by decide +kernel
theorem dX10_setResult_6 : decode cX10_setResult 6 = .ok (.invokevirtual 87, 3) := by decide +kernel
theorem dX10_setResult_9 : decode cX10_setResult 9 = .ok (.ifCond .ne 5, 3) := by decide +kernel
theorem dX10_setResult_12 : decode cX10_setResult 12 = .ok (.iconst (-1), 1) := by decide +kernel
theorem dX10_setResult_13 : decode cX10_setResult 13 = .ok (.ireturn, 1) := by decide +kernel
theorem dX10_setResult_14 : decode cX10_setResult 14 = .ok (.aload_n 0, 1) := by decide +kernel
theorem dX10_setResult_15 : decode cX10_setResult 15 = .ok (.getfield 10, 3) := by decide +kernel
theorem dX10_setResult_18 : decode cX10_setResult 18 = .ok (.iload_n 1, 1) := by decide +kernel
theorem dX10_setResult_19 : decode cX10_setResult 19 = .ok (.iload_n 2, 1) := by decide +kernel
theorem dX10_setResult_20 : decode cX10_setResult 20 = .ok (.invokevirtual 91, 3) := by decide +kernel
theorem dX10_setResult_23 : decode cX10_setResult 23 = .ok (.istore_n 3, 1) := by decide +kernel
theorem dX10_setResult_24 : decode cX10_setResult 24 = .ok (.aload_n 0, 1) := by decide +kernel
theorem dX10_setResult_25 : decode cX10_setResult 25 = .ok (.getfield 22, 3) := by decide +kernel
theorem dX10_setResult_28 : decode cX10_setResult 28 = .ok (.aload_n 0, 1) := by decide +kernel
theorem dX10_setResult_29 : decode cX10_setResult 29 = .ok (.getfield 10, 3) := by decide +kernel
theorem dX10_setResult_32 : decode cX10_setResult 32 = .ok (.invokevirtual 79, 3) := by decide +kernel
theorem dX10_setResult_35 : decode cX10_setResult 35 = .ok (.aload_n 0, 1) := by decide +kernel
theorem dX10_setResult_36 : decode cX10_setResult 36 = .ok (.getfield 10, 3) := by decide +kernel
theorem dX10_setResult_39 : decode cX10_setResult 39 = .ok (.iload_n 1, 1) := by decide +kernel
theorem dX10_setResult_40 : decode cX10_setResult 40 = .ok (.iload_n 2, 1) := by decide +kernel
theorem dX10_setResult_41 : decode cX10_setResult 41 = .ok (.invokevirtual 94, 3) := by decide +kernel
theorem dX10_setResult_44 : decode cX10_setResult 44 = .ok (.iload_n 3, 1) := by decide +kernel
theorem dX10_setResult_45 : decode cX10_setResult 45 = .ok (.ifCond .eq 7, 3) := by decide +kernel
theorem dX10_setResult_48 : decode cX10_setResult 48 = .ok (.iconst 1, 1) := by decide +kernel
theorem dX10_setResult_49 : decode cX10_setResult 49 = .ok (.goto 4, 3) := by decide +kernel
theorem dX10_setResult_52 : decode cX10_setResult 52 = .ok (.iconst 0, 1) := by decide +kernel
theorem dX10_setResult_53 : decode cX10_setResult 53 = .ok (.ireturn, 1) := by decide +kernel
theorem dX10_setWeight_0 : decode cX10_setWeight 0 = .ok (.aload_n 0, 1) := by decide +kernel
theorem dX10_setWeight_1 : decode cX10_setWeight 1 = .ok (.getfield 10, 3) := by decide +kernel
theorem dX10_setWeight_4 : decode cX10_setWeight 4 = .ok (.iload_n 1, 1) := by decide +kernel
theorem dX10_setWeight_5 : decode cX10_setWeight 5 = .ok (.iload_n 2, 1) := by decide +kernel
theorem dX10_setWeight_6 : decode cX10_setWeight 6 = .ok (.invokevirtual 87, 3) := by decide +kernel
theorem dX10_setWeight_9 : decode cX10_setWeight 9 = .ok (.ifCond .eq 14, 3) := by decide +kernel
theorem dX10_setWeight_12 : decode cX10_setWeight 12 = .ok (.iload_n 3, 1) := by decide +kernel
theorem dX10_setWeight_13 : decode cX10_setWeight 13 = .ok (.iconst 1, 1) := by decide +kernel
theorem dX10_setWeight_14 : decode cX10_setWeight 14 = .ok (.if_icmp .lt 9, 3) := by decide +kernel
theorem dX10_setWeight_17 : decode cX10_setWeight 17 = .ok (.iload_n 3, 1) := by decide +kernel
theorem dX10_setWeight_18 : decode cX10_setWeight 18 = .ok (.bipush 100, 2) := by decide +kernel
theorem dX10_setWeight_20 : decode cX10_setWeight 20 = .ok (.if_icmp .le 5, 3) := by decide +kernel
theorem dX10_setWeight_23 : decode cX10_setWeight 23 = .ok (.iconst (-1), 1) := by decide +kernel
theorem dX10_setWeight_24 : decode cX10_setWeight 24 = .ok (.ireturn, 1) := by decide +kernel
theorem dX10_setWeight_25 : decode cX10_setWeight 25 = .ok (.aload_n 0, 1) := by decide +kernel
theorem dX10_setWeight_26 : decode cX10_setWeight 26 = .ok (.getfield 10, 3) := by decide +kernel
theorem dX10_setWeight_29 : decode cX10_setWeight 29 = .ok (.iload_n 1, 1) := by decide +kernel
theorem dX10_setWeight_30 : decode cX10_setWeight 30 = .ok (.iload_n 2, 1) := by decide +kernel
theorem dX10_setWeight_31 : decode cX10_setWeight 31 = .ok (.invokevirtual 98, 3) := by decide +kernel
theorem dX10_setWeight_34 : decode cX10_setWeight 34 = .ok (.istore 4, 2) := by decide +kernel
theorem dX10_setWeight_36 : decode cX10_setWeight 36 = .ok (.aload_n 0, 1) := by decide +kernel
theorem dX10_setWeight_37 : decode cX10_setWeight 37 = .ok (.getfield 22, 3) := by decide +kernel
theorem dX10_setWeight_40 : decode cX10_setWeight 40 = .ok (.aload_n 0, 1) := by decide +kernel
theorem dX10_setWeight_41 : decode cX10_setWeight 41 = .ok (.getfield 10, 3) := by decide +kernel
theorem dX10_setWeight_44 : decode cX10_setWeight 44 = .ok (.invokevirtual 79, 3) := by decide +kernel
theorem dX10_setWeight_47 : decode cX10_setWeight 47 = .ok (.aload_n 0, 1) := by decide +kernel
theorem dX10_setWeight_48 : decode cX10_setWeight 48 = .ok (.getfield 10, 3) := by decide +kernel
theorem dX10_setWeight_51 : decode cX10_setWeight 51 = .ok (.iload_n 1, 1) := by decide +kernel
theorem dX10_setWeight_52 : decode cX10_setWeight 52 = .ok (.iload_n 2, 1) := by decide +kernel
theorem dX10_setWeight_53 : decode cX10_setWeight 53 = .ok (.iload_n 3, 1) := by decide +kernel
theorem dX10_setWeight_54 : decode cX10_setWeight 54 = .ok (.invokevirtual 102, 3) := by decide +kernel
theorem dX10_setWeight_57 : decode cX10_setWeight 57 = .ok (.iload 4, 2) := by decide +kernel
theorem dX10_setWeight_59 : decode cX10_setWeight 59 = .ok (.ireturn, 1) := by decide +kernel
theorem dX10_reverseTriangle_0 : decode cX10_reverseTriangle 0 = .ok (.aload_n 0, 1) := by decide +kernel
theorem dX10_reverseTriangle_1 : decode cX10_reverseTriangle 1 = .ok (.getfield 10, 3) := by decide +kernel
theorem dX10_reverseTriangle_4 : decode cX10_reverseTriangle 4 = .ok (.iload_n 1, 1) := by decide +kernel
theorem dX10_reverseTriangle_5 : decode cX10_reverseTriangle 5 = .ok (.iload_n 2, 1) := by decide +kernel
theorem dX10_reverseTriangle_6 : decode cX10_reverseTriangle 6 = .ok (.invokevirtual 87, 3) := by decide +kernel
theorem dX10_reverseTriangle_9 : decode cX10_reverseTriangle 9 = .ok (.ifCond .eq 27, 3) := by decide +kernel
theorem dX10_reverseTriangle_12 : decode cX10_reverseTriangle 12 = .ok (.aload_n 0, 1) := by decide +kernel
theorem dX10_reverseTriangle_13 : decode cX10_reverseTriangle 13 = .ok (.getfield 10, 3) := by decide +kernel
theorem dX10_reverseTriangle_16 : decode cX10_reverseTriangle 16 = .ok (.iload_n 2, 1) := by decide +kernel
theorem dX10_reverseTriangle_17 : decode cX10_reverseTriangle 17 = .ok (.iload_n 3, 1) := by decide +kernel
theorem dX10_reverseTriangle_18 : decode cX10_reverseTriangle 18 = .ok (.invokevirtual 87, 3) := by decide +kernel
theorem dX10_reverseTriangle_21 : decode cX10_reverseTriangle 21 = .ok (.ifCond .eq 15, 3) := by decide +kernel
theorem dX10_reverseTriangle_24 : decode cX10_reverseTriangle 24 = .ok (.aload_n 0, 1) := by decide +kernel
theorem dX10_reverseTriangle_25 : decode cX10_reverseTriangle 25 = .ok (.getfield 10, 3) := by decide +kernel
theorem dX10_reverseTriangle_28 : decode cX10_reverseTriangle 28 = .ok (.iload_n 1, 1) := by decide +kernel
theorem dX10_reverseTriangle_29 : decode cX10_reverseTriangle 29 = .ok (.iload_n 3, 1) := by decide +kernel
theorem dX10_reverseTriangle_30 : decode cX10_reverseTriangle 30 = .ok (.invokevirtual 87, 3) := by decide +kernel
theorem dX10_reverseTriangle_33 : decode cX10_reverseTriangle 33 = .ok (.ifCond .ne 5, 3) := by decide +kernel
theorem dX10_reverseTriangle_36 : decode cX10_reverseTriangle 36 = .ok (.iconst (-1), 1) := by decide +kernel
theorem dX10_reverseTriangle_37 : decode cX10_reverseTriangle 37 = .ok (.ireturn, 1) := by decide +kernel
theorem dX10_reverseTriangle_38 : decode cX10_reverseTriangle 38 = .ok (.aload_n 0, 1) := by decide +kernel
theorem dX10_reverseTriangle_39 : decode cX10_reverseTriangle 39 = .ok (.getfield 10, 3) := by decide +kernel
theorem dX10_reverseTriangle_42 : decode cX10_reverseTriangle 42 = .ok (.iload_n 1, 1) := by decide +kernel
theorem dX10_reverseTriangle_43 : decode cX10_reverseTriangle 43 = .ok (.iload_n 2, 1) := by decide +kernel
theorem dX10_reverseTriangle_44 : decode cX10_reverseTriangle 44 = .ok (.iload_n 3, 1) := by decide +kernel
theorem dX10_reverseTriangle_45 : decode cX10_reverseTriangle 45 = .ok (.invokevirtual 106, 3) := by decide +kernel
theorem dX10_reverseTriangle_48 : decode cX10_reverseTriangle 48 = .ok (.ifCond .ne 6, 3) := by decide +kernel
theorem dX10_reverseTriangle_51 : decode cX10_reverseTriangle 51 = .ok (.bipush (-2), 2) := by decide +kernel
theorem dX10_reverseTriangle_53 : decode cX10_reverseTriangle 53 = .ok (.ireturn, 1) := by decide +kernel
theorem dX10_reverseTriangle_54 : decode cX10_reverseTriangle 54 = .ok (.aload_n 0, 1) := by decide +kernel
theorem dX10_reverseTriangle_55 : decode cX10_reverseTriangle 55 = .ok (.getfield 22, 3) := by decide +kernel
theorem dX10_reverseTriangle_58 : decode cX10_reverseTriangle 58 = .ok (.aload_n 0, 1) := by decide +kernel
theorem dX10_reverseTriangle_59 : decode cX10_reverseTriangle 59 = .ok (.getfield 10, 3) := by decide +kernel
theorem dX10_reverseTriangle_62 : decode cX10_reverseTriangle 62 = .ok (.invokevirtual 79, 3) := by decide +kernel
theorem dX10_reverseTriangle_65 : decode cX10_reverseTriangle 65 = .ok (.aload_n 0, 1) := by decide +kernel
theorem dX10_reverseTriangle_66 : decode cX10_reverseTriangle 66 = .ok (.getfield 10, 3) := by decide +kernel
theorem dX10_reverseTriangle_69 : decode cX10_reverseTriangle 69 = .ok (.iload_n 1, 1) := by decide +kernel
theorem dX10_reverseTriangle_70 : decode cX10_reverseTriangle 70 = .ok (.iload_n 2, 1) := by decide +kernel
theorem dX10_reverseTriangle_71 : decode cX10_reverseTriangle 71 = .ok (.invokevirtual 110, 3) := by decide +kernel
theorem dX10_reverseTriangle_74 : decode cX10_reverseTriangle 74 = .ok (.aload_n 0, 1) := by decide +kernel
theorem dX10_reverseTriangle_75 : decode cX10_reverseTriangle 75 = .ok (.getfield 10, 3) := by decide +kernel
theorem dX10_reverseTriangle_78 : decode cX10_reverseTriangle 78 = .ok (.iload_n 2, 1) := by decide +kernel
theorem dX10_reverseTriangle_79 : decode cX10_reverseTriangle 79 = .ok (.iload_n 3, 1) := by decide +kernel
theorem dX10_reverseTriangle_80 : decode cX10_reverseTriangle 80 = .ok (.invokevirtual 110, 3) := by decide +kernel
theorem dX10_reverseTriangle_83 : decode cX10_reverseTriangle 83 = .ok (.aload_n 0, 1) := by decide +kernel
theorem dX10_reverseTriangle_84 : decode cX10_reverseTriangle 84 = .ok (.getfield 10, 3) := by decide +kernel
theorem dX10_reverseTriangle_87 : decode cX10_reverseTriangle 87 = .ok (.iload_n 1, 1) := by decide +kernel
theorem dX10_reverseTriangle_88 : decode cX10_reverseTriangle 88 = .ok (.iload_n 3, 1) := by decide +kernel
theorem dX10_reverseTriangle_89 : decode cX10_reverseTriangle 89 = .ok (.invokevirtual 110, 3) := by decide +kernel
theorem dX10_reverseTriangle_92 : decode cX10_reverseTriangle 92 = .ok (.aload_n 0, 1) := by decide +kernel
theorem dX10_reverseTriangle_93 : decode cX10_reverseTriangle 93 = .ok (.getfield 10, 3) := by decide +kernel
theorem dX10_reverseTriangle_96 : decode cX10_reverseTriangle 96 = .ok (.invokevirtual 113, 3) := by decide +kernel
theorem dX10_reverseTriangle_99 : decode cX10_reverseTriangle 99 = .ok (.ireturn, 1) := by decide +kernel
theorem dX10_reversePath_0 : decode cX10_reversePath 0 = .ok (.aload_n 0, 1) := by decide +kernel
theorem dX10_reversePath_1 : decode cX10_reversePath 1 = .ok (.getfield 10, 3) := by decide +kernel
theorem dX10_reversePath_4 : decode cX10_reversePath 4 = .ok (.iload_n 1, 1) := by decide +kernel
theorem dX10_reversePath_5 : decode cX10_reversePath 5 = .ok (.iload_n 2, 1) := by decide +kernel
theorem dX10_reversePath_6 : decode cX10_reversePath 6 = .ok (.invokevirtual 87, 3) := by decide +kernel
theorem dX10_reversePath_9 : decode cX10_reversePath 9 = .ok (.ifCond .ne 5, 3) := by decide +kernel
theorem dX10_reversePath_12 : decode cX10_reversePath 12 = .ok (.iconst (-1), 1) := by decide +kernel
theorem dX10_reversePath_13 : decode cX10_reversePath 13 = .ok (.ireturn, 1) := by decide +kernel
theorem dX10_reversePath_14 : decode cX10_reversePath 14 = .ok (.aload_n 0, 1) := by decide +kernel
theorem dX10_reversePath_15 : decode cX10_reversePath 15 = .ok (.getfield 10, 3) := by decide +kernel
theorem dX10_reversePath_18 : decode cX10_reversePath 18 = .ok (.iload_n 1, 1) := by decide +kernel
theorem dX10_reversePath_19 : decode cX10_reversePath 19 = .ok (.iload_n 2, 1) := by decide +kernel
theorem dX10_reversePath_20 : decode cX10_reversePath 20 = .ok (.invokestatic 116, 3) := by decide +kernel
theorem dX10_reversePath_23 : decode cX10_reversePath 23 = .ok (.istore_n 3, 1) := by decide +kernel
theorem dX10_reversePath_24 : decode cX10_reversePath 24 = .ok (.iload_n 3, 1) := by decide +kernel
theorem dX10_reversePath_25 : decode cX10_reversePath 25 = .ok (.bipush (-4), 2) := by decide +kernel
theorem dX10_reversePath_27 : decode cX10_reversePath 27 = .ok (.if_icmp .ne 6, 3) := by decide +kernel
theorem dX10_reversePath_30 : decode cX10_reversePath 30 = .ok (.bipush (-2), 2) := by decide +kernel
theorem dX10_reversePath_32 : decode cX10_reversePath 32 = .ok (.ireturn, 1) := by decide +kernel
theorem dX10_reversePath_33 : decode cX10_reversePath 33 = .ok (.aload_n 0, 1) := by decide +kernel
theorem dX10_reversePath_34 : decode cX10_reversePath 34 = .ok (.getfield 22, 3) := by decide +kernel
theorem dX10_reversePath_37 : decode cX10_reversePath 37 = .ok (.aload_n 0, 1) := by decide +kernel
theorem dX10_reversePath_38 : decode cX10_reversePath 38 = .ok (.getfield 10, 3) := by decide +kernel
theorem dX10_reversePath_41 : decode cX10_reversePath 41 = .ok (.invokevirtual 79, 3) := by decide +kernel
theorem dX10_reversePath_44 : decode cX10_reversePath 44 = .ok (.aload_n 0, 1) := by decide +kernel
theorem dX10_reversePath_45 : decode cX10_reversePath 45 = .ok (.getfield 50, 3) := by decide +kernel
theorem dX10_reversePath_48 : decode cX10_reversePath 48 = .ok (.aload_n 0, 1) := by decide +kernel
theorem dX10_reversePath_49 : decode cX10_reversePath 49 = .ok (.getfield 10, 3) := by decide +kernel
theorem dX10_reversePath_52 : decode cX10_reversePath 52 = .ok (.iload_n 1, 1) := by decide +kernel
theorem dX10_reversePath_53 : decode cX10_reversePath 53 = .ok (.iload_n 2, 1) := by decide +kernel
theorem dX10_reversePath_54 : decode cX10_reversePath 54 = .ok (.invokevirtual 120, 3) := by decide +kernel
theorem dX10_reversePath_57 : decode cX10_reversePath 57 = .ok (.iconst 0, 1) := by decide +kernel
theorem dX10_reversePath_58 : decode cX10_reversePath 58 = .ok (.istore 4, 2) := by decide +kernel
theorem dX10_reversePath_60 : decode cX10_reversePath 60 = .ok (.iload 4, 2) := by decide +kernel
theorem dX10_reversePath_62 : decode cX10_reversePath 62 = .ok (.iload_n 3, 1) := by decide +kernel
theorem dX10_reversePath_63 : decode cX10_reversePath 63 = .ok (.if_icmp .ge 43, 3) := by decide +kernel
theorem dX10_reversePath_66 : decode cX10_reversePath 66 = .ok (.iload 4, 2) := by decide +kernel
theorem dX10_reversePath_68 : decode cX10_reversePath 68 = .ok (.bipush 10, 2) := by decide +kernel
theorem dX10_reversePath_70 : decode cX10_reversePath 70 = .ok (.if_icmp .ge 36, 3) := by decide +kernel
theorem dX10_reversePath_73 : decode cX10_reversePath 73 = .ok (.aload_n 0, 1) := by decide +kernel
theorem dX10_reversePath_74 : decode cX10_reversePath 74 = .ok (.getfield 10, 3) := by decide +kernel
theorem dX10_reversePath_77 : decode cX10_reversePath 77 = .ok (.aload_n 0, 1) := by decide +kernel
theorem dX10_reversePath_78 : decode cX10_reversePath 78 = .ok (.getfield 50, 3) := by decide +kernel
theorem dX10_reversePath_81 : decode cX10_reversePath 81 = .ok (.iload 4, 2) := by decide +kernel
theorem dX10_reversePath_83 : decode cX10_reversePath 83 = .ok (.invokevirtual 124, 3) := by decide +kernel
theorem dX10_reversePath_86 : decode cX10_reversePath 86 = .ok (.aload_n 0, 1) := by decide +kernel
theorem dX10_reversePath_87 : decode cX10_reversePath 87 = .ok (.getfield 50, 3) := by decide +kernel
theorem dX10_reversePath_90 : decode cX10_reversePath 90 = .ok (.iload 4, 2) := by decide +kernel
theorem dX10_reversePath_92 : decode cX10_reversePath 92 = .ok (.iconst 1, 1) := by decide +kernel
theorem dX10_reversePath_93 : decode cX10_reversePath 93 = .ok (.iadd, 1) := by decide +kernel
theorem dX10_reversePath_94 : decode cX10_reversePath 94 = .ok (.invokevirtual 124, 3) := by decide +kernel
theorem dX10_reversePath_97 : decode cX10_reversePath 97 = .ok (.invokevirtual 110, 3) := by decide +kernel
theorem dX10_reversePath_100 : decode cX10_reversePath 100 = .ok (.iinc 4 1, 3) := by decide +kernel
theorem dX10_reversePath_103 : decode cX10_reversePath 103 = .ok (.goto (-43), 3) := by decide +kernel
theorem dX10_reversePath_106 : decode cX10_reversePath 106 = .ok (.iload_n 3, 1) := by decide +kernel
theorem dX10_reversePath_107 : decode cX10_reversePath 107 = .ok (.ireturn, 1) := by decide +kernel
theorem dX10_reversePlayer_0 : decode cX10_reversePlayer 0 = .ok (.aload_n 0, 1) := by decide +kernel
theorem dX10_reversePlayer_1 : decode cX10_reversePlayer 1 = .ok (.getfield 10, 3) := by decide +kernel
theorem dX10_reversePlayer_4 : decode cX10_reversePlayer 4 = .ok (.iload_n 1, 1) := by decide +kernel
theorem dX10_reversePlayer_5 : decode cX10_reversePlayer 5 = .ok (.invokevirtual 128, 3) := by decide +kernel
theorem dX10_reversePlayer_8 : decode cX10_reversePlayer 8 = .ok (.ifCond .ne 5, 3) := by decide +kernel
theorem dX10_reversePlayer_11 : decode cX10_reversePlayer 11 = .ok (.iconst (-1), 1) := by decide +kernel
theorem dX10_reversePlayer_12 : decode cX10_reversePlayer 12 = .ok (.ireturn, 1) := by decide +kernel
theorem dX10_reversePlayer_13 : decode cX10_reversePlayer 13 = .ok (.aload_n 0, 1) := by decide +kernel
theorem dX10_reversePlayer_14 : decode cX10_reversePlayer 14 = .ok (.getfield 22, 3) := by decide +kernel
theorem dX10_reversePlayer_17 : decode cX10_reversePlayer 17 = .ok (.aload_n 0, 1) := by decide +kernel
theorem dX10_reversePlayer_18 : decode cX10_reversePlayer 18 = .ok (.getfield 10, 3) := by decide +kernel
theorem dX10_reversePlayer_21 : decode cX10_reversePlayer 21 = .ok (.invokevirtual 79, 3) := by decide +kernel
theorem dX10_reversePlayer_24 : decode cX10_reversePlayer 24 = .ok (.iconst 0, 1) := by decide +kernel
theorem dX10_reversePlayer_25 : decode cX10_reversePlayer 25 = .ok (.istore_n 2, 1) := by decide +kernel
theorem dX10_reversePlayer_26 : decode cX10_reversePlayer 26 = .ok (.iload_n 2, 1) := by decide +kernel
theorem dX10_reversePlayer_27 : decode cX10_reversePlayer 27 = .ok (.aload_n 0, 1) := by decide +kernel
theorem dX10_reversePlayer_28 : decode cX10_reversePlayer 28 = .ok (.getfield 10, 3) := by decide +kernel
theorem dX10_reversePlayer_31 : decode cX10_reversePlayer 31 = .ok (.invokevirtual 75, 3) := by decide +kernel
theorem dX10_reversePlayer_34 : decode cX10_reversePlayer 34 = .ok (.if_icmp .ge 18, 3) := by decide +kernel
theorem dX10_reversePlayer_37 : decode cX10_reversePlayer 37 = .ok (.aload_n 0, 1) := by decide +kernel
theorem dX10_reversePlayer_38 : decode cX10_reversePlayer 38 = .ok (.getfield 10, 3) := by decide +kernel
theorem dX10_reversePlayer_41 : decode cX10_reversePlayer 41 = .ok (.iload_n 1, 1) := by decide +kernel
theorem dX10_reversePlayer_42 : decode cX10_reversePlayer 42 = .ok (.iload_n 2, 1) := by decide +kernel
theorem dX10_reversePlayer_43 : decode cX10_reversePlayer 43 = .ok (.invokevirtual 110, 3) := by decide +kernel
theorem dX10_reversePlayer_46 : decode cX10_reversePlayer 46 = .ok (.iinc 2 1, 3) := by decide +kernel
theorem dX10_reversePlayer_49 : decode cX10_reversePlayer 49 = .ok (.goto (-23), 3) := by decide +kernel
theorem dX10_reversePlayer_52 : decode cX10_reversePlayer 52 = .ok (.aload_n 0, 1) := by decide +kernel
theorem dX10_reversePlayer_53 : decode cX10_reversePlayer 53 = .ok (.getfield 10, 3) := by decide +kernel
theorem dX10_reversePlayer_56 : decode cX10_reversePlayer 56 = .ok (.iload_n 1, 1) := by decide +kernel
theorem dX10_reversePlayer_57 : decode cX10_reversePlayer 57 = .ok (.invokevirtual 132, 3) := by decide +kernel
theorem dX10_reversePlayer_60 : decode cX10_reversePlayer 60 = .ok (.ireturn, 1) := by decide +kernel
theorem dX10_exchange_0 : decode cX10_exchange 0 = .ok (.aload_n 0, 1) := by decide +kernel
theorem dX10_exchange_1 : decode cX10_exchange 1 = .ok (.getfield 10, 3) := by decide +kernel
theorem dX10_exchange_4 : decode cX10_exchange 4 = .ok (.iload_n 1, 1) := by decide +kernel
theorem dX10_exchange_5 : decode cX10_exchange 5 = .ok (.invokevirtual 128, 3) := by decide +kernel
theorem dX10_exchange_8 : decode cX10_exchange 8 = .ok (.ifCond .eq 14, 3) := by decide +kernel
theorem dX10_exchange_11 : decode cX10_exchange 11 = .ok (.aload_n 0, 1) := by decide +kernel
theorem dX10_exchange_12 : decode cX10_exchange 12 = .ok (.getfield 10, 3) := by decide +kernel
theorem dX10_exchange_15 : decode cX10_exchange 15 = .ok (.iload_n 2, 1) := by decide +kernel
theorem dX10_exchange_16 : decode cX10_exchange 16 = .ok (.invokevirtual 128, 3) := by decide +kernel
theorem dX10_exchange_19 : decode cX10_exchange 19 = .ok (.ifCond .ne 5, 3) := by decide +kernel
theorem dX10_exchange_22 : decode cX10_exchange 22 = .ok (.iconst (-1), 1) := by decide +kernel
theorem dX10_exchange_23 : decode cX10_exchange 23 = .ok (.ireturn, 1) := by decide +kernel
theorem dX10_exchange_24 : decode cX10_exchange 24 = .ok (.aload_n 0, 1) := by decide +kernel
theorem dX10_exchange_25 : decode cX10_exchange 25 = .ok (.getfield 22, 3) := by decide +kernel
theorem dX10_exchange_28 : decode cX10_exchange 28 = .ok (.aload_n 0, 1) := by decide +kernel
theorem dX10_exchange_29 : decode cX10_exchange 29 = .ok (.getfield 10, 3) := by decide +kernel
theorem dX10_exchange_32 : decode cX10_exchange 32 = .ok (.invokevirtual 79, 3) := by decide +kernel
theorem dX10_exchange_35 : decode cX10_exchange 35 = .ok (.aload_n 0, 1) := by decide +kernel
theorem dX10_exchange_36 : decode cX10_exchange 36 = .ok (.getfield 10, 3) := by decide +kernel
theorem dX10_exchange_39 : decode cX10_exchange 39 = .ok (.iload_n 1, 1) := by decide +kernel
theorem dX10_exchange_40 : decode cX10_exchange 40 = .ok (.iload_n 2, 1) := by decide +kernel
theorem dX10_exchange_41 : decode cX10_exchange 41 = .ok (.invokevirtual 135, 3) := by decide +kernel
theorem dX10_exchange_44 : decode cX10_exchange 44 = .ok (.aload_n 0, 1) := by decide +kernel
theorem dX10_exchange_45 : decode cX10_exchange 45 = .ok (.getfield 10, 3) := by decide +kernel
theorem dX10_exchange_48 : decode cX10_exchange 48 = .ok (.iload_n 1, 1) := by decide +kernel
theorem dX10_exchange_49 : decode cX10_exchange 49 = .ok (.invokevirtual 132, 3) := by decide +kernel
theorem dX10_exchange_52 : decode cX10_exchange 52 = .ok (.ireturn, 1) := by decide +kernel
theorem dX10_construct_0 : decode cX10_construct 0 = .ok (.aload_n 0, 1) := by decide +kernel
theorem dX10_construct_1 : decode cX10_construct 1 = .ok (.getfield 29, 3) := by decide +kernel
theorem dX10_construct_4 : decode cX10_construct 4 = .ok (.invokevirtual 138, 3) := by decide +kernel
theorem dX10_construct_7 : decode cX10_construct 7 = .ok (.ifCond .eq 6, 3) := by decide +kernel
theorem dX10_construct_10 : decode cX10_construct 10 = .ok (.bipush (-2), 2) := by decide +kernel
theorem dX10_construct_12 : decode cX10_construct 12 = .ok (.ireturn, 1) := by decide +kernel
theorem dX10_construct_13 : decode cX10_construct 13 = .ok (.aload_n 0, 1) := by decide +kernel
theorem dX10_construct_14 : decode cX10_construct 14 = .ok (.getfield 22, 3) := by decide +kernel
theorem dX10_construct_17 : decode cX10_construct 17 = .ok (.aload_n 0, 1) := by decide +kernel
theorem dX10_construct_18 : decode cX10_construct 18 = .ok (.getfield 10, 3) := by decide +kernel
theorem dX10_construct_21 : decode cX10_construct 21 = .ok (.invokevirtual 79, 3) := by decide +kernel
theorem dX10_construct_24 : decode cX10_construct 24 = .ok (.aload_n 0, 1) := by decide +kernel
theorem dX10_construct_25 : decode cX10_construct 25 = .ok (.getfield 43, 3) := by decide +kernel
theorem dX10_construct_28 : decode cX10_construct 28 = .ok (.aload_n 0, 1) := by decide +kernel
theorem dX10_construct_29 : decode cX10_construct 29 = .ok (.getfield 29, 3) := by decide +kernel
theorem dX10_construct_32 : decode cX10_construct 32 = .ok (.aload_n 0, 1) := by decide +kernel
theorem dX10_construct_33 : decode cX10_construct 33 = .ok (.getfield 10, 3) := by decide +kernel
theorem dX10_construct_36 : decode cX10_construct 36 = .ok (.invokevirtual 141, 3) := by decide +kernel
theorem dX10_construct_39 : decode cX10_construct 39 = .ok (.aload_n 0, 1) := by decide +kernel
theorem dX10_construct_40 : decode cX10_construct 40 = .ok (.getfield 10, 3) := by decide +kernel
theorem dX10_construct_43 : decode cX10_construct 43 = .ok (.invokevirtual 75, 3) := by decide +kernel
theorem dX10_construct_46 : decode cX10_construct 46 = .ok (.ireturn, 1) := by decide +kernel
theorem dX10_enter_0 : decode cX10_enter 0 = .ok (.aload_n 0, 1) := by decide +kernel
theorem dX10_enter_1 : decode cX10_enter 1 = .ok (.getfield 36, 3) := by decide +kernel
theorem dX10_enter_4 : decode cX10_enter 4 = .ok (.aload_n 0, 1) := by decide +kernel
theorem dX10_enter_5 : decode cX10_enter 5 = .ok (.getfield 10, 3) := by decide +kernel
theorem dX10_enter_8 : decode cX10_enter 8 = .ok (.invokevirtual 145, 3) := by decide +kernel
theorem dX10_enter_11 : decode cX10_enter 11 = .ok (.bipush (-4), 2) := by decide +kernel
theorem dX10_enter_13 : decode cX10_enter 13 = .ok (.if_icmp .eq 6, 3) := by decide +kernel
theorem dX10_enter_16 : decode cX10_enter 16 = .ok (.bipush (-2), 2) := by decide +kernel
theorem dX10_enter_18 : decode cX10_enter 18 = .ok (.ireturn, 1) := by decide +kernel
theorem dX10_enter_19 : decode cX10_enter 19 = .ok (.aload_n 0, 1) := by decide +kernel
theorem dX10_enter_20 : decode cX10_enter 20 = .ok (.getfield 22, 3) := by decide +kernel
theorem dX10_enter_23 : decode cX10_enter 23 = .ok (.aload_n 0, 1) := by decide +kernel
theorem dX10_enter_24 : decode cX10_enter 24 = .ok (.getfield 10, 3) := by decide +kernel
theorem dX10_enter_27 : decode cX10_enter 27 = .ok (.invokevirtual 79, 3) := by decide +kernel
theorem dX10_enter_30 : decode cX10_enter 30 = .ok (.aload_n 0, 1) := by decide +kernel
theorem dX10_enter_31 : decode cX10_enter 31 = .ok (.getfield 36, 3) := by decide +kernel
theorem dX10_enter_34 : decode cX10_enter 34 = .ok (.aload_n 0, 1) := by decide +kernel
theorem dX10_enter_35 : decode cX10_enter 35 = .ok (.getfield 10, 3) := by decide +kernel
theorem dX10_enter_38 : decode cX10_enter 38 = .ok (.invokevirtual 149, 3) := by decide +kernel
theorem dX10_enter_41 : decode cX10_enter 41 = .ok (.ireturn, 1) := by decide +kernel
theorem dX10_recall_0 : decode cX10_recall 0 = .ok (.aload_n 0, 1) := by decide +kernel
theorem dX10_recall_1 : decode cX10_recall 1 = .ok (.getfield 22, 3) := by decide +kernel
theorem dX10_recall_4 : decode cX10_recall 4 = .ok (.aload_n 0, 1) := by decide +kernel
theorem dX10_recall_5 : decode cX10_recall 5 = .ok (.getfield 10, 3) := by decide +kernel
theorem dX10_recall_8 : decode cX10_recall 8 = .ok (.invokevirtual 79, 3) := by decide +kernel
theorem dX10_recall_11 : decode cX10_recall 11 = .ok (.aload_n 0, 1) := by decide +kernel
theorem dX10_recall_12 : decode cX10_recall 12 = .ok (.getfield 10, 3) := by decide +kernel
theorem dX10_recall_15 : decode cX10_recall 15 = .ok (.aload_n 0, 1) := by decide +kernel
theorem dX10_recall_16 : decode cX10_recall 16 = .ok (.getfield 16, 3) := by decide +kernel
theorem dX10_recall_19 : decode cX10_recall 19 = .ok (.invokevirtual 152, 3) := by decide +kernel
theorem dX10_recall_22 : decode cX10_recall 22 = .ok (.aload_n 0, 1) := by decide +kernel
theorem dX10_recall_23 : decode cX10_recall 23 = .ok (.getfield 10, 3) := by decide +kernel
theorem dX10_recall_26 : decode cX10_recall 26 = .ok (.invokevirtual 75, 3) := by decide +kernel
theorem dX10_recall_29 : decode cX10_recall 29 = .ok (.ireturn, 1) := by decide +kernel
theorem dX10_undo_0 : decode cX10_undo 0 = .ok (.aload_n 0, 1) := by decide +kernel
theorem dX10_undo_1 : decode cX10_undo 1 = .ok (.getfield 22, 3) := by decide +kernel
theorem dX10_undo_4 : decode cX10_undo 4 = .ok (.invokevirtual 155, 3) := by decide +kernel
theorem dX10_undo_7 : decode cX10_undo 7 = .ok (.ifCond .eq 6, 3) := by decide +kernel
theorem dX10_undo_10 : decode cX10_undo 10 = .ok (.bipush (-2), 2) := by decide +kernel
theorem dX10_undo_12 : decode cX10_undo 12 = .ok (.ireturn, 1) := by decide +kernel
theorem dX10_undo_13 : decode cX10_undo 13 = .ok (.aload_n 0, 1) := by decide +kernel
theorem dX10_undo_14 : decode cX10_undo 14 = .ok (.getfield 22, 3) := by decide +kernel
theorem dX10_undo_17 : decode cX10_undo 17 = .ok (.aload_n 0, 1) := by decide +kernel
theorem dX10_undo_18 : decode cX10_undo 18 = .ok (.getfield 10, 3) := by decide +kernel
theorem dX10_undo_21 : decode cX10_undo 21 = .ok (.invokevirtual 159, 3) := by decide +kernel
theorem dX10_undo_24 : decode cX10_undo 24 = .ok (.aload_n 0, 1) := by decide +kernel
theorem dX10_undo_25 : decode cX10_undo 25 = .ok (.getfield 22, 3) := by decide +kernel
theorem dX10_undo_28 : decode cX10_undo 28 = .ok (.invokevirtual 162, 3) := by decide +kernel
theorem dX10_undo_31 : decode cX10_undo 31 = .ok (.ireturn, 1) := by decide +kernel
theorem dX10_append_0 : decode cX10_append 0 = .ok (.iload_n 1, 1) := by decide +kernel
theorem dX10_append_1 : decode cX10_append 1 = .ok (.ifCond .lt 9, 3) := by decide +kernel
theorem dX10_append_4 : decode cX10_append 4 = .ok (.iload_n 1, 1) := by decide +kernel
theorem dX10_append_5 : decode cX10_append 5 = .ok (.bipush 9, 2) := by decide +kernel
theorem dX10_append_7 : decode cX10_append 7 = .ok (.if_icmp .le 5, 3) := by decide +kernel
theorem dX10_append_10 : decode cX10_append 10 = .ok (.iconst (-1), 1) := by decide +kernel
theorem dX10_append_11 : decode cX10_append 11 = .ok (.ireturn, 1) := by decide +kernel
theorem dX10_append_12 : decode cX10_append 12 = .ok (.aload_n 0, 1) := by decide +kernel
theorem dX10_append_13 : decode cX10_append 13 = .ok (.getfield 29, 3) := by decide +kernel
theorem dX10_append_16 : decode cX10_append 16 = .ok (.iload_n 1, 1) := by decide +kernel
theorem dX10_append_17 : decode cX10_append 17 = .ok (.invokevirtual 163, 3) := by decide +kernel
theorem dX10_append_20 : decode cX10_append 20 = .ok (.ifCond .eq 13, 3) := by decide +kernel
theorem dX10_append_23 : decode cX10_append 23 = .ok (.aload_n 0, 1) := by decide +kernel
theorem dX10_append_24 : decode cX10_append 24 = .ok (.getfield 29, 3) := by decide +kernel
theorem dX10_append_27 : decode cX10_append 27 = .ok (.invokevirtual 166, 3) := by decide +kernel
theorem dX10_append_30 : decode cX10_append 30 = .ok (.goto 5, 3) := by decide +kernel
theorem dX10_append_33 : decode cX10_append 33 = .ok (.bipush (-3), 2) := by decide +kernel
theorem dX10_append_35 : decode cX10_append 35 = .ok (.ireturn, 1) := by decide +kernel
theorem dX10_clearSequence_0 : decode cX10_clearSequence 0 = .ok (.aload_n 0, 1) := by decide +kernel
theorem dX10_clearSequence_1 : decode cX10_clearSequence 1 = .ok (.getfield 29, 3) := by decide +kernel
theorem dX10_clearSequence_4 : decode cX10_clearSequence 4 = .ok (.invokevirtual 166, 3) := by decide +kernel
theorem dX10_clearSequence_7 : decode cX10_clearSequence 7 = .ok (.istore_n 1, 1) := by decide +kernel
theorem dX10_clearSequence_8 : decode cX10_clearSequence 8 = .ok (.aload_n 0, 1) := by decide +kernel
theorem dX10_clearSequence_9 : decode cX10_clearSequence 9 = .ok (.getfield 29, 3) := by decide +kernel
theorem dX10_clearSequence_12 : decode cX10_clearSequence 12 = .ok (.invokevirtual 167, 3) := by decide +kernel
theorem dX10_clearSequence_15 : decode cX10_clearSequence 15 = .ok (.iload_n 1, 1) := by decide +kernel
theorem dX10_clearSequence_16 : decode cX10_clearSequence 16 = .ok (.ireturn, 1) := by decide +kernel
theorem dX10_checkSequence_0 : decode cX10_checkSequence 0 = .ok (.aload_n 0, 1) := by decide +kernel
theorem dX10_checkSequence_1 : decode cX10_checkSequence 1 = .ok (.getfield 29, 3) := by decide +kernel
theorem dX10_checkSequence_4 : decode cX10_checkSequence 4 = .ok (.invokevirtual 138, 3) := by decide +kernel
theorem dX10_checkSequence_7 : decode cX10_checkSequence 7 = .ok (.ireturn, 1) := by decide +kernel
theorem dX10_type_0 : decode cX10_type 0 = .ok (.iload_n 1, 1) := by decide +kernel
theorem dX10_type_1 : decode cX10_type 1 = .ok (.bipush 32, 2) := by decide +kernel
theorem dX10_type_3 : decode cX10_type 3 = .ok (.if_icmp .lt 9, 3) := by decide +kernel
theorem dX10_type_6 : decode cX10_type 6 = .ok (.iload_n 1, 1) := by decide +kernel
theorem dX10_type_7 : decode cX10_type 7 = .ok (.bipush 126, 2) := by decide +kernel
theorem dX10_type_9 : decode cX10_type 9 = .ok (.if_icmp .le 5, 3) := by decide +kernel
theorem dX10_type_12 : decode cX10_type 12 = .ok (.iconst (-1), 1) := by decide +kernel
theorem dX10_type_13 : decode cX10_type 13 = .ok (.ireturn, 1) := by decide +kernel
theorem dX10_type_14 : decode cX10_type 14 = .ok (.aload_n 0, 1) := by decide +kernel
theorem dX10_type_15 : decode cX10_type 15 = .ok (.getfield 36, 3) := by decide +kernel
theorem dX10_type_18 : decode cX10_type 18 = .ok (.iload_n 1, 1) := by decide +kernel
theorem dX10_type_19 : decode cX10_type 19 = .ok (.i2c, 1) := by decide +kernel
theorem dX10_type_20 : decode cX10_type 20 = .ok (.invokevirtual 170, 3) := by decide +kernel
theorem dX10_type_23 : decode cX10_type 23 = .ok (.ifCond .eq 13, 3) := by decide +kernel
theorem dX10_type_26 : decode cX10_type 26 = .ok (.aload_n 0, 1) := by decide +kernel
theorem dX10_type_27 : decode cX10_type 27 = .ok (.getfield 36, 3) := by decide +kernel
theorem dX10_type_30 : decode cX10_type 30 = .ok (.invokevirtual 173, 3) := by decide +kernel
theorem dX10_type_33 : decode cX10_type 33 = .ok (.goto 5, 3) := by decide +kernel
theorem dX10_type_36 : decode cX10_type 36 = .ok (.bipush (-3), 2) := by decide +kernel
theorem dX10_type_38 : decode cX10_type 38 = .ok (.ireturn, 1) := by decide +kernel
theorem dX10_clearText_0 : decode cX10_clearText 0 = .ok (.aload_n 0, 1) := by decide +kernel
theorem dX10_clearText_1 : decode cX10_clearText 1 = .ok (.getfield 36, 3) := by decide +kernel
theorem dX10_clearText_4 : decode cX10_clearText 4 = .ok (.invokevirtual 173, 3) := by decide +kernel
theorem dX10_clearText_7 : decode cX10_clearText 7 = .ok (.istore_n 1, 1) := by decide +kernel
theorem dX10_clearText_8 : decode cX10_clearText 8 = .ok (.aload_n 0, 1) := by decide +kernel
theorem dX10_clearText_9 : decode cX10_clearText 9 = .ok (.getfield 36, 3) := by decide +kernel
theorem dX10_clearText_12 : decode cX10_clearText 12 = .ok (.invokevirtual 174, 3) := by decide +kernel
theorem dX10_clearText_15 : decode cX10_clearText 15 = .ok (.iload_n 1, 1) := by decide +kernel
theorem dX10_clearText_16 : decode cX10_clearText 16 = .ok (.ireturn, 1) := by decide +kernel
theorem dX10_fault_0 : decode cX10_fault 0 = .ok (.aload_n 0, 1) := by decide +kernel
theorem dX10_fault_1 : decode cX10_fault 1 = .ok (.getfield 36, 3) := by decide +kernel
theorem dX10_fault_4 : decode cX10_fault 4 = .ok (.aload_n 0, 1) := by decide +kernel
theorem dX10_fault_5 : decode cX10_fault 5 = .ok (.getfield 10, 3) := by decide +kernel
theorem dX10_fault_8 : decode cX10_fault 8 = .ok (.invokevirtual 145, 3) := by decide +kernel
theorem dX10_fault_11 : decode cX10_fault 11 = .ok (.ireturn, 1) := by decide +kernel
theorem dX10_players_0 : decode cX10_players 0 = .ok (.aload_n 0, 1) := by decide +kernel
theorem dX10_players_1 : decode cX10_players 1 = .ok (.getfield 10, 3) := by decide +kernel
theorem dX10_players_4 : decode cX10_players 4 = .ok (.invokevirtual 75, 3) := by decide +kernel
theorem dX10_players_7 : decode cX10_players 7 = .ok (.ireturn, 1) := by decide +kernel
theorem dX10_beats_0 : decode cX10_beats 0 = .ok (.aload_n 0, 1) := by decide +kernel
theorem dX10_beats_1 : decode cX10_beats 1 = .ok (.getfield 10, 3) := by decide +kernel
theorem dX10_beats_4 : decode cX10_beats 4 = .ok (.iload_n 1, 1) := by decide +kernel
theorem dX10_beats_5 : decode cX10_beats 5 = .ok (.invokevirtual 128, 3) := by decide +kernel
theorem dX10_beats_8 : decode cX10_beats 8 = .ok (.ifCond .eq 14, 3) := by decide +kernel
theorem dX10_beats_11 : decode cX10_beats 11 = .ok (.aload_n 0, 1) := by decide +kernel
theorem dX10_beats_12 : decode cX10_beats 12 = .ok (.getfield 10, 3) := by decide +kernel
theorem dX10_beats_15 : decode cX10_beats 15 = .ok (.iload_n 2, 1) := by decide +kernel
theorem dX10_beats_16 : decode cX10_beats 16 = .ok (.invokevirtual 128, 3) := by decide +kernel
theorem dX10_beats_19 : decode cX10_beats 19 = .ok (.ifCond .ne 5, 3) := by decide +kernel
theorem dX10_beats_22 : decode cX10_beats 22 = .ok (.iconst (-1), 1) := by decide +kernel
theorem dX10_beats_23 : decode cX10_beats 23 = .ok (.ireturn, 1) := by decide +kernel
theorem dX10_beats_24 : decode cX10_beats 24 = .ok (.aload_n 0, 1) := by decide +kernel
theorem dX10_beats_25 : decode cX10_beats 25 = .ok (.getfield 10, 3) := by decide +kernel
theorem dX10_beats_28 : decode cX10_beats 28 = .ok (.iload_n 1, 1) := by decide +kernel
theorem dX10_beats_29 : decode cX10_beats 29 = .ok (.iload_n 2, 1) := by decide +kernel
theorem dX10_beats_30 : decode cX10_beats 30 = .ok (.invokevirtual 91, 3) := by decide +kernel
theorem dX10_beats_33 : decode cX10_beats 33 = .ok (.ifCond .eq 7, 3) := by decide +kernel
theorem dX10_beats_36 : decode cX10_beats 36 = .ok (.iconst 1, 1) := by decide +kernel
theorem dX10_beats_37 : decode cX10_beats 37 = .ok (.goto 4, 3) := by decide +kernel
theorem dX10_beats_40 : decode cX10_beats 40 = .ok (.iconst 0, 1) := by decide +kernel
theorem dX10_beats_41 : decode cX10_beats 41 = .ok (.ireturn, 1) := by decide +kernel
theorem dX10_weight_0 : decode cX10_weight 0 = .ok (.aload_n 0, 1) := by decide +kernel
theorem dX10_weight_1 : decode cX10_weight 1 = .ok (.getfield 10, 3) := by decide +kernel
theorem dX10_weight_4 : decode cX10_weight 4 = .ok (.iload_n 1, 1) := by decide +kernel
theorem dX10_weight_5 : decode cX10_weight 5 = .ok (.iload_n 2, 1) := by decide +kernel
theorem dX10_weight_6 : decode cX10_weight 6 = .ok (.invokevirtual 87, 3) := by decide +kernel
theorem dX10_weight_9 : decode cX10_weight 9 = .ok (.ifCond .eq 15, 3) := by decide +kernel
theorem dX10_weight_12 : decode cX10_weight 12 = .ok (.aload_n 0, 1) := by decide +kernel
theorem dX10_weight_13 : decode cX10_weight 13 = .ok (.getfield 10, 3) := by decide +kernel
theorem dX10_weight_16 : decode cX10_weight 16 = .ok (.iload_n 1, 1) := by decide +kernel
theorem dX10_weight_17 : decode cX10_weight 17 = .ok (.iload_n 2, 1) := by decide +kernel
theorem dX10_weight_18 : decode cX10_weight 18 = .ok (.invokevirtual 98, 3) := by decide +kernel
theorem dX10_weight_21 : decode cX10_weight 21 = .ok (.goto 4, 3) := by decide +kernel
theorem dX10_weight_24 : decode cX10_weight 24 = .ok (.iconst (-1), 1) := by decide +kernel
theorem dX10_weight_25 : decode cX10_weight 25 = .ok (.ireturn, 1) := by decide +kernel
theorem dX10_score_0 : decode cX10_score 0 = .ok (.aload_n 0, 1) := by decide +kernel
theorem dX10_score_1 : decode cX10_score 1 = .ok (.getfield 10, 3) := by decide +kernel
theorem dX10_score_4 : decode cX10_score 4 = .ok (.iload_n 1, 1) := by decide +kernel
theorem dX10_score_5 : decode cX10_score 5 = .ok (.invokevirtual 128, 3) := by decide +kernel
theorem dX10_score_8 : decode cX10_score 8 = .ok (.ifCond .eq 14, 3) := by decide +kernel
theorem dX10_score_11 : decode cX10_score 11 = .ok (.aload_n 0, 1) := by decide +kernel
theorem dX10_score_12 : decode cX10_score 12 = .ok (.getfield 10, 3) := by decide +kernel
theorem dX10_score_15 : decode cX10_score 15 = .ok (.iload_n 1, 1) := by decide +kernel
theorem dX10_score_16 : decode cX10_score 16 = .ok (.invokevirtual 132, 3) := by decide +kernel
theorem dX10_score_19 : decode cX10_score 19 = .ok (.goto 4, 3) := by decide +kernel
theorem dX10_score_22 : decode cX10_score 22 = .ok (.iconst (-1), 1) := by decide +kernel
theorem dX10_score_23 : decode cX10_score 23 = .ok (.ireturn, 1) := by decide +kernel
theorem dX10_scoreAt_0 : decode cX10_scoreAt 0 = .ok (.aload_n 0, 1) := by decide +kernel
theorem dX10_scoreAt_1 : decode cX10_scoreAt 1 = .ok (.getfield 10, 3) := by decide +kernel
theorem dX10_scoreAt_4 : decode cX10_scoreAt 4 = .ok (.iload_n 1, 1) := by decide +kernel
theorem dX10_scoreAt_5 : decode cX10_scoreAt 5 = .ok (.invokevirtual 128, 3) := by decide +kernel
theorem dX10_scoreAt_8 : decode cX10_scoreAt 8 = .ok (.ifCond .eq 14, 3) := by decide +kernel
theorem dX10_scoreAt_11 : decode cX10_scoreAt 11 = .ok (.aload_n 0, 1) := by decide +kernel
theorem dX10_scoreAt_12 : decode cX10_scoreAt 12 = .ok (.getfield 10, 3) := by decide +kernel
theorem dX10_scoreAt_15 : decode cX10_scoreAt 15 = .ok (.iload_n 1, 1) := by decide +kernel
theorem dX10_scoreAt_16 : decode cX10_scoreAt 16 = .ok (.invokevirtual 175, 3) := by decide +kernel
theorem dX10_scoreAt_19 : decode cX10_scoreAt 19 = .ok (.goto 4, 3) := by decide +kernel
theorem dX10_scoreAt_22 : decode cX10_scoreAt 22 = .ok (.iconst (-1), 1) := by decide +kernel
theorem dX10_scoreAt_23 : decode cX10_scoreAt 23 = .ok (.ireturn, 1) := by decide +kernel
theorem dX10_triangles_0 : decode cX10_triangles 0 = .ok (.aload_n 0, 1) := by decide +kernel
theorem dX10_triangles_1 : decode cX10_triangles 1 = .ok (.getfield 10, 3) := by decide +kernel
theorem dX10_triangles_4 : decode cX10_triangles 4 = .ok (.invokevirtual 113, 3) := by decide +kernel
theorem dX10_triangles_7 : decode cX10_triangles 7 = .ok (.ireturn, 1) := by decide +kernel
theorem dX10_distance_0 : decode cX10_distance 0 = .ok (.aload_n 0, 1) := by decide +kernel
theorem dX10_distance_1 : decode cX10_distance 1 = .ok (.getfield 10, 3) := by decide +kernel
theorem dX10_distance_4 : decode cX10_distance 4 = .ok (.iload_n 1, 1) := by decide +kernel
theorem dX10_distance_5 : decode cX10_distance 5 = .ok (.invokevirtual 128, 3) := by decide +kernel
theorem dX10_distance_8 : decode cX10_distance 8 = .ok (.ifCond .eq 14, 3) := by decide +kernel
theorem dX10_distance_11 : decode cX10_distance 11 = .ok (.aload_n 0, 1) := by decide +kernel
theorem dX10_distance_12 : decode cX10_distance 12 = .ok (.getfield 10, 3) := by decide +kernel
theorem dX10_distance_15 : decode cX10_distance 15 = .ok (.iload_n 2, 1) := by decide +kernel
theorem dX10_distance_16 : decode cX10_distance 16 = .ok (.invokevirtual 128, 3) := by decide +kernel
theorem dX10_distance_19 : decode cX10_distance 19 = .ok (.ifCond .ne 5, 3) := by decide +kernel
theorem dX10_distance_22 : decode cX10_distance 22 = .ok (.iconst (-1), 1) := by decide +kernel
theorem dX10_distance_23 : decode cX10_distance 23 = .ok (.ireturn, 1) := by decide +kernel
theorem dX10_distance_24 : decode cX10_distance 24 = .ok (.aload_n 0, 1) := by decide +kernel
theorem dX10_distance_25 : decode cX10_distance 25 = .ok (.getfield 10, 3) := by decide +kernel
theorem dX10_distance_28 : decode cX10_distance 28 = .ok (.iload_n 1, 1) := by decide +kernel
theorem dX10_distance_29 : decode cX10_distance 29 = .ok (.iload_n 2, 1) := by decide +kernel
theorem dX10_distance_30 : decode cX10_distance 30 = .ok (.invokestatic 116, 3) := by decide +kernel
theorem dX10_distance_33 : decode cX10_distance 33 = .ok (.ireturn, 1) := by decide +kernel
theorem dX10_components_0 : decode cX10_components 0 = .ok (.aload_n 0, 1) := by decide +kernel
theorem dX10_components_1 : decode cX10_components 1 = .ok (.getfield 10, 3) := by decide +kernel
theorem dX10_components_4 : decode cX10_components 4 = .ok (.invokestatic 178, 3) := by decide +kernel
theorem dX10_components_7 : decode cX10_components 7 = .ok (.ireturn, 1) := by decide +kernel
theorem dX10_componentOf_0 : decode cX10_componentOf 0 = .ok (.aload_n 0, 1) := by decide +kernel
theorem dX10_componentOf_1 : decode cX10_componentOf 1 = .ok (.getfield 10, 3) := by decide +kernel
theorem dX10_componentOf_4 : decode cX10_componentOf 4 = .ok (.iload_n 1, 1) := by decide +kernel
theorem dX10_componentOf_5 : decode cX10_componentOf 5 = .ok (.invokevirtual 128, 3) := by decide +kernel
theorem dX10_componentOf_8 : decode cX10_componentOf 8 = .ok (.ifCond .eq 14, 3) := by decide +kernel
theorem dX10_componentOf_11 : decode cX10_componentOf 11 = .ok (.aload_n 0, 1) := by decide +kernel
theorem dX10_componentOf_12 : decode cX10_componentOf 12 = .ok (.getfield 10, 3) := by decide +kernel
theorem dX10_componentOf_15 : decode cX10_componentOf 15 = .ok (.iload_n 1, 1) := by decide +kernel
theorem dX10_componentOf_16 : decode cX10_componentOf 16 = .ok (.invokestatic 183, 3) := by decide +kernel
theorem dX10_componentOf_19 : decode cX10_componentOf 19 = .ok (.goto 4, 3) := by decide +kernel
theorem dX10_componentOf_22 : decode cX10_componentOf 22 = .ok (.iconst (-1), 1) := by decide +kernel
theorem dX10_componentOf_23 : decode cX10_componentOf 23 = .ok (.ireturn, 1) := by decide +kernel
theorem dX10_spanningPaths_0 : decode cX10_spanningPaths 0 = .ok (.aload_n 0, 1) := by decide +kernel
theorem dX10_spanningPaths_1 : decode cX10_spanningPaths 1 = .ok (.getfield 50, 3) := by decide +kernel
theorem dX10_spanningPaths_4 : decode cX10_spanningPaths 4 = .ok (.aload_n 0, 1) := by decide +kernel
theorem dX10_spanningPaths_5 : decode cX10_spanningPaths 5 = .ok (.getfield 10, 3) := by decide +kernel
theorem dX10_spanningPaths_8 : decode cX10_spanningPaths 8 = .ok (.invokevirtual 187, 3) := by decide +kernel
theorem dX10_spanningPaths_11 : decode cX10_spanningPaths 11 = .ok (.ireturn, 1) := by decide +kernel
theorem dX10_pathAt_0 : decode cX10_pathAt 0 = .ok (.aload_n 0, 1) := by decide +kernel
theorem dX10_pathAt_1 : decode cX10_pathAt 1 = .ok (.getfield 10, 3) := by decide +kernel
theorem dX10_pathAt_4 : decode cX10_pathAt 4 = .ok (.iload_n 1, 1) := by decide +kernel
theorem dX10_pathAt_5 : decode cX10_pathAt 5 = .ok (.invokevirtual 128, 3) := by decide +kernel
theorem dX10_pathAt_8 : decode cX10_pathAt 8 = .ok (.ifCond .ne 5, 3) := by decide +kernel
theorem dX10_pathAt_11 : decode cX10_pathAt 11 = .ok (.iconst (-1), 1) := by decide +kernel
theorem dX10_pathAt_12 : decode cX10_pathAt 12 = .ok (.ireturn, 1) := by decide +kernel
theorem dX10_pathAt_13 : decode cX10_pathAt 13 = .ok (.aload_n 0, 1) := by decide +kernel
theorem dX10_pathAt_14 : decode cX10_pathAt 14 = .ok (.getfield 50, 3) := by decide +kernel
theorem dX10_pathAt_17 : decode cX10_pathAt 17 = .ok (.aload_n 0, 1) := by decide +kernel
theorem dX10_pathAt_18 : decode cX10_pathAt 18 = .ok (.getfield 10, 3) := by decide +kernel
theorem dX10_pathAt_21 : decode cX10_pathAt 21 = .ok (.invokevirtual 190, 3) := by decide +kernel
theorem dX10_pathAt_24 : decode cX10_pathAt 24 = .ok (.aload_n 0, 1) := by decide +kernel
theorem dX10_pathAt_25 : decode cX10_pathAt 25 = .ok (.getfield 50, 3) := by decide +kernel
theorem dX10_pathAt_28 : decode cX10_pathAt 28 = .ok (.iload_n 1, 1) := by decide +kernel
theorem dX10_pathAt_29 : decode cX10_pathAt 29 = .ok (.invokevirtual 124, 3) := by decide +kernel
theorem dX10_pathAt_32 : decode cX10_pathAt 32 = .ok (.ireturn, 1) := by decide +kernel
theorem dX10_cycleAt_0 : decode cX10_cycleAt 0 = .ok (.aload_n 0, 1) := by decide +kernel
theorem dX10_cycleAt_1 : decode cX10_cycleAt 1 = .ok (.getfield 10, 3) := by decide +kernel
theorem dX10_cycleAt_4 : decode cX10_cycleAt 4 = .ok (.iload_n 1, 1) := by decide +kernel
theorem dX10_cycleAt_5 : decode cX10_cycleAt 5 = .ok (.invokevirtual 128, 3) := by decide +kernel
theorem dX10_cycleAt_8 : decode cX10_cycleAt 8 = .ok (.ifCond .eq 19, 3) := by decide +kernel
theorem dX10_cycleAt_11 : decode cX10_cycleAt 11 = .ok (.iload_n 2, 1) := by decide +kernel
theorem dX10_cycleAt_12 : decode cX10_cycleAt 12 = .ok (.iconst 3, 1) := by decide +kernel
theorem dX10_cycleAt_13 : decode cX10_cycleAt 13 = .ok (.if_icmp .lt 14, 3) := by decide +kernel
theorem dX10_cycleAt_16 : decode cX10_cycleAt 16 = .ok (.iload_n 2, 1) := by decide +kernel
theorem dX10_cycleAt_17 : decode cX10_cycleAt 17 = .ok (.aload_n 0, 1) := by decide +kernel
theorem dX10_cycleAt_18 : decode cX10_cycleAt 18 = .ok (.getfield 10, 3) := by decide +kernel
theorem dX10_cycleAt_21 : decode cX10_cycleAt 21 = .ok (.invokevirtual 75, 3) := by decide +kernel
theorem dX10_cycleAt_24 : decode cX10_cycleAt 24 = .ok (.if_icmp .le 5, 3) := by decide +kernel
theorem dX10_cycleAt_27 : decode cX10_cycleAt 27 = .ok (.iconst (-1), 1) := by decide +kernel
theorem dX10_cycleAt_28 : decode cX10_cycleAt 28 = .ok (.ireturn, 1) := by decide +kernel
theorem dX10_cycleAt_29 : decode cX10_cycleAt 29 = .ok (.iload_n 3, 1) := by decide +kernel
theorem dX10_cycleAt_30 : decode cX10_cycleAt 30 = .ok (.ifCond .lt 8, 3) := by decide +kernel
theorem dX10_cycleAt_33 : decode cX10_cycleAt 33 = .ok (.iload_n 3, 1) := by decide +kernel
theorem dX10_cycleAt_34 : decode cX10_cycleAt 34 = .ok (.iload_n 2, 1) := by decide +kernel
theorem dX10_cycleAt_35 : decode cX10_cycleAt 35 = .ok (.if_icmp .lt 5, 3) := by decide +kernel
theorem dX10_cycleAt_38 : decode cX10_cycleAt 38 = .ok (.iconst (-1), 1) := by decide +kernel
theorem dX10_cycleAt_39 : decode cX10_cycleAt 39 = .ok (.ireturn, 1) := by decide +kernel
theorem dX10_cycleAt_40 : decode cX10_cycleAt 40 = .ok (.aload_n 0, 1) := by decide +kernel
theorem dX10_cycleAt_41 : decode cX10_cycleAt 41 = .ok (.getfield 57, 3) := by decide +kernel
theorem dX10_cycleAt_44 : decode cX10_cycleAt 44 = .ok (.aload_n 0, 1) := by decide +kernel
theorem dX10_cycleAt_45 : decode cX10_cycleAt 45 = .ok (.getfield 10, 3) := by decide +kernel
theorem dX10_cycleAt_48 : decode cX10_cycleAt 48 = .ok (.iload_n 1, 1) := by decide +kernel
theorem dX10_cycleAt_49 : decode cX10_cycleAt 49 = .ok (.iload_n 2, 1) := by decide +kernel
theorem dX10_cycleAt_50 : decode cX10_cycleAt 50 = .ok (.invokevirtual 193, 3) := by decide +kernel
theorem dX10_cycleAt_53 : decode cX10_cycleAt 53 = .ok (.ifCond .eq 14, 3) := by decide +kernel
theorem dX10_cycleAt_56 : decode cX10_cycleAt 56 = .ok (.aload_n 0, 1) := by decide +kernel
theorem dX10_cycleAt_57 : decode cX10_cycleAt 57 = .ok (.getfield 57, 3) := by decide +kernel
theorem dX10_cycleAt_60 : decode cX10_cycleAt 60 = .ok (.iload_n 3, 1) := by decide +kernel
theorem dX10_cycleAt_61 : decode cX10_cycleAt 61 = .ok (.invokevirtual 197, 3) := by decide +kernel
theorem dX10_cycleAt_64 : decode cX10_cycleAt 64 = .ok (.goto 5, 3) := by decide +kernel
theorem dX10_cycleAt_67 : decode cX10_cycleAt 67 = .ok (.bipush (-4), 2) := by decide +kernel
theorem dX10_cycleAt_69 : decode cX10_cycleAt 69 = .ok (.ireturn, 1) := by decide +kernel
theorem dX10_cycleLengths_0 : decode cX10_cycleLengths 0 = .ok (.aload_n 0, 1) := by decide +kernel
theorem dX10_cycleLengths_1 : decode cX10_cycleLengths 1 = .ok (.getfield 10, 3) := by decide +kernel
theorem dX10_cycleLengths_4 : decode cX10_cycleLengths 4 = .ok (.iload_n 1, 1) := by decide +kernel
theorem dX10_cycleLengths_5 : decode cX10_cycleLengths 5 = .ok (.invokevirtual 128, 3) := by decide +kernel
theorem dX10_cycleLengths_8 : decode cX10_cycleLengths 8 = .ok (.ifCond .eq 14, 3) := by decide +kernel
theorem dX10_cycleLengths_11 : decode cX10_cycleLengths 11 = .ok (.aload_n 0, 1) := by decide +kernel
theorem dX10_cycleLengths_12 : decode cX10_cycleLengths 12 = .ok (.getfield 10, 3) := by decide +kernel
theorem dX10_cycleLengths_15 : decode cX10_cycleLengths 15 = .ok (.iload_n 1, 1) := by decide +kernel
theorem dX10_cycleLengths_16 : decode cX10_cycleLengths 16 = .ok (.invokestatic 198, 3) := by decide +kernel
theorem dX10_cycleLengths_19 : decode cX10_cycleLengths 19 = .ok (.goto 4, 3) := by decide +kernel
theorem dX10_cycleLengths_22 : decode cX10_cycleLengths 22 = .ok (.iconst (-1), 1) := by decide +kernel
theorem dX10_cycleLengths_23 : decode cX10_cycleLengths 23 = .ok (.ireturn, 1) := by decide +kernel
theorem dX10_leastCost_0 : decode cX10_leastCost 0 = .ok (.aload_n 0, 1) := by decide +kernel
theorem dX10_leastCost_1 : decode cX10_leastCost 1 = .ok (.getfield 64, 3) := by decide +kernel
theorem dX10_leastCost_4 : decode cX10_leastCost 4 = .ok (.aload_n 0, 1) := by decide +kernel
theorem dX10_leastCost_5 : decode cX10_leastCost 5 = .ok (.getfield 10, 3) := by decide +kernel
theorem dX10_leastCost_8 : decode cX10_leastCost 8 = .ok (.invokevirtual 201, 3) := by decide +kernel
theorem dX10_leastCost_11 : decode cX10_leastCost 11 = .ok (.ireturn, 1) := by decide +kernel
theorem dX10_orderAt_0 : decode cX10_orderAt 0 = .ok (.aload_n 0, 1) := by decide +kernel
theorem dX10_orderAt_1 : decode cX10_orderAt 1 = .ok (.getfield 10, 3) := by decide +kernel
theorem dX10_orderAt_4 : decode cX10_orderAt 4 = .ok (.iload_n 1, 1) := by decide +kernel
theorem dX10_orderAt_5 : decode cX10_orderAt 5 = .ok (.invokevirtual 128, 3) := by decide +kernel
theorem dX10_orderAt_8 : decode cX10_orderAt 8 = .ok (.ifCond .eq 18, 3) := by decide +kernel
theorem dX10_orderAt_11 : decode cX10_orderAt 11 = .ok (.aload_n 0, 1) := by decide +kernel
theorem dX10_orderAt_12 : decode cX10_orderAt 12 = .ok (.getfield 64, 3) := by decide +kernel
theorem dX10_orderAt_15 : decode cX10_orderAt 15 = .ok (.aload_n 0, 1) := by decide +kernel
theorem dX10_orderAt_16 : decode cX10_orderAt 16 = .ok (.getfield 10, 3) := by decide +kernel
theorem dX10_orderAt_19 : decode cX10_orderAt 19 = .ok (.iload_n 1, 1) := by decide +kernel
theorem dX10_orderAt_20 : decode cX10_orderAt 20 = .ok (.invokevirtual 204, 3) := by decide +kernel
theorem dX10_orderAt_23 : decode cX10_orderAt 23 = .ok (.goto 4, 3) := by decide +kernel
theorem dX10_orderAt_26 : decode cX10_orderAt 26 = .ok (.iconst (-1), 1) := by decide +kernel
theorem dX10_orderAt_27 : decode cX10_orderAt 27 = .ok (.ireturn, 1) := by decide +kernel
theorem dX10_winners_0 : decode cX10_winners 0 = .ok (.iload_n 1, 1) := by decide +kernel
theorem dX10_winners_1 : decode cX10_winners 1 = .ok (.ifCond .lt 8, 3) := by decide +kernel
theorem dX10_winners_4 : decode cX10_winners 4 = .ok (.iload_n 1, 1) := by decide +kernel
theorem dX10_winners_5 : decode cX10_winners 5 = .ok (.iconst 4, 1) := by decide +kernel
theorem dX10_winners_6 : decode cX10_winners 6 = .ok (.if_icmp .le 7, 3) := by decide +kernel
theorem dX10_winners_9 : decode cX10_winners 9 = .ok (.iconst (-1), 1) := by decide +kernel
theorem dX10_winners_10 : decode cX10_winners 10 = .ok (.goto 8, 3) := by decide +kernel
theorem dX10_winners_13 : decode cX10_winners 13 = .ok (.aload_n 0, 1) := by decide +kernel
theorem dX10_winners_14 : decode cX10_winners 14 = .ok (.iload_n 1, 1) := by decide +kernel
theorem dX10_winners_15 : decode cX10_winners 15 = .ok (.invokevirtual 206, 3) := by decide +kernel
theorem dX10_winners_18 : decode cX10_winners 18 = .ok (.ireturn, 1) := by decide +kernel
theorem dX10_undisputed_0 : decode cX10_undisputed 0 = .ok (.aload_n 0, 1) := by decide +kernel
theorem dX10_undisputed_1 : decode cX10_undisputed 1 = .ok (.getfield 10, 3) := by decide +kernel
theorem dX10_undisputed_4 : decode cX10_undisputed 4 = .ok (.invokevirtual 209, 3) := by decide +kernel
theorem dX10_undisputed_7 : decode cX10_undisputed 7 = .ok (.istore_n 1, 1) := by decide +kernel
theorem dX10_undisputed_8 : decode cX10_undisputed 8 = .ok (.iconst 0, 1) := by decide +kernel
theorem dX10_undisputed_9 : decode cX10_undisputed 9 = .ok (.istore_n 2, 1) := by decide +kernel
theorem dX10_undisputed_10 : decode cX10_undisputed 10 = .ok (.iload_n 2, 1) := by decide +kernel
theorem dX10_undisputed_11 : decode cX10_undisputed 11 = .ok (.iconst 4, 1) := by decide +kernel
theorem dX10_undisputed_12 : decode cX10_undisputed 12 = .ok (.if_icmp .gt 17, 3) := by decide +kernel
theorem dX10_undisputed_15 : decode cX10_undisputed 15 = .ok (.iload_n 1, 1) := by decide +kernel
theorem dX10_undisputed_16 : decode cX10_undisputed 16 = .ok (.aload_n 0, 1) := by decide +kernel
theorem dX10_undisputed_17 : decode cX10_undisputed 17 = .ok (.iload_n 2, 1) := by decide +kernel
theorem dX10_undisputed_18 : decode cX10_undisputed 18 = .ok (.invokevirtual 206, 3) := by decide +kernel
theorem dX10_undisputed_21 : decode cX10_undisputed 21 = .ok (.iand, 1) := by decide +kernel
theorem dX10_undisputed_22 : decode cX10_undisputed 22 = .ok (.istore_n 1, 1) := by decide +kernel
theorem dX10_undisputed_23 : decode cX10_undisputed 23 = .ok (.iinc 2 1, 3) := by decide +kernel
theorem dX10_undisputed_26 : decode cX10_undisputed 26 = .ok (.goto (-16), 3) := by decide +kernel
theorem dX10_undisputed_29 : decode cX10_undisputed 29 = .ok (.iload_n 1, 1) := by decide +kernel
theorem dX10_undisputed_30 : decode cX10_undisputed 30 = .ok (.invokestatic 212, 3) := by decide +kernel
theorem dX10_undisputed_33 : decode cX10_undisputed 33 = .ok (.ireturn, 1) := by decide +kernel
theorem dX10_winnersBy_0 : decode cX10_winnersBy 0 = .ok (.iload_n 1, 1) := by decide +kernel
theorem dX10_winnersBy_1 : decode cX10_winnersBy 1 = .ok (.tableswitch 77 0 3 #[31, 46, 54, 69], 31) := by decide +kernel
theorem dX10_winnersBy_32 : decode cX10_winnersBy 32 = .ok (.aload_n 0, 1) := by decide +kernel
theorem dX10_winnersBy_33 : decode cX10_winnersBy 33 = .ok (.getfield 10, 3) := by decide +kernel
theorem dX10_winnersBy_36 : decode cX10_winnersBy 36 = .ok (.aload_n 0, 1) := by decide +kernel
theorem dX10_winnersBy_37 : decode cX10_winnersBy 37 = .ok (.getfield 10, 3) := by decide +kernel
theorem dX10_winnersBy_40 : decode cX10_winnersBy 40 = .ok (.invokevirtual 209, 3) := by decide +kernel
theorem dX10_winnersBy_43 : decode cX10_winnersBy 43 = .ok (.invokestatic 217, 3) := by decide +kernel
theorem dX10_winnersBy_46 : decode cX10_winnersBy 46 = .ok (.ireturn, 1) := by decide +kernel
theorem dX10_winnersBy_47 : decode cX10_winnersBy 47 = .ok (.aload_n 0, 1) := by decide +kernel
theorem dX10_winnersBy_48 : decode cX10_winnersBy 48 = .ok (.getfield 10, 3) := by decide +kernel
theorem dX10_winnersBy_51 : decode cX10_winnersBy 51 = .ok (.invokestatic 220, 3) := by decide +kernel
theorem dX10_winnersBy_54 : decode cX10_winnersBy 54 = .ok (.ireturn, 1) := by decide +kernel
theorem dX10_winnersBy_55 : decode cX10_winnersBy 55 = .ok (.aload_n 0, 1) := by decide +kernel
theorem dX10_winnersBy_56 : decode cX10_winnersBy 56 = .ok (.getfield 10, 3) := by decide +kernel
theorem dX10_winnersBy_59 : decode cX10_winnersBy 59 = .ok (.aload_n 0, 1) := by decide +kernel
theorem dX10_winnersBy_60 : decode cX10_winnersBy 60 = .ok (.getfield 10, 3) := by decide +kernel
theorem dX10_winnersBy_63 : decode cX10_winnersBy 63 = .ok (.invokevirtual 209, 3) := by decide +kernel
theorem dX10_winnersBy_66 : decode cX10_winnersBy 66 = .ok (.invokestatic 223, 3) := by decide +kernel
theorem dX10_winnersBy_69 : decode cX10_winnersBy 69 = .ok (.ireturn, 1) := by decide +kernel
theorem dX10_winnersBy_70 : decode cX10_winnersBy 70 = .ok (.aload_n 0, 1) := by decide +kernel
theorem dX10_winnersBy_71 : decode cX10_winnersBy 71 = .ok (.getfield 10, 3) := by decide +kernel
theorem dX10_winnersBy_74 : decode cX10_winnersBy 74 = .ok (.invokestatic 226, 3) := by decide +kernel
theorem dX10_winnersBy_77 : decode cX10_winnersBy 77 = .ok (.ireturn, 1) := by decide +kernel
theorem dX10_winnersBy_78 : decode cX10_winnersBy 78 = .ok (.aload_n 0, 1) := by decide +kernel
theorem dX10_winnersBy_79 : decode cX10_winnersBy 79 = .ok (.getfield 64, 3) := by decide +kernel
theorem dX10_winnersBy_82 : decode cX10_winnersBy 82 = .ok (.aload_n 0, 1) := by decide +kernel
theorem dX10_winnersBy_83 : decode cX10_winnersBy 83 = .ok (.getfield 10, 3) := by decide +kernel
theorem dX10_winnersBy_86 : decode cX10_winnersBy 86 = .ok (.invokevirtual 229, 3) := by decide +kernel
theorem dX10_winnersBy_89 : decode cX10_winnersBy 89 = .ok (.ireturn, 1) := by decide +kernel
theorem dX10_store_0 : decode cX10_store 0 = .ok (.aload_n 0, 1) := by decide +kernel
theorem dX10_store_1 : decode cX10_store 1 = .ok (.getfield 16, 3) := by decide +kernel
theorem dX10_store_4 : decode cX10_store 4 = .ok (.aload_n 0, 1) := by decide +kernel
theorem dX10_store_5 : decode cX10_store 5 = .ok (.getfield 10, 3) := by decide +kernel
theorem dX10_store_8 : decode cX10_store 8 = .ok (.invokevirtual 152, 3) := by decide +kernel
theorem dX10_store_11 : decode cX10_store 11 = .ok (.aload_n 0, 1) := by decide +kernel
theorem dX10_store_12 : decode cX10_store 12 = .ok (.getfield 16, 3) := by decide +kernel
theorem dX10_store_15 : decode cX10_store 15 = .ok (.invokevirtual 75, 3) := by decide +kernel
theorem dX10_store_18 : decode cX10_store 18 = .ok (.ireturn, 1) := by decide +kernel
theorem dX10_difference_0 : decode cX10_difference 0 = .ok (.aload_n 0, 1) := by decide +kernel
theorem dX10_difference_1 : decode cX10_difference 1 = .ok (.getfield 10, 3) := by decide +kernel
theorem dX10_difference_4 : decode cX10_difference 4 = .ok (.invokevirtual 75, 3) := by decide +kernel
theorem dX10_difference_7 : decode cX10_difference 7 = .ok (.aload_n 0, 1) := by decide +kernel
theorem dX10_difference_8 : decode cX10_difference 8 = .ok (.getfield 16, 3) := by decide +kernel
theorem dX10_difference_11 : decode cX10_difference 11 = .ok (.invokevirtual 75, 3) := by decide +kernel
theorem dX10_difference_14 : decode cX10_difference 14 = .ok (.if_icmp .ne 17, 3) := by decide +kernel
theorem dX10_difference_17 : decode cX10_difference 17 = .ok (.aload_n 0, 1) := by decide +kernel
theorem dX10_difference_18 : decode cX10_difference 18 = .ok (.getfield 10, 3) := by decide +kernel
theorem dX10_difference_21 : decode cX10_difference 21 = .ok (.aload_n 0, 1) := by decide +kernel
theorem dX10_difference_22 : decode cX10_difference 22 = .ok (.getfield 16, 3) := by decide +kernel
theorem dX10_difference_25 : decode cX10_difference 25 = .ok (.invokestatic 232, 3) := by decide +kernel
theorem dX10_difference_28 : decode cX10_difference 28 = .ok (.goto 5, 3) := by decide +kernel
theorem dX10_difference_31 : decode cX10_difference 31 = .ok (.bipush (-2), 2) := by decide +kernel
theorem dX10_difference_33 : decode cX10_difference 33 = .ok (.ireturn, 1) := by decide +kernel
theorem dX10_isLikeStored_0 : decode cX10_isLikeStored 0 = .ok (.aload_n 0, 1) := by decide +kernel
theorem dX10_isLikeStored_1 : decode cX10_isLikeStored 1 = .ok (.getfield 71, 3) := by decide +kernel
theorem dX10_isLikeStored_4 : decode cX10_isLikeStored 4 = .ok (.aload_n 0, 1) := by decide +kernel
theorem dX10_isLikeStored_5 : decode cX10_isLikeStored 5 = .ok (.getfield 10, 3) := by decide +kernel
theorem dX10_isLikeStored_8 : decode cX10_isLikeStored 8 = .ok (.aload_n 0, 1) := by decide +kernel
theorem dX10_isLikeStored_9 : decode cX10_isLikeStored 9 = .ok (.getfield 16, 3) := by decide +kernel
theorem dX10_isLikeStored_12 : decode cX10_isLikeStored 12 = .ok (.invokevirtual 236, 3) := by decide +kernel
theorem dX10_isLikeStored_15 : decode cX10_isLikeStored 15 = .ok (.ifCond .eq 7, 3) := by decide +kernel
theorem dX10_isLikeStored_18 : decode cX10_isLikeStored 18 = .ok (.iconst 1, 1) := by decide +kernel
theorem dX10_isLikeStored_19 : decode cX10_isLikeStored 19 = .ok (.goto 4, 3) := by decide +kernel
theorem dX10_isLikeStored_22 : decode cX10_isLikeStored 22 = .ok (.iconst 0, 1) := by decide +kernel
theorem dX10_isLikeStored_23 : decode cX10_isLikeStored 23 = .ok (.ireturn, 1) := by decide +kernel
theorem dX10_towardsStored_0 : decode cX10_towardsStored 0 = .ok (.aload_n 0, 1) := by decide +kernel
theorem dX10_towardsStored_1 : decode cX10_towardsStored 1 = .ok (.getfield 10, 3) := by decide +kernel
theorem dX10_towardsStored_4 : decode cX10_towardsStored 4 = .ok (.invokevirtual 75, 3) := by decide +kernel
theorem dX10_towardsStored_7 : decode cX10_towardsStored 7 = .ok (.aload_n 0, 1) := by decide +kernel
theorem dX10_towardsStored_8 : decode cX10_towardsStored 8 = .ok (.getfield 16, 3) := by decide +kernel
theorem dX10_towardsStored_11 : decode cX10_towardsStored 11 = .ok (.invokevirtual 75, 3) := by decide +kernel
theorem dX10_towardsStored_14 : decode cX10_towardsStored 14 = .ok (.if_icmp .ne 17, 3) := by decide +kernel
theorem dX10_towardsStored_17 : decode cX10_towardsStored 17 = .ok (.aload_n 0, 1) := by decide +kernel
theorem dX10_towardsStored_18 : decode cX10_towardsStored 18 = .ok (.getfield 10, 3) := by decide +kernel
theorem dX10_towardsStored_21 : decode cX10_towardsStored 21 = .ok (.aload_n 0, 1) := by decide +kernel
theorem dX10_towardsStored_22 : decode cX10_towardsStored 22 = .ok (.getfield 16, 3) := by decide +kernel
theorem dX10_towardsStored_25 : decode cX10_towardsStored 25 = .ok (.invokestatic 240, 3) := by decide +kernel
theorem dX10_towardsStored_28 : decode cX10_towardsStored 28 = .ok (.goto 5, 3) := by decide +kernel
theorem dX10_towardsStored_31 : decode cX10_towardsStored 31 = .ok (.bipush (-2), 2) := by decide +kernel
theorem dX10_towardsStored_33 : decode cX10_towardsStored 33 = .ok (.ireturn, 1) := by decide +kernel
theorem dX10_holds_0 : decode cX10_holds 0 = .ok (.iload_n 1, 1) := by decide +kernel
theorem dX10_holds_1 : decode cX10_holds 1 = .ok (.ifCond .lt 21, 3) := by decide +kernel
theorem dX10_holds_4 : decode cX10_holds 4 = .ok (.iload_n 1, 1) := by decide +kernel
theorem dX10_holds_5 : decode cX10_holds 5 = .ok (.bipush 10, 2) := by decide +kernel
theorem dX10_holds_7 : decode cX10_holds 7 = .ok (.if_icmp .ge 15, 3) := by decide +kernel
theorem dX10_holds_10 : decode cX10_holds 10 = .ok (.iload_n 0, 1) := by decide +kernel
theorem dX10_holds_11 : decode cX10_holds 11 = .ok (.iload_n 1, 1) := by decide +kernel
theorem dX10_holds_12 : decode cX10_holds 12 = .ok (.ishr, 1) := by decide +kernel
theorem dX10_holds_13 : decode cX10_holds 13 = .ok (.iconst 1, 1) := by decide +kernel
theorem dX10_holds_14 : decode cX10_holds 14 = .ok (.iand, 1) := by decide +kernel
theorem dX10_holds_15 : decode cX10_holds 15 = .ok (.ifCond .eq 7, 3) := by decide +kernel
theorem dX10_holds_18 : decode cX10_holds 18 = .ok (.iconst 1, 1) := by decide +kernel
theorem dX10_holds_19 : decode cX10_holds 19 = .ok (.goto 4, 3) := by decide +kernel
theorem dX10_holds_22 : decode cX10_holds 22 = .ok (.iconst 0, 1) := by decide +kernel
theorem dX10_holds_23 : decode cX10_holds 23 = .ok (.ireturn, 1) := by decide +kernel
theorem dX10_only_0 : decode cX10_only 0 = .ok (.iload_n 0, 1) := by decide +kernel
theorem dX10_only_1 : decode cX10_only 1 = .ok (.ifCond .lt 15, 3) := by decide +kernel
theorem dX10_only_4 : decode cX10_only 4 = .ok (.iload_n 0, 1) := by decide +kernel
theorem dX10_only_5 : decode cX10_only 5 = .ok (.bipush 10, 2) := by decide +kernel
theorem dX10_only_7 : decode cX10_only 7 = .ok (.if_icmp .ge 9, 3) := by decide +kernel
theorem dX10_only_10 : decode cX10_only 10 = .ok (.iconst 1, 1) := by decide +kernel
theorem dX10_only_11 : decode cX10_only 11 = .ok (.iload_n 0, 1) := by decide +kernel
theorem dX10_only_12 : decode cX10_only 12 = .ok (.ishl, 1) := by decide +kernel
theorem dX10_only_13 : decode cX10_only 13 = .ok (.goto 4, 3) := by decide +kernel
theorem dX10_only_16 : decode cX10_only 16 = .ok (.iconst 0, 1) := by decide +kernel
theorem dX10_only_17 : decode cX10_only 17 = .ok (.ireturn, 1) := by decide +kernel
theorem dX10_without_0 : decode cX10_without 0 = .ok (.iload_n 0, 1) := by decide +kernel
theorem dX10_without_1 : decode cX10_without 1 = .ok (.iload_n 1, 1) := by decide +kernel
theorem dX10_without_2 : decode cX10_without 2 = .ok (.invokestatic 243, 3) := by decide +kernel
theorem dX10_without_5 : decode cX10_without 5 = .ok (.iconst (-1), 1) := by decide +kernel
theorem dX10_without_6 : decode cX10_without 6 = .ok (.ixor, 1) := by decide +kernel
theorem dX10_without_7 : decode cX10_without 7 = .ok (.iand, 1) := by decide +kernel
theorem dX10_without_8 : decode cX10_without 8 = .ok (.ireturn, 1) := by decide +kernel
theorem dX10_lowestOf_0 : decode cX10_lowestOf 0 = .ok (.iload_n 0, 1) := by decide +kernel
theorem dX10_lowestOf_1 : decode cX10_lowestOf 1 = .ok (.iload_n 0, 1) := by decide +kernel
theorem dX10_lowestOf_2 : decode cX10_lowestOf 2 = .ok (.ineg, 1) := by decide +kernel
theorem dX10_lowestOf_3 : decode cX10_lowestOf 3 = .ok (.iand, 1) := by decide +kernel
theorem dX10_lowestOf_4 : decode cX10_lowestOf 4 = .ok (.iconst 1, 1) := by decide +kernel
theorem dX10_lowestOf_5 : decode cX10_lowestOf 5 = .ok (.isub, 1) := by decide +kernel
theorem dX10_lowestOf_6 : decode cX10_lowestOf 6 = .ok (.invokestatic 212, 3) := by decide +kernel
theorem dX10_lowestOf_9 : decode cX10_lowestOf 9 = .ok (.ireturn, 1) := by decide +kernel
theorem dX11_init_0 : decode cX11_init 0 = .ok (.aload_n 0, 1) := by decide +kernel
theorem dX11_init_1 : decode cX11_init 1 = .ok (.invokespecial 1, 3) := by decide +kernel
theorem dX11_init_4 : decode cX11_init 4 = .ok (.aload_n 0, 1) := by decide +kernel
theorem dX11_init_5 : decode cX11_init 5 = .ok (.bipush 111, 2) := by decide +kernel
theorem dX11_init_7 : decode cX11_init 7 = .ok (.newarray .int, 2) := by decide +kernel
theorem dX11_init_9 : decode cX11_init 9 = .ok (.putfield 7, 3) := by decide +kernel
theorem dX11_init_12 : decode cX11_init 12 = .ok (.aload_n 0, 1) := by decide +kernel
theorem dX11_init_13 : decode cX11_init 13 = .ok (.bipush 111, 2) := by decide +kernel
theorem dX11_init_15 : decode cX11_init 15 = .ok (.newarray .int, 2) := by decide +kernel
theorem dX11_init_17 : decode cX11_init 17 = .ok (.putfield 13, 3) := by decide +kernel
theorem dX11_init_20 : decode cX11_init 20 = .ok (.aload_n 0, 1) := by decide +kernel
theorem dX11_init_21 : decode cX11_init 21 = .ok (.sipush 888, 3) := by decide +kernel
theorem dX11_init_24 : decode cX11_init 24 = .ok (.newarray .int, 2) := by decide +kernel
theorem dX11_init_26 : decode cX11_init 26 = .ok (.putfield 16, 3) := by decide +kernel
theorem dX11_init_29 : decode cX11_init 29 = .ok (.aload_n 0, 1) := by decide +kernel
theorem dX11_init_30 : decode cX11_init 30 = .ok (.bipush 10, 2) := by decide +kernel
theorem dX11_init_32 : decode cX11_init 32 = .ok (.newarray .int, 2) := by decide +kernel
theorem dX11_init_34 : decode cX11_init 34 = .ok (.putfield 19, 3) := by decide +kernel
theorem dX11_init_37 : decode cX11_init 37 = .ok (.aload_n 0, 1) := by decide +kernel
theorem dX11_init_38 : decode cX11_init 38 = .ok (.bipush 120, 2) := by decide +kernel
theorem dX11_init_40 : decode cX11_init 40 = .ok (.newarray .int, 2) := by decide +kernel
theorem dX11_init_42 : decode cX11_init 42 = .ok (.putfield 22, 3) := by decide +kernel
theorem dX11_init_45 : decode cX11_init 45 = .ok (.aload_n 0, 1) := by decide +kernel
theorem dX11_init_46 : decode cX11_init 46 = .ok (.sipush 10240, 3) := by decide +kernel
theorem dX11_init_49 : decode cX11_init 49 = .ok (.newarray .int, 2) := by decide +kernel
theorem dX11_init_51 : decode cX11_init 51 = .ok (.putfield 25, 3) := by decide +kernel
theorem dX11_init_54 : decode cX11_init 54 = .ok (.aload_n 0, 1) := by decide +kernel
theorem dX11_init_55 : decode cX11_init 55 = .ok (.sipush 1024, 3) := by decide +kernel
theorem dX11_init_58 : decode cX11_init 58 = .ok (.newarray .int, 2) := by decide +kernel
theorem dX11_init_60 : decode cX11_init 60 = .ok (.putfield 28, 3) := by decide +kernel
theorem dX11_init_63 : decode cX11_init 63 = .ok (.aload_n 0, 1) := by decide +kernel
theorem dX11_init_64 : decode cX11_init 64 = .ok (.bipush 10, 2) := by decide +kernel
theorem dX11_init_66 : decode cX11_init 66 = .ok (.newarray .int, 2) := by decide +kernel
theorem dX11_init_68 : decode cX11_init 68 = .ok (.putfield 31, 3) := by decide +kernel
theorem dX11_init_71 : decode cX11_init 71 = .ok (.aload_n 0, 1) := by decide +kernel
theorem dX11_init_72 : decode cX11_init 72 = .ok (.bipush 10, 2) := by decide +kernel
theorem dX11_init_74 : decode cX11_init 74 = .ok (.newarray .int, 2) := by decide +kernel
theorem dX11_init_76 : decode cX11_init 76 = .ok (.putfield 34, 3) := by decide +kernel
theorem dX11_init_79 : decode cX11_init 79 = .ok (.aload_n 0, 1) := by decide +kernel
theorem dX11_init_80 : decode cX11_init 80 = .ok (.iconst 4, 1) := by decide +kernel
theorem dX11_init_81 : decode cX11_init 81 = .ok (.invokevirtual 37, 3) := by decide +kernel
theorem dX11_init_84 : decode cX11_init 84 = .ok (.aload_n 0, 1) := by decide +kernel
theorem dX11_init_85 : decode cX11_init 85 = .ok (.getfield 7, 3) := by decide +kernel
theorem dX11_init_88 : decode cX11_init 88 = .ok (.aload_n 0, 1) := by decide +kernel
theorem dX11_init_89 : decode cX11_init 89 = .ok (.getfield 13, 3) := by decide +kernel
theorem dX11_init_92 : decode cX11_init 92 = .ok (.invokestatic 41, 3) := by decide +kernel
theorem dX11_init_95 : decode cX11_init 95 = .ok (.return_, 1) := by decide +kernel
theorem dX11_in_0 : decode cX11_in 0 = .ok (.iload_n 0, 1) := by decide +kernel
theorem dX11_in_1 : decode cX11_in 1 = .ok (.iload_n 1, 1) := by decide +kernel
theorem dX11_in_2 : decode cX11_in 2 = .ok (.if_icmp .lt 12, 3) := by decide +kernel
theorem dX11_in_5 : decode cX11_in 5 = .ok (.iload_n 0, 1) := by decide +kernel
theorem dX11_in_6 : decode cX11_in 6 = .ok (.iload_n 2, 1) := by decide +kernel
theorem dX11_in_7 : decode cX11_in 7 = .ok (.if_icmp .gt 7, 3) := by decide +kernel
theorem dX11_in_10 : decode cX11_in 10 = .ok (.iconst 1, 1) := by decide +kernel
theorem dX11_in_11 : decode cX11_in 11 = .ok (.goto 4, 3) := by decide +kernel
theorem dX11_in_14 : decode cX11_in 14 = .ok (.iconst 0, 1) := by decide +kernel
theorem dX11_in_15 : decode cX11_in 15 = .ok (.ireturn, 1) := by decide +kernel
theorem dX11_has_0 : decode cX11_has 0 = .ok (.iload_n 0, 1) := by decide +kernel
theorem dX11_has_1 : decode cX11_has 1 = .ok (.iload_n 1, 1) := by decide +kernel
theorem dX11_has_2 : decode cX11_has 2 = .ok (.ishr, 1) := by decide +kernel
theorem dX11_has_3 : decode cX11_has 3 = .ok (.iconst 1, 1) := by decide +kernel
theorem dX11_has_4 : decode cX11_has 4 = .ok (.iand, 1) := by decide +kernel
theorem dX11_has_5 : decode cX11_has 5 = .ok (.iconst 1, 1) := by decide +kernel
theorem dX11_has_6 : decode cX11_has 6 = .ok (.if_icmp .ne 7, 3) := by decide +kernel
theorem dX11_has_9 : decode cX11_has 9 = .ok (.iconst 1, 1) := by decide +kernel
theorem dX11_has_10 : decode cX11_has 10 = .ok (.goto 4, 3) := by decide +kernel
theorem dX11_has_13 : decode cX11_has 13 = .ok (.iconst 0, 1) := by decide +kernel
theorem dX11_has_14 : decode cX11_has 14 = .ok (.ireturn, 1) := by decide +kernel
theorem dX11_count_0 : decode cX11_count 0 = .ok (.iconst 0, 1) := by decide +kernel
theorem dX11_count_1 : decode cX11_count 1 = .ok (.istore_n 1, 1) := by decide +kernel
theorem dX11_count_2 : decode cX11_count 2 = .ok (.iload_n 0, 1) := by decide +kernel
theorem dX11_count_3 : decode cX11_count 3 = .ok (.istore_n 2, 1) := by decide +kernel
theorem dX11_count_4 : decode cX11_count 4 = .ok (.iload_n 2, 1) := by decide +kernel
theorem dX11_count_5 : decode cX11_count 5 = .ok (.ifCond .eq 15, 3) := by decide +kernel
theorem dX11_count_8 : decode cX11_count 8 = .ok (.iinc 1 1, 3) := by decide +kernel
theorem dX11_count_11 : decode cX11_count 11 = .ok (.iload_n 2, 1) := by decide +kernel
theorem dX11_count_12 : decode cX11_count 12 = .ok (.iload_n 2, 1) := by decide +kernel
theorem dX11_count_13 : decode cX11_count 13 = .ok (.iconst 1, 1) := by decide +kernel
theorem dX11_count_14 : decode cX11_count 14 = .ok (.isub, 1) := by decide +kernel
theorem dX11_count_15 : decode cX11_count 15 = .ok (.iand, 1) := by decide +kernel
theorem dX11_count_16 : decode cX11_count 16 = .ok (.istore_n 2, 1) := by decide +kernel
theorem dX11_count_17 : decode cX11_count 17 = .ok (.goto (-13), 3) := by decide +kernel
theorem dX11_count_20 : decode cX11_count 20 = .ok (.iload_n 1, 1) := by decide +kernel
theorem dX11_count_21 : decode cX11_count 21 = .ok (.ireturn, 1) := by decide +kernel
theorem dX11_copies_0 : decode cX11_copies 0 = .ok (.iconst 0, 1) := by decide +kernel
theorem dX11_copies_1 : decode cX11_copies 1 = .ok (.istore_n 2, 1) := by decide +kernel
theorem dX11_copies_2 : decode cX11_copies 2 = .ok (.iload_n 2, 1) := by decide +kernel
theorem dX11_copies_3 : decode cX11_copies 3 = .ok (.bipush 111, 2) := by decide +kernel
theorem dX11_copies_5 : decode cX11_copies 5 = .ok (.if_icmp .ge 15, 3) := by decide +kernel
theorem dX11_copies_8 : decode cX11_copies 8 = .ok (.aload_n 1, 1) := by decide +kernel
theorem dX11_copies_9 : decode cX11_copies 9 = .ok (.iload_n 2, 1) := by decide +kernel
theorem dX11_copies_10 : decode cX11_copies 10 = .ok (.aload_n 0, 1) := by decide +kernel
theorem dX11_copies_11 : decode cX11_copies 11 = .ok (.iload_n 2, 1) := by decide +kernel
theorem dX11_copies_12 : decode cX11_copies 12 = .ok (.iaload, 1) := by decide +kernel
theorem dX11_copies_13 : decode cX11_copies 13 = .ok (.iastore, 1) := by decide +kernel
theorem dX11_copies_14 : decode cX11_copies 14 = .ok (.iinc 2 1, 3) := by decide +kernel
theorem dX11_copies_17 : decode cX11_copies 17 = .ok (.goto (-15), 3) := by decide +kernel
theorem dX11_copies_20 : decode cX11_copies 20 = .ok (.return_, 1) := by decide +kernel
theorem dX11_n_0 : decode cX11_n 0 = .ok (.aload_n 0, 1) := by decide +kernel
theorem dX11_n_1 : decode cX11_n 1 = .ok (.getfield 7, 3) := by decide +kernel
theorem dX11_n_4 : decode cX11_n 4 = .ok (.iconst 0, 1) := by decide +kernel
theorem dX11_n_5 : decode cX11_n 5 = .ok (.iaload, 1) := by decide +kernel
theorem dX11_n_6 : decode cX11_n 6 = .ok (.ireturn, 1) := by decide +kernel
theorem dX11_all_0 : decode cX11_all 0 = .ok (.iconst 1, 1) := by decide +kernel
theorem dX11_all_1 : decode cX11_all 1 = .ok (.aload_n 0, 1) := by decide +kernel
theorem dX11_all_2 : decode cX11_all 2 = .ok (.getfield 7, 3) := by decide +kernel
theorem dX11_all_5 : decode cX11_all 5 = .ok (.iconst 0, 1) := by decide +kernel
theorem dX11_all_6 : decode cX11_all 6 = .ok (.iaload, 1) := by decide +kernel
theorem dX11_all_7 : decode cX11_all 7 = .ok (.ishl, 1) := by decide +kernel
theorem dX11_all_8 : decode cX11_all 8 = .ok (.iconst 1, 1) := by decide +kernel
theorem dX11_all_9 : decode cX11_all 9 = .ok (.isub, 1) := by decide +kernel
theorem dX11_all_10 : decode cX11_all 10 = .ok (.ireturn, 1) := by decide +kernel
theorem dX11_beaten_0 : decode cX11_beaten 0 = .ok (.aload_n 0, 1) := by decide +kernel
theorem dX11_beaten_1 : decode cX11_beaten 1 = .ok (.getfield 7, 3) := by decide +kernel
theorem dX11_beaten_4 : decode cX11_beaten 4 = .ok (.iconst 1, 1) := by decide +kernel
theorem dX11_beaten_5 : decode cX11_beaten 5 = .ok (.iload_n 1, 1) := by decide +kernel
theorem dX11_beaten_6 : decode cX11_beaten 6 = .ok (.iadd, 1) := by decide +kernel
theorem dX11_beaten_7 : decode cX11_beaten 7 = .ok (.iaload, 1) := by decide +kernel
theorem dX11_beaten_8 : decode cX11_beaten 8 = .ok (.ireturn, 1) := by decide +kernel
theorem dX11_beats1_0 : decode cX11_beats1 0 = .ok (.aload_n 0, 1) := by decide +kernel
theorem dX11_beats1_1 : decode cX11_beats1 1 = .ok (.iload_n 1, 1) := by decide +kernel
theorem dX11_beats1_2 : decode cX11_beats1 2 = .ok (.invokevirtual 45, 3) := by decide +kernel
theorem dX11_beats1_5 : decode cX11_beats1 5 = .ok (.iload_n 2, 1) := by decide +kernel
theorem dX11_beats1_6 : decode cX11_beats1 6 = .ok (.invokestatic 49, 3) := by decide +kernel
theorem dX11_beats1_9 : decode cX11_beats1 9 = .ok (.ireturn, 1) := by decide +kernel
theorem dX11_isPlayer_0 : decode cX11_isPlayer 0 = .ok (.iload_n 1, 1) := by decide +kernel
theorem dX11_isPlayer_1 : decode cX11_isPlayer 1 = .ok (.iconst 0, 1) := by decide +kernel
theorem dX11_isPlayer_2 : decode cX11_isPlayer 2 = .ok (.aload_n 0, 1) := by decide +kernel
theorem dX11_isPlayer_3 : decode cX11_isPlayer 3 = .ok (.getfield 7, 3) := by decide +kernel
theorem dX11_isPlayer_6 : decode cX11_isPlayer 6 = .ok (.iconst 0, 1) := by decide +kernel
theorem dX11_isPlayer_7 : decode cX11_isPlayer 7 = .ok (.iaload, 1) := by decide +kernel
theorem dX11_isPlayer_8 : decode cX11_isPlayer 8 = .ok (.iconst 1, 1) := by decide +kernel
theorem dX11_isPlayer_9 : decode cX11_isPlayer 9 = .ok (.isub, 1) := by decide +kernel
theorem dX11_isPlayer_10 : decode cX11_isPlayer 10 = .ok (.invokestatic 53, 3) := by decide +kernel
theorem dX11_isPlayer_13 : decode cX11_isPlayer 13 = .ok (.ireturn, 1) := by decide +kernel
theorem dX11_isPair_0 : decode cX11_isPair 0 = .ok (.aload_n 0, 1) := by decide +kernel
theorem dX11_isPair_1 : decode cX11_isPair 1 = .ok (.iload_n 1, 1) := by decide +kernel
theorem dX11_isPair_2 : decode cX11_isPair 2 = .ok (.invokevirtual 57, 3) := by decide +kernel
theorem dX11_isPair_5 : decode cX11_isPair 5 = .ok (.ifCond .eq 20, 3) := by decide +kernel
theorem dX11_isPair_8 : decode cX11_isPair 8 = .ok (.aload_n 0, 1) := by decide +kernel
theorem dX11_isPair_9 : decode cX11_isPair 9 = .ok (.iload_n 2, 1) := by decide +kernel
theorem dX11_isPair_10 : decode cX11_isPair 10 = .ok (.invokevirtual 57, 3) := by decide +kernel
theorem dX11_isPair_13 : decode cX11_isPair 13 = .ok (.ifCond .eq 12, 3) := by decide +kernel
theorem dX11_isPair_16 : decode cX11_isPair 16 = .ok (.iload_n 1, 1) := by decide +kernel
theorem dX11_isPair_17 : decode cX11_isPair 17 = .ok (.iload_n 2, 1) := by decide +kernel
theorem dX11_isPair_18 : decode cX11_isPair 18 = .ok (.if_icmp .eq 7, 3) := by decide +kernel
theorem dX11_isPair_21 : decode cX11_isPair 21 = .ok (.iconst 1, 1) := by decide +kernel
theorem dX11_isPair_22 : decode cX11_isPair 22 = .ok (.goto 4, 3) := by decide +kernel
theorem dX11_isPair_25 : decode cX11_isPair 25 = .ok (.iconst 0, 1) := by decide +kernel
theorem dX11_isPair_26 : decode cX11_isPair 26 = .ok (.ireturn, 1) := by decide +kernel
theorem dX11_at_0 : decode cX11_at 0 = .ok (.bipush 11, 2) := by decide +kernel
theorem dX11_at_2 : decode cX11_at 2 = .ok (.bipush 10, 2) := by decide +kernel
theorem dX11_at_4 : decode cX11_at 4 = .ok (.iload_n 0, 1) := by decide +kernel
theorem dX11_at_5 : decode cX11_at 5 = .ok (.imul, 1) := by decide +kernel
theorem dX11_at_6 : decode cX11_at 6 = .ok (.iadd, 1) := by decide +kernel
theorem dX11_at_7 : decode cX11_at 7 = .ok (.iload_n 1, 1) := by decide +kernel
theorem dX11_at_8 : decode cX11_at 8 = .ok (.iadd, 1) := by decide +kernel
theorem dX11_at_9 : decode cX11_at 9 = .ok (.ireturn, 1) := by decide +kernel
theorem dX11_begins_0 : decode cX11_begins 0 = .ok (.aload_n 0, 1) := by decide +kernel
theorem dX11_begins_1 : decode cX11_begins 1 = .ok (.getfield 7, 3) := by decide +kernel
theorem dX11_begins_4 : decode cX11_begins 4 = .ok (.iconst 0, 1) := by decide +kernel
theorem dX11_begins_5 : decode cX11_begins 5 = .ok (.iload_n 1, 1) := by decide +kernel
theorem dX11_begins_6 : decode cX11_begins 6 = .ok (.iastore, 1) := by decide +kernel
theorem dX11_begins_7 : decode cX11_begins 7 = .ok (.iconst 0, 1) := by decide +kernel
theorem dX11_begins_8 : decode cX11_begins 8 = .ok (.istore_n 2, 1) := by decide +kernel
theorem dX11_begins_9 : decode cX11_begins 9 = .ok (.iload_n 2, 1) := by decide +kernel
theorem dX11_begins_10 : decode cX11_begins 10 = .ok (.bipush 10, 2) := by decide +kernel
theorem dX11_begins_12 : decode cX11_begins 12 = .ok (.if_icmp .ge 55, 3) := by decide +kernel
theorem dX11_begins_15 : decode cX11_begins 15 = .ok (.aload_n 0, 1) := by decide +kernel
theorem dX11_begins_16 : decode cX11_begins 16 = .ok (.getfield 7, 3) := by decide +kernel
theorem dX11_begins_19 : decode cX11_begins 19 = .ok (.iconst 1, 1) := by decide +kernel
theorem dX11_begins_20 : decode cX11_begins 20 = .ok (.iload_n 2, 1) := by decide +kernel
theorem dX11_begins_21 : decode cX11_begins 21 = .ok (.iadd, 1) := by decide +kernel
theorem dX11_begins_22 : decode cX11_begins 22 = .ok (.iconst 1, 1) := by decide +kernel
theorem dX11_begins_23 : decode cX11_begins 23 = .ok (.iload_n 1, 1) := by decide +kernel
theorem dX11_begins_24 : decode cX11_begins 24 = .ok (.ishl, 1) := by decide +kernel
theorem dX11_begins_25 : decode cX11_begins 25 = .ok (.iconst 1, 1) := by decide +kernel
theorem dX11_begins_26 : decode cX11_begins 26 = .ok (.isub, 1) := by decide +kernel
theorem dX11_begins_27 : decode cX11_begins 27 = .ok (.iconst 2, 1) := by decide +kernel
theorem dX11_begins_28 : decode cX11_begins 28 = .ok (.iload_n 2, 1) := by decide +kernel
theorem dX11_begins_29 : decode cX11_begins 29 = .ok (.ishl, 1) := by decide +kernel
theorem dX11_begins_30 : decode cX11_begins 30 = .ok (.iconst 1, 1) := by decide +kernel
theorem dX11_begins_31 : decode cX11_begins 31 = .ok (.isub, 1) := by decide +kernel
theorem dX11_begins_32 : decode cX11_begins 32 = .ok (.iconst (-1), 1) := by decide +kernel
theorem dX11_begins_33 : decode cX11_begins 33 = .ok (.ixor, 1) := by decide +kernel
theorem dX11_begins_34 : decode cX11_begins 34 = .ok (.iand, 1) := by decide +kernel
theorem dX11_begins_35 : decode cX11_begins 35 = .ok (.iastore, 1) := by decide +kernel
theorem dX11_begins_36 : decode cX11_begins 36 = .ok (.iconst 0, 1) := by decide +kernel
theorem dX11_begins_37 : decode cX11_begins 37 = .ok (.istore_n 3, 1) := by decide +kernel
theorem dX11_begins_38 : decode cX11_begins 38 = .ok (.iload_n 3, 1) := by decide +kernel
theorem dX11_begins_39 : decode cX11_begins 39 = .ok (.bipush 10, 2) := by decide +kernel
theorem dX11_begins_41 : decode cX11_begins 41 = .ok (.if_icmp .ge 20, 3) := by decide +kernel
theorem dX11_begins_44 : decode cX11_begins 44 = .ok (.aload_n 0, 1) := by decide +kernel
theorem dX11_begins_45 : decode cX11_begins 45 = .ok (.getfield 7, 3) := by decide +kernel
theorem dX11_begins_48 : decode cX11_begins 48 = .ok (.iload_n 2, 1) := by decide +kernel
theorem dX11_begins_49 : decode cX11_begins 49 = .ok (.iload_n 3, 1) := by decide +kernel
theorem dX11_begins_50 : decode cX11_begins 50 = .ok (.invokestatic 61, 3) := by decide +kernel
theorem dX11_begins_53 : decode cX11_begins 53 = .ok (.iconst 1, 1) := by decide +kernel
theorem dX11_begins_54 : decode cX11_begins 54 = .ok (.iastore, 1) := by decide +kernel
theorem dX11_begins_55 : decode cX11_begins 55 = .ok (.iinc 3 1, 3) := by decide +kernel
theorem dX11_begins_58 : decode cX11_begins 58 = .ok (.goto (-20), 3) := by decide +kernel
theorem dX11_begins_61 : decode cX11_begins 61 = .ok (.iinc 2 1, 3) := by decide +kernel
theorem dX11_begins_64 : decode cX11_begins 64 = .ok (.goto (-55), 3) := by decide +kernel
theorem dX11_begins_67 : decode cX11_begins 67 = .ok (.return_, 1) := by decide +kernel
theorem dX11_keeps_0 : decode cX11_keeps 0 = .ok (.aload_n 0, 1) := by decide +kernel
theorem dX11_keeps_1 : decode cX11_keeps 1 = .ok (.getfield 65, 3) := by decide +kernel
theorem dX11_keeps_4 : decode cX11_keeps 4 = .ok (.bipush 8, 2) := by decide +kernel
theorem dX11_keeps_6 : decode cX11_keeps 6 = .ok (.if_icmp .ne 43, 3) := by decide +kernel
theorem dX11_keeps_9 : decode cX11_keeps 9 = .ok (.iconst 0, 1) := by decide +kernel
theorem dX11_keeps_10 : decode cX11_keeps 10 = .ok (.istore_n 1, 1) := by decide +kernel
theorem dX11_keeps_11 : decode cX11_keeps 11 = .ok (.iload_n 1, 1) := by decide +kernel
theorem dX11_keeps_12 : decode cX11_keeps 12 = .ok (.sipush 777, 3) := by decide +kernel
theorem dX11_keeps_15 : decode cX11_keeps 15 = .ok (.if_icmp .ge 24, 3) := by decide +kernel
theorem dX11_keeps_18 : decode cX11_keeps 18 = .ok (.aload_n 0, 1) := by decide +kernel
theorem dX11_keeps_19 : decode cX11_keeps 19 = .ok (.getfield 16, 3) := by decide +kernel
theorem dX11_keeps_22 : decode cX11_keeps 22 = .ok (.iload_n 1, 1) := by decide +kernel
theorem dX11_keeps_23 : decode cX11_keeps 23 = .ok (.aload_n 0, 1) := by decide +kernel
theorem dX11_keeps_24 : decode cX11_keeps 24 = .ok (.getfield 16, 3) := by decide +kernel
theorem dX11_keeps_27 : decode cX11_keeps 27 = .ok (.bipush 111, 2) := by decide +kernel
theorem dX11_keeps_29 : decode cX11_keeps 29 = .ok (.iload_n 1, 1) := by decide +kernel
theorem dX11_keeps_30 : decode cX11_keeps 30 = .ok (.iadd, 1) := by decide +kernel
theorem dX11_keeps_31 : decode cX11_keeps 31 = .ok (.iaload, 1) := by decide +kernel
theorem dX11_keeps_32 : decode cX11_keeps 32 = .ok (.iastore, 1) := by decide +kernel
theorem dX11_keeps_33 : decode cX11_keeps 33 = .ok (.iinc 1 1, 3) := by decide +kernel
theorem dX11_keeps_36 : decode cX11_keeps 36 = .ok (.goto (-25), 3) := by decide +kernel
theorem dX11_keeps_39 : decode cX11_keeps 39 = .ok (.aload_n 0, 1) := by decide +kernel
theorem dX11_keeps_40 : decode cX11_keeps 40 = .ok (.dup, 1) := by decide +kernel
theorem dX11_keeps_41 : decode cX11_keeps 41 = .ok (.getfield 65, 3) := by decide +kernel
theorem dX11_keeps_44 : decode cX11_keeps 44 = .ok (.iconst 1, 1) := by decide +kernel
theorem dX11_keeps_45 : decode cX11_keeps 45 = .ok (.isub, 1) := by decide +kernel
theorem dX11_keeps_46 : decode cX11_keeps 46 = .ok (.putfield 65, 3) := by decide +kernel
theorem dX11_keeps_49 : decode cX11_keeps 49 = .ok (.iconst 0, 1) := by decide +kernel
theorem dX11_keeps_50 : decode cX11_keeps 50 = .ok (.istore_n 1, 1) := by decide +kernel
theorem dX11_keeps_51 : decode cX11_keeps 51 = .ok (.iload_n 1, 1) := by decide +kernel
theorem dX11_keeps_52 : decode cX11_keeps 52 = .ok (.bipush 111, 2) := by decide +kernel
theorem dX11_keeps_54 : decode cX11_keeps 54 = .ok (.if_icmp .ge 29, 3) := by decide +kernel
theorem dX11_keeps_57 : decode cX11_keeps 57 = .ok (.aload_n 0, 1) := by decide +kernel
theorem dX11_keeps_58 : decode cX11_keeps 58 = .ok (.getfield 16, 3) := by decide +kernel
theorem dX11_keeps_61 : decode cX11_keeps 61 = .ok (.bipush 111, 2) := by decide +kernel
theorem dX11_keeps_63 : decode cX11_keeps 63 = .ok (.aload_n 0, 1) := by decide +kernel
theorem dX11_keeps_64 : decode cX11_keeps 64 = .ok (.getfield 65, 3) := by decide +kernel
theorem dX11_keeps_67 : decode cX11_keeps 67 = .ok (.imul, 1) := by decide +kernel
theorem dX11_keeps_68 : decode cX11_keeps 68 = .ok (.iload_n 1, 1) := by decide +kernel
theorem dX11_keeps_69 : decode cX11_keeps 69 = .ok (.iadd, 1) := by decide +kernel
theorem dX11_keeps_70 : decode cX11_keeps 70 = .ok (.aload_n 0, 1) := by decide +kernel
theorem dX11_keeps_71 : decode cX11_keeps 71 = .ok (.getfield 7, 3) := by decide +kernel
theorem dX11_keeps_74 : decode cX11_keeps 74 = .ok (.iload_n 1, 1) := by decide +kernel
theorem dX11_keeps_75 : decode cX11_keeps 75 = .ok (.iaload, 1) := by decide +kernel
theorem dX11_keeps_76 : decode cX11_keeps 76 = .ok (.iastore, 1) := by decide +kernel
theorem dX11_keeps_77 : decode cX11_keeps 77 = .ok (.iinc 1 1, 3) := by decide +kernel
theorem dX11_keeps_80 : decode cX11_keeps 80 = .ok (.goto (-29), 3) := by decide +kernel
theorem dX11_keeps_83 : decode cX11_keeps 83 = .ok (.aload_n 0, 1) := by decide +kernel
theorem dX11_keeps_84 : decode cX11_keeps 84 = .ok (.dup, 1) := by decide +kernel
theorem dX11_keeps_85 : decode cX11_keeps 85 = .ok (.getfield 65, 3) := by decide +kernel
theorem dX11_keeps_88 : decode cX11_keeps 88 = .ok (.iconst 1, 1) := by decide +kernel
