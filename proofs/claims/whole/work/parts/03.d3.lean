theorem dX11_keeps_89 : decode cX11_keeps 89 = .ok (.iadd, 1) := by decide +kernel
theorem dX11_keeps_90 : decode cX11_keeps 90 = .ok (.putfield 65, 3) := by decide +kernel
theorem dX11_keeps_93 : decode cX11_keeps 93 = .ok (.return_, 1) := by decide +kernel
theorem dX11_wins_0 : decode cX11_wins 0 = .ok (.aload_n 0, 1) := by decide +kernel
theorem dX11_wins_1 : decode cX11_wins 1 = .ok (.getfield 7, 3) := by decide +kernel
theorem dX11_wins_4 : decode cX11_wins 4 = .ok (.iconst 1, 1) := by decide +kernel
theorem dX11_wins_5 : decode cX11_wins 5 = .ok (.iload_n 1, 1) := by decide +kernel
theorem dX11_wins_6 : decode cX11_wins 6 = .ok (.iadd, 1) := by decide +kernel
theorem dX11_wins_7 : decode cX11_wins 7 = .ok (.dup2, 1) := by decide +kernel
theorem dX11_wins_8 : decode cX11_wins 8 = .ok (.iaload, 1) := by decide +kernel
theorem dX11_wins_9 : decode cX11_wins 9 = .ok (.iconst 1, 1) := by decide +kernel
theorem dX11_wins_10 : decode cX11_wins 10 = .ok (.iload_n 2, 1) := by decide +kernel
theorem dX11_wins_11 : decode cX11_wins 11 = .ok (.ishl, 1) := by decide +kernel
theorem dX11_wins_12 : decode cX11_wins 12 = .ok (.ior, 1) := by decide +kernel
theorem dX11_wins_13 : decode cX11_wins 13 = .ok (.iastore, 1) := by decide +kernel
theorem dX11_wins_14 : decode cX11_wins 14 = .ok (.aload_n 0, 1) := by decide +kernel
theorem dX11_wins_15 : decode cX11_wins 15 = .ok (.getfield 7, 3) := by decide +kernel
theorem dX11_wins_18 : decode cX11_wins 18 = .ok (.iconst 1, 1) := by decide +kernel
theorem dX11_wins_19 : decode cX11_wins 19 = .ok (.iload_n 2, 1) := by decide +kernel
theorem dX11_wins_20 : decode cX11_wins 20 = .ok (.iadd, 1) := by decide +kernel
theorem dX11_wins_21 : decode cX11_wins 21 = .ok (.dup2, 1) := by decide +kernel
theorem dX11_wins_22 : decode cX11_wins 22 = .ok (.iaload, 1) := by decide +kernel
theorem dX11_wins_23 : decode cX11_wins 23 = .ok (.iconst 1, 1) := by decide +kernel
theorem dX11_wins_24 : decode cX11_wins 24 = .ok (.iload_n 1, 1) := by decide +kernel
theorem dX11_wins_25 : decode cX11_wins 25 = .ok (.ishl, 1) := by decide +kernel
theorem dX11_wins_26 : decode cX11_wins 26 = .ok (.iconst (-1), 1) := by decide +kernel
theorem dX11_wins_27 : decode cX11_wins 27 = .ok (.ixor, 1) := by decide +kernel
theorem dX11_wins_28 : decode cX11_wins 28 = .ok (.iand, 1) := by decide +kernel
theorem dX11_wins_29 : decode cX11_wins 29 = .ok (.iastore, 1) := by decide +kernel
theorem dX11_wins_30 : decode cX11_wins 30 = .ok (.return_, 1) := by decide +kernel
theorem dX11_turns_0 : decode cX11_turns 0 = .ok (.aload_n 0, 1) := by decide +kernel
theorem dX11_turns_1 : decode cX11_turns 1 = .ok (.iload_n 1, 1) := by decide +kernel
theorem dX11_turns_2 : decode cX11_turns 2 = .ok (.iload_n 2, 1) := by decide +kernel
theorem dX11_turns_3 : decode cX11_turns 3 = .ok (.invokevirtual 69, 3) := by decide +kernel
theorem dX11_turns_6 : decode cX11_turns 6 = .ok (.ifCond .eq 12, 3) := by decide +kernel
theorem dX11_turns_9 : decode cX11_turns 9 = .ok (.aload_n 0, 1) := by decide +kernel
theorem dX11_turns_10 : decode cX11_turns 10 = .ok (.iload_n 2, 1) := by decide +kernel
theorem dX11_turns_11 : decode cX11_turns 11 = .ok (.iload_n 1, 1) := by decide +kernel
theorem dX11_turns_12 : decode cX11_turns 12 = .ok (.invokevirtual 72, 3) := by decide +kernel
theorem dX11_turns_15 : decode cX11_turns 15 = .ok (.goto 9, 3) := by decide +kernel
theorem dX11_turns_18 : decode cX11_turns 18 = .ok (.aload_n 0, 1) := by decide +kernel
theorem dX11_turns_19 : decode cX11_turns 19 = .ok (.iload_n 1, 1) := by decide +kernel
theorem dX11_turns_20 : decode cX11_turns 20 = .ok (.iload_n 2, 1) := by decide +kernel
theorem dX11_turns_21 : decode cX11_turns 21 = .ok (.invokevirtual 72, 3) := by decide +kernel
theorem dX11_turns_24 : decode cX11_turns 24 = .ok (.return_, 1) := by decide +kernel
theorem dX11_reset_0 : decode cX11_reset 0 = .ok (.iload_n 1, 1) := by decide +kernel
theorem dX11_reset_1 : decode cX11_reset 1 = .ok (.iconst 2, 1) := by decide +kernel
theorem dX11_reset_2 : decode cX11_reset 2 = .ok (.bipush 10, 2) := by decide +kernel
theorem dX11_reset_4 : decode cX11_reset 4 = .ok (.invokestatic 53, 3) := by decide +kernel
theorem dX11_reset_7 : decode cX11_reset 7 = .ok (.ifCond .ne 5, 3) := by decide +kernel
theorem dX11_reset_10 : decode cX11_reset 10 = .ok (.iconst (-1), 1) := by decide +kernel
theorem dX11_reset_11 : decode cX11_reset 11 = .ok (.ireturn, 1) := by decide +kernel
theorem dX11_reset_12 : decode cX11_reset 12 = .ok (.aload_n 0, 1) := by decide +kernel
theorem dX11_reset_13 : decode cX11_reset 13 = .ok (.invokevirtual 76, 3) := by decide +kernel
theorem dX11_reset_16 : decode cX11_reset 16 = .ok (.aload_n 0, 1) := by decide +kernel
theorem dX11_reset_17 : decode cX11_reset 17 = .ok (.getfield 7, 3) := by decide +kernel
theorem dX11_reset_20 : decode cX11_reset 20 = .ok (.iconst 0, 1) := by decide +kernel
theorem dX11_reset_21 : decode cX11_reset 21 = .ok (.iaload, 1) := by decide +kernel
theorem dX11_reset_22 : decode cX11_reset 22 = .ok (.istore_n 2, 1) := by decide +kernel
theorem dX11_reset_23 : decode cX11_reset 23 = .ok (.aload_n 0, 1) := by decide +kernel
theorem dX11_reset_24 : decode cX11_reset 24 = .ok (.iload_n 1, 1) := by decide +kernel
theorem dX11_reset_25 : decode cX11_reset 25 = .ok (.invokevirtual 37, 3) := by decide +kernel
theorem dX11_reset_28 : decode cX11_reset 28 = .ok (.iload_n 2, 1) := by decide +kernel
theorem dX11_reset_29 : decode cX11_reset 29 = .ok (.ireturn, 1) := by decide +kernel
theorem dX11_setResult_0 : decode cX11_setResult 0 = .ok (.aload_n 0, 1) := by decide +kernel
theorem dX11_setResult_1 : decode cX11_setResult 1 = .ok (.iload_n 1, 1) := by decide +kernel
theorem dX11_setResult_2 : decode cX11_setResult 2 = .ok (.iload_n 2, 1) := by decide +kernel
theorem dX11_setResult_3 : decode cX11_setResult 3 = .ok (.invokevirtual 79, 3) := by decide +kernel
theorem dX11_setResult_6 : decode cX11_setResult 6 = .ok (.ifCond .ne 5, 3) := by decide +kernel
theorem dX11_setResult_9 : decode cX11_setResult 9 = .ok (.iconst (-1), 1) := by decide +kernel
theorem dX11_setResult_10 : decode cX11_setResult 10 = .ok (.ireturn, 1) := by decide +kernel
theorem dX11_setResult_11 : decode cX11_setResult 11 = .ok (.aload_n 0, 1) := by decide +kernel
theorem dX11_setResult_12 : decode cX11_setResult 12 = .ok (.invokevirtual 76, 3) := by decide +kernel
theorem dX11_setResult_15 : decode cX11_setResult 15 = .ok (.aload_n 0, 1) := by decide +kernel
theorem dX11_setResult_16 : decode cX11_setResult 16 = .ok (.iload_n 1, 1) := by decide +kernel
theorem dX11_setResult_17 : decode cX11_setResult 17 = .ok (.iload_n 2, 1) := by decide +kernel
theorem dX11_setResult_18 : decode cX11_setResult 18 = .ok (.invokevirtual 69, 3) := by decide +kernel
theorem dX11_setResult_21 : decode cX11_setResult 21 = .ok (.ifCond .eq 7, 3) := by decide +kernel
theorem dX11_setResult_24 : decode cX11_setResult 24 = .ok (.iconst 1, 1) := by decide +kernel
theorem dX11_setResult_25 : decode cX11_setResult 25 = .ok (.goto 4, 3) := by decide +kernel
theorem dX11_setResult_28 : decode cX11_setResult 28 = .ok (.iconst 0, 1) := by decide +kernel
theorem dX11_setResult_29 : decode cX11_setResult 29 = .ok (.istore_n 3, 1) := by decide +kernel
theorem dX11_setResult_30 : decode cX11_setResult 30 = .ok (.aload_n 0, 1) := by decide +kernel
theorem dX11_setResult_31 : decode cX11_setResult 31 = .ok (.iload_n 1, 1) := by decide +kernel
theorem dX11_setResult_32 : decode cX11_setResult 32 = .ok (.iload_n 2, 1) := by decide +kernel
theorem dX11_setResult_33 : decode cX11_setResult 33 = .ok (.invokevirtual 72, 3) := by decide +kernel
theorem dX11_setResult_36 : decode cX11_setResult 36 = .ok (.iload_n 3, 1) := by decide +kernel
theorem dX11_setResult_37 : decode cX11_setResult 37 = .ok (.ireturn, 1) := by decide +kernel
theorem dX11_setWeight_0 : decode cX11_setWeight 0 = .ok (.aload_n 0, 1) := by decide +kernel
theorem dX11_setWeight_1 : decode cX11_setWeight 1 = .ok (.iload_n 1, 1) := by decide +kernel
theorem dX11_setWeight_2 : decode cX11_setWeight 2 = .ok (.iload_n 2, 1) := by decide +kernel
theorem dX11_setWeight_3 : decode cX11_setWeight 3 = .ok (.invokevirtual 79, 3) := by decide +kernel
theorem dX11_setWeight_6 : decode cX11_setWeight 6 = .ok (.ifCond .eq 13, 3) := by decide +kernel
theorem dX11_setWeight_9 : decode cX11_setWeight 9 = .ok (.iload_n 3, 1) := by decide +kernel
theorem dX11_setWeight_10 : decode cX11_setWeight 10 = .ok (.iconst 1, 1) := by decide +kernel
theorem dX11_setWeight_11 : decode cX11_setWeight 11 = .ok (.bipush 100, 2) := by decide +kernel
theorem dX11_setWeight_13 : decode cX11_setWeight 13 = .ok (.invokestatic 53, 3) := by decide +kernel
theorem dX11_setWeight_16 : decode cX11_setWeight 16 = .ok (.ifCond .ne 5, 3) := by decide +kernel
theorem dX11_setWeight_19 : decode cX11_setWeight 19 = .ok (.iconst (-1), 1) := by decide +kernel
theorem dX11_setWeight_20 : decode cX11_setWeight 20 = .ok (.ireturn, 1) := by decide +kernel
theorem dX11_setWeight_21 : decode cX11_setWeight 21 = .ok (.aload_n 0, 1) := by decide +kernel
theorem dX11_setWeight_22 : decode cX11_setWeight 22 = .ok (.invokevirtual 76, 3) := by decide +kernel
theorem dX11_setWeight_25 : decode cX11_setWeight 25 = .ok (.aload_n 0, 1) := by decide +kernel
theorem dX11_setWeight_26 : decode cX11_setWeight 26 = .ok (.getfield 7, 3) := by decide +kernel
theorem dX11_setWeight_29 : decode cX11_setWeight 29 = .ok (.iload_n 1, 1) := by decide +kernel
theorem dX11_setWeight_30 : decode cX11_setWeight 30 = .ok (.iload_n 2, 1) := by decide +kernel
theorem dX11_setWeight_31 : decode cX11_setWeight 31 = .ok (.invokestatic 61, 3) := by decide +kernel
theorem dX11_setWeight_34 : decode cX11_setWeight 34 = .ok (.iaload, 1) := by decide +kernel
theorem dX11_setWeight_35 : decode cX11_setWeight 35 = .ok (.istore 4, 2) := by decide +kernel
theorem dX11_setWeight_37 : decode cX11_setWeight 37 = .ok (.aload_n 0, 1) := by decide +kernel
theorem dX11_setWeight_38 : decode cX11_setWeight 38 = .ok (.getfield 7, 3) := by decide +kernel
theorem dX11_setWeight_41 : decode cX11_setWeight 41 = .ok (.iload_n 1, 1) := by decide +kernel
theorem dX11_setWeight_42 : decode cX11_setWeight 42 = .ok (.iload_n 2, 1) := by decide +kernel
theorem dX11_setWeight_43 : decode cX11_setWeight 43 = .ok (.invokestatic 61, 3) := by decide +kernel
theorem dX11_setWeight_46 : decode cX11_setWeight 46 = .ok (.iload_n 3, 1) := by decide +kernel
theorem dX11_setWeight_47 : decode cX11_setWeight 47 = .ok (.iastore, 1) := by decide +kernel
theorem dX11_setWeight_48 : decode cX11_setWeight 48 = .ok (.aload_n 0, 1) := by decide +kernel
theorem dX11_setWeight_49 : decode cX11_setWeight 49 = .ok (.getfield 7, 3) := by decide +kernel
theorem dX11_setWeight_52 : decode cX11_setWeight 52 = .ok (.iload_n 2, 1) := by decide +kernel
theorem dX11_setWeight_53 : decode cX11_setWeight 53 = .ok (.iload_n 1, 1) := by decide +kernel
theorem dX11_setWeight_54 : decode cX11_setWeight 54 = .ok (.invokestatic 61, 3) := by decide +kernel
theorem dX11_setWeight_57 : decode cX11_setWeight 57 = .ok (.iload_n 3, 1) := by decide +kernel
theorem dX11_setWeight_58 : decode cX11_setWeight 58 = .ok (.iastore, 1) := by decide +kernel
theorem dX11_setWeight_59 : decode cX11_setWeight 59 = .ok (.iload 4, 2) := by decide +kernel
theorem dX11_setWeight_61 : decode cX11_setWeight 61 = .ok (.ireturn, 1) := by decide +kernel
theorem dX11_isCycle_0 : decode cX11_isCycle 0 = .ok (.aload_n 0, 1) := by decide +kernel
theorem dX11_isCycle_1 : decode cX11_isCycle 1 = .ok (.iload_n 1, 1) := by decide +kernel
theorem dX11_isCycle_2 : decode cX11_isCycle 2 = .ok (.iload_n 2, 1) := by decide +kernel
theorem dX11_isCycle_3 : decode cX11_isCycle 3 = .ok (.invokevirtual 69, 3) := by decide +kernel
theorem dX11_isCycle_6 : decode cX11_isCycle 6 = .ok (.ifCond .eq 21, 3) := by decide +kernel
theorem dX11_isCycle_9 : decode cX11_isCycle 9 = .ok (.aload_n 0, 1) := by decide +kernel
theorem dX11_isCycle_10 : decode cX11_isCycle 10 = .ok (.iload_n 2, 1) := by decide +kernel
theorem dX11_isCycle_11 : decode cX11_isCycle 11 = .ok (.iload_n 3, 1) := by decide +kernel
theorem dX11_isCycle_12 : decode cX11_isCycle 12 = .ok (.invokevirtual 69, 3) := by decide +kernel
theorem dX11_isCycle_15 : decode cX11_isCycle 15 = .ok (.ifCond .eq 12, 3) := by decide +kernel
theorem dX11_isCycle_18 : decode cX11_isCycle 18 = .ok (.aload_n 0, 1) := by decide +kernel
theorem dX11_isCycle_19 : decode cX11_isCycle 19 = .ok (.iload_n 3, 1) := by decide +kernel
theorem dX11_isCycle_20 : decode cX11_isCycle 20 = .ok (.iload_n 1, 1) := by decide +kernel
theorem dX11_isCycle_21 : decode cX11_isCycle 21 = .ok (.invokevirtual 69, 3) := by decide +kernel
theorem dX11_isCycle_24 : decode cX11_isCycle 24 = .ok (.ifCond .ne 30, 3) := by decide +kernel
theorem dX11_isCycle_27 : decode cX11_isCycle 27 = .ok (.aload_n 0, 1) := by decide +kernel
theorem dX11_isCycle_28 : decode cX11_isCycle 28 = .ok (.iload_n 2, 1) := by decide +kernel
theorem dX11_isCycle_29 : decode cX11_isCycle 29 = .ok (.iload_n 1, 1) := by decide +kernel
theorem dX11_isCycle_30 : decode cX11_isCycle 30 = .ok (.invokevirtual 69, 3) := by decide +kernel
theorem dX11_isCycle_33 : decode cX11_isCycle 33 = .ok (.ifCond .eq 25, 3) := by decide +kernel
theorem dX11_isCycle_36 : decode cX11_isCycle 36 = .ok (.aload_n 0, 1) := by decide +kernel
theorem dX11_isCycle_37 : decode cX11_isCycle 37 = .ok (.iload_n 3, 1) := by decide +kernel
theorem dX11_isCycle_38 : decode cX11_isCycle 38 = .ok (.iload_n 2, 1) := by decide +kernel
theorem dX11_isCycle_39 : decode cX11_isCycle 39 = .ok (.invokevirtual 69, 3) := by decide +kernel
theorem dX11_isCycle_42 : decode cX11_isCycle 42 = .ok (.ifCond .eq 16, 3) := by decide +kernel
theorem dX11_isCycle_45 : decode cX11_isCycle 45 = .ok (.aload_n 0, 1) := by decide +kernel
theorem dX11_isCycle_46 : decode cX11_isCycle 46 = .ok (.iload_n 1, 1) := by decide +kernel
theorem dX11_isCycle_47 : decode cX11_isCycle 47 = .ok (.iload_n 3, 1) := by decide +kernel
theorem dX11_isCycle_48 : decode cX11_isCycle 48 = .ok (.invokevirtual 69, 3) := by decide +kernel
theorem dX11_isCycle_51 : decode cX11_isCycle 51 = .ok (.ifCond .eq 7, 3) := by decide +kernel
theorem dX11_isCycle_54 : decode cX11_isCycle 54 = .ok (.iconst 1, 1) := by decide +kernel
theorem dX11_isCycle_55 : decode cX11_isCycle 55 = .ok (.goto 4, 3) := by decide +kernel
theorem dX11_isCycle_58 : decode cX11_isCycle 58 = .ok (.iconst 0, 1) := by decide +kernel
theorem dX11_isCycle_59 : decode cX11_isCycle 59 = .ok (.ireturn, 1) := by decide +kernel
theorem dX11_reverseTriangle_0 : decode cX11_reverseTriangle 0 = .ok (.aload_n 0, 1) := by decide +kernel
theorem dX11_reverseTriangle_1 : decode cX11_reverseTriangle 1 = .ok (.iload_n 1, 1) := by decide +kernel
theorem dX11_reverseTriangle_2 : decode cX11_reverseTriangle 2 = .ok (.iload_n 2, 1) := by decide +kernel
theorem dX11_reverseTriangle_3 : decode cX11_reverseTriangle 3 = .ok (.invokevirtual 79, 3) := by decide +kernel
theorem dX11_reverseTriangle_6 : decode cX11_reverseTriangle 6 = .ok (.ifCond .eq 21, 3) := by decide +kernel
theorem dX11_reverseTriangle_9 : decode cX11_reverseTriangle 9 = .ok (.aload_n 0, 1) := by decide +kernel
theorem dX11_reverseTriangle_10 : decode cX11_reverseTriangle 10 = .ok (.iload_n 2, 1) := by decide +kernel
theorem dX11_reverseTriangle_11 : decode cX11_reverseTriangle 11 = .ok (.iload_n 3, 1) := by decide +kernel
theorem dX11_reverseTriangle_12 : decode cX11_reverseTriangle 12 = .ok (.invokevirtual 79, 3) := by decide +kernel
theorem dX11_reverseTriangle_15 : decode cX11_reverseTriangle 15 = .ok (.ifCond .eq 12, 3) := by decide +kernel
theorem dX11_reverseTriangle_18 : decode cX11_reverseTriangle 18 = .ok (.aload_n 0, 1) := by decide +kernel
theorem dX11_reverseTriangle_19 : decode cX11_reverseTriangle 19 = .ok (.iload_n 1, 1) := by decide +kernel
theorem dX11_reverseTriangle_20 : decode cX11_reverseTriangle 20 = .ok (.iload_n 3, 1) := by decide +kernel
theorem dX11_reverseTriangle_21 : decode cX11_reverseTriangle 21 = .ok (.invokevirtual 79, 3) := by decide +kernel
theorem dX11_reverseTriangle_24 : decode cX11_reverseTriangle 24 = .ok (.ifCond .ne 5, 3) := by decide +kernel
theorem dX11_reverseTriangle_27 : decode cX11_reverseTriangle 27 = .ok (.iconst (-1), 1) := by decide +kernel
theorem dX11_reverseTriangle_28 : decode cX11_reverseTriangle 28 = .ok (.ireturn, 1) := by decide +kernel
theorem dX11_reverseTriangle_29 : decode cX11_reverseTriangle 29 = .ok (.aload_n 0, 1) := by decide +kernel
theorem dX11_reverseTriangle_30 : decode cX11_reverseTriangle 30 = .ok (.iload_n 1, 1) := by decide +kernel
theorem dX11_reverseTriangle_31 : decode cX11_reverseTriangle 31 = .ok (.iload_n 2, 1) := by decide +kernel
theorem dX11_reverseTriangle_32 : decode cX11_reverseTriangle 32 = .ok (.iload_n 3, 1) := by decide +kernel
theorem dX11_reverseTriangle_33 : decode cX11_reverseTriangle 33 = .ok (.invokevirtual 82, 3) := by decide +kernel
theorem dX11_reverseTriangle_36 : decode cX11_reverseTriangle 36 = .ok (.ifCond .ne 6, 3) := by decide +kernel
theorem dX11_reverseTriangle_39 : decode cX11_reverseTriangle 39 = .ok (.bipush (-2), 2) := by decide +kernel
theorem dX11_reverseTriangle_41 : decode cX11_reverseTriangle 41 = .ok (.ireturn, 1) := by decide +kernel
theorem dX11_reverseTriangle_42 : decode cX11_reverseTriangle 42 = .ok (.aload_n 0, 1) := by decide +kernel
theorem dX11_reverseTriangle_43 : decode cX11_reverseTriangle 43 = .ok (.invokevirtual 76, 3) := by decide +kernel
theorem dX11_reverseTriangle_46 : decode cX11_reverseTriangle 46 = .ok (.aload_n 0, 1) := by decide +kernel
theorem dX11_reverseTriangle_47 : decode cX11_reverseTriangle 47 = .ok (.iload_n 1, 1) := by decide +kernel
theorem dX11_reverseTriangle_48 : decode cX11_reverseTriangle 48 = .ok (.iload_n 2, 1) := by decide +kernel
theorem dX11_reverseTriangle_49 : decode cX11_reverseTriangle 49 = .ok (.invokevirtual 85, 3) := by decide +kernel
theorem dX11_reverseTriangle_52 : decode cX11_reverseTriangle 52 = .ok (.aload_n 0, 1) := by decide +kernel
theorem dX11_reverseTriangle_53 : decode cX11_reverseTriangle 53 = .ok (.iload_n 2, 1) := by decide +kernel
theorem dX11_reverseTriangle_54 : decode cX11_reverseTriangle 54 = .ok (.iload_n 3, 1) := by decide +kernel
theorem dX11_reverseTriangle_55 : decode cX11_reverseTriangle 55 = .ok (.invokevirtual 85, 3) := by decide +kernel
theorem dX11_reverseTriangle_58 : decode cX11_reverseTriangle 58 = .ok (.aload_n 0, 1) := by decide +kernel
theorem dX11_reverseTriangle_59 : decode cX11_reverseTriangle 59 = .ok (.iload_n 1, 1) := by decide +kernel
theorem dX11_reverseTriangle_60 : decode cX11_reverseTriangle 60 = .ok (.iload_n 3, 1) := by decide +kernel
theorem dX11_reverseTriangle_61 : decode cX11_reverseTriangle 61 = .ok (.invokevirtual 85, 3) := by decide +kernel
theorem dX11_reverseTriangle_64 : decode cX11_reverseTriangle 64 = .ok (.aload_n 0, 1) := by decide +kernel
theorem dX11_reverseTriangle_65 : decode cX11_reverseTriangle 65 = .ok (.invokevirtual 88, 3) := by decide +kernel
theorem dX11_reverseTriangle_68 : decode cX11_reverseTriangle 68 = .ok (.ireturn, 1) := by decide +kernel
theorem dX11_stepsTo_0 : decode cX11_stepsTo 0 = .ok (.iconst 0, 1) := by decide +kernel
theorem dX11_stepsTo_1 : decode cX11_stepsTo 1 = .ok (.istore_n 2, 1) := by decide +kernel
theorem dX11_stepsTo_2 : decode cX11_stepsTo 2 = .ok (.iload_n 2, 1) := by decide +kernel
theorem dX11_stepsTo_3 : decode cX11_stepsTo 3 = .ok (.aload_n 0, 1) := by decide +kernel
theorem dX11_stepsTo_4 : decode cX11_stepsTo 4 = .ok (.invokevirtual 92, 3) := by decide +kernel
theorem dX11_stepsTo_7 : decode cX11_stepsTo 7 = .ok (.if_icmp .ge 26, 3) := by decide +kernel
theorem dX11_stepsTo_10 : decode cX11_stepsTo 10 = .ok (.aload_n 0, 1) := by decide +kernel
theorem dX11_stepsTo_11 : decode cX11_stepsTo 11 = .ok (.getfield 34, 3) := by decide +kernel
theorem dX11_stepsTo_14 : decode cX11_stepsTo 14 = .ok (.iload_n 2, 1) := by decide +kernel
theorem dX11_stepsTo_15 : decode cX11_stepsTo 15 = .ok (.iload_n 2, 1) := by decide +kernel
theorem dX11_stepsTo_16 : decode cX11_stepsTo 16 = .ok (.iload_n 1, 1) := by decide +kernel
theorem dX11_stepsTo_17 : decode cX11_stepsTo 17 = .ok (.if_icmp .ne 7, 3) := by decide +kernel
theorem dX11_stepsTo_20 : decode cX11_stepsTo 20 = .ok (.iconst 0, 1) := by decide +kernel
theorem dX11_stepsTo_21 : decode cX11_stepsTo 21 = .ok (.goto 5, 3) := by decide +kernel
theorem dX11_stepsTo_24 : decode cX11_stepsTo 24 = .ok (.bipush (-4), 2) := by decide +kernel
theorem dX11_stepsTo_26 : decode cX11_stepsTo 26 = .ok (.iastore, 1) := by decide +kernel
theorem dX11_stepsTo_27 : decode cX11_stepsTo 27 = .ok (.iinc 2 1, 3) := by decide +kernel
theorem dX11_stepsTo_30 : decode cX11_stepsTo 30 = .ok (.goto (-28), 3) := by decide +kernel
theorem dX11_stepsTo_33 : decode cX11_stepsTo 33 = .ok (.iconst 1, 1) := by decide +kernel
theorem dX11_stepsTo_34 : decode cX11_stepsTo 34 = .ok (.istore_n 2, 1) := by decide +kernel
theorem dX11_stepsTo_35 : decode cX11_stepsTo 35 = .ok (.iload_n 2, 1) := by decide +kernel
theorem dX11_stepsTo_36 : decode cX11_stepsTo 36 = .ok (.aload_n 0, 1) := by decide +kernel
theorem dX11_stepsTo_37 : decode cX11_stepsTo 37 = .ok (.invokevirtual 92, 3) := by decide +kernel
theorem dX11_stepsTo_40 : decode cX11_stepsTo 40 = .ok (.if_icmp .ge 91, 3) := by decide +kernel
theorem dX11_stepsTo_43 : decode cX11_stepsTo 43 = .ok (.iconst 0, 1) := by decide +kernel
theorem dX11_stepsTo_44 : decode cX11_stepsTo 44 = .ok (.istore_n 3, 1) := by decide +kernel
theorem dX11_stepsTo_45 : decode cX11_stepsTo 45 = .ok (.iload_n 3, 1) := by decide +kernel
theorem dX11_stepsTo_46 : decode cX11_stepsTo 46 = .ok (.aload_n 0, 1) := by decide +kernel
theorem dX11_stepsTo_47 : decode cX11_stepsTo 47 = .ok (.invokevirtual 92, 3) := by decide +kernel
theorem dX11_stepsTo_50 : decode cX11_stepsTo 50 = .ok (.if_icmp .ge 75, 3) := by decide +kernel
theorem dX11_stepsTo_53 : decode cX11_stepsTo 53 = .ok (.iconst 0, 1) := by decide +kernel
theorem dX11_stepsTo_54 : decode cX11_stepsTo 54 = .ok (.istore 4, 2) := by decide +kernel
theorem dX11_stepsTo_56 : decode cX11_stepsTo 56 = .ok (.iload 4, 2) := by decide +kernel
theorem dX11_stepsTo_58 : decode cX11_stepsTo 58 = .ok (.aload_n 0, 1) := by decide +kernel
theorem dX11_stepsTo_59 : decode cX11_stepsTo 59 = .ok (.invokevirtual 92, 3) := by decide +kernel
theorem dX11_stepsTo_62 : decode cX11_stepsTo 62 = .ok (.if_icmp .ge 57, 3) := by decide +kernel
theorem dX11_stepsTo_65 : decode cX11_stepsTo 65 = .ok (.aload_n 0, 1) := by decide +kernel
theorem dX11_stepsTo_66 : decode cX11_stepsTo 66 = .ok (.getfield 34, 3) := by decide +kernel
theorem dX11_stepsTo_69 : decode cX11_stepsTo 69 = .ok (.iload_n 3, 1) := by decide +kernel
theorem dX11_stepsTo_70 : decode cX11_stepsTo 70 = .ok (.iaload, 1) := by decide +kernel
theorem dX11_stepsTo_71 : decode cX11_stepsTo 71 = .ok (.ifCond .ge 48, 3) := by decide +kernel
theorem dX11_stepsTo_74 : decode cX11_stepsTo 74 = .ok (.aload_n 0, 1) := by decide +kernel
theorem dX11_stepsTo_75 : decode cX11_stepsTo 75 = .ok (.getfield 34, 3) := by decide +kernel
theorem dX11_stepsTo_78 : decode cX11_stepsTo 78 = .ok (.iload_n 3, 1) := by decide +kernel
theorem dX11_stepsTo_79 : decode cX11_stepsTo 79 = .ok (.aload_n 0, 1) := by decide +kernel
theorem dX11_stepsTo_80 : decode cX11_stepsTo 80 = .ok (.getfield 34, 3) := by decide +kernel
theorem dX11_stepsTo_83 : decode cX11_stepsTo 83 = .ok (.iload 4, 2) := by decide +kernel
theorem dX11_stepsTo_85 : decode cX11_stepsTo 85 = .ok (.iaload, 1) := by decide +kernel
theorem dX11_stepsTo_86 : decode cX11_stepsTo 86 = .ok (.iload_n 2, 1) := by decide +kernel
theorem dX11_stepsTo_87 : decode cX11_stepsTo 87 = .ok (.iconst 1, 1) := by decide +kernel
theorem dX11_stepsTo_88 : decode cX11_stepsTo 88 = .ok (.isub, 1) := by decide +kernel
theorem dX11_stepsTo_89 : decode cX11_stepsTo 89 = .ok (.if_icmp .ne 17, 3) := by decide +kernel
theorem dX11_stepsTo_92 : decode cX11_stepsTo 92 = .ok (.aload_n 0, 1) := by decide +kernel
theorem dX11_stepsTo_93 : decode cX11_stepsTo 93 = .ok (.iload_n 3, 1) := by decide +kernel
theorem dX11_stepsTo_94 : decode cX11_stepsTo 94 = .ok (.iload 4, 2) := by decide +kernel
theorem dX11_stepsTo_96 : decode cX11_stepsTo 96 = .ok (.invokevirtual 69, 3) := by decide +kernel
theorem dX11_stepsTo_99 : decode cX11_stepsTo 99 = .ok (.ifCond .eq 7, 3) := by decide +kernel
theorem dX11_stepsTo_102 : decode cX11_stepsTo 102 = .ok (.iload_n 2, 1) := by decide +kernel
theorem dX11_stepsTo_103 : decode cX11_stepsTo 103 = .ok (.goto 9, 3) := by decide +kernel
theorem dX11_stepsTo_106 : decode cX11_stepsTo 106 = .ok (.aload_n 0, 1) := by decide +kernel
theorem dX11_stepsTo_107 : decode cX11_stepsTo 107 = .ok (.getfield 34, 3) := by decide +kernel
theorem dX11_stepsTo_110 : decode cX11_stepsTo 110 = .ok (.iload_n 3, 1) := by decide +kernel
theorem dX11_stepsTo_111 : decode cX11_stepsTo 111 = .ok (.iaload, 1) := by decide +kernel
theorem dX11_stepsTo_112 : decode cX11_stepsTo 112 = .ok (.iastore, 1) := by decide +kernel
theorem dX11_stepsTo_113 : decode cX11_stepsTo 113 = .ok (.iinc 4 1, 3) := by decide +kernel
theorem dX11_stepsTo_116 : decode cX11_stepsTo 116 = .ok (.goto (-60), 3) := by decide +kernel
theorem dX11_stepsTo_119 : decode cX11_stepsTo 119 = .ok (.iinc 3 1, 3) := by decide +kernel
theorem dX11_stepsTo_122 : decode cX11_stepsTo 122 = .ok (.goto (-77), 3) := by decide +kernel
theorem dX11_stepsTo_125 : decode cX11_stepsTo 125 = .ok (.iinc 2 1, 3) := by decide +kernel
theorem dX11_stepsTo_128 : decode cX11_stepsTo 128 = .ok (.goto (-93), 3) := by decide +kernel
theorem dX11_stepsTo_131 : decode cX11_stepsTo 131 = .ok (.return_, 1) := by decide +kernel
theorem dX11_reversePath_0 : decode cX11_reversePath 0 = .ok (.aload_n 0, 1) := by decide +kernel
theorem dX11_reversePath_1 : decode cX11_reversePath 1 = .ok (.iload_n 1, 1) := by decide +kernel
theorem dX11_reversePath_2 : decode cX11_reversePath 2 = .ok (.iload_n 2, 1) := by decide +kernel
theorem dX11_reversePath_3 : decode cX11_reversePath 3 = .ok (.invokevirtual 79, 3) := by decide +kernel
theorem dX11_reversePath_6 : decode cX11_reversePath 6 = .ok (.ifCond .ne 5, 3) := by decide +kernel
theorem dX11_reversePath_9 : decode cX11_reversePath 9 = .ok (.iconst (-1), 1) := by decide +kernel
theorem dX11_reversePath_10 : decode cX11_reversePath 10 = .ok (.ireturn, 1) := by decide +kernel
theorem dX11_reversePath_11 : decode cX11_reversePath 11 = .ok (.aload_n 0, 1) := by decide +kernel
theorem dX11_reversePath_12 : decode cX11_reversePath 12 = .ok (.iload_n 2, 1) := by decide +kernel
theorem dX11_reversePath_13 : decode cX11_reversePath 13 = .ok (.invokevirtual 95, 3) := by decide +kernel
theorem dX11_reversePath_16 : decode cX11_reversePath 16 = .ok (.aload_n 0, 1) := by decide +kernel
theorem dX11_reversePath_17 : decode cX11_reversePath 17 = .ok (.getfield 34, 3) := by decide +kernel
theorem dX11_reversePath_20 : decode cX11_reversePath 20 = .ok (.iload_n 1, 1) := by decide +kernel
theorem dX11_reversePath_21 : decode cX11_reversePath 21 = .ok (.iaload, 1) := by decide +kernel
theorem dX11_reversePath_22 : decode cX11_reversePath 22 = .ok (.ifCond .ge 6, 3) := by decide +kernel
theorem dX11_reversePath_25 : decode cX11_reversePath 25 = .ok (.bipush (-2), 2) := by decide +kernel
theorem dX11_reversePath_27 : decode cX11_reversePath 27 = .ok (.ireturn, 1) := by decide +kernel
theorem dX11_reversePath_28 : decode cX11_reversePath 28 = .ok (.aload_n 0, 1) := by decide +kernel
theorem dX11_reversePath_29 : decode cX11_reversePath 29 = .ok (.invokevirtual 76, 3) := by decide +kernel
theorem dX11_reversePath_32 : decode cX11_reversePath 32 = .ok (.aload_n 0, 1) := by decide +kernel
theorem dX11_reversePath_33 : decode cX11_reversePath 33 = .ok (.getfield 34, 3) := by decide +kernel
theorem dX11_reversePath_36 : decode cX11_reversePath 36 = .ok (.iload_n 1, 1) := by decide +kernel
theorem dX11_reversePath_37 : decode cX11_reversePath 37 = .ok (.iaload, 1) := by decide +kernel
theorem dX11_reversePath_38 : decode cX11_reversePath 38 = .ok (.istore_n 3, 1) := by decide +kernel
theorem dX11_reversePath_39 : decode cX11_reversePath 39 = .ok (.iload_n 1, 1) := by decide +kernel
theorem dX11_reversePath_40 : decode cX11_reversePath 40 = .ok (.istore 4, 2) := by decide +kernel
theorem dX11_reversePath_42 : decode cX11_reversePath 42 = .ok (.iload 4, 2) := by decide +kernel
theorem dX11_reversePath_44 : decode cX11_reversePath 44 = .ok (.iload_n 2, 1) := by decide +kernel
theorem dX11_reversePath_45 : decode cX11_reversePath 45 = .ok (.if_icmp .eq 57, 3) := by decide +kernel
theorem dX11_reversePath_48 : decode cX11_reversePath 48 = .ok (.iconst 0, 1) := by decide +kernel
theorem dX11_reversePath_49 : decode cX11_reversePath 49 = .ok (.istore 5, 2) := by decide +kernel
theorem dX11_reversePath_51 : decode cX11_reversePath 51 = .ok (.aload_n 0, 1) := by decide +kernel
theorem dX11_reversePath_52 : decode cX11_reversePath 52 = .ok (.iload 4, 2) := by decide +kernel
theorem dX11_reversePath_54 : decode cX11_reversePath 54 = .ok (.iload 5, 2) := by decide +kernel
theorem dX11_reversePath_56 : decode cX11_reversePath 56 = .ok (.invokevirtual 69, 3) := by decide +kernel
theorem dX11_reversePath_59 : decode cX11_reversePath 59 = .ok (.ifCond .eq 22, 3) := by decide +kernel
theorem dX11_reversePath_62 : decode cX11_reversePath 62 = .ok (.aload_n 0, 1) := by decide +kernel
theorem dX11_reversePath_63 : decode cX11_reversePath 63 = .ok (.getfield 34, 3) := by decide +kernel
theorem dX11_reversePath_66 : decode cX11_reversePath 66 = .ok (.iload 5, 2) := by decide +kernel
theorem dX11_reversePath_68 : decode cX11_reversePath 68 = .ok (.iaload, 1) := by decide +kernel
theorem dX11_reversePath_69 : decode cX11_reversePath 69 = .ok (.aload_n 0, 1) := by decide +kernel
theorem dX11_reversePath_70 : decode cX11_reversePath 70 = .ok (.getfield 34, 3) := by decide +kernel
theorem dX11_reversePath_73 : decode cX11_reversePath 73 = .ok (.iload 4, 2) := by decide +kernel
theorem dX11_reversePath_75 : decode cX11_reversePath 75 = .ok (.iaload, 1) := by decide +kernel
theorem dX11_reversePath_76 : decode cX11_reversePath 76 = .ok (.iconst 1, 1) := by decide +kernel
theorem dX11_reversePath_77 : decode cX11_reversePath 77 = .ok (.isub, 1) := by decide +kernel
theorem dX11_reversePath_78 : decode cX11_reversePath 78 = .ok (.if_icmp .eq 9, 3) := by decide +kernel
theorem dX11_reversePath_81 : decode cX11_reversePath 81 = .ok (.iinc 5 1, 3) := by decide +kernel
theorem dX11_reversePath_84 : decode cX11_reversePath 84 = .ok (.goto (-33), 3) := by decide +kernel
theorem dX11_reversePath_87 : decode cX11_reversePath 87 = .ok (.aload_n 0, 1) := by decide +kernel
theorem dX11_reversePath_88 : decode cX11_reversePath 88 = .ok (.iload 4, 2) := by decide +kernel
theorem dX11_reversePath_90 : decode cX11_reversePath 90 = .ok (.iload 5, 2) := by decide +kernel
theorem dX11_reversePath_92 : decode cX11_reversePath 92 = .ok (.invokevirtual 85, 3) := by decide +kernel
theorem dX11_reversePath_95 : decode cX11_reversePath 95 = .ok (.iload 5, 2) := by decide +kernel
theorem dX11_reversePath_97 : decode cX11_reversePath 97 = .ok (.istore 4, 2) := by decide +kernel
theorem dX11_reversePath_99 : decode cX11_reversePath 99 = .ok (.goto (-57), 3) := by decide +kernel
theorem dX11_reversePath_102 : decode cX11_reversePath 102 = .ok (.iload_n 3, 1) := by decide +kernel
theorem dX11_reversePath_103 : decode cX11_reversePath 103 = .ok (.ireturn, 1) := by decide +kernel
theorem dX11_reversePlayer_0 : decode cX11_reversePlayer 0 = .ok (.aload_n 0, 1) := by decide +kernel
theorem dX11_reversePlayer_1 : decode cX11_reversePlayer 1 = .ok (.iload_n 1, 1) := by decide +kernel
theorem dX11_reversePlayer_2 : decode cX11_reversePlayer 2 = .ok (.invokevirtual 57, 3) := by decide +kernel
theorem dX11_reversePlayer_5 : decode cX11_reversePlayer 5 = .ok (.ifCond .ne 5, 3) := by decide +kernel
theorem dX11_reversePlayer_8 : decode cX11_reversePlayer 8 = .ok (.iconst (-1), 1) := by decide +kernel
theorem dX11_reversePlayer_9 : decode cX11_reversePlayer 9 = .ok (.ireturn, 1) := by decide +kernel
theorem dX11_reversePlayer_10 : decode cX11_reversePlayer 10 = .ok (.aload_n 0, 1) := by decide +kernel
theorem dX11_reversePlayer_11 : decode cX11_reversePlayer 11 = .ok (.invokevirtual 76, 3) := by decide +kernel
theorem dX11_reversePlayer_14 : decode cX11_reversePlayer 14 = .ok (.iconst 0, 1) := by decide +kernel
theorem dX11_reversePlayer_15 : decode cX11_reversePlayer 15 = .ok (.istore_n 2, 1) := by decide +kernel
theorem dX11_reversePlayer_16 : decode cX11_reversePlayer 16 = .ok (.iload_n 2, 1) := by decide +kernel
theorem dX11_reversePlayer_17 : decode cX11_reversePlayer 17 = .ok (.aload_n 0, 1) := by decide +kernel
theorem dX11_reversePlayer_18 : decode cX11_reversePlayer 18 = .ok (.invokevirtual 92, 3) := by decide +kernel
theorem dX11_reversePlayer_21 : decode cX11_reversePlayer 21 = .ok (.if_icmp .ge 20, 3) := by decide +kernel
theorem dX11_reversePlayer_24 : decode cX11_reversePlayer 24 = .ok (.iload_n 2, 1) := by decide +kernel
theorem dX11_reversePlayer_25 : decode cX11_reversePlayer 25 = .ok (.iload_n 1, 1) := by decide +kernel
theorem dX11_reversePlayer_26 : decode cX11_reversePlayer 26 = .ok (.if_icmp .eq 9, 3) := by decide +kernel
theorem dX11_reversePlayer_29 : decode cX11_reversePlayer 29 = .ok (.aload_n 0, 1) := by decide +kernel
theorem dX11_reversePlayer_30 : decode cX11_reversePlayer 30 = .ok (.iload_n 1, 1) := by decide +kernel
theorem dX11_reversePlayer_31 : decode cX11_reversePlayer 31 = .ok (.iload_n 2, 1) := by decide +kernel
theorem dX11_reversePlayer_32 : decode cX11_reversePlayer 32 = .ok (.invokevirtual 85, 3) := by decide +kernel
theorem dX11_reversePlayer_35 : decode cX11_reversePlayer 35 = .ok (.iinc 2 1, 3) := by decide +kernel
theorem dX11_reversePlayer_38 : decode cX11_reversePlayer 38 = .ok (.goto (-22), 3) := by decide +kernel
theorem dX11_reversePlayer_41 : decode cX11_reversePlayer 41 = .ok (.aload_n 0, 1) := by decide +kernel
theorem dX11_reversePlayer_42 : decode cX11_reversePlayer 42 = .ok (.iload_n 1, 1) := by decide +kernel
theorem dX11_reversePlayer_43 : decode cX11_reversePlayer 43 = .ok (.invokevirtual 45, 3) := by decide +kernel
theorem dX11_reversePlayer_46 : decode cX11_reversePlayer 46 = .ok (.invokestatic 98, 3) := by decide +kernel
theorem dX11_reversePlayer_49 : decode cX11_reversePlayer 49 = .ok (.ireturn, 1) := by decide +kernel
theorem dX11_swapped_0 : decode cX11_swapped 0 = .ok (.iload_n 0, 1) := by decide +kernel
theorem dX11_swapped_1 : decode cX11_swapped 1 = .ok (.iconst 1, 1) := by decide +kernel
theorem dX11_swapped_2 : decode cX11_swapped 2 = .ok (.iload_n 1, 1) := by decide +kernel
theorem dX11_swapped_3 : decode cX11_swapped 3 = .ok (.ishl, 1) := by decide +kernel
theorem dX11_swapped_4 : decode cX11_swapped 4 = .ok (.iconst (-1), 1) := by decide +kernel
theorem dX11_swapped_5 : decode cX11_swapped 5 = .ok (.ixor, 1) := by decide +kernel
theorem dX11_swapped_6 : decode cX11_swapped 6 = .ok (.iand, 1) := by decide +kernel
theorem dX11_swapped_7 : decode cX11_swapped 7 = .ok (.iconst 1, 1) := by decide +kernel
theorem dX11_swapped_8 : decode cX11_swapped 8 = .ok (.iload_n 2, 1) := by decide +kernel
theorem dX11_swapped_9 : decode cX11_swapped 9 = .ok (.ishl, 1) := by decide +kernel
theorem dX11_swapped_10 : decode cX11_swapped 10 = .ok (.iconst (-1), 1) := by decide +kernel
theorem dX11_swapped_11 : decode cX11_swapped 11 = .ok (.ixor, 1) := by decide +kernel
theorem dX11_swapped_12 : decode cX11_swapped 12 = .ok (.iand, 1) := by decide +kernel
theorem dX11_swapped_13 : decode cX11_swapped 13 = .ok (.istore_n 3, 1) := by decide +kernel
theorem dX11_swapped_14 : decode cX11_swapped 14 = .ok (.iload_n 3, 1) := by decide +kernel
theorem dX11_swapped_15 : decode cX11_swapped 15 = .ok (.iload_n 0, 1) := by decide +kernel
theorem dX11_swapped_16 : decode cX11_swapped 16 = .ok (.iload_n 1, 1) := by decide +kernel
theorem dX11_swapped_17 : decode cX11_swapped 17 = .ok (.invokestatic 49, 3) := by decide +kernel
theorem dX11_swapped_20 : decode cX11_swapped 20 = .ok (.ifCond .eq 9, 3) := by decide +kernel
theorem dX11_swapped_23 : decode cX11_swapped 23 = .ok (.iconst 1, 1) := by decide +kernel
theorem dX11_swapped_24 : decode cX11_swapped 24 = .ok (.iload_n 2, 1) := by decide +kernel
theorem dX11_swapped_25 : decode cX11_swapped 25 = .ok (.ishl, 1) := by decide +kernel
theorem dX11_swapped_26 : decode cX11_swapped 26 = .ok (.goto 4, 3) := by decide +kernel
theorem dX11_swapped_29 : decode cX11_swapped 29 = .ok (.iconst 0, 1) := by decide +kernel
theorem dX11_swapped_30 : decode cX11_swapped 30 = .ok (.ior, 1) := by decide +kernel
theorem dX11_swapped_31 : decode cX11_swapped 31 = .ok (.iload_n 0, 1) := by decide +kernel
theorem dX11_swapped_32 : decode cX11_swapped 32 = .ok (.iload_n 2, 1) := by decide +kernel
theorem dX11_swapped_33 : decode cX11_swapped 33 = .ok (.invokestatic 49, 3) := by decide +kernel
theorem dX11_swapped_36 : decode cX11_swapped 36 = .ok (.ifCond .eq 9, 3) := by decide +kernel
theorem dX11_swapped_39 : decode cX11_swapped 39 = .ok (.iconst 1, 1) := by decide +kernel
theorem dX11_swapped_40 : decode cX11_swapped 40 = .ok (.iload_n 1, 1) := by decide +kernel
theorem dX11_swapped_41 : decode cX11_swapped 41 = .ok (.ishl, 1) := by decide +kernel
theorem dX11_swapped_42 : decode cX11_swapped 42 = .ok (.goto 4, 3) := by decide +kernel
theorem dX11_swapped_45 : decode cX11_swapped 45 = .ok (.iconst 0, 1) := by decide +kernel
theorem dX11_swapped_46 : decode cX11_swapped 46 = .ok (.ior, 1) := by decide +kernel
theorem dX11_swapped_47 : decode cX11_swapped 47 = .ok (.ireturn, 1) := by decide +kernel
theorem dX11_exchange_0 : decode cX11_exchange 0 = .ok (.aload_n 0, 1) := by decide +kernel
theorem dX11_exchange_1 : decode cX11_exchange 1 = .ok (.iload_n 1, 1) := by decide +kernel
theorem dX11_exchange_2 : decode cX11_exchange 2 = .ok (.invokevirtual 57, 3) := by decide +kernel
theorem dX11_exchange_5 : decode cX11_exchange 5 = .ok (.ifCond .eq 11, 3) := by decide +kernel
theorem dX11_exchange_8 : decode cX11_exchange 8 = .ok (.aload_n 0, 1) := by decide +kernel
theorem dX11_exchange_9 : decode cX11_exchange 9 = .ok (.iload_n 2, 1) := by decide +kernel
theorem dX11_exchange_10 : decode cX11_exchange 10 = .ok (.invokevirtual 57, 3) := by decide +kernel
theorem dX11_exchange_13 : decode cX11_exchange 13 = .ok (.ifCond .ne 5, 3) := by decide +kernel
theorem dX11_exchange_16 : decode cX11_exchange 16 = .ok (.iconst (-1), 1) := by decide +kernel
theorem dX11_exchange_17 : decode cX11_exchange 17 = .ok (.ireturn, 1) := by decide +kernel
theorem dX11_exchange_18 : decode cX11_exchange 18 = .ok (.aload_n 0, 1) := by decide +kernel
theorem dX11_exchange_19 : decode cX11_exchange 19 = .ok (.invokevirtual 76, 3) := by decide +kernel
theorem dX11_exchange_22 : decode cX11_exchange 22 = .ok (.aload_n 0, 1) := by decide +kernel
theorem dX11_exchange_23 : decode cX11_exchange 23 = .ok (.getfield 7, 3) := by decide +kernel
theorem dX11_exchange_26 : decode cX11_exchange 26 = .ok (.iconst 1, 1) := by decide +kernel
theorem dX11_exchange_27 : decode cX11_exchange 27 = .ok (.iload_n 1, 1) := by decide +kernel
theorem dX11_exchange_28 : decode cX11_exchange 28 = .ok (.iadd, 1) := by decide +kernel
theorem dX11_exchange_29 : decode cX11_exchange 29 = .ok (.iaload, 1) := by decide +kernel
theorem dX11_exchange_30 : decode cX11_exchange 30 = .ok (.istore_n 3, 1) := by decide +kernel
theorem dX11_exchange_31 : decode cX11_exchange 31 = .ok (.aload_n 0, 1) := by decide +kernel
theorem dX11_exchange_32 : decode cX11_exchange 32 = .ok (.getfield 7, 3) := by decide +kernel
theorem dX11_exchange_35 : decode cX11_exchange 35 = .ok (.iconst 1, 1) := by decide +kernel
theorem dX11_exchange_36 : decode cX11_exchange 36 = .ok (.iload_n 1, 1) := by decide +kernel
theorem dX11_exchange_37 : decode cX11_exchange 37 = .ok (.iadd, 1) := by decide +kernel
theorem dX11_exchange_38 : decode cX11_exchange 38 = .ok (.aload_n 0, 1) := by decide +kernel
theorem dX11_exchange_39 : decode cX11_exchange 39 = .ok (.getfield 7, 3) := by decide +kernel
theorem dX11_exchange_42 : decode cX11_exchange 42 = .ok (.iconst 1, 1) := by decide +kernel
theorem dX11_exchange_43 : decode cX11_exchange 43 = .ok (.iload_n 2, 1) := by decide +kernel
theorem dX11_exchange_44 : decode cX11_exchange 44 = .ok (.iadd, 1) := by decide +kernel
theorem dX11_exchange_45 : decode cX11_exchange 45 = .ok (.iaload, 1) := by decide +kernel
theorem dX11_exchange_46 : decode cX11_exchange 46 = .ok (.iastore, 1) := by decide +kernel
theorem dX11_exchange_47 : decode cX11_exchange 47 = .ok (.aload_n 0, 1) := by decide +kernel
theorem dX11_exchange_48 : decode cX11_exchange 48 = .ok (.getfield 7, 3) := by decide +kernel
theorem dX11_exchange_51 : decode cX11_exchange 51 = .ok (.iconst 1, 1) := by decide +kernel
theorem dX11_exchange_52 : decode cX11_exchange 52 = .ok (.iload_n 2, 1) := by decide +kernel
theorem dX11_exchange_53 : decode cX11_exchange 53 = .ok (.iadd, 1) := by decide +kernel
theorem dX11_exchange_54 : decode cX11_exchange 54 = .ok (.iload_n 3, 1) := by decide +kernel
theorem dX11_exchange_55 : decode cX11_exchange 55 = .ok (.iastore, 1) := by decide +kernel
theorem dX11_exchange_56 : decode cX11_exchange 56 = .ok (.iconst 0, 1) := by decide +kernel
theorem dX11_exchange_57 : decode cX11_exchange 57 = .ok (.istore 4, 2) := by decide +kernel
theorem dX11_exchange_59 : decode cX11_exchange 59 = .ok (.iload 4, 2) := by decide +kernel
theorem dX11_exchange_61 : decode cX11_exchange 61 = .ok (.aload_n 0, 1) := by decide +kernel
theorem dX11_exchange_62 : decode cX11_exchange 62 = .ok (.invokevirtual 92, 3) := by decide +kernel
theorem dX11_exchange_65 : decode cX11_exchange 65 = .ok (.if_icmp .ge 32, 3) := by decide +kernel
theorem dX11_exchange_68 : decode cX11_exchange 68 = .ok (.aload_n 0, 1) := by decide +kernel
theorem dX11_exchange_69 : decode cX11_exchange 69 = .ok (.getfield 7, 3) := by decide +kernel
theorem dX11_exchange_72 : decode cX11_exchange 72 = .ok (.iconst 1, 1) := by decide +kernel
theorem dX11_exchange_73 : decode cX11_exchange 73 = .ok (.iload 4, 2) := by decide +kernel
theorem dX11_exchange_75 : decode cX11_exchange 75 = .ok (.iadd, 1) := by decide +kernel
theorem dX11_exchange_76 : decode cX11_exchange 76 = .ok (.aload_n 0, 1) := by decide +kernel
theorem dX11_exchange_77 : decode cX11_exchange 77 = .ok (.getfield 7, 3) := by decide +kernel
theorem dX11_exchange_80 : decode cX11_exchange 80 = .ok (.iconst 1, 1) := by decide +kernel
theorem dX11_exchange_81 : decode cX11_exchange 81 = .ok (.iload 4, 2) := by decide +kernel
theorem dX11_exchange_83 : decode cX11_exchange 83 = .ok (.iadd, 1) := by decide +kernel
theorem dX11_exchange_84 : decode cX11_exchange 84 = .ok (.iaload, 1) := by decide +kernel
theorem dX11_exchange_85 : decode cX11_exchange 85 = .ok (.iload_n 1, 1) := by decide +kernel
theorem dX11_exchange_86 : decode cX11_exchange 86 = .ok (.iload_n 2, 1) := by decide +kernel
theorem dX11_exchange_87 : decode cX11_exchange 87 = .ok (.invokestatic 101, 3) := by decide +kernel
theorem dX11_exchange_90 : decode cX11_exchange 90 = .ok (.iastore, 1) := by decide +kernel
theorem dX11_exchange_91 : decode cX11_exchange 91 = .ok (.iinc 4 1, 3) := by decide +kernel
theorem dX11_exchange_94 : decode cX11_exchange 94 = .ok (.goto (-35), 3) := by decide +kernel
theorem dX11_exchange_97 : decode cX11_exchange 97 = .ok (.iconst 0, 1) := by decide +kernel
theorem dX11_exchange_98 : decode cX11_exchange 98 = .ok (.istore 4, 2) := by decide +kernel
theorem dX11_exchange_100 : decode cX11_exchange 100 = .ok (.iload 4, 2) := by decide +kernel
theorem dX11_exchange_102 : decode cX11_exchange 102 = .ok (.aload_n 0, 1) := by decide +kernel
theorem dX11_exchange_103 : decode cX11_exchange 103 = .ok (.invokevirtual 92, 3) := by decide +kernel
theorem dX11_exchange_106 : decode cX11_exchange 106 = .ok (.if_icmp .ge 104, 3) := by decide +kernel
theorem dX11_exchange_109 : decode cX11_exchange 109 = .ok (.iload 4, 2) := by decide +kernel
theorem dX11_exchange_111 : decode cX11_exchange 111 = .ok (.iload_n 1, 1) := by decide +kernel
theorem dX11_exchange_112 : decode cX11_exchange 112 = .ok (.if_icmp .eq 92, 3) := by decide +kernel
theorem dX11_exchange_115 : decode cX11_exchange 115 = .ok (.iload 4, 2) := by decide +kernel
theorem dX11_exchange_117 : decode cX11_exchange 117 = .ok (.iload_n 2, 1) := by decide +kernel
theorem dX11_exchange_118 : decode cX11_exchange 118 = .ok (.if_icmp .eq 86, 3) := by decide +kernel
theorem dX11_exchange_121 : decode cX11_exchange 121 = .ok (.aload_n 0, 1) := by decide +kernel
theorem dX11_exchange_122 : decode cX11_exchange 122 = .ok (.getfield 7, 3) := by decide +kernel
theorem dX11_exchange_125 : decode cX11_exchange 125 = .ok (.iload_n 1, 1) := by decide +kernel
theorem dX11_exchange_126 : decode cX11_exchange 126 = .ok (.iload 4, 2) := by decide +kernel
theorem dX11_exchange_128 : decode cX11_exchange 128 = .ok (.invokestatic 61, 3) := by decide +kernel
theorem dX11_exchange_131 : decode cX11_exchange 131 = .ok (.iaload, 1) := by decide +kernel
theorem dX11_exchange_132 : decode cX11_exchange 132 = .ok (.istore 5, 2) := by decide +kernel
theorem dX11_exchange_134 : decode cX11_exchange 134 = .ok (.aload_n 0, 1) := by decide +kernel
theorem dX11_exchange_135 : decode cX11_exchange 135 = .ok (.getfield 7, 3) := by decide +kernel
theorem dX11_exchange_138 : decode cX11_exchange 138 = .ok (.iload_n 1, 1) := by decide +kernel
theorem dX11_exchange_139 : decode cX11_exchange 139 = .ok (.iload 4, 2) := by decide +kernel
theorem dX11_exchange_141 : decode cX11_exchange 141 = .ok (.invokestatic 61, 3) := by decide +kernel
theorem dX11_exchange_144 : decode cX11_exchange 144 = .ok (.aload_n 0, 1) := by decide +kernel
theorem dX11_exchange_145 : decode cX11_exchange 145 = .ok (.getfield 7, 3) := by decide +kernel
theorem dX11_exchange_148 : decode cX11_exchange 148 = .ok (.iload_n 2, 1) := by decide +kernel
theorem dX11_exchange_149 : decode cX11_exchange 149 = .ok (.iload 4, 2) := by decide +kernel
theorem dX11_exchange_151 : decode cX11_exchange 151 = .ok (.invokestatic 61, 3) := by decide +kernel
theorem dX11_exchange_154 : decode cX11_exchange 154 = .ok (.iaload, 1) := by decide +kernel
theorem dX11_exchange_155 : decode cX11_exchange 155 = .ok (.iastore, 1) := by decide +kernel
theorem dX11_exchange_156 : decode cX11_exchange 156 = .ok (.aload_n 0, 1) := by decide +kernel
theorem dX11_exchange_157 : decode cX11_exchange 157 = .ok (.getfield 7, 3) := by decide +kernel
theorem dX11_exchange_160 : decode cX11_exchange 160 = .ok (.iload 4, 2) := by decide +kernel
theorem dX11_exchange_162 : decode cX11_exchange 162 = .ok (.iload_n 1, 1) := by decide +kernel
theorem dX11_exchange_163 : decode cX11_exchange 163 = .ok (.invokestatic 61, 3) := by decide +kernel
theorem dX11_exchange_166 : decode cX11_exchange 166 = .ok (.aload_n 0, 1) := by decide +kernel
theorem dX11_exchange_167 : decode cX11_exchange 167 = .ok (.getfield 7, 3) := by decide +kernel
theorem dX11_exchange_170 : decode cX11_exchange 170 = .ok (.iload_n 2, 1) := by decide +kernel
theorem dX11_exchange_171 : decode cX11_exchange 171 = .ok (.iload 4, 2) := by decide +kernel
theorem dX11_exchange_173 : decode cX11_exchange 173 = .ok (.invokestatic 61, 3) := by decide +kernel
theorem dX11_exchange_176 : decode cX11_exchange 176 = .ok (.iaload, 1) := by decide +kernel
theorem dX11_exchange_177 : decode cX11_exchange 177 = .ok (.iastore, 1) := by decide +kernel
theorem dX11_exchange_178 : decode cX11_exchange 178 = .ok (.aload_n 0, 1) := by decide +kernel
theorem dX11_exchange_179 : decode cX11_exchange 179 = .ok (.getfield 7, 3) := by decide +kernel
theorem dX11_exchange_182 : decode cX11_exchange 182 = .ok (.iload_n 2, 1) := by decide +kernel
theorem dX11_exchange_183 : decode cX11_exchange 183 = .ok (.iload 4, 2) := by decide +kernel
theorem dX11_exchange_185 : decode cX11_exchange 185 = .ok (.invokestatic 61, 3) := by decide +kernel
theorem dX11_exchange_188 : decode cX11_exchange 188 = .ok (.iload 5, 2) := by decide +kernel
theorem dX11_exchange_190 : decode cX11_exchange 190 = .ok (.iastore, 1) := by decide +kernel
theorem dX11_exchange_191 : decode cX11_exchange 191 = .ok (.aload_n 0, 1) := by decide +kernel
theorem dX11_exchange_192 : decode cX11_exchange 192 = .ok (.getfield 7, 3) := by decide +kernel
theorem dX11_exchange_195 : decode cX11_exchange 195 = .ok (.iload 4, 2) := by decide +kernel
theorem dX11_exchange_197 : decode cX11_exchange 197 = .ok (.iload_n 2, 1) := by decide +kernel
theorem dX11_exchange_198 : decode cX11_exchange 198 = .ok (.invokestatic 61, 3) := by decide +kernel
theorem dX11_exchange_201 : decode cX11_exchange 201 = .ok (.iload 5, 2) := by decide +kernel
theorem dX11_exchange_203 : decode cX11_exchange 203 = .ok (.iastore, 1) := by decide +kernel
theorem dX11_exchange_204 : decode cX11_exchange 204 = .ok (.iinc 4 1, 3) := by decide +kernel
theorem dX11_exchange_207 : decode cX11_exchange 207 = .ok (.goto (-107), 3) := by decide +kernel
theorem dX11_exchange_210 : decode cX11_exchange 210 = .ok (.aload_n 0, 1) := by decide +kernel
theorem dX11_exchange_211 : decode cX11_exchange 211 = .ok (.iload_n 1, 1) := by decide +kernel
theorem dX11_exchange_212 : decode cX11_exchange 212 = .ok (.invokevirtual 45, 3) := by decide +kernel
theorem dX11_exchange_215 : decode cX11_exchange 215 = .ok (.invokestatic 98, 3) := by decide +kernel
theorem dX11_exchange_218 : decode cX11_exchange 218 = .ok (.ireturn, 1) := by decide +kernel
theorem dX11_fails_0 : decode cX11_fails 0 = .ok (.iconst 0, 1) := by decide +kernel
theorem dX11_fails_1 : decode cX11_fails 1 = .ok (.istore_n 1, 1) := by decide +kernel
theorem dX11_fails_2 : decode cX11_fails 2 = .ok (.iconst 0, 1) := by decide +kernel
theorem dX11_fails_3 : decode cX11_fails 3 = .ok (.istore_n 2, 1) := by decide +kernel
theorem dX11_fails_4 : decode cX11_fails 4 = .ok (.iconst 1, 1) := by decide +kernel
theorem dX11_fails_5 : decode cX11_fails 5 = .ok (.istore_n 3, 1) := by decide +kernel
theorem dX11_fails_6 : decode cX11_fails 6 = .ok (.iload_n 3, 1) := by decide +kernel
theorem dX11_fails_7 : decode cX11_fails 7 = .ok (.aload_n 0, 1) := by decide +kernel
theorem dX11_fails_8 : decode cX11_fails 8 = .ok (.getfield 105, 3) := by decide +kernel
theorem dX11_fails_11 : decode cX11_fails 11 = .ok (.if_icmp .gt 130, 3) := by decide +kernel
theorem dX11_fails_14 : decode cX11_fails 14 = .ok (.iconst (-1), 1) := by decide +kernel
theorem dX11_fails_15 : decode cX11_fails 15 = .ok (.istore 4, 2) := by decide +kernel
theorem dX11_fails_17 : decode cX11_fails 17 = .ok (.iconst 0, 1) := by decide +kernel
theorem dX11_fails_18 : decode cX11_fails 18 = .ok (.istore 5, 2) := by decide +kernel
theorem dX11_fails_20 : decode cX11_fails 20 = .ok (.iload 5, 2) := by decide +kernel
theorem dX11_fails_22 : decode cX11_fails 22 = .ok (.aload_n 0, 1) := by decide +kernel
theorem dX11_fails_23 : decode cX11_fails 23 = .ok (.getfield 105, 3) := by decide +kernel
theorem dX11_fails_26 : decode cX11_fails 26 = .ok (.if_icmp .ge 61, 3) := by decide +kernel
theorem dX11_fails_29 : decode cX11_fails 29 = .ok (.iload_n 2, 1) := by decide +kernel
theorem dX11_fails_30 : decode cX11_fails 30 = .ok (.iload 5, 2) := by decide +kernel
theorem dX11_fails_32 : decode cX11_fails 32 = .ok (.invokestatic 49, 3) := by decide +kernel
theorem dX11_fails_35 : decode cX11_fails 35 = .ok (.ifCond .ne 29, 3) := by decide +kernel
theorem dX11_fails_38 : decode cX11_fails 38 = .ok (.iload 4, 2) := by decide +kernel
theorem dX11_fails_40 : decode cX11_fails 40 = .ok (.ifCond .lt 20, 3) := by decide +kernel
theorem dX11_fails_43 : decode cX11_fails 43 = .ok (.aload_n 0, 1) := by decide +kernel
theorem dX11_fails_44 : decode cX11_fails 44 = .ok (.getfield 19, 3) := by decide +kernel
theorem dX11_fails_47 : decode cX11_fails 47 = .ok (.iload 5, 2) := by decide +kernel
theorem dX11_fails_49 : decode cX11_fails 49 = .ok (.iaload, 1) := by decide +kernel
theorem dX11_fails_50 : decode cX11_fails 50 = .ok (.aload_n 0, 1) := by decide +kernel
theorem dX11_fails_51 : decode cX11_fails 51 = .ok (.getfield 19, 3) := by decide +kernel
theorem dX11_fails_54 : decode cX11_fails 54 = .ok (.iload 4, 2) := by decide +kernel
theorem dX11_fails_56 : decode cX11_fails 56 = .ok (.iaload, 1) := by decide +kernel
theorem dX11_fails_57 : decode cX11_fails 57 = .ok (.if_icmp .ge 7, 3) := by decide +kernel
theorem dX11_fails_60 : decode cX11_fails 60 = .ok (.iconst 1, 1) := by decide +kernel
theorem dX11_fails_61 : decode cX11_fails 61 = .ok (.goto 4, 3) := by decide +kernel
theorem dX11_fails_64 : decode cX11_fails 64 = .ok (.iconst 0, 1) := by decide +kernel
theorem dX11_fails_65 : decode cX11_fails 65 = .ok (.istore 6, 2) := by decide +kernel
theorem dX11_fails_67 : decode cX11_fails 67 = .ok (.iload 6, 2) := by decide +kernel
theorem dX11_fails_69 : decode cX11_fails 69 = .ok (.ifCond .eq 8, 3) := by decide +kernel
theorem dX11_fails_72 : decode cX11_fails 72 = .ok (.iload 5, 2) := by decide +kernel
theorem dX11_fails_74 : decode cX11_fails 74 = .ok (.goto 5, 3) := by decide +kernel
theorem dX11_fails_77 : decode cX11_fails 77 = .ok (.iload 4, 2) := by decide +kernel
theorem dX11_fails_79 : decode cX11_fails 79 = .ok (.istore 4, 2) := by decide +kernel
theorem dX11_fails_81 : decode cX11_fails 81 = .ok (.iinc 5 1, 3) := by decide +kernel
theorem dX11_fails_84 : decode cX11_fails 84 = .ok (.goto (-64), 3) := by decide +kernel
theorem dX11_fails_87 : decode cX11_fails 87 = .ok (.iload_n 2, 1) := by decide +kernel
theorem dX11_fails_88 : decode cX11_fails 88 = .ok (.iconst 1, 1) := by decide +kernel
theorem dX11_fails_89 : decode cX11_fails 89 = .ok (.iload 4, 2) := by decide +kernel
theorem dX11_fails_91 : decode cX11_fails 91 = .ok (.ishl, 1) := by decide +kernel
theorem dX11_fails_92 : decode cX11_fails 92 = .ok (.ior, 1) := by decide +kernel
theorem dX11_fails_93 : decode cX11_fails 93 = .ok (.istore_n 2, 1) := by decide +kernel
theorem dX11_fails_94 : decode cX11_fails 94 = .ok (.iload_n 1, 1) := by decide +kernel
theorem dX11_fails_95 : decode cX11_fails 95 = .ok (.aload_n 0, 1) := by decide +kernel
theorem dX11_fails_96 : decode cX11_fails 96 = .ok (.getfield 19, 3) := by decide +kernel
theorem dX11_fails_99 : decode cX11_fails 99 = .ok (.iload 4, 2) := by decide +kernel
theorem dX11_fails_101 : decode cX11_fails 101 = .ok (.iaload, 1) := by decide +kernel
theorem dX11_fails_102 : decode cX11_fails 102 = .ok (.iadd, 1) := by decide +kernel
theorem dX11_fails_103 : decode cX11_fails 103 = .ok (.istore_n 1, 1) := by decide +kernel
theorem dX11_fails_104 : decode cX11_fails 104 = .ok (.iload_n 3, 1) := by decide +kernel
theorem dX11_fails_105 : decode cX11_fails 105 = .ok (.iload_n 3, 1) := by decide +kernel
theorem dX11_fails_106 : decode cX11_fails 106 = .ok (.iconst 1, 1) := by decide +kernel
theorem dX11_fails_107 : decode cX11_fails 107 = .ok (.isub, 1) := by decide +kernel
theorem dX11_fails_108 : decode cX11_fails 108 = .ok (.imul, 1) := by decide +kernel
theorem dX11_fails_109 : decode cX11_fails 109 = .ok (.iconst 2, 1) := by decide +kernel
theorem dX11_fails_110 : decode cX11_fails 110 = .ok (.idiv, 1) := by decide +kernel
theorem dX11_fails_111 : decode cX11_fails 111 = .ok (.istore 5, 2) := by decide +kernel
theorem dX11_fails_113 : decode cX11_fails 113 = .ok (.iload_n 1, 1) := by decide +kernel
theorem dX11_fails_114 : decode cX11_fails 114 = .ok (.iload 5, 2) := by decide +kernel
theorem dX11_fails_116 : decode cX11_fails 116 = .ok (.if_icmp .lt 17, 3) := by decide +kernel
theorem dX11_fails_119 : decode cX11_fails 119 = .ok (.iload_n 3, 1) := by decide +kernel
theorem dX11_fails_120 : decode cX11_fails 120 = .ok (.aload_n 0, 1) := by decide +kernel
theorem dX11_fails_121 : decode cX11_fails 121 = .ok (.getfield 105, 3) := by decide +kernel
theorem dX11_fails_124 : decode cX11_fails 124 = .ok (.if_icmp .ne 11, 3) := by decide +kernel
theorem dX11_fails_127 : decode cX11_fails 127 = .ok (.iload_n 1, 1) := by decide +kernel
theorem dX11_fails_128 : decode cX11_fails 128 = .ok (.iload 5, 2) := by decide +kernel
theorem dX11_fails_130 : decode cX11_fails 130 = .ok (.if_icmp .le 5, 3) := by decide +kernel
theorem dX11_fails_133 : decode cX11_fails 133 = .ok (.iload_n 3, 1) := by decide +kernel
theorem dX11_fails_134 : decode cX11_fails 134 = .ok (.ireturn, 1) := by decide +kernel
theorem dX11_fails_135 : decode cX11_fails 135 = .ok (.iinc 3 1, 3) := by decide +kernel
theorem dX11_fails_138 : decode cX11_fails 138 = .ok (.goto (-132), 3) := by decide +kernel
theorem dX11_fails_141 : decode cX11_fails 141 = .ok (.iconst 0, 1) := by decide +kernel
theorem dX11_fails_142 : decode cX11_fails 142 = .ok (.ireturn, 1) := by decide +kernel
theorem dX11_construct_0 : decode cX11_construct 0 = .ok (.aload_n 0, 1) := by decide +kernel
theorem dX11_construct_1 : decode cX11_construct 1 = .ok (.getfield 105, 3) := by decide +kernel
theorem dX11_construct_4 : decode cX11_construct 4 = .ok (.iconst 2, 1) := by decide +kernel
theorem dX11_construct_5 : decode cX11_construct 5 = .ok (.if_icmp .lt 10, 3) := by decide +kernel
theorem dX11_construct_8 : decode cX11_construct 8 = .ok (.aload_n 0, 1) := by decide +kernel
theorem dX11_construct_9 : decode cX11_construct 9 = .ok (.invokevirtual 108, 3) := by decide +kernel
theorem dX11_construct_12 : decode cX11_construct 12 = .ok (.ifCond .eq 6, 3) := by decide +kernel
theorem dX11_construct_15 : decode cX11_construct 15 = .ok (.bipush (-2), 2) := by decide +kernel
theorem dX11_construct_17 : decode cX11_construct 17 = .ok (.ireturn, 1) := by decide +kernel
theorem dX11_construct_18 : decode cX11_construct 18 = .ok (.aload_n 0, 1) := by decide +kernel
theorem dX11_construct_19 : decode cX11_construct 19 = .ok (.invokevirtual 76, 3) := by decide +kernel
theorem dX11_construct_22 : decode cX11_construct 22 = .ok (.aload_n 0, 1) := by decide +kernel
theorem dX11_construct_23 : decode cX11_construct 23 = .ok (.aload_n 0, 1) := by decide +kernel
theorem dX11_construct_24 : decode cX11_construct 24 = .ok (.getfield 105, 3) := by decide +kernel
theorem dX11_construct_27 : decode cX11_construct 27 = .ok (.invokevirtual 37, 3) := by decide +kernel
theorem dX11_construct_30 : decode cX11_construct 30 = .ok (.aload_n 0, 1) := by decide +kernel
theorem dX11_construct_31 : decode cX11_construct 31 = .ok (.invokevirtual 111, 3) := by decide +kernel
theorem dX11_construct_34 : decode cX11_construct 34 = .ok (.istore_n 1, 1) := by decide +kernel
theorem dX11_construct_35 : decode cX11_construct 35 = .ok (.iconst 0, 1) := by decide +kernel
theorem dX11_construct_36 : decode cX11_construct 36 = .ok (.istore_n 2, 1) := by decide +kernel
theorem dX11_construct_37 : decode cX11_construct 37 = .ok (.iload_n 2, 1) := by decide +kernel
theorem dX11_construct_38 : decode cX11_construct 38 = .ok (.aload_n 0, 1) := by decide +kernel
theorem dX11_construct_39 : decode cX11_construct 39 = .ok (.getfield 105, 3) := by decide +kernel
theorem dX11_construct_42 : decode cX11_construct 42 = .ok (.if_icmp .ge 21, 3) := by decide +kernel
theorem dX11_construct_45 : decode cX11_construct 45 = .ok (.aload_n 0, 1) := by decide +kernel
theorem dX11_construct_46 : decode cX11_construct 46 = .ok (.getfield 34, 3) := by decide +kernel
theorem dX11_construct_49 : decode cX11_construct 49 = .ok (.iload_n 2, 1) := by decide +kernel
theorem dX11_construct_50 : decode cX11_construct 50 = .ok (.aload_n 0, 1) := by decide +kernel
theorem dX11_construct_51 : decode cX11_construct 51 = .ok (.getfield 19, 3) := by decide +kernel
theorem dX11_construct_54 : decode cX11_construct 54 = .ok (.iload_n 2, 1) := by decide +kernel
theorem dX11_construct_55 : decode cX11_construct 55 = .ok (.iaload, 1) := by decide +kernel
theorem dX11_construct_56 : decode cX11_construct 56 = .ok (.iastore, 1) := by decide +kernel
theorem dX11_construct_57 : decode cX11_construct 57 = .ok (.iinc 2 1, 3) := by decide +kernel
theorem dX11_construct_60 : decode cX11_construct 60 = .ok (.goto (-23), 3) := by decide +kernel
theorem dX11_construct_63 : decode cX11_construct 63 = .ok (.iload_n 1, 1) := by decide +kernel
theorem dX11_construct_64 : decode cX11_construct 64 = .ok (.ifCond .eq 209, 3) := by decide +kernel
theorem dX11_construct_67 : decode cX11_construct 67 = .ok (.iconst (-1), 1) := by decide +kernel
theorem dX11_construct_68 : decode cX11_construct 68 = .ok (.istore_n 2, 1) := by decide +kernel
theorem dX11_construct_69 : decode cX11_construct 69 = .ok (.iconst 0, 1) := by decide +kernel
theorem dX11_construct_70 : decode cX11_construct 70 = .ok (.istore_n 3, 1) := by decide +kernel
theorem dX11_construct_71 : decode cX11_construct 71 = .ok (.iload_n 3, 1) := by decide +kernel
theorem dX11_construct_72 : decode cX11_construct 72 = .ok (.aload_n 0, 1) := by decide +kernel
theorem dX11_construct_73 : decode cX11_construct 73 = .ok (.getfield 105, 3) := by decide +kernel
theorem dX11_construct_76 : decode cX11_construct 76 = .ok (.if_icmp .ge 42, 3) := by decide +kernel
theorem dX11_construct_79 : decode cX11_construct 79 = .ok (.iload_n 1, 1) := by decide +kernel
theorem dX11_construct_80 : decode cX11_construct 80 = .ok (.iload_n 3, 1) := by decide +kernel
theorem dX11_construct_81 : decode cX11_construct 81 = .ok (.invokestatic 49, 3) := by decide +kernel
theorem dX11_construct_84 : decode cX11_construct 84 = .ok (.ifCond .eq 26, 3) := by decide +kernel
theorem dX11_construct_87 : decode cX11_construct 87 = .ok (.iload_n 2, 1) := by decide +kernel
theorem dX11_construct_88 : decode cX11_construct 88 = .ok (.ifCond .lt 18, 3) := by decide +kernel
theorem dX11_construct_91 : decode cX11_construct 91 = .ok (.aload_n 0, 1) := by decide +kernel
theorem dX11_construct_92 : decode cX11_construct 92 = .ok (.getfield 34, 3) := by decide +kernel
theorem dX11_construct_95 : decode cX11_construct 95 = .ok (.iload_n 3, 1) := by decide +kernel
theorem dX11_construct_96 : decode cX11_construct 96 = .ok (.iaload, 1) := by decide +kernel
theorem dX11_construct_97 : decode cX11_construct 97 = .ok (.aload_n 0, 1) := by decide +kernel
theorem dX11_construct_98 : decode cX11_construct 98 = .ok (.getfield 34, 3) := by decide +kernel
theorem dX11_construct_101 : decode cX11_construct 101 = .ok (.iload_n 2, 1) := by decide +kernel
theorem dX11_construct_102 : decode cX11_construct 102 = .ok (.iaload, 1) := by decide +kernel
theorem dX11_construct_103 : decode cX11_construct 103 = .ok (.if_icmp .lt 7, 3) := by decide +kernel
theorem dX11_construct_106 : decode cX11_construct 106 = .ok (.iload_n 3, 1) := by decide +kernel
theorem dX11_construct_107 : decode cX11_construct 107 = .ok (.goto 4, 3) := by decide +kernel
theorem dX11_construct_110 : decode cX11_construct 110 = .ok (.iload_n 2, 1) := by decide +kernel
theorem dX11_construct_111 : decode cX11_construct 111 = .ok (.istore_n 2, 1) := by decide +kernel
theorem dX11_construct_112 : decode cX11_construct 112 = .ok (.iinc 3 1, 3) := by decide +kernel
theorem dX11_construct_115 : decode cX11_construct 115 = .ok (.goto (-44), 3) := by decide +kernel
theorem dX11_construct_118 : decode cX11_construct 118 = .ok (.iload_n 1, 1) := by decide +kernel
theorem dX11_construct_119 : decode cX11_construct 119 = .ok (.iconst 1, 1) := by decide +kernel
theorem dX11_construct_120 : decode cX11_construct 120 = .ok (.iload_n 2, 1) := by decide +kernel
theorem dX11_construct_121 : decode cX11_construct 121 = .ok (.ishl, 1) := by decide +kernel
theorem dX11_construct_122 : decode cX11_construct 122 = .ok (.iconst (-1), 1) := by decide +kernel
theorem dX11_construct_123 : decode cX11_construct 123 = .ok (.ixor, 1) := by decide +kernel
theorem dX11_construct_124 : decode cX11_construct 124 = .ok (.iand, 1) := by decide +kernel
theorem dX11_construct_125 : decode cX11_construct 125 = .ok (.istore_n 1, 1) := by decide +kernel
theorem dX11_construct_126 : decode cX11_construct 126 = .ok (.iload_n 1, 1) := by decide +kernel
theorem dX11_construct_127 : decode cX11_construct 127 = .ok (.istore_n 3, 1) := by decide +kernel
theorem dX11_construct_128 : decode cX11_construct 128 = .ok (.iconst 0, 1) := by decide +kernel
theorem dX11_construct_129 : decode cX11_construct 129 = .ok (.istore 4, 2) := by decide +kernel
theorem dX11_construct_131 : decode cX11_construct 131 = .ok (.iload 4, 2) := by decide +kernel
theorem dX11_construct_133 : decode cX11_construct 133 = .ok (.aload_n 0, 1) := by decide +kernel
theorem dX11_construct_134 : decode cX11_construct 134 = .ok (.getfield 34, 3) := by decide +kernel
theorem dX11_construct_137 : decode cX11_construct 137 = .ok (.iload_n 2, 1) := by decide +kernel
theorem dX11_construct_138 : decode cX11_construct 138 = .ok (.iaload, 1) := by decide +kernel
theorem dX11_construct_139 : decode cX11_construct 139 = .ok (.if_icmp .ge 86, 3) := by decide +kernel
theorem dX11_construct_142 : decode cX11_construct 142 = .ok (.iconst (-1), 1) := by decide +kernel
theorem dX11_construct_143 : decode cX11_construct 143 = .ok (.istore 5, 2) := by decide +kernel
theorem dX11_construct_145 : decode cX11_construct 145 = .ok (.iconst 0, 1) := by decide +kernel
theorem dX11_construct_146 : decode cX11_construct 146 = .ok (.istore 6, 2) := by decide +kernel
theorem dX11_construct_148 : decode cX11_construct 148 = .ok (.iload 6, 2) := by decide +kernel
theorem dX11_construct_150 : decode cX11_construct 150 = .ok (.aload_n 0, 1) := by decide +kernel
theorem dX11_construct_151 : decode cX11_construct 151 = .ok (.getfield 105, 3) := by decide +kernel
theorem dX11_construct_154 : decode cX11_construct 154 = .ok (.if_icmp .ge 49, 3) := by decide +kernel
theorem dX11_construct_157 : decode cX11_construct 157 = .ok (.iload_n 3, 1) := by decide +kernel
theorem dX11_construct_158 : decode cX11_construct 158 = .ok (.iload 6, 2) := by decide +kernel
theorem dX11_construct_160 : decode cX11_construct 160 = .ok (.invokestatic 49, 3) := by decide +kernel
theorem dX11_construct_163 : decode cX11_construct 163 = .ok (.ifCond .eq 30, 3) := by decide +kernel
theorem dX11_construct_166 : decode cX11_construct 166 = .ok (.iload 5, 2) := by decide +kernel
theorem dX11_construct_168 : decode cX11_construct 168 = .ok (.ifCond .lt 20, 3) := by decide +kernel
theorem dX11_construct_171 : decode cX11_construct 171 = .ok (.aload_n 0, 1) := by decide +kernel
theorem dX11_construct_172 : decode cX11_construct 172 = .ok (.getfield 34, 3) := by decide +kernel
theorem dX11_construct_175 : decode cX11_construct 175 = .ok (.iload 6, 2) := by decide +kernel
theorem dX11_construct_177 : decode cX11_construct 177 = .ok (.iaload, 1) := by decide +kernel
theorem dX11_construct_178 : decode cX11_construct 178 = .ok (.aload_n 0, 1) := by decide +kernel
theorem dX11_construct_179 : decode cX11_construct 179 = .ok (.getfield 34, 3) := by decide +kernel
theorem dX11_construct_182 : decode cX11_construct 182 = .ok (.iload 5, 2) := by decide +kernel
theorem dX11_construct_184 : decode cX11_construct 184 = .ok (.iaload, 1) := by decide +kernel
theorem dX11_construct_185 : decode cX11_construct 185 = .ok (.if_icmp .ge 8, 3) := by decide +kernel
theorem dX11_construct_188 : decode cX11_construct 188 = .ok (.iload 6, 2) := by decide +kernel
theorem dX11_construct_190 : decode cX11_construct 190 = .ok (.goto 5, 3) := by decide +kernel
theorem dX11_construct_193 : decode cX11_construct 193 = .ok (.iload 5, 2) := by decide +kernel
theorem dX11_construct_195 : decode cX11_construct 195 = .ok (.istore 5, 2) := by decide +kernel
theorem dX11_construct_197 : decode cX11_construct 197 = .ok (.iinc 6 1, 3) := by decide +kernel
theorem dX11_construct_200 : decode cX11_construct 200 = .ok (.goto (-52), 3) := by decide +kernel
theorem dX11_construct_203 : decode cX11_construct 203 = .ok (.iload_n 3, 1) := by decide +kernel
theorem dX11_construct_204 : decode cX11_construct 204 = .ok (.iconst 1, 1) := by decide +kernel
theorem dX11_construct_205 : decode cX11_construct 205 = .ok (.iload 5, 2) := by decide +kernel
theorem dX11_construct_207 : decode cX11_construct 207 = .ok (.ishl, 1) := by decide +kernel
theorem dX11_construct_208 : decode cX11_construct 208 = .ok (.iconst (-1), 1) := by decide +kernel
theorem dX11_construct_209 : decode cX11_construct 209 = .ok (.ixor, 1) := by decide +kernel
theorem dX11_construct_210 : decode cX11_construct 210 = .ok (.iand, 1) := by decide +kernel
theorem dX11_construct_211 : decode cX11_construct 211 = .ok (.istore_n 3, 1) := by decide +kernel
theorem dX11_construct_212 : decode cX11_construct 212 = .ok (.aload_n 0, 1) := by decide +kernel
theorem dX11_construct_213 : decode cX11_construct 213 = .ok (.iload_n 2, 1) := by decide +kernel
theorem dX11_construct_214 : decode cX11_construct 214 = .ok (.iload 5, 2) := by decide +kernel
theorem dX11_construct_216 : decode cX11_construct 216 = .ok (.invokevirtual 72, 3) := by decide +kernel
theorem dX11_construct_219 : decode cX11_construct 219 = .ok (.iinc 4 1, 3) := by decide +kernel
theorem dX11_construct_222 : decode cX11_construct 222 = .ok (.goto (-91), 3) := by decide +kernel
theorem dX11_construct_225 : decode cX11_construct 225 = .ok (.iconst 0, 1) := by decide +kernel
theorem dX11_construct_226 : decode cX11_construct 226 = .ok (.istore 4, 2) := by decide +kernel
theorem dX11_construct_228 : decode cX11_construct 228 = .ok (.iload 4, 2) := by decide +kernel
theorem dX11_construct_230 : decode cX11_construct 230 = .ok (.aload_n 0, 1) := by decide +kernel
theorem dX11_construct_231 : decode cX11_construct 231 = .ok (.getfield 105, 3) := by decide +kernel
theorem dX11_construct_234 : decode cX11_construct 234 = .ok (.if_icmp .ge 36, 3) := by decide +kernel
theorem dX11_construct_237 : decode cX11_construct 237 = .ok (.iload_n 3, 1) := by decide +kernel
theorem dX11_construct_238 : decode cX11_construct 238 = .ok (.iload 4, 2) := by decide +kernel
theorem dX11_construct_240 : decode cX11_construct 240 = .ok (.invokestatic 49, 3) := by decide +kernel
theorem dX11_construct_243 : decode cX11_construct 243 = .ok (.ifCond .eq 21, 3) := by decide +kernel
theorem dX11_construct_246 : decode cX11_construct 246 = .ok (.aload_n 0, 1) := by decide +kernel
theorem dX11_construct_247 : decode cX11_construct 247 = .ok (.iload 4, 2) := by decide +kernel
theorem dX11_construct_249 : decode cX11_construct 249 = .ok (.iload_n 2, 1) := by decide +kernel
theorem dX11_construct_250 : decode cX11_construct 250 = .ok (.invokevirtual 72, 3) := by decide +kernel
theorem dX11_construct_253 : decode cX11_construct 253 = .ok (.aload_n 0, 1) := by decide +kernel
theorem dX11_construct_254 : decode cX11_construct 254 = .ok (.getfield 34, 3) := by decide +kernel
theorem dX11_construct_257 : decode cX11_construct 257 = .ok (.iload 4, 2) := by decide +kernel
theorem dX11_construct_259 : decode cX11_construct 259 = .ok (.dup2, 1) := by decide +kernel
theorem dX11_construct_260 : decode cX11_construct 260 = .ok (.iaload, 1) := by decide +kernel
theorem dX11_construct_261 : decode cX11_construct 261 = .ok (.iconst 1, 1) := by decide +kernel
theorem dX11_construct_262 : decode cX11_construct 262 = .ok (.isub, 1) := by decide +kernel
theorem dX11_construct_263 : decode cX11_construct 263 = .ok (.iastore, 1) := by decide +kernel
theorem dX11_construct_264 : decode cX11_construct 264 = .ok (.iinc 4 1, 3) := by decide +kernel
theorem dX11_construct_267 : decode cX11_construct 267 = .ok (.goto (-39), 3) := by decide +kernel
theorem dX11_construct_270 : decode cX11_construct 270 = .ok (.goto (-207), 3) := by decide +kernel
theorem dX11_construct_273 : decode cX11_construct 273 = .ok (.aload_n 0, 1) := by decide +kernel
theorem dX11_construct_274 : decode cX11_construct 274 = .ok (.getfield 105, 3) := by decide +kernel
theorem dX11_construct_277 : decode cX11_construct 277 = .ok (.ireturn, 1) := by decide +kernel
theorem dX11_faultOf_0 : decode cX11_faultOf 0 = .ok (.iconst 0, 1) := by decide +kernel
theorem dX11_faultOf_1 : decode cX11_faultOf 1 = .ok (.istore_n 1, 1) := by decide +kernel
theorem dX11_faultOf_2 : decode cX11_faultOf 2 = .ok (.iload_n 1, 1) := by decide +kernel
theorem dX11_faultOf_3 : decode cX11_faultOf 3 = .ok (.aload_n 0, 1) := by decide +kernel
theorem dX11_faultOf_4 : decode cX11_faultOf 4 = .ok (.getfield 114, 3) := by decide +kernel
theorem dX11_faultOf_7 : decode cX11_faultOf 7 = .ok (.if_icmp .ge 121, 3) := by decide +kernel
theorem dX11_faultOf_10 : decode cX11_faultOf 10 = .ok (.iload_n 1, 1) := by decide +kernel
theorem dX11_faultOf_11 : decode cX11_faultOf 11 = .ok (.iconst 4, 1) := by decide +kernel
theorem dX11_faultOf_12 : decode cX11_faultOf 12 = .ok (.iadd, 1) := by decide +kernel
theorem dX11_faultOf_13 : decode cX11_faultOf 13 = .ok (.aload_n 0, 1) := by decide +kernel
theorem dX11_faultOf_14 : decode cX11_faultOf 14 = .ok (.getfield 114, 3) := by decide +kernel
theorem dX11_faultOf_17 : decode cX11_faultOf 17 = .ok (.if_icmp .gt 97, 3) := by decide +kernel
theorem dX11_faultOf_20 : decode cX11_faultOf 20 = .ok (.aload_n 0, 1) := by decide +kernel
theorem dX11_faultOf_21 : decode cX11_faultOf 21 = .ok (.aload_n 0, 1) := by decide +kernel
theorem dX11_faultOf_22 : decode cX11_faultOf 22 = .ok (.getfield 22, 3) := by decide +kernel
theorem dX11_faultOf_25 : decode cX11_faultOf 25 = .ok (.iload_n 1, 1) := by decide +kernel
theorem dX11_faultOf_26 : decode cX11_faultOf 26 = .ok (.iaload, 1) := by decide +kernel
theorem dX11_faultOf_27 : decode cX11_faultOf 27 = .ok (.bipush 48, 2) := by decide +kernel
theorem dX11_faultOf_29 : decode cX11_faultOf 29 = .ok (.isub, 1) := by decide +kernel
theorem dX11_faultOf_30 : decode cX11_faultOf 30 = .ok (.invokevirtual 57, 3) := by decide +kernel
theorem dX11_faultOf_33 : decode cX11_faultOf 33 = .ok (.ifCond .eq 81, 3) := by decide +kernel
theorem dX11_faultOf_36 : decode cX11_faultOf 36 = .ok (.aload_n 0, 1) := by decide +kernel
theorem dX11_faultOf_37 : decode cX11_faultOf 37 = .ok (.getfield 22, 3) := by decide +kernel
theorem dX11_faultOf_40 : decode cX11_faultOf 40 = .ok (.iload_n 1, 1) := by decide +kernel
theorem dX11_faultOf_41 : decode cX11_faultOf 41 = .ok (.iconst 1, 1) := by decide +kernel
theorem dX11_faultOf_42 : decode cX11_faultOf 42 = .ok (.iadd, 1) := by decide +kernel
theorem dX11_faultOf_43 : decode cX11_faultOf 43 = .ok (.iaload, 1) := by decide +kernel
theorem dX11_faultOf_44 : decode cX11_faultOf 44 = .ok (.bipush 60, 2) := by decide +kernel
theorem dX11_faultOf_46 : decode cX11_faultOf 46 = .ok (.if_icmp .eq 16, 3) := by decide +kernel
theorem dX11_faultOf_49 : decode cX11_faultOf 49 = .ok (.aload_n 0, 1) := by decide +kernel
theorem dX11_faultOf_50 : decode cX11_faultOf 50 = .ok (.getfield 22, 3) := by decide +kernel
theorem dX11_faultOf_53 : decode cX11_faultOf 53 = .ok (.iload_n 1, 1) := by decide +kernel
theorem dX11_faultOf_54 : decode cX11_faultOf 54 = .ok (.iconst 1, 1) := by decide +kernel
theorem dX11_faultOf_55 : decode cX11_faultOf 55 = .ok (.iadd, 1) := by decide +kernel
theorem dX11_faultOf_56 : decode cX11_faultOf 56 = .ok (.iaload, 1) := by decide +kernel
theorem dX11_faultOf_57 : decode cX11_faultOf 57 = .ok (.bipush 62, 2) := by decide +kernel
theorem dX11_faultOf_59 : decode cX11_faultOf 59 = .ok (.if_icmp .ne 55, 3) := by decide +kernel
theorem dX11_faultOf_62 : decode cX11_faultOf 62 = .ok (.aload_n 0, 1) := by decide +kernel
theorem dX11_faultOf_63 : decode cX11_faultOf 63 = .ok (.aload_n 0, 1) := by decide +kernel
theorem dX11_faultOf_64 : decode cX11_faultOf 64 = .ok (.getfield 22, 3) := by decide +kernel
theorem dX11_faultOf_67 : decode cX11_faultOf 67 = .ok (.iload_n 1, 1) := by decide +kernel
theorem dX11_faultOf_68 : decode cX11_faultOf 68 = .ok (.iconst 2, 1) := by decide +kernel
theorem dX11_faultOf_69 : decode cX11_faultOf 69 = .ok (.iadd, 1) := by decide +kernel
theorem dX11_faultOf_70 : decode cX11_faultOf 70 = .ok (.iaload, 1) := by decide +kernel
theorem dX11_faultOf_71 : decode cX11_faultOf 71 = .ok (.bipush 48, 2) := by decide +kernel
theorem dX11_faultOf_73 : decode cX11_faultOf 73 = .ok (.isub, 1) := by decide +kernel
theorem dX11_faultOf_74 : decode cX11_faultOf 74 = .ok (.invokevirtual 57, 3) := by decide +kernel
theorem dX11_faultOf_77 : decode cX11_faultOf 77 = .ok (.ifCond .eq 37, 3) := by decide +kernel
theorem dX11_faultOf_80 : decode cX11_faultOf 80 = .ok (.aload_n 0, 1) := by decide +kernel
theorem dX11_faultOf_81 : decode cX11_faultOf 81 = .ok (.getfield 22, 3) := by decide +kernel
theorem dX11_faultOf_84 : decode cX11_faultOf 84 = .ok (.iload_n 1, 1) := by decide +kernel
theorem dX11_faultOf_85 : decode cX11_faultOf 85 = .ok (.iaload, 1) := by decide +kernel
theorem dX11_faultOf_86 : decode cX11_faultOf 86 = .ok (.aload_n 0, 1) := by decide +kernel
theorem dX11_faultOf_87 : decode cX11_faultOf 87 = .ok (.getfield 22, 3) := by decide +kernel
theorem dX11_faultOf_90 : decode cX11_faultOf 90 = .ok (.iload_n 1, 1) := by decide +kernel
theorem dX11_faultOf_91 : decode cX11_faultOf 91 = .ok (.iconst 2, 1) := by decide +kernel
theorem dX11_faultOf_92 : decode cX11_faultOf 92 = .ok (.iadd, 1) := by decide +kernel
theorem dX11_faultOf_93 : decode cX11_faultOf 93 = .ok (.iaload, 1) := by decide +kernel
theorem dX11_faultOf_94 : decode cX11_faultOf 94 = .ok (.if_icmp .eq 20, 3) := by decide +kernel
theorem dX11_faultOf_97 : decode cX11_faultOf 97 = .ok (.aload_n 0, 1) := by decide +kernel
theorem dX11_faultOf_98 : decode cX11_faultOf 98 = .ok (.getfield 22, 3) := by decide +kernel
theorem dX11_faultOf_101 : decode cX11_faultOf 101 = .ok (.iload_n 1, 1) := by decide +kernel
theorem dX11_faultOf_102 : decode cX11_faultOf 102 = .ok (.iconst 3, 1) := by decide +kernel
theorem dX11_faultOf_103 : decode cX11_faultOf 103 = .ok (.iadd, 1) := by decide +kernel
theorem dX11_faultOf_104 : decode cX11_faultOf 104 = .ok (.iaload, 1) := by decide +kernel
theorem dX11_faultOf_105 : decode cX11_faultOf 105 = .ok (.bipush 59, 2) := by decide +kernel
theorem dX11_faultOf_107 : decode cX11_faultOf 107 = .ok (.if_icmp .ne 7, 3) := by decide +kernel
theorem dX11_faultOf_110 : decode cX11_faultOf 110 = .ok (.iconst 1, 1) := by decide +kernel
theorem dX11_faultOf_111 : decode cX11_faultOf 111 = .ok (.goto 4, 3) := by decide +kernel
theorem dX11_faultOf_114 : decode cX11_faultOf 114 = .ok (.iconst 0, 1) := by decide +kernel
theorem dX11_faultOf_115 : decode cX11_faultOf 115 = .ok (.istore_n 2, 1) := by decide +kernel
theorem dX11_faultOf_116 : decode cX11_faultOf 116 = .ok (.iload_n 2, 1) := by decide +kernel
theorem dX11_faultOf_117 : decode cX11_faultOf 117 = .ok (.ifCond .ne 5, 3) := by decide +kernel
theorem dX11_faultOf_120 : decode cX11_faultOf 120 = .ok (.iload_n 1, 1) := by decide +kernel
theorem dX11_faultOf_121 : decode cX11_faultOf 121 = .ok (.ireturn, 1) := by decide +kernel
theorem dX11_faultOf_122 : decode cX11_faultOf 122 = .ok (.iinc 1 4, 3) := by decide +kernel
theorem dX11_faultOf_125 : decode cX11_faultOf 125 = .ok (.goto (-123), 3) := by decide +kernel
theorem dX11_faultOf_128 : decode cX11_faultOf 128 = .ok (.bipush (-4), 2) := by decide +kernel
theorem dX11_faultOf_130 : decode cX11_faultOf 130 = .ok (.ireturn, 1) := by decide +kernel
theorem dX11_enter_0 : decode cX11_enter 0 = .ok (.aload_n 0, 1) := by decide +kernel
theorem dX11_enter_1 : decode cX11_enter 1 = .ok (.invokevirtual 117, 3) := by decide +kernel
theorem dX11_enter_4 : decode cX11_enter 4 = .ok (.bipush (-4), 2) := by decide +kernel
theorem dX11_enter_6 : decode cX11_enter 6 = .ok (.if_icmp .eq 6, 3) := by decide +kernel
theorem dX11_enter_9 : decode cX11_enter 9 = .ok (.bipush (-2), 2) := by decide +kernel
theorem dX11_enter_11 : decode cX11_enter 11 = .ok (.ireturn, 1) := by decide +kernel
theorem dX11_enter_12 : decode cX11_enter 12 = .ok (.aload_n 0, 1) := by decide +kernel
theorem dX11_enter_13 : decode cX11_enter 13 = .ok (.invokevirtual 76, 3) := by decide +kernel
theorem dX11_enter_16 : decode cX11_enter 16 = .ok (.iconst 0, 1) := by decide +kernel
theorem dX11_enter_17 : decode cX11_enter 17 = .ok (.istore_n 1, 1) := by decide +kernel
theorem dX11_enter_18 : decode cX11_enter 18 = .ok (.iload_n 1, 1) := by decide +kernel
theorem dX11_enter_19 : decode cX11_enter 19 = .ok (.aload_n 0, 1) := by decide +kernel
theorem dX11_enter_20 : decode cX11_enter 20 = .ok (.getfield 114, 3) := by decide +kernel
theorem dX11_enter_23 : decode cX11_enter 23 = .ok (.if_icmp .ge 70, 3) := by decide +kernel
theorem dX11_enter_26 : decode cX11_enter 26 = .ok (.aload_n 0, 1) := by decide +kernel
theorem dX11_enter_27 : decode cX11_enter 27 = .ok (.getfield 22, 3) := by decide +kernel
theorem dX11_enter_30 : decode cX11_enter 30 = .ok (.iload_n 1, 1) := by decide +kernel
theorem dX11_enter_31 : decode cX11_enter 31 = .ok (.iconst 1, 1) := by decide +kernel
theorem dX11_enter_32 : decode cX11_enter 32 = .ok (.iadd, 1) := by decide +kernel
theorem dX11_enter_33 : decode cX11_enter 33 = .ok (.iaload, 1) := by decide +kernel
theorem dX11_enter_34 : decode cX11_enter 34 = .ok (.bipush 62, 2) := by decide +kernel
theorem dX11_enter_36 : decode cX11_enter 36 = .ok (.if_icmp .ne 7, 3) := by decide +kernel
theorem dX11_enter_39 : decode cX11_enter 39 = .ok (.iconst 1, 1) := by decide +kernel
theorem dX11_enter_40 : decode cX11_enter 40 = .ok (.goto 4, 3) := by decide +kernel
theorem dX11_enter_43 : decode cX11_enter 43 = .ok (.iconst 0, 1) := by decide +kernel
theorem dX11_enter_44 : decode cX11_enter 44 = .ok (.istore_n 2, 1) := by decide +kernel
theorem dX11_enter_45 : decode cX11_enter 45 = .ok (.aload_n 0, 1) := by decide +kernel
theorem dX11_enter_46 : decode cX11_enter 46 = .ok (.aload_n 0, 1) := by decide +kernel
theorem dX11_enter_47 : decode cX11_enter 47 = .ok (.getfield 22, 3) := by decide +kernel
theorem dX11_enter_50 : decode cX11_enter 50 = .ok (.iload_n 2, 1) := by decide +kernel
theorem dX11_enter_51 : decode cX11_enter 51 = .ok (.ifCond .eq 7, 3) := by decide +kernel
theorem dX11_enter_54 : decode cX11_enter 54 = .ok (.iload_n 1, 1) := by decide +kernel
theorem dX11_enter_55 : decode cX11_enter 55 = .ok (.goto 6, 3) := by decide +kernel
theorem dX11_enter_58 : decode cX11_enter 58 = .ok (.iload_n 1, 1) := by decide +kernel
theorem dX11_enter_59 : decode cX11_enter 59 = .ok (.iconst 2, 1) := by decide +kernel
theorem dX11_enter_60 : decode cX11_enter 60 = .ok (.iadd, 1) := by decide +kernel
theorem dX11_enter_61 : decode cX11_enter 61 = .ok (.iaload, 1) := by decide +kernel
theorem dX11_enter_62 : decode cX11_enter 62 = .ok (.bipush 48, 2) := by decide +kernel
theorem dX11_enter_64 : decode cX11_enter 64 = .ok (.isub, 1) := by decide +kernel
theorem dX11_enter_65 : decode cX11_enter 65 = .ok (.aload_n 0, 1) := by decide +kernel
theorem dX11_enter_66 : decode cX11_enter 66 = .ok (.getfield 22, 3) := by decide +kernel
theorem dX11_enter_69 : decode cX11_enter 69 = .ok (.iload_n 2, 1) := by decide +kernel
theorem dX11_enter_70 : decode cX11_enter 70 = .ok (.ifCond .eq 9, 3) := by decide +kernel
theorem dX11_enter_73 : decode cX11_enter 73 = .ok (.iload_n 1, 1) := by decide +kernel
theorem dX11_enter_74 : decode cX11_enter 74 = .ok (.iconst 2, 1) := by decide +kernel
theorem dX11_enter_75 : decode cX11_enter 75 = .ok (.iadd, 1) := by decide +kernel
theorem dX11_enter_76 : decode cX11_enter 76 = .ok (.goto 4, 3) := by decide +kernel
theorem dX11_enter_79 : decode cX11_enter 79 = .ok (.iload_n 1, 1) := by decide +kernel
theorem dX11_enter_80 : decode cX11_enter 80 = .ok (.iaload, 1) := by decide +kernel
theorem dX11_enter_81 : decode cX11_enter 81 = .ok (.bipush 48, 2) := by decide +kernel
theorem dX11_enter_83 : decode cX11_enter 83 = .ok (.isub, 1) := by decide +kernel
theorem dX11_enter_84 : decode cX11_enter 84 = .ok (.invokevirtual 72, 3) := by decide +kernel
theorem dX11_enter_87 : decode cX11_enter 87 = .ok (.iinc 1 4, 3) := by decide +kernel
theorem dX11_enter_90 : decode cX11_enter 90 = .ok (.goto (-72), 3) := by decide +kernel
theorem dX11_enter_93 : decode cX11_enter 93 = .ok (.aload_n 0, 1) := by decide +kernel
theorem dX11_enter_94 : decode cX11_enter 94 = .ok (.getfield 114, 3) := by decide +kernel
theorem dX11_enter_97 : decode cX11_enter 97 = .ok (.iconst 4, 1) := by decide +kernel
theorem dX11_enter_98 : decode cX11_enter 98 = .ok (.idiv, 1) := by decide +kernel
theorem dX11_enter_99 : decode cX11_enter 99 = .ok (.ireturn, 1) := by decide +kernel
theorem dX11_recall_0 : decode cX11_recall 0 = .ok (.aload_n 0, 1) := by decide +kernel
theorem dX11_recall_1 : decode cX11_recall 1 = .ok (.invokevirtual 76, 3) := by decide +kernel
theorem dX11_recall_4 : decode cX11_recall 4 = .ok (.aload_n 0, 1) := by decide +kernel
theorem dX11_recall_5 : decode cX11_recall 5 = .ok (.getfield 13, 3) := by decide +kernel
theorem dX11_recall_8 : decode cX11_recall 8 = .ok (.aload_n 0, 1) := by decide +kernel
theorem dX11_recall_9 : decode cX11_recall 9 = .ok (.getfield 7, 3) := by decide +kernel
theorem dX11_recall_12 : decode cX11_recall 12 = .ok (.invokestatic 41, 3) := by decide +kernel
theorem dX11_recall_15 : decode cX11_recall 15 = .ok (.aload_n 0, 1) := by decide +kernel
theorem dX11_recall_16 : decode cX11_recall 16 = .ok (.invokevirtual 92, 3) := by decide +kernel
theorem dX11_recall_19 : decode cX11_recall 19 = .ok (.ireturn, 1) := by decide +kernel
theorem dX11_undo_0 : decode cX11_undo 0 = .ok (.aload_n 0, 1) := by decide +kernel
theorem dX11_undo_1 : decode cX11_undo 1 = .ok (.getfield 65, 3) := by decide +kernel
theorem dX11_undo_4 : decode cX11_undo 4 = .ok (.ifCond .ne 6, 3) := by decide +kernel
theorem dX11_undo_7 : decode cX11_undo 7 = .ok (.bipush (-2), 2) := by decide +kernel
theorem dX11_undo_9 : decode cX11_undo 9 = .ok (.ireturn, 1) := by decide +kernel
theorem dX11_undo_10 : decode cX11_undo 10 = .ok (.aload_n 0, 1) := by decide +kernel
theorem dX11_undo_11 : decode cX11_undo 11 = .ok (.dup, 1) := by decide +kernel
theorem dX11_undo_12 : decode cX11_undo 12 = .ok (.getfield 65, 3) := by decide +kernel
theorem dX11_undo_15 : decode cX11_undo 15 = .ok (.iconst 1, 1) := by decide +kernel
theorem dX11_undo_16 : decode cX11_undo 16 = .ok (.isub, 1) := by decide +kernel
theorem dX11_undo_17 : decode cX11_undo 17 = .ok (.putfield 65, 3) := by decide +kernel
theorem dX11_undo_20 : decode cX11_undo 20 = .ok (.iconst 0, 1) := by decide +kernel
theorem dX11_undo_21 : decode cX11_undo 21 = .ok (.istore_n 1, 1) := by decide +kernel
theorem dX11_undo_22 : decode cX11_undo 22 = .ok (.iload_n 1, 1) := by decide +kernel
theorem dX11_undo_23 : decode cX11_undo 23 = .ok (.bipush 111, 2) := by decide +kernel
theorem dX11_undo_25 : decode cX11_undo 25 = .ok (.if_icmp .ge 29, 3) := by decide +kernel
theorem dX11_undo_28 : decode cX11_undo 28 = .ok (.aload_n 0, 1) := by decide +kernel
theorem dX11_undo_29 : decode cX11_undo 29 = .ok (.getfield 7, 3) := by decide +kernel
theorem dX11_undo_32 : decode cX11_undo 32 = .ok (.iload_n 1, 1) := by decide +kernel
theorem dX11_undo_33 : decode cX11_undo 33 = .ok (.aload_n 0, 1) := by decide +kernel
theorem dX11_undo_34 : decode cX11_undo 34 = .ok (.getfield 16, 3) := by decide +kernel
theorem dX11_undo_37 : decode cX11_undo 37 = .ok (.bipush 111, 2) := by decide +kernel
theorem dX11_undo_39 : decode cX11_undo 39 = .ok (.aload_n 0, 1) := by decide +kernel
theorem dX11_undo_40 : decode cX11_undo 40 = .ok (.getfield 65, 3) := by decide +kernel
theorem dX11_undo_43 : decode cX11_undo 43 = .ok (.imul, 1) := by decide +kernel
theorem dX11_undo_44 : decode cX11_undo 44 = .ok (.iload_n 1, 1) := by decide +kernel
theorem dX11_undo_45 : decode cX11_undo 45 = .ok (.iadd, 1) := by decide +kernel
theorem dX11_undo_46 : decode cX11_undo 46 = .ok (.iaload, 1) := by decide +kernel
theorem dX11_undo_47 : decode cX11_undo 47 = .ok (.iastore, 1) := by decide +kernel
theorem dX11_undo_48 : decode cX11_undo 48 = .ok (.iinc 1 1, 3) := by decide +kernel
theorem dX11_undo_51 : decode cX11_undo 51 = .ok (.goto (-29), 3) := by decide +kernel
theorem dX11_undo_54 : decode cX11_undo 54 = .ok (.aload_n 0, 1) := by decide +kernel
theorem dX11_undo_55 : decode cX11_undo 55 = .ok (.getfield 65, 3) := by decide +kernel
theorem dX11_undo_58 : decode cX11_undo 58 = .ok (.ireturn, 1) := by decide +kernel
theorem dX11_append_0 : decode cX11_append 0 = .ok (.iload_n 1, 1) := by decide +kernel
theorem dX11_append_1 : decode cX11_append 1 = .ok (.iconst 0, 1) := by decide +kernel
theorem dX11_append_2 : decode cX11_append 2 = .ok (.bipush 9, 2) := by decide +kernel
theorem dX11_append_4 : decode cX11_append 4 = .ok (.invokestatic 53, 3) := by decide +kernel
theorem dX11_append_7 : decode cX11_append 7 = .ok (.ifCond .ne 5, 3) := by decide +kernel
theorem dX11_append_10 : decode cX11_append 10 = .ok (.iconst (-1), 1) := by decide +kernel
theorem dX11_append_11 : decode cX11_append 11 = .ok (.ireturn, 1) := by decide +kernel
theorem dX11_append_12 : decode cX11_append 12 = .ok (.aload_n 0, 1) := by decide +kernel
theorem dX11_append_13 : decode cX11_append 13 = .ok (.getfield 105, 3) := by decide +kernel
theorem dX11_append_16 : decode cX11_append 16 = .ok (.bipush 10, 2) := by decide +kernel
theorem dX11_append_18 : decode cX11_append 18 = .ok (.if_icmp .ne 6, 3) := by decide +kernel
theorem dX11_append_21 : decode cX11_append 21 = .ok (.bipush (-3), 2) := by decide +kernel
theorem dX11_append_23 : decode cX11_append 23 = .ok (.ireturn, 1) := by decide +kernel
theorem dX11_append_24 : decode cX11_append 24 = .ok (.aload_n 0, 1) := by decide +kernel
theorem dX11_append_25 : decode cX11_append 25 = .ok (.getfield 19, 3) := by decide +kernel
theorem dX11_append_28 : decode cX11_append 28 = .ok (.aload_n 0, 1) := by decide +kernel
theorem dX11_append_29 : decode cX11_append 29 = .ok (.getfield 105, 3) := by decide +kernel
theorem dX11_append_32 : decode cX11_append 32 = .ok (.iload_n 1, 1) := by decide +kernel
theorem dX11_append_33 : decode cX11_append 33 = .ok (.iastore, 1) := by decide +kernel
theorem dX11_append_34 : decode cX11_append 34 = .ok (.aload_n 0, 1) := by decide +kernel
theorem dX11_append_35 : decode cX11_append 35 = .ok (.dup, 1) := by decide +kernel
theorem dX11_append_36 : decode cX11_append 36 = .ok (.getfield 105, 3) := by decide +kernel
theorem dX11_append_39 : decode cX11_append 39 = .ok (.iconst 1, 1) := by decide +kernel
theorem dX11_append_40 : decode cX11_append 40 = .ok (.iadd, 1) := by decide +kernel
theorem dX11_append_41 : decode cX11_append 41 = .ok (.putfield 105, 3) := by decide +kernel
theorem dX11_append_44 : decode cX11_append 44 = .ok (.aload_n 0, 1) := by decide +kernel
theorem dX11_append_45 : decode cX11_append 45 = .ok (.getfield 105, 3) := by decide +kernel
theorem dX11_append_48 : decode cX11_append 48 = .ok (.ireturn, 1) := by decide +kernel
theorem dX11_clearSequence_0 : decode cX11_clearSequence 0 = .ok (.aload_n 0, 1) := by decide +kernel
theorem dX11_clearSequence_1 : decode cX11_clearSequence 1 = .ok (.getfield 105, 3) := by decide +kernel
theorem dX11_clearSequence_4 : decode cX11_clearSequence 4 = .ok (.istore_n 1, 1) := by decide +kernel
theorem dX11_clearSequence_5 : decode cX11_clearSequence 5 = .ok (.aload_n 0, 1) := by decide +kernel
theorem dX11_clearSequence_6 : decode cX11_clearSequence 6 = .ok (.iconst 0, 1) := by decide +kernel
theorem dX11_clearSequence_7 : decode cX11_clearSequence 7 = .ok (.putfield 105, 3) := by decide +kernel
theorem dX11_clearSequence_10 : decode cX11_clearSequence 10 = .ok (.iload_n 1, 1) := by decide +kernel
theorem dX11_clearSequence_11 : decode cX11_clearSequence 11 = .ok (.ireturn, 1) := by decide +kernel
theorem dX11_checkSequence_0 : decode cX11_checkSequence 0 = .ok (.aload_n 0, 1) := by decide +kernel
theorem dX11_checkSequence_1 : decode cX11_checkSequence 1 = .ok (.getfield 105, 3) := by decide +kernel
theorem dX11_checkSequence_4 : decode cX11_checkSequence 4 = .ok (.iconst 2, 1) := by decide +kernel
theorem dX11_checkSequence_5 : decode cX11_checkSequence 5 = .ok (.if_icmp .ge 8, 3) := by decide +kernel
theorem dX11_checkSequence_8 : decode cX11_checkSequence 8 = .ok (.bipush (-2), 2) := by decide +kernel
theorem dX11_checkSequence_10 : decode cX11_checkSequence 10 = .ok (.goto 7, 3) := by decide +kernel
theorem dX11_checkSequence_13 : decode cX11_checkSequence 13 = .ok (.aload_n 0, 1) := by decide +kernel
theorem dX11_checkSequence_14 : decode cX11_checkSequence 14 = .ok (.invokevirtual 108, 3) := by decide +kernel
theorem dX11_checkSequence_17 : decode cX11_checkSequence 17 = .ok (.ireturn, 1) := by decide +kernel
theorem dX11_type_0 : decode cX11_type 0 = .ok (.iload_n 1, 1) := by decide +kernel
theorem dX11_type_1 : decode cX11_type 1 = .ok (.bipush 32, 2) := by decide +kernel
theorem dX11_type_3 : decode cX11_type 3 = .ok (.bipush 126, 2) := by decide +kernel
theorem dX11_type_5 : decode cX11_type 5 = .ok (.invokestatic 53, 3) := by decide +kernel
theorem dX11_type_8 : decode cX11_type 8 = .ok (.ifCond .ne 5, 3) := by decide +kernel
theorem dX11_type_11 : decode cX11_type 11 = .ok (.iconst (-1), 1) := by decide +kernel
theorem dX11_type_12 : decode cX11_type 12 = .ok (.ireturn, 1) := by decide +kernel
theorem dX11_type_13 : decode cX11_type 13 = .ok (.aload_n 0, 1) := by decide +kernel
theorem dX11_type_14 : decode cX11_type 14 = .ok (.getfield 114, 3) := by decide +kernel
theorem dX11_type_17 : decode cX11_type 17 = .ok (.bipush 120, 2) := by decide +kernel
theorem dX11_type_19 : decode cX11_type 19 = .ok (.if_icmp .ne 6, 3) := by decide +kernel
theorem dX11_type_22 : decode cX11_type 22 = .ok (.bipush (-3), 2) := by decide +kernel
theorem dX11_type_24 : decode cX11_type 24 = .ok (.ireturn, 1) := by decide +kernel
theorem dX11_type_25 : decode cX11_type 25 = .ok (.aload_n 0, 1) := by decide +kernel
theorem dX11_type_26 : decode cX11_type 26 = .ok (.getfield 22, 3) := by decide +kernel
theorem dX11_type_29 : decode cX11_type 29 = .ok (.aload_n 0, 1) := by decide +kernel
theorem dX11_type_30 : decode cX11_type 30 = .ok (.getfield 114, 3) := by decide +kernel
theorem dX11_type_33 : decode cX11_type 33 = .ok (.iload_n 1, 1) := by decide +kernel
theorem dX11_type_34 : decode cX11_type 34 = .ok (.iastore, 1) := by decide +kernel
theorem dX11_type_35 : decode cX11_type 35 = .ok (.aload_n 0, 1) := by decide +kernel
theorem dX11_type_36 : decode cX11_type 36 = .ok (.dup, 1) := by decide +kernel
theorem dX11_type_37 : decode cX11_type 37 = .ok (.getfield 114, 3) := by decide +kernel
theorem dX11_type_40 : decode cX11_type 40 = .ok (.iconst 1, 1) := by decide +kernel
theorem dX11_type_41 : decode cX11_type 41 = .ok (.iadd, 1) := by decide +kernel
theorem dX11_type_42 : decode cX11_type 42 = .ok (.putfield 114, 3) := by decide +kernel
theorem dX11_type_45 : decode cX11_type 45 = .ok (.aload_n 0, 1) := by decide +kernel
theorem dX11_type_46 : decode cX11_type 46 = .ok (.getfield 114, 3) := by decide +kernel
theorem dX11_type_49 : decode cX11_type 49 = .ok (.ireturn, 1) := by decide +kernel
theorem dX11_clearText_0 : decode cX11_clearText 0 = .ok (.aload_n 0, 1) := by decide +kernel
theorem dX11_clearText_1 : decode cX11_clearText 1 = .ok (.getfield 114, 3) := by decide +kernel
theorem dX11_clearText_4 : decode cX11_clearText 4 = .ok (.istore_n 1, 1) := by decide +kernel
theorem dX11_clearText_5 : decode cX11_clearText 5 = .ok (.aload_n 0, 1) := by decide +kernel
theorem dX11_clearText_6 : decode cX11_clearText 6 = .ok (.iconst 0, 1) := by decide +kernel
theorem dX11_clearText_7 : decode cX11_clearText 7 = .ok (.putfield 114, 3) := by decide +kernel
theorem dX11_clearText_10 : decode cX11_clearText 10 = .ok (.iload_n 1, 1) := by decide +kernel
theorem dX11_clearText_11 : decode cX11_clearText 11 = .ok (.ireturn, 1) := by decide +kernel
theorem dX11_fault_0 : decode cX11_fault 0 = .ok (.aload_n 0, 1) := by decide +kernel
theorem dX11_fault_1 : decode cX11_fault 1 = .ok (.invokevirtual 117, 3) := by decide +kernel
theorem dX11_fault_4 : decode cX11_fault 4 = .ok (.ireturn, 1) := by decide +kernel
theorem dX11_players_0 : decode cX11_players 0 = .ok (.aload_n 0, 1) := by decide +kernel
theorem dX11_players_1 : decode cX11_players 1 = .ok (.invokevirtual 92, 3) := by decide +kernel
theorem dX11_players_4 : decode cX11_players 4 = .ok (.ireturn, 1) := by decide +kernel
theorem dX11_beats_0 : decode cX11_beats 0 = .ok (.aload_n 0, 1) := by decide +kernel
theorem dX11_beats_1 : decode cX11_beats 1 = .ok (.iload_n 1, 1) := by decide +kernel
theorem dX11_beats_2 : decode cX11_beats 2 = .ok (.invokevirtual 57, 3) := by decide +kernel
theorem dX11_beats_5 : decode cX11_beats 5 = .ok (.ifCond .eq 11, 3) := by decide +kernel
theorem dX11_beats_8 : decode cX11_beats 8 = .ok (.aload_n 0, 1) := by decide +kernel
theorem dX11_beats_9 : decode cX11_beats 9 = .ok (.iload_n 2, 1) := by decide +kernel
theorem dX11_beats_10 : decode cX11_beats 10 = .ok (.invokevirtual 57, 3) := by decide +kernel
theorem dX11_beats_13 : decode cX11_beats 13 = .ok (.ifCond .ne 7, 3) := by decide +kernel
theorem dX11_beats_16 : decode cX11_beats 16 = .ok (.iconst (-1), 1) := by decide +kernel
theorem dX11_beats_17 : decode cX11_beats 17 = .ok (.goto 17, 3) := by decide +kernel
theorem dX11_beats_20 : decode cX11_beats 20 = .ok (.aload_n 0, 1) := by decide +kernel
theorem dX11_beats_21 : decode cX11_beats 21 = .ok (.iload_n 1, 1) := by decide +kernel
theorem dX11_beats_22 : decode cX11_beats 22 = .ok (.iload_n 2, 1) := by decide +kernel
theorem dX11_beats_23 : decode cX11_beats 23 = .ok (.invokevirtual 69, 3) := by decide +kernel
theorem dX11_beats_26 : decode cX11_beats 26 = .ok (.ifCond .eq 7, 3) := by decide +kernel
theorem dX11_beats_29 : decode cX11_beats 29 = .ok (.iconst 1, 1) := by decide +kernel
theorem dX11_beats_30 : decode cX11_beats 30 = .ok (.goto 4, 3) := by decide +kernel
theorem dX11_beats_33 : decode cX11_beats 33 = .ok (.iconst 0, 1) := by decide +kernel
theorem dX11_beats_34 : decode cX11_beats 34 = .ok (.ireturn, 1) := by decide +kernel
theorem dX11_weight_0 : decode cX11_weight 0 = .ok (.aload_n 0, 1) := by decide +kernel
theorem dX11_weight_1 : decode cX11_weight 1 = .ok (.iload_n 1, 1) := by decide +kernel
theorem dX11_weight_2 : decode cX11_weight 2 = .ok (.iload_n 2, 1) := by decide +kernel
theorem dX11_weight_3 : decode cX11_weight 3 = .ok (.invokevirtual 79, 3) := by decide +kernel
theorem dX11_weight_6 : decode cX11_weight 6 = .ok (.ifCond .eq 16, 3) := by decide +kernel
theorem dX11_weight_9 : decode cX11_weight 9 = .ok (.aload_n 0, 1) := by decide +kernel
theorem dX11_weight_10 : decode cX11_weight 10 = .ok (.getfield 7, 3) := by decide +kernel
theorem dX11_weight_13 : decode cX11_weight 13 = .ok (.iload_n 1, 1) := by decide +kernel
theorem dX11_weight_14 : decode cX11_weight 14 = .ok (.iload_n 2, 1) := by decide +kernel
theorem dX11_weight_15 : decode cX11_weight 15 = .ok (.invokestatic 61, 3) := by decide +kernel
theorem dX11_weight_18 : decode cX11_weight 18 = .ok (.iaload, 1) := by decide +kernel
theorem dX11_weight_19 : decode cX11_weight 19 = .ok (.goto 4, 3) := by decide +kernel
theorem dX11_weight_22 : decode cX11_weight 22 = .ok (.iconst (-1), 1) := by decide +kernel
theorem dX11_weight_23 : decode cX11_weight 23 = .ok (.ireturn, 1) := by decide +kernel
theorem dX11_score_0 : decode cX11_score 0 = .ok (.aload_n 0, 1) := by decide +kernel
theorem dX11_score_1 : decode cX11_score 1 = .ok (.iload_n 1, 1) := by decide +kernel
theorem dX11_score_2 : decode cX11_score 2 = .ok (.invokevirtual 57, 3) := by decide +kernel
theorem dX11_score_5 : decode cX11_score 5 = .ok (.ifCond .eq 14, 3) := by decide +kernel
theorem dX11_score_8 : decode cX11_score 8 = .ok (.aload_n 0, 1) := by decide +kernel
theorem dX11_score_9 : decode cX11_score 9 = .ok (.iload_n 1, 1) := by decide +kernel
theorem dX11_score_10 : decode cX11_score 10 = .ok (.invokevirtual 45, 3) := by decide +kernel
theorem dX11_score_13 : decode cX11_score 13 = .ok (.invokestatic 98, 3) := by decide +kernel
theorem dX11_score_16 : decode cX11_score 16 = .ok (.goto 4, 3) := by decide +kernel
theorem dX11_score_19 : decode cX11_score 19 = .ok (.iconst (-1), 1) := by decide +kernel
theorem dX11_score_20 : decode cX11_score 20 = .ok (.ireturn, 1) := by decide +kernel
theorem dX11_scoreAt_0 : decode cX11_scoreAt 0 = .ok (.aload_n 0, 1) := by decide +kernel
theorem dX11_scoreAt_1 : decode cX11_scoreAt 1 = .ok (.iload_n 1, 1) := by decide +kernel
theorem dX11_scoreAt_2 : decode cX11_scoreAt 2 = .ok (.invokevirtual 57, 3) := by decide +kernel
theorem dX11_scoreAt_5 : decode cX11_scoreAt 5 = .ok (.ifCond .ne 5, 3) := by decide +kernel
theorem dX11_scoreAt_8 : decode cX11_scoreAt 8 = .ok (.iconst (-1), 1) := by decide +kernel
theorem dX11_scoreAt_9 : decode cX11_scoreAt 9 = .ok (.ireturn, 1) := by decide +kernel
theorem dX11_scoreAt_10 : decode cX11_scoreAt 10 = .ok (.iconst 0, 1) := by decide +kernel
theorem dX11_scoreAt_11 : decode cX11_scoreAt 11 = .ok (.istore_n 2, 1) := by decide +kernel
theorem dX11_scoreAt_12 : decode cX11_scoreAt 12 = .ok (.iconst 0, 1) := by decide +kernel
theorem dX11_scoreAt_13 : decode cX11_scoreAt 13 = .ok (.istore_n 3, 1) := by decide +kernel
theorem dX11_scoreAt_14 : decode cX11_scoreAt 14 = .ok (.iload_n 3, 1) := by decide +kernel
theorem dX11_scoreAt_15 : decode cX11_scoreAt 15 = .ok (.aload_n 0, 1) := by decide +kernel
theorem dX11_scoreAt_16 : decode cX11_scoreAt 16 = .ok (.invokevirtual 92, 3) := by decide +kernel
theorem dX11_scoreAt_19 : decode cX11_scoreAt 19 = .ok (.if_icmp .ge 95, 3) := by decide +kernel
theorem dX11_scoreAt_22 : decode cX11_scoreAt 22 = .ok (.iconst 0, 1) := by decide +kernel
theorem dX11_scoreAt_23 : decode cX11_scoreAt 23 = .ok (.istore 4, 2) := by decide +kernel
theorem dX11_scoreAt_25 : decode cX11_scoreAt 25 = .ok (.iconst 0, 1) := by decide +kernel
theorem dX11_scoreAt_26 : decode cX11_scoreAt 26 = .ok (.istore 5, 2) := by decide +kernel
theorem dX11_scoreAt_28 : decode cX11_scoreAt 28 = .ok (.iload 5, 2) := by decide +kernel
theorem dX11_scoreAt_30 : decode cX11_scoreAt 30 = .ok (.aload_n 0, 1) := by decide +kernel
theorem dX11_scoreAt_31 : decode cX11_scoreAt 31 = .ok (.invokevirtual 92, 3) := by decide +kernel
theorem dX11_scoreAt_34 : decode cX11_scoreAt 34 = .ok (.if_icmp .ge 55, 3) := by decide +kernel
theorem dX11_scoreAt_37 : decode cX11_scoreAt 37 = .ok (.aload_n 0, 1) := by decide +kernel
theorem dX11_scoreAt_38 : decode cX11_scoreAt 38 = .ok (.iload_n 3, 1) := by decide +kernel
theorem dX11_scoreAt_39 : decode cX11_scoreAt 39 = .ok (.invokevirtual 45, 3) := by decide +kernel
theorem dX11_scoreAt_42 : decode cX11_scoreAt 42 = .ok (.invokestatic 98, 3) := by decide +kernel
theorem dX11_scoreAt_45 : decode cX11_scoreAt 45 = .ok (.aload_n 0, 1) := by decide +kernel
theorem dX11_scoreAt_46 : decode cX11_scoreAt 46 = .ok (.iload 5, 2) := by decide +kernel
theorem dX11_scoreAt_48 : decode cX11_scoreAt 48 = .ok (.invokevirtual 45, 3) := by decide +kernel
theorem dX11_scoreAt_51 : decode cX11_scoreAt 51 = .ok (.invokestatic 98, 3) := by decide +kernel
theorem dX11_scoreAt_54 : decode cX11_scoreAt 54 = .ok (.isub, 1) := by decide +kernel
theorem dX11_scoreAt_55 : decode cX11_scoreAt 55 = .ok (.istore 6, 2) := by decide +kernel
theorem dX11_scoreAt_57 : decode cX11_scoreAt 57 = .ok (.iload 4, 2) := by decide +kernel
theorem dX11_scoreAt_59 : decode cX11_scoreAt 59 = .ok (.iload 6, 2) := by decide +kernel
theorem dX11_scoreAt_61 : decode cX11_scoreAt 61 = .ok (.ifCond .gt 14, 3) := by decide +kernel
theorem dX11_scoreAt_64 : decode cX11_scoreAt 64 = .ok (.iload 6, 2) := by decide +kernel
theorem dX11_scoreAt_66 : decode cX11_scoreAt 66 = .ok (.ifCond .ne 13, 3) := by decide +kernel
theorem dX11_scoreAt_69 : decode cX11_scoreAt 69 = .ok (.iload 5, 2) := by decide +kernel
theorem dX11_scoreAt_71 : decode cX11_scoreAt 71 = .ok (.iload_n 3, 1) := by decide +kernel
theorem dX11_scoreAt_72 : decode cX11_scoreAt 72 = .ok (.if_icmp .ge 7, 3) := by decide +kernel
theorem dX11_scoreAt_75 : decode cX11_scoreAt 75 = .ok (.iconst 1, 1) := by decide +kernel
theorem dX11_scoreAt_76 : decode cX11_scoreAt 76 = .ok (.goto 4, 3) := by decide +kernel
theorem dX11_scoreAt_79 : decode cX11_scoreAt 79 = .ok (.iconst 0, 1) := by decide +kernel
theorem dX11_scoreAt_80 : decode cX11_scoreAt 80 = .ok (.iadd, 1) := by decide +kernel
theorem dX11_scoreAt_81 : decode cX11_scoreAt 81 = .ok (.istore 4, 2) := by decide +kernel
theorem dX11_scoreAt_83 : decode cX11_scoreAt 83 = .ok (.iinc 5 1, 3) := by decide +kernel
theorem dX11_scoreAt_86 : decode cX11_scoreAt 86 = .ok (.goto (-58), 3) := by decide +kernel
theorem dX11_scoreAt_89 : decode cX11_scoreAt 89 = .ok (.iload 4, 2) := by decide +kernel
theorem dX11_scoreAt_91 : decode cX11_scoreAt 91 = .ok (.iload_n 1, 1) := by decide +kernel
theorem dX11_scoreAt_92 : decode cX11_scoreAt 92 = .ok (.if_icmp .ne 14, 3) := by decide +kernel
theorem dX11_scoreAt_95 : decode cX11_scoreAt 95 = .ok (.aload_n 0, 1) := by decide +kernel
theorem dX11_scoreAt_96 : decode cX11_scoreAt 96 = .ok (.iload_n 3, 1) := by decide +kernel
theorem dX11_scoreAt_97 : decode cX11_scoreAt 97 = .ok (.invokevirtual 45, 3) := by decide +kernel
theorem dX11_scoreAt_100 : decode cX11_scoreAt 100 = .ok (.invokestatic 98, 3) := by decide +kernel
theorem dX11_scoreAt_103 : decode cX11_scoreAt 103 = .ok (.goto 4, 3) := by decide +kernel
theorem dX11_scoreAt_106 : decode cX11_scoreAt 106 = .ok (.iload_n 2, 1) := by decide +kernel
theorem dX11_scoreAt_107 : decode cX11_scoreAt 107 = .ok (.istore_n 2, 1) := by decide +kernel
theorem dX11_scoreAt_108 : decode cX11_scoreAt 108 = .ok (.iinc 3 1, 3) := by decide +kernel
theorem dX11_scoreAt_111 : decode cX11_scoreAt 111 = .ok (.goto (-97), 3) := by decide +kernel
theorem dX11_scoreAt_114 : decode cX11_scoreAt 114 = .ok (.iload_n 2, 1) := by decide +kernel
theorem dX11_scoreAt_115 : decode cX11_scoreAt 115 = .ok (.ireturn, 1) := by decide +kernel
theorem dX11_triangles_0 : decode cX11_triangles 0 = .ok (.iconst 0, 1) := by decide +kernel
theorem dX11_triangles_1 : decode cX11_triangles 1 = .ok (.istore_n 1, 1) := by decide +kernel
theorem dX11_triangles_2 : decode cX11_triangles 2 = .ok (.iconst 0, 1) := by decide +kernel
theorem dX11_triangles_3 : decode cX11_triangles 3 = .ok (.istore_n 2, 1) := by decide +kernel
theorem dX11_triangles_4 : decode cX11_triangles 4 = .ok (.iload_n 2, 1) := by decide +kernel
theorem dX11_triangles_5 : decode cX11_triangles 5 = .ok (.aload_n 0, 1) := by decide +kernel
theorem dX11_triangles_6 : decode cX11_triangles 6 = .ok (.invokevirtual 92, 3) := by decide +kernel
theorem dX11_triangles_9 : decode cX11_triangles 9 = .ok (.if_icmp .ge 66, 3) := by decide +kernel
theorem dX11_triangles_12 : decode cX11_triangles 12 = .ok (.iload_n 2, 1) := by decide +kernel
theorem dX11_triangles_13 : decode cX11_triangles 13 = .ok (.iconst 1, 1) := by decide +kernel
theorem dX11_triangles_14 : decode cX11_triangles 14 = .ok (.iadd, 1) := by decide +kernel
theorem dX11_triangles_15 : decode cX11_triangles 15 = .ok (.istore_n 3, 1) := by decide +kernel
theorem dX11_triangles_16 : decode cX11_triangles 16 = .ok (.iload_n 3, 1) := by decide +kernel
theorem dX11_triangles_17 : decode cX11_triangles 17 = .ok (.aload_n 0, 1) := by decide +kernel
theorem dX11_triangles_18 : decode cX11_triangles 18 = .ok (.invokevirtual 92, 3) := by decide +kernel
theorem dX11_triangles_21 : decode cX11_triangles 21 = .ok (.if_icmp .ge 48, 3) := by decide +kernel
theorem dX11_triangles_24 : decode cX11_triangles 24 = .ok (.iload_n 3, 1) := by decide +kernel
theorem dX11_triangles_25 : decode cX11_triangles 25 = .ok (.iconst 1, 1) := by decide +kernel
theorem dX11_triangles_26 : decode cX11_triangles 26 = .ok (.iadd, 1) := by decide +kernel
theorem dX11_triangles_27 : decode cX11_triangles 27 = .ok (.istore 4, 2) := by decide +kernel
theorem dX11_triangles_29 : decode cX11_triangles 29 = .ok (.iload 4, 2) := by decide +kernel
theorem dX11_triangles_31 : decode cX11_triangles 31 = .ok (.aload_n 0, 1) := by decide +kernel
theorem dX11_triangles_32 : decode cX11_triangles 32 = .ok (.invokevirtual 92, 3) := by decide +kernel
theorem dX11_triangles_35 : decode cX11_triangles 35 = .ok (.if_icmp .ge 28, 3) := by decide +kernel
theorem dX11_triangles_38 : decode cX11_triangles 38 = .ok (.iload_n 1, 1) := by decide +kernel
theorem dX11_triangles_39 : decode cX11_triangles 39 = .ok (.aload_n 0, 1) := by decide +kernel
theorem dX11_triangles_40 : decode cX11_triangles 40 = .ok (.iload_n 2, 1) := by decide +kernel
theorem dX11_triangles_41 : decode cX11_triangles 41 = .ok (.iload_n 3, 1) := by decide +kernel
theorem dX11_triangles_42 : decode cX11_triangles 42 = .ok (.iload 4, 2) := by decide +kernel
theorem dX11_triangles_44 : decode cX11_triangles 44 = .ok (.invokevirtual 82, 3) := by decide +kernel
theorem dX11_triangles_47 : decode cX11_triangles 47 = .ok (.ifCond .eq 7, 3) := by decide +kernel
theorem dX11_triangles_50 : decode cX11_triangles 50 = .ok (.iconst 1, 1) := by decide +kernel
theorem dX11_triangles_51 : decode cX11_triangles 51 = .ok (.goto 4, 3) := by decide +kernel
theorem dX11_triangles_54 : decode cX11_triangles 54 = .ok (.iconst 0, 1) := by decide +kernel
theorem dX11_triangles_55 : decode cX11_triangles 55 = .ok (.iadd, 1) := by decide +kernel
theorem dX11_triangles_56 : decode cX11_triangles 56 = .ok (.istore_n 1, 1) := by decide +kernel
theorem dX11_triangles_57 : decode cX11_triangles 57 = .ok (.iinc 4 1, 3) := by decide +kernel
theorem dX11_triangles_60 : decode cX11_triangles 60 = .ok (.goto (-31), 3) := by decide +kernel
theorem dX11_triangles_63 : decode cX11_triangles 63 = .ok (.iinc 3 1, 3) := by decide +kernel
theorem dX11_triangles_66 : decode cX11_triangles 66 = .ok (.goto (-50), 3) := by decide +kernel
theorem dX11_triangles_69 : decode cX11_triangles 69 = .ok (.iinc 2 1, 3) := by decide +kernel
theorem dX11_triangles_72 : decode cX11_triangles 72 = .ok (.goto (-68), 3) := by decide +kernel
theorem dX11_triangles_75 : decode cX11_triangles 75 = .ok (.iload_n 1, 1) := by decide +kernel
theorem dX11_triangles_76 : decode cX11_triangles 76 = .ok (.ireturn, 1) := by decide +kernel
theorem dX11_distance_0 : decode cX11_distance 0 = .ok (.aload_n 0, 1) := by decide +kernel
theorem dX11_distance_1 : decode cX11_distance 1 = .ok (.iload_n 1, 1) := by decide +kernel
theorem dX11_distance_2 : decode cX11_distance 2 = .ok (.invokevirtual 57, 3) := by decide +kernel
theorem dX11_distance_5 : decode cX11_distance 5 = .ok (.ifCond .eq 11, 3) := by decide +kernel
theorem dX11_distance_8 : decode cX11_distance 8 = .ok (.aload_n 0, 1) := by decide +kernel
theorem dX11_distance_9 : decode cX11_distance 9 = .ok (.iload_n 2, 1) := by decide +kernel
theorem dX11_distance_10 : decode cX11_distance 10 = .ok (.invokevirtual 57, 3) := by decide +kernel
theorem dX11_distance_13 : decode cX11_distance 13 = .ok (.ifCond .ne 5, 3) := by decide +kernel
theorem dX11_distance_16 : decode cX11_distance 16 = .ok (.iconst (-1), 1) := by decide +kernel
theorem dX11_distance_17 : decode cX11_distance 17 = .ok (.ireturn, 1) := by decide +kernel
theorem dX11_distance_18 : decode cX11_distance 18 = .ok (.aload_n 0, 1) := by decide +kernel
theorem dX11_distance_19 : decode cX11_distance 19 = .ok (.iload_n 2, 1) := by decide +kernel
theorem dX11_distance_20 : decode cX11_distance 20 = .ok (.invokevirtual 95, 3) := by decide +kernel
theorem dX11_distance_23 : decode cX11_distance 23 = .ok (.aload_n 0, 1) := by decide +kernel
theorem dX11_distance_24 : decode cX11_distance 24 = .ok (.getfield 34, 3) := by decide +kernel
theorem dX11_distance_27 : decode cX11_distance 27 = .ok (.iload_n 1, 1) := by decide +kernel
theorem dX11_distance_28 : decode cX11_distance 28 = .ok (.iaload, 1) := by decide +kernel
theorem dX11_distance_29 : decode cX11_distance 29 = .ok (.ireturn, 1) := by decide +kernel
theorem dX11_reaches_0 : decode cX11_reaches 0 = .ok (.iconst 0, 1) := by decide +kernel
theorem dX11_reaches_1 : decode cX11_reaches 1 = .ok (.istore_n 1, 1) := by decide +kernel
theorem dX11_reaches_2 : decode cX11_reaches 2 = .ok (.iload_n 1, 1) := by decide +kernel
theorem dX11_reaches_3 : decode cX11_reaches 3 = .ok (.aload_n 0, 1) := by decide +kernel
theorem dX11_reaches_4 : decode cX11_reaches 4 = .ok (.invokevirtual 92, 3) := by decide +kernel
theorem dX11_reaches_7 : decode cX11_reaches 7 = .ok (.if_icmp .ge 18, 3) := by decide +kernel
theorem dX11_reaches_10 : decode cX11_reaches 10 = .ok (.aload_n 0, 1) := by decide +kernel
theorem dX11_reaches_11 : decode cX11_reaches 11 = .ok (.getfield 31, 3) := by decide +kernel
theorem dX11_reaches_14 : decode cX11_reaches 14 = .ok (.iload_n 1, 1) := by decide +kernel
theorem dX11_reaches_15 : decode cX11_reaches 15 = .ok (.iconst 1, 1) := by decide +kernel
theorem dX11_reaches_16 : decode cX11_reaches 16 = .ok (.iload_n 1, 1) := by decide +kernel
theorem dX11_reaches_17 : decode cX11_reaches 17 = .ok (.ishl, 1) := by decide +kernel
theorem dX11_reaches_18 : decode cX11_reaches 18 = .ok (.iastore, 1) := by decide +kernel
theorem dX11_reaches_19 : decode cX11_reaches 19 = .ok (.iinc 1 1, 3) := by decide +kernel
theorem dX11_reaches_22 : decode cX11_reaches 22 = .ok (.goto (-20), 3) := by decide +kernel
theorem dX11_reaches_25 : decode cX11_reaches 25 = .ok (.iconst 1, 1) := by decide +kernel
theorem dX11_reaches_26 : decode cX11_reaches 26 = .ok (.istore_n 1, 1) := by decide +kernel
theorem dX11_reaches_27 : decode cX11_reaches 27 = .ok (.iload_n 1, 1) := by decide +kernel
theorem dX11_reaches_28 : decode cX11_reaches 28 = .ok (.aload_n 0, 1) := by decide +kernel
theorem dX11_reaches_29 : decode cX11_reaches 29 = .ok (.invokevirtual 92, 3) := by decide +kernel
theorem dX11_reaches_32 : decode cX11_reaches 32 = .ok (.if_icmp .ge 72, 3) := by decide +kernel
theorem dX11_reaches_35 : decode cX11_reaches 35 = .ok (.iconst 0, 1) := by decide +kernel
theorem dX11_reaches_36 : decode cX11_reaches 36 = .ok (.istore_n 2, 1) := by decide +kernel
theorem dX11_reaches_37 : decode cX11_reaches 37 = .ok (.iload_n 2, 1) := by decide +kernel
theorem dX11_reaches_38 : decode cX11_reaches 38 = .ok (.aload_n 0, 1) := by decide +kernel
theorem dX11_reaches_39 : decode cX11_reaches 39 = .ok (.invokevirtual 92, 3) := by decide +kernel
theorem dX11_reaches_42 : decode cX11_reaches 42 = .ok (.if_icmp .ge 56, 3) := by decide +kernel
theorem dX11_reaches_45 : decode cX11_reaches 45 = .ok (.iconst 0, 1) := by decide +kernel
theorem dX11_reaches_46 : decode cX11_reaches 46 = .ok (.istore_n 3, 1) := by decide +kernel
theorem dX11_reaches_47 : decode cX11_reaches 47 = .ok (.iload_n 3, 1) := by decide +kernel
theorem dX11_reaches_48 : decode cX11_reaches 48 = .ok (.aload_n 0, 1) := by decide +kernel
theorem dX11_reaches_49 : decode cX11_reaches 49 = .ok (.invokevirtual 92, 3) := by decide +kernel
theorem dX11_reaches_52 : decode cX11_reaches 52 = .ok (.if_icmp .ge 40, 3) := by decide +kernel
theorem dX11_reaches_55 : decode cX11_reaches 55 = .ok (.aload_n 0, 1) := by decide +kernel
theorem dX11_reaches_56 : decode cX11_reaches 56 = .ok (.getfield 31, 3) := by decide +kernel
theorem dX11_reaches_59 : decode cX11_reaches 59 = .ok (.iload_n 2, 1) := by decide +kernel
theorem dX11_reaches_60 : decode cX11_reaches 60 = .ok (.dup2, 1) := by decide +kernel
theorem dX11_reaches_61 : decode cX11_reaches 61 = .ok (.iaload, 1) := by decide +kernel
theorem dX11_reaches_62 : decode cX11_reaches 62 = .ok (.aload_n 0, 1) := by decide +kernel
theorem dX11_reaches_63 : decode cX11_reaches 63 = .ok (.getfield 31, 3) := by decide +kernel
theorem dX11_reaches_66 : decode cX11_reaches 66 = .ok (.iload_n 2, 1) := by decide +kernel
theorem dX11_reaches_67 : decode cX11_reaches 67 = .ok (.iaload, 1) := by decide +kernel
theorem dX11_reaches_68 : decode cX11_reaches 68 = .ok (.iload_n 3, 1) := by decide +kernel
theorem dX11_reaches_69 : decode cX11_reaches 69 = .ok (.invokestatic 49, 3) := by decide +kernel
theorem dX11_reaches_72 : decode cX11_reaches 72 = .ok (.ifCond .eq 11, 3) := by decide +kernel
theorem dX11_reaches_75 : decode cX11_reaches 75 = .ok (.aload_n 0, 1) := by decide +kernel
theorem dX11_reaches_76 : decode cX11_reaches 76 = .ok (.iload_n 3, 1) := by decide +kernel
theorem dX11_reaches_77 : decode cX11_reaches 77 = .ok (.invokevirtual 45, 3) := by decide +kernel
theorem dX11_reaches_80 : decode cX11_reaches 80 = .ok (.goto 4, 3) := by decide +kernel
theorem dX11_reaches_83 : decode cX11_reaches 83 = .ok (.iconst 0, 1) := by decide +kernel
theorem dX11_reaches_84 : decode cX11_reaches 84 = .ok (.ior, 1) := by decide +kernel
theorem dX11_reaches_85 : decode cX11_reaches 85 = .ok (.iastore, 1) := by decide +kernel
theorem dX11_reaches_86 : decode cX11_reaches 86 = .ok (.iinc 3 1, 3) := by decide +kernel
theorem dX11_reaches_89 : decode cX11_reaches 89 = .ok (.goto (-42), 3) := by decide +kernel
theorem dX11_reaches_92 : decode cX11_reaches 92 = .ok (.iinc 2 1, 3) := by decide +kernel
theorem dX11_reaches_95 : decode cX11_reaches 95 = .ok (.goto (-58), 3) := by decide +kernel
theorem dX11_reaches_98 : decode cX11_reaches 98 = .ok (.iinc 1 1, 3) := by decide +kernel
theorem dX11_reaches_101 : decode cX11_reaches 101 = .ok (.goto (-74), 3) := by decide +kernel
theorem dX11_reaches_104 : decode cX11_reaches 104 = .ok (.return_, 1) := by decide +kernel
theorem dX11_isLowest_0 : decode cX11_isLowest 0 = .ok (.iconst 1, 1) := by decide +kernel
theorem dX11_isLowest_1 : decode cX11_isLowest 1 = .ok (.istore_n 2, 1) := by decide +kernel
theorem dX11_isLowest_2 : decode cX11_isLowest 2 = .ok (.iconst 0, 1) := by decide +kernel
theorem dX11_isLowest_3 : decode cX11_isLowest 3 = .ok (.istore_n 3, 1) := by decide +kernel
theorem dX11_isLowest_4 : decode cX11_isLowest 4 = .ok (.iload_n 3, 1) := by decide +kernel
theorem dX11_isLowest_5 : decode cX11_isLowest 5 = .ok (.iload_n 1, 1) := by decide +kernel
theorem dX11_isLowest_6 : decode cX11_isLowest 6 = .ok (.if_icmp .ge 45, 3) := by decide +kernel
theorem dX11_isLowest_9 : decode cX11_isLowest 9 = .ok (.iload_n 2, 1) := by decide +kernel
theorem dX11_isLowest_10 : decode cX11_isLowest 10 = .ok (.ifCond .eq 33, 3) := by decide +kernel
theorem dX11_isLowest_13 : decode cX11_isLowest 13 = .ok (.aload_n 0, 1) := by decide +kernel
theorem dX11_isLowest_14 : decode cX11_isLowest 14 = .ok (.getfield 31, 3) := by decide +kernel
theorem dX11_isLowest_17 : decode cX11_isLowest 17 = .ok (.iload_n 1, 1) := by decide +kernel
theorem dX11_isLowest_18 : decode cX11_isLowest 18 = .ok (.iaload, 1) := by decide +kernel
theorem dX11_isLowest_19 : decode cX11_isLowest 19 = .ok (.iload_n 3, 1) := by decide +kernel
theorem dX11_isLowest_20 : decode cX11_isLowest 20 = .ok (.invokestatic 49, 3) := by decide +kernel
theorem dX11_isLowest_23 : decode cX11_isLowest 23 = .ok (.ifCond .eq 16, 3) := by decide +kernel
theorem dX11_isLowest_26 : decode cX11_isLowest 26 = .ok (.aload_n 0, 1) := by decide +kernel
theorem dX11_isLowest_27 : decode cX11_isLowest 27 = .ok (.getfield 31, 3) := by decide +kernel
theorem dX11_isLowest_30 : decode cX11_isLowest 30 = .ok (.iload_n 3, 1) := by decide +kernel
theorem dX11_isLowest_31 : decode cX11_isLowest 31 = .ok (.iaload, 1) := by decide +kernel
theorem dX11_isLowest_32 : decode cX11_isLowest 32 = .ok (.iload_n 1, 1) := by decide +kernel
theorem dX11_isLowest_33 : decode cX11_isLowest 33 = .ok (.invokestatic 49, 3) := by decide +kernel
theorem dX11_isLowest_36 : decode cX11_isLowest 36 = .ok (.ifCond .ne 7, 3) := by decide +kernel
theorem dX11_isLowest_39 : decode cX11_isLowest 39 = .ok (.iconst 1, 1) := by decide +kernel
theorem dX11_isLowest_40 : decode cX11_isLowest 40 = .ok (.goto 4, 3) := by decide +kernel
theorem dX11_isLowest_43 : decode cX11_isLowest 43 = .ok (.iconst 0, 1) := by decide +kernel
theorem dX11_isLowest_44 : decode cX11_isLowest 44 = .ok (.istore_n 2, 1) := by decide +kernel
theorem dX11_isLowest_45 : decode cX11_isLowest 45 = .ok (.iinc 3 1, 3) := by decide +kernel
theorem dX11_isLowest_48 : decode cX11_isLowest 48 = .ok (.goto (-44), 3) := by decide +kernel
theorem dX11_isLowest_51 : decode cX11_isLowest 51 = .ok (.iload_n 2, 1) := by decide +kernel
theorem dX11_isLowest_52 : decode cX11_isLowest 52 = .ok (.ireturn, 1) := by decide +kernel
theorem dX11_components_0 : decode cX11_components 0 = .ok (.aload_n 0, 1) := by decide +kernel
theorem dX11_components_1 : decode cX11_components 1 = .ok (.invokevirtual 120, 3) := by decide +kernel
theorem dX11_components_4 : decode cX11_components 4 = .ok (.iconst 0, 1) := by decide +kernel
theorem dX11_components_5 : decode cX11_components 5 = .ok (.istore_n 1, 1) := by decide +kernel
theorem dX11_components_6 : decode cX11_components 6 = .ok (.iconst 0, 1) := by decide +kernel
theorem dX11_components_7 : decode cX11_components 7 = .ok (.istore_n 2, 1) := by decide +kernel
theorem dX11_components_8 : decode cX11_components 8 = .ok (.iload_n 2, 1) := by decide +kernel
theorem dX11_components_9 : decode cX11_components 9 = .ok (.aload_n 0, 1) := by decide +kernel
theorem dX11_components_10 : decode cX11_components 10 = .ok (.invokevirtual 92, 3) := by decide +kernel
theorem dX11_components_13 : decode cX11_components 13 = .ok (.if_icmp .ge 25, 3) := by decide +kernel
theorem dX11_components_16 : decode cX11_components 16 = .ok (.iload_n 1, 1) := by decide +kernel
theorem dX11_components_17 : decode cX11_components 17 = .ok (.aload_n 0, 1) := by decide +kernel
theorem dX11_components_18 : decode cX11_components 18 = .ok (.iload_n 2, 1) := by decide +kernel
theorem dX11_components_19 : decode cX11_components 19 = .ok (.invokevirtual 123, 3) := by decide +kernel
theorem dX11_components_22 : decode cX11_components 22 = .ok (.ifCond .eq 7, 3) := by decide +kernel
theorem dX11_components_25 : decode cX11_components 25 = .ok (.iconst 1, 1) := by decide +kernel
theorem dX11_components_26 : decode cX11_components 26 = .ok (.goto 4, 3) := by decide +kernel
theorem dX11_components_29 : decode cX11_components 29 = .ok (.iconst 0, 1) := by decide +kernel
theorem dX11_components_30 : decode cX11_components 30 = .ok (.iadd, 1) := by decide +kernel
theorem dX11_components_31 : decode cX11_components 31 = .ok (.istore_n 1, 1) := by decide +kernel
theorem dX11_components_32 : decode cX11_components 32 = .ok (.iinc 2 1, 3) := by decide +kernel
theorem dX11_components_35 : decode cX11_components 35 = .ok (.goto (-27), 3) := by decide +kernel
theorem dX11_components_38 : decode cX11_components 38 = .ok (.iload_n 1, 1) := by decide +kernel
theorem dX11_components_39 : decode cX11_components 39 = .ok (.ireturn, 1) := by decide +kernel
theorem dX11_componentAt_0 : decode cX11_componentAt 0 = .ok (.iconst 0, 1) := by decide +kernel
theorem dX11_componentAt_1 : decode cX11_componentAt 1 = .ok (.istore_n 2, 1) := by decide +kernel
theorem dX11_componentAt_2 : decode cX11_componentAt 2 = .ok (.iconst 0, 1) := by decide +kernel
theorem dX11_componentAt_3 : decode cX11_componentAt 3 = .ok (.istore_n 3, 1) := by decide +kernel
theorem dX11_componentAt_4 : decode cX11_componentAt 4 = .ok (.iload_n 3, 1) := by decide +kernel
theorem dX11_componentAt_5 : decode cX11_componentAt 5 = .ok (.aload_n 0, 1) := by decide +kernel
theorem dX11_componentAt_6 : decode cX11_componentAt 6 = .ok (.invokevirtual 92, 3) := by decide +kernel
theorem dX11_componentAt_9 : decode cX11_componentAt 9 = .ok (.if_icmp .ge 51, 3) := by decide +kernel
theorem dX11_componentAt_12 : decode cX11_componentAt 12 = .ok (.iload_n 2, 1) := by decide +kernel
theorem dX11_componentAt_13 : decode cX11_componentAt 13 = .ok (.aload_n 0, 1) := by decide +kernel
theorem dX11_componentAt_14 : decode cX11_componentAt 14 = .ok (.iload_n 3, 1) := by decide +kernel
theorem dX11_componentAt_15 : decode cX11_componentAt 15 = .ok (.invokevirtual 123, 3) := by decide +kernel
theorem dX11_componentAt_18 : decode cX11_componentAt 18 = .ok (.ifCond .eq 33, 3) := by decide +kernel
theorem dX11_componentAt_21 : decode cX11_componentAt 21 = .ok (.aload_n 0, 1) := by decide +kernel
theorem dX11_componentAt_22 : decode cX11_componentAt 22 = .ok (.getfield 31, 3) := by decide +kernel
theorem dX11_componentAt_25 : decode cX11_componentAt 25 = .ok (.iload_n 3, 1) := by decide +kernel
theorem dX11_componentAt_26 : decode cX11_componentAt 26 = .ok (.iaload, 1) := by decide +kernel
theorem dX11_componentAt_27 : decode cX11_componentAt 27 = .ok (.iload_n 1, 1) := by decide +kernel
theorem dX11_componentAt_28 : decode cX11_componentAt 28 = .ok (.invokestatic 49, 3) := by decide +kernel
theorem dX11_componentAt_31 : decode cX11_componentAt 31 = .ok (.ifCond .eq 20, 3) := by decide +kernel
theorem dX11_componentAt_34 : decode cX11_componentAt 34 = .ok (.aload_n 0, 1) := by decide +kernel
theorem dX11_componentAt_35 : decode cX11_componentAt 35 = .ok (.getfield 31, 3) := by decide +kernel
theorem dX11_componentAt_38 : decode cX11_componentAt 38 = .ok (.iload_n 1, 1) := by decide +kernel
theorem dX11_componentAt_39 : decode cX11_componentAt 39 = .ok (.iaload, 1) := by decide +kernel
theorem dX11_componentAt_40 : decode cX11_componentAt 40 = .ok (.iload_n 3, 1) := by decide +kernel
theorem dX11_componentAt_41 : decode cX11_componentAt 41 = .ok (.invokestatic 49, 3) := by decide +kernel
theorem dX11_componentAt_44 : decode cX11_componentAt 44 = .ok (.ifCond .ne 7, 3) := by decide +kernel
theorem dX11_componentAt_47 : decode cX11_componentAt 47 = .ok (.iconst 1, 1) := by decide +kernel
theorem dX11_componentAt_48 : decode cX11_componentAt 48 = .ok (.goto 4, 3) := by decide +kernel
theorem dX11_componentAt_51 : decode cX11_componentAt 51 = .ok (.iconst 0, 1) := by decide +kernel
theorem dX11_componentAt_52 : decode cX11_componentAt 52 = .ok (.iadd, 1) := by decide +kernel
theorem dX11_componentAt_53 : decode cX11_componentAt 53 = .ok (.istore_n 2, 1) := by decide +kernel
theorem dX11_componentAt_54 : decode cX11_componentAt 54 = .ok (.iinc 3 1, 3) := by decide +kernel
theorem dX11_componentAt_57 : decode cX11_componentAt 57 = .ok (.goto (-53), 3) := by decide +kernel
theorem dX11_componentAt_60 : decode cX11_componentAt 60 = .ok (.iload_n 2, 1) := by decide +kernel
theorem dX11_componentAt_61 : decode cX11_componentAt 61 = .ok (.ireturn, 1) := by decide +kernel
theorem dX11_componentOf_0 : decode cX11_componentOf 0 = .ok (.aload_n 0, 1) := by decide +kernel
theorem dX11_componentOf_1 : decode cX11_componentOf 1 = .ok (.iload_n 1, 1) := by decide +kernel
theorem dX11_componentOf_2 : decode cX11_componentOf 2 = .ok (.invokevirtual 57, 3) := by decide +kernel
theorem dX11_componentOf_5 : decode cX11_componentOf 5 = .ok (.ifCond .ne 5, 3) := by decide +kernel
theorem dX11_componentOf_8 : decode cX11_componentOf 8 = .ok (.iconst (-1), 1) := by decide +kernel
theorem dX11_componentOf_9 : decode cX11_componentOf 9 = .ok (.ireturn, 1) := by decide +kernel
theorem dX11_componentOf_10 : decode cX11_componentOf 10 = .ok (.aload_n 0, 1) := by decide +kernel
theorem dX11_componentOf_11 : decode cX11_componentOf 11 = .ok (.invokevirtual 120, 3) := by decide +kernel
theorem dX11_componentOf_14 : decode cX11_componentOf 14 = .ok (.aload_n 0, 1) := by decide +kernel
theorem dX11_componentOf_15 : decode cX11_componentOf 15 = .ok (.iload_n 1, 1) := by decide +kernel
theorem dX11_componentOf_16 : decode cX11_componentOf 16 = .ok (.invokevirtual 126, 3) := by decide +kernel
theorem dX11_componentOf_19 : decode cX11_componentOf 19 = .ok (.ireturn, 1) := by decide +kernel
theorem dX11_countsPaths_0 : decode cX11_countsPaths 0 = .ok (.iconst 1, 1) := by decide +kernel
theorem dX11_countsPaths_1 : decode cX11_countsPaths 1 = .ok (.istore_n 1, 1) := by decide +kernel
theorem dX11_countsPaths_2 : decode cX11_countsPaths 2 = .ok (.iload_n 1, 1) := by decide +kernel
theorem dX11_countsPaths_3 : decode cX11_countsPaths 3 = .ok (.aload_n 0, 1) := by decide +kernel
theorem dX11_countsPaths_4 : decode cX11_countsPaths 4 = .ok (.invokevirtual 111, 3) := by decide +kernel
theorem dX11_countsPaths_7 : decode cX11_countsPaths 7 = .ok (.if_icmp .gt 127, 3) := by decide +kernel
theorem dX11_countsPaths_10 : decode cX11_countsPaths 10 = .ok (.iconst 0, 1) := by decide +kernel
theorem dX11_countsPaths_11 : decode cX11_countsPaths 11 = .ok (.istore_n 2, 1) := by decide +kernel
theorem dX11_countsPaths_12 : decode cX11_countsPaths 12 = .ok (.iload_n 2, 1) := by decide +kernel
theorem dX11_countsPaths_13 : decode cX11_countsPaths 13 = .ok (.aload_n 0, 1) := by decide +kernel
theorem dX11_countsPaths_14 : decode cX11_countsPaths 14 = .ok (.invokevirtual 92, 3) := by decide +kernel
theorem dX11_countsPaths_17 : decode cX11_countsPaths 17 = .ok (.if_icmp .ge 111, 3) := by decide +kernel
theorem dX11_countsPaths_20 : decode cX11_countsPaths 20 = .ok (.iload_n 1, 1) := by decide +kernel
theorem dX11_countsPaths_21 : decode cX11_countsPaths 21 = .ok (.iconst 1, 1) := by decide +kernel
theorem dX11_countsPaths_22 : decode cX11_countsPaths 22 = .ok (.iload_n 2, 1) := by decide +kernel
theorem dX11_countsPaths_23 : decode cX11_countsPaths 23 = .ok (.ishl, 1) := by decide +kernel
theorem dX11_countsPaths_24 : decode cX11_countsPaths 24 = .ok (.iconst (-1), 1) := by decide +kernel
theorem dX11_countsPaths_25 : decode cX11_countsPaths 25 = .ok (.ixor, 1) := by decide +kernel
theorem dX11_countsPaths_26 : decode cX11_countsPaths 26 = .ok (.iand, 1) := by decide +kernel
theorem dX11_countsPaths_27 : decode cX11_countsPaths 27 = .ok (.istore_n 3, 1) := by decide +kernel
theorem dX11_countsPaths_28 : decode cX11_countsPaths 28 = .ok (.iload_n 1, 1) := by decide +kernel
theorem dX11_countsPaths_29 : decode cX11_countsPaths 29 = .ok (.iload_n 2, 1) := by decide +kernel
theorem dX11_countsPaths_30 : decode cX11_countsPaths 30 = .ok (.invokestatic 49, 3) := by decide +kernel
theorem dX11_countsPaths_33 : decode cX11_countsPaths 33 = .ok (.ifCond .eq 11, 3) := by decide +kernel
theorem dX11_countsPaths_36 : decode cX11_countsPaths 36 = .ok (.iload_n 3, 1) := by decide +kernel
theorem dX11_countsPaths_37 : decode cX11_countsPaths 37 = .ok (.ifCond .ne 7, 3) := by decide +kernel
theorem dX11_countsPaths_40 : decode cX11_countsPaths 40 = .ok (.iconst 1, 1) := by decide +kernel
theorem dX11_countsPaths_41 : decode cX11_countsPaths 41 = .ok (.goto 4, 3) := by decide +kernel
theorem dX11_countsPaths_44 : decode cX11_countsPaths 44 = .ok (.iconst 0, 1) := by decide +kernel
theorem dX11_countsPaths_45 : decode cX11_countsPaths 45 = .ok (.istore 4, 2) := by decide +kernel
theorem dX11_countsPaths_47 : decode cX11_countsPaths 47 = .ok (.iconst 0, 1) := by decide +kernel
theorem dX11_countsPaths_48 : decode cX11_countsPaths 48 = .ok (.istore 5, 2) := by decide +kernel
theorem dX11_countsPaths_50 : decode cX11_countsPaths 50 = .ok (.iload 5, 2) := by decide +kernel
theorem dX11_countsPaths_52 : decode cX11_countsPaths 52 = .ok (.aload_n 0, 1) := by decide +kernel
theorem dX11_countsPaths_53 : decode cX11_countsPaths 53 = .ok (.invokevirtual 92, 3) := by decide +kernel
theorem dX11_countsPaths_56 : decode cX11_countsPaths 56 = .ok (.if_icmp .ge 53, 3) := by decide +kernel
theorem dX11_countsPaths_59 : decode cX11_countsPaths 59 = .ok (.iload_n 1, 1) := by decide +kernel
theorem dX11_countsPaths_60 : decode cX11_countsPaths 60 = .ok (.iload_n 2, 1) := by decide +kernel
theorem dX11_countsPaths_61 : decode cX11_countsPaths 61 = .ok (.invokestatic 49, 3) := by decide +kernel
theorem dX11_countsPaths_64 : decode cX11_countsPaths 64 = .ok (.ifCond .eq 45, 3) := by decide +kernel
theorem dX11_countsPaths_67 : decode cX11_countsPaths 67 = .ok (.iload 4, 2) := by decide +kernel
theorem dX11_countsPaths_69 : decode cX11_countsPaths 69 = .ok (.iload_n 3, 1) := by decide +kernel
theorem dX11_countsPaths_70 : decode cX11_countsPaths 70 = .ok (.aload_n 0, 1) := by decide +kernel
theorem dX11_countsPaths_71 : decode cX11_countsPaths 71 = .ok (.iload_n 2, 1) := by decide +kernel
theorem dX11_countsPaths_72 : decode cX11_countsPaths 72 = .ok (.invokevirtual 45, 3) := by decide +kernel
theorem dX11_countsPaths_75 : decode cX11_countsPaths 75 = .ok (.iand, 1) := by decide +kernel
theorem dX11_countsPaths_76 : decode cX11_countsPaths 76 = .ok (.iload 5, 2) := by decide +kernel
theorem dX11_countsPaths_78 : decode cX11_countsPaths 78 = .ok (.invokestatic 49, 3) := by decide +kernel
theorem dX11_countsPaths_81 : decode cX11_countsPaths 81 = .ok (.ifCond .eq 18, 3) := by decide +kernel
theorem dX11_countsPaths_84 : decode cX11_countsPaths 84 = .ok (.aload_n 0, 1) := by decide +kernel
theorem dX11_countsPaths_85 : decode cX11_countsPaths 85 = .ok (.getfield 25, 3) := by decide +kernel
theorem dX11_countsPaths_88 : decode cX11_countsPaths 88 = .ok (.bipush 10, 2) := by decide +kernel
theorem dX11_countsPaths_90 : decode cX11_countsPaths 90 = .ok (.iload_n 3, 1) := by decide +kernel
theorem dX11_countsPaths_91 : decode cX11_countsPaths 91 = .ok (.imul, 1) := by decide +kernel
theorem dX11_countsPaths_92 : decode cX11_countsPaths 92 = .ok (.iload 5, 2) := by decide +kernel
theorem dX11_countsPaths_94 : decode cX11_countsPaths 94 = .ok (.iadd, 1) := by decide +kernel
theorem dX11_countsPaths_95 : decode cX11_countsPaths 95 = .ok (.iaload, 1) := by decide +kernel
theorem dX11_countsPaths_96 : decode cX11_countsPaths 96 = .ok (.goto 4, 3) := by decide +kernel
theorem dX11_countsPaths_99 : decode cX11_countsPaths 99 = .ok (.iconst 0, 1) := by decide +kernel
theorem dX11_countsPaths_100 : decode cX11_countsPaths 100 = .ok (.iadd, 1) := by decide +kernel
theorem dX11_countsPaths_101 : decode cX11_countsPaths 101 = .ok (.istore 4, 2) := by decide +kernel
theorem dX11_countsPaths_103 : decode cX11_countsPaths 103 = .ok (.iinc 5 1, 3) := by decide +kernel
theorem dX11_countsPaths_106 : decode cX11_countsPaths 106 = .ok (.goto (-56), 3) := by decide +kernel
theorem dX11_countsPaths_109 : decode cX11_countsPaths 109 = .ok (.aload_n 0, 1) := by decide +kernel
theorem dX11_countsPaths_110 : decode cX11_countsPaths 110 = .ok (.getfield 25, 3) := by decide +kernel
theorem dX11_countsPaths_113 : decode cX11_countsPaths 113 = .ok (.bipush 10, 2) := by decide +kernel
theorem dX11_countsPaths_115 : decode cX11_countsPaths 115 = .ok (.iload_n 1, 1) := by decide +kernel
theorem dX11_countsPaths_116 : decode cX11_countsPaths 116 = .ok (.imul, 1) := by decide +kernel
theorem dX11_countsPaths_117 : decode cX11_countsPaths 117 = .ok (.iload_n 2, 1) := by decide +kernel
theorem dX11_countsPaths_118 : decode cX11_countsPaths 118 = .ok (.iadd, 1) := by decide +kernel
theorem dX11_countsPaths_119 : decode cX11_countsPaths 119 = .ok (.iload 4, 2) := by decide +kernel
theorem dX11_countsPaths_121 : decode cX11_countsPaths 121 = .ok (.iastore, 1) := by decide +kernel
theorem dX11_countsPaths_122 : decode cX11_countsPaths 122 = .ok (.iinc 2 1, 3) := by decide +kernel
theorem dX11_countsPaths_125 : decode cX11_countsPaths 125 = .ok (.goto (-113), 3) := by decide +kernel
theorem dX11_countsPaths_128 : decode cX11_countsPaths 128 = .ok (.iinc 1 1, 3) := by decide +kernel
theorem dX11_countsPaths_131 : decode cX11_countsPaths 131 = .ok (.goto (-129), 3) := by decide +kernel
theorem dX11_countsPaths_134 : decode cX11_countsPaths 134 = .ok (.return_, 1) := by decide +kernel
theorem dX11_spanningPaths_0 : decode cX11_spanningPaths 0 = .ok (.aload_n 0, 1) := by decide +kernel
theorem dX11_spanningPaths_1 : decode cX11_spanningPaths 1 = .ok (.invokevirtual 129, 3) := by decide +kernel
theorem dX11_spanningPaths_4 : decode cX11_spanningPaths 4 = .ok (.iconst 0, 1) := by decide +kernel
theorem dX11_spanningPaths_5 : decode cX11_spanningPaths 5 = .ok (.istore_n 1, 1) := by decide +kernel
theorem dX11_spanningPaths_6 : decode cX11_spanningPaths 6 = .ok (.iconst 0, 1) := by decide +kernel
theorem dX11_spanningPaths_7 : decode cX11_spanningPaths 7 = .ok (.istore_n 2, 1) := by decide +kernel
theorem dX11_spanningPaths_8 : decode cX11_spanningPaths 8 = .ok (.iload_n 2, 1) := by decide +kernel
theorem dX11_spanningPaths_9 : decode cX11_spanningPaths 9 = .ok (.aload_n 0, 1) := by decide +kernel
theorem dX11_spanningPaths_10 : decode cX11_spanningPaths 10 = .ok (.invokevirtual 92, 3) := by decide +kernel
theorem dX11_spanningPaths_13 : decode cX11_spanningPaths 13 = .ok (.if_icmp .ge 26, 3) := by decide +kernel
theorem dX11_spanningPaths_16 : decode cX11_spanningPaths 16 = .ok (.iload_n 1, 1) := by decide +kernel
theorem dX11_spanningPaths_17 : decode cX11_spanningPaths 17 = .ok (.aload_n 0, 1) := by decide +kernel
theorem dX11_spanningPaths_18 : decode cX11_spanningPaths 18 = .ok (.getfield 25, 3) := by decide +kernel
theorem dX11_spanningPaths_21 : decode cX11_spanningPaths 21 = .ok (.bipush 10, 2) := by decide +kernel
theorem dX11_spanningPaths_23 : decode cX11_spanningPaths 23 = .ok (.aload_n 0, 1) := by decide +kernel
theorem dX11_spanningPaths_24 : decode cX11_spanningPaths 24 = .ok (.invokevirtual 111, 3) := by decide +kernel
theorem dX11_spanningPaths_27 : decode cX11_spanningPaths 27 = .ok (.imul, 1) := by decide +kernel
theorem dX11_spanningPaths_28 : decode cX11_spanningPaths 28 = .ok (.iload_n 2, 1) := by decide +kernel
theorem dX11_spanningPaths_29 : decode cX11_spanningPaths 29 = .ok (.iadd, 1) := by decide +kernel
theorem dX11_spanningPaths_30 : decode cX11_spanningPaths 30 = .ok (.iaload, 1) := by decide +kernel
theorem dX11_spanningPaths_31 : decode cX11_spanningPaths 31 = .ok (.iadd, 1) := by decide +kernel
theorem dX11_spanningPaths_32 : decode cX11_spanningPaths 32 = .ok (.istore_n 1, 1) := by decide +kernel
theorem dX11_spanningPaths_33 : decode cX11_spanningPaths 33 = .ok (.iinc 2 1, 3) := by decide +kernel
theorem dX11_spanningPaths_36 : decode cX11_spanningPaths 36 = .ok (.goto (-28), 3) := by decide +kernel
theorem dX11_spanningPaths_39 : decode cX11_spanningPaths 39 = .ok (.iload_n 1, 1) := by decide +kernel
theorem dX11_spanningPaths_40 : decode cX11_spanningPaths 40 = .ok (.ireturn, 1) := by decide +kernel
theorem dX11_pathAt_0 : decode cX11_pathAt 0 = .ok (.aload_n 0, 1) := by decide +kernel
theorem dX11_pathAt_1 : decode cX11_pathAt 1 = .ok (.iload_n 1, 1) := by decide +kernel
theorem dX11_pathAt_2 : decode cX11_pathAt 2 = .ok (.invokevirtual 57, 3) := by decide +kernel
theorem dX11_pathAt_5 : decode cX11_pathAt 5 = .ok (.ifCond .ne 5, 3) := by decide +kernel
theorem dX11_pathAt_8 : decode cX11_pathAt 8 = .ok (.iconst (-1), 1) := by decide +kernel
theorem dX11_pathAt_9 : decode cX11_pathAt 9 = .ok (.ireturn, 1) := by decide +kernel
theorem dX11_pathAt_10 : decode cX11_pathAt 10 = .ok (.aload_n 0, 1) := by decide +kernel
theorem dX11_pathAt_11 : decode cX11_pathAt 11 = .ok (.invokevirtual 129, 3) := by decide +kernel
theorem dX11_pathAt_14 : decode cX11_pathAt 14 = .ok (.aload_n 0, 1) := by decide +kernel
theorem dX11_pathAt_15 : decode cX11_pathAt 15 = .ok (.invokevirtual 111, 3) := by decide +kernel
theorem dX11_pathAt_18 : decode cX11_pathAt 18 = .ok (.istore_n 2, 1) := by decide +kernel
theorem dX11_pathAt_19 : decode cX11_pathAt 19 = .ok (.aload_n 0, 1) := by decide +kernel
theorem dX11_pathAt_20 : decode cX11_pathAt 20 = .ok (.invokevirtual 111, 3) := by decide +kernel
theorem dX11_pathAt_23 : decode cX11_pathAt 23 = .ok (.istore_n 3, 1) := by decide +kernel
theorem dX11_pathAt_24 : decode cX11_pathAt 24 = .ok (.iconst 0, 1) := by decide +kernel
theorem dX11_pathAt_25 : decode cX11_pathAt 25 = .ok (.istore 4, 2) := by decide +kernel
theorem dX11_pathAt_27 : decode cX11_pathAt 27 = .ok (.iconst 0, 1) := by decide +kernel
theorem dX11_pathAt_28 : decode cX11_pathAt 28 = .ok (.istore 5, 2) := by decide +kernel
theorem dX11_pathAt_30 : decode cX11_pathAt 30 = .ok (.iload 5, 2) := by decide +kernel
theorem dX11_pathAt_32 : decode cX11_pathAt 32 = .ok (.iload_n 1, 1) := by decide +kernel
theorem dX11_pathAt_33 : decode cX11_pathAt 33 = .ok (.if_icmp .gt 60, 3) := by decide +kernel
theorem dX11_pathAt_36 : decode cX11_pathAt 36 = .ok (.iconst 0, 1) := by decide +kernel
theorem dX11_pathAt_37 : decode cX11_pathAt 37 = .ok (.istore 4, 2) := by decide +kernel
theorem dX11_pathAt_39 : decode cX11_pathAt 39 = .ok (.iload_n 3, 1) := by decide +kernel
theorem dX11_pathAt_40 : decode cX11_pathAt 40 = .ok (.iload 4, 2) := by decide +kernel
theorem dX11_pathAt_42 : decode cX11_pathAt 42 = .ok (.invokestatic 49, 3) := by decide +kernel
theorem dX11_pathAt_45 : decode cX11_pathAt 45 = .ok (.ifCond .eq 18, 3) := by decide +kernel
theorem dX11_pathAt_48 : decode cX11_pathAt 48 = .ok (.aload_n 0, 1) := by decide +kernel
theorem dX11_pathAt_49 : decode cX11_pathAt 49 = .ok (.getfield 25, 3) := by decide +kernel
theorem dX11_pathAt_52 : decode cX11_pathAt 52 = .ok (.bipush 10, 2) := by decide +kernel
theorem dX11_pathAt_54 : decode cX11_pathAt 54 = .ok (.iload_n 2, 1) := by decide +kernel
theorem dX11_pathAt_55 : decode cX11_pathAt 55 = .ok (.imul, 1) := by decide +kernel
theorem dX11_pathAt_56 : decode cX11_pathAt 56 = .ok (.iload 4, 2) := by decide +kernel
theorem dX11_pathAt_58 : decode cX11_pathAt 58 = .ok (.iadd, 1) := by decide +kernel
theorem dX11_pathAt_59 : decode cX11_pathAt 59 = .ok (.iaload, 1) := by decide +kernel
theorem dX11_pathAt_60 : decode cX11_pathAt 60 = .ok (.ifCond .ne 9, 3) := by decide +kernel
theorem dX11_pathAt_63 : decode cX11_pathAt 63 = .ok (.iinc 4 1, 3) := by decide +kernel
theorem dX11_pathAt_66 : decode cX11_pathAt 66 = .ok (.goto (-27), 3) := by decide +kernel
theorem dX11_pathAt_69 : decode cX11_pathAt 69 = .ok (.iload_n 2, 1) := by decide +kernel
theorem dX11_pathAt_70 : decode cX11_pathAt 70 = .ok (.iconst 1, 1) := by decide +kernel
theorem dX11_pathAt_71 : decode cX11_pathAt 71 = .ok (.iload 4, 2) := by decide +kernel
theorem dX11_pathAt_73 : decode cX11_pathAt 73 = .ok (.ishl, 1) := by decide +kernel
theorem dX11_pathAt_74 : decode cX11_pathAt 74 = .ok (.iconst (-1), 1) := by decide +kernel
theorem dX11_pathAt_75 : decode cX11_pathAt 75 = .ok (.ixor, 1) := by decide +kernel
theorem dX11_pathAt_76 : decode cX11_pathAt 76 = .ok (.iand, 1) := by decide +kernel
theorem dX11_pathAt_77 : decode cX11_pathAt 77 = .ok (.istore_n 2, 1) := by decide +kernel
theorem dX11_pathAt_78 : decode cX11_pathAt 78 = .ok (.iload_n 2, 1) := by decide +kernel
theorem dX11_pathAt_79 : decode cX11_pathAt 79 = .ok (.aload_n 0, 1) := by decide +kernel
theorem dX11_pathAt_80 : decode cX11_pathAt 80 = .ok (.iload 4, 2) := by decide +kernel
theorem dX11_pathAt_82 : decode cX11_pathAt 82 = .ok (.invokevirtual 45, 3) := by decide +kernel
theorem dX11_pathAt_85 : decode cX11_pathAt 85 = .ok (.iand, 1) := by decide +kernel
theorem dX11_pathAt_86 : decode cX11_pathAt 86 = .ok (.istore_n 3, 1) := by decide +kernel
theorem dX11_pathAt_87 : decode cX11_pathAt 87 = .ok (.iinc 5 1, 3) := by decide +kernel
theorem dX11_pathAt_90 : decode cX11_pathAt 90 = .ok (.goto (-60), 3) := by decide +kernel
theorem dX11_pathAt_93 : decode cX11_pathAt 93 = .ok (.iload 4, 2) := by decide +kernel
theorem dX11_pathAt_95 : decode cX11_pathAt 95 = .ok (.ireturn, 1) := by decide +kernel
theorem dX11_closes_0 : decode cX11_closes 0 = .ok (.aload_n 0, 1) := by decide +kernel
theorem dX11_closes_1 : decode cX11_closes 1 = .ok (.invokevirtual 111, 3) := by decide +kernel
theorem dX11_closes_4 : decode cX11_closes 4 = .ok (.istore_n 3, 1) := by decide +kernel
theorem dX11_closes_5 : decode cX11_closes 5 = .ok (.iload_n 3, 1) := by decide +kernel
theorem dX11_closes_6 : decode cX11_closes 6 = .ok (.ifCond .le 167, 3) := by decide +kernel
theorem dX11_closes_9 : decode cX11_closes 9 = .ok (.iconst 0, 1) := by decide +kernel
theorem dX11_closes_10 : decode cX11_closes 10 = .ok (.istore 4, 2) := by decide +kernel
theorem dX11_closes_12 : decode cX11_closes 12 = .ok (.iload 4, 2) := by decide +kernel
theorem dX11_closes_14 : decode cX11_closes 14 = .ok (.aload_n 0, 1) := by decide +kernel
theorem dX11_closes_15 : decode cX11_closes 15 = .ok (.invokevirtual 92, 3) := by decide +kernel
theorem dX11_closes_18 : decode cX11_closes 18 = .ok (.if_icmp .ge 149, 3) := by decide +kernel
theorem dX11_closes_21 : decode cX11_closes 21 = .ok (.iconst 0, 1) := by decide +kernel
theorem dX11_closes_22 : decode cX11_closes 22 = .ok (.istore 5, 2) := by decide +kernel
theorem dX11_closes_24 : decode cX11_closes 24 = .ok (.iload_n 3, 1) := by decide +kernel
theorem dX11_closes_25 : decode cX11_closes 25 = .ok (.iload 4, 2) := by decide +kernel
theorem dX11_closes_27 : decode cX11_closes 27 = .ok (.invokestatic 49, 3) := by decide +kernel
theorem dX11_closes_30 : decode cX11_closes 30 = .ok (.ifCond .eq 23, 3) := by decide +kernel
theorem dX11_closes_33 : decode cX11_closes 33 = .ok (.iload_n 3, 1) := by decide +kernel
theorem dX11_closes_34 : decode cX11_closes 34 = .ok (.invokestatic 98, 3) := by decide +kernel
theorem dX11_closes_37 : decode cX11_closes 37 = .ok (.iload_n 2, 1) := by decide +kernel
theorem dX11_closes_38 : decode cX11_closes 38 = .ok (.if_icmp .ne 15, 3) := by decide +kernel
theorem dX11_closes_41 : decode cX11_closes 41 = .ok (.aload_n 0, 1) := by decide +kernel
theorem dX11_closes_42 : decode cX11_closes 42 = .ok (.iload 4, 2) := by decide +kernel
theorem dX11_closes_44 : decode cX11_closes 44 = .ok (.iload_n 1, 1) := by decide +kernel
theorem dX11_closes_45 : decode cX11_closes 45 = .ok (.invokevirtual 69, 3) := by decide +kernel
theorem dX11_closes_48 : decode cX11_closes 48 = .ok (.istore 5, 2) := by decide +kernel
theorem dX11_closes_50 : decode cX11_closes 50 = .ok (.goto 89, 3) := by decide +kernel
theorem dX11_closes_53 : decode cX11_closes 53 = .ok (.iload_n 3, 1) := by decide +kernel
theorem dX11_closes_54 : decode cX11_closes 54 = .ok (.iload 4, 2) := by decide +kernel
theorem dX11_closes_56 : decode cX11_closes 56 = .ok (.invokestatic 49, 3) := by decide +kernel
theorem dX11_closes_59 : decode cX11_closes 59 = .ok (.ifCond .eq 80, 3) := by decide +kernel
theorem dX11_closes_62 : decode cX11_closes 62 = .ok (.iload_n 3, 1) := by decide +kernel
theorem dX11_closes_63 : decode cX11_closes 63 = .ok (.invokestatic 98, 3) := by decide +kernel
theorem dX11_closes_66 : decode cX11_closes 66 = .ok (.iload_n 2, 1) := by decide +kernel
theorem dX11_closes_67 : decode cX11_closes 67 = .ok (.if_icmp .ge 72, 3) := by decide +kernel
theorem dX11_closes_70 : decode cX11_closes 70 = .ok (.iconst 0, 1) := by decide +kernel
theorem dX11_closes_71 : decode cX11_closes 71 = .ok (.istore 6, 2) := by decide +kernel
theorem dX11_closes_73 : decode cX11_closes 73 = .ok (.iload 6, 2) := by decide +kernel
theorem dX11_closes_75 : decode cX11_closes 75 = .ok (.aload_n 0, 1) := by decide +kernel
theorem dX11_closes_76 : decode cX11_closes 76 = .ok (.invokevirtual 92, 3) := by decide +kernel
theorem dX11_closes_79 : decode cX11_closes 79 = .ok (.if_icmp .ge 60, 3) := by decide +kernel
theorem dX11_closes_82 : decode cX11_closes 82 = .ok (.iload 5, 2) := by decide +kernel
theorem dX11_closes_84 : decode cX11_closes 84 = .ok (.ifCond .ne 42, 3) := by decide +kernel
theorem dX11_closes_87 : decode cX11_closes 87 = .ok (.aload_n 0, 1) := by decide +kernel
theorem dX11_closes_88 : decode cX11_closes 88 = .ok (.iload 4, 2) := by decide +kernel
theorem dX11_closes_90 : decode cX11_closes 90 = .ok (.invokevirtual 45, 3) := by decide +kernel
theorem dX11_closes_93 : decode cX11_closes 93 = .ok (.iload_n 3, 1) := by decide +kernel
theorem dX11_closes_94 : decode cX11_closes 94 = .ok (.iconst (-1), 1) := by decide +kernel
theorem dX11_closes_95 : decode cX11_closes 95 = .ok (.ixor, 1) := by decide +kernel
theorem dX11_closes_96 : decode cX11_closes 96 = .ok (.iand, 1) := by decide +kernel
theorem dX11_closes_97 : decode cX11_closes 97 = .ok (.iload 6, 2) := by decide +kernel
theorem dX11_closes_99 : decode cX11_closes 99 = .ok (.invokestatic 49, 3) := by decide +kernel
theorem dX11_closes_102 : decode cX11_closes 102 = .ok (.ifCond .eq 28, 3) := by decide +kernel
theorem dX11_closes_105 : decode cX11_closes 105 = .ok (.aload_n 0, 1) := by decide +kernel
theorem dX11_closes_106 : decode cX11_closes 106 = .ok (.getfield 25, 3) := by decide +kernel
theorem dX11_closes_109 : decode cX11_closes 109 = .ok (.bipush 10, 2) := by decide +kernel
theorem dX11_closes_111 : decode cX11_closes 111 = .ok (.iload_n 3, 1) := by decide +kernel
theorem dX11_closes_112 : decode cX11_closes 112 = .ok (.iconst 1, 1) := by decide +kernel
theorem dX11_closes_113 : decode cX11_closes 113 = .ok (.iload 6, 2) := by decide +kernel
theorem dX11_closes_115 : decode cX11_closes 115 = .ok (.ishl, 1) := by decide +kernel
theorem dX11_closes_116 : decode cX11_closes 116 = .ok (.ior, 1) := by decide +kernel
theorem dX11_closes_117 : decode cX11_closes 117 = .ok (.imul, 1) := by decide +kernel
theorem dX11_closes_118 : decode cX11_closes 118 = .ok (.iload 6, 2) := by decide +kernel
theorem dX11_closes_120 : decode cX11_closes 120 = .ok (.iadd, 1) := by decide +kernel
theorem dX11_closes_121 : decode cX11_closes 121 = .ok (.iaload, 1) := by decide +kernel
theorem dX11_closes_122 : decode cX11_closes 122 = .ok (.iconst 1, 1) := by decide +kernel
theorem dX11_closes_123 : decode cX11_closes 123 = .ok (.if_icmp .ne 7, 3) := by decide +kernel
theorem dX11_closes_126 : decode cX11_closes 126 = .ok (.iconst 1, 1) := by decide +kernel
theorem dX11_closes_127 : decode cX11_closes 127 = .ok (.goto 4, 3) := by decide +kernel
theorem dX11_closes_130 : decode cX11_closes 130 = .ok (.iconst 0, 1) := by decide +kernel
theorem dX11_closes_131 : decode cX11_closes 131 = .ok (.istore 5, 2) := by decide +kernel
theorem dX11_closes_133 : decode cX11_closes 133 = .ok (.iinc 6 1, 3) := by decide +kernel
theorem dX11_closes_136 : decode cX11_closes 136 = .ok (.goto (-63), 3) := by decide +kernel
theorem dX11_closes_139 : decode cX11_closes 139 = .ok (.aload_n 0, 1) := by decide +kernel
theorem dX11_closes_140 : decode cX11_closes 140 = .ok (.getfield 25, 3) := by decide +kernel
theorem dX11_closes_143 : decode cX11_closes 143 = .ok (.bipush 10, 2) := by decide +kernel
theorem dX11_closes_145 : decode cX11_closes 145 = .ok (.iload_n 3, 1) := by decide +kernel
theorem dX11_closes_146 : decode cX11_closes 146 = .ok (.imul, 1) := by decide +kernel
theorem dX11_closes_147 : decode cX11_closes 147 = .ok (.iload 4, 2) := by decide +kernel
theorem dX11_closes_149 : decode cX11_closes 149 = .ok (.iadd, 1) := by decide +kernel
theorem dX11_closes_150 : decode cX11_closes 150 = .ok (.iload 5, 2) := by decide +kernel
theorem dX11_closes_152 : decode cX11_closes 152 = .ok (.ifCond .eq 7, 3) := by decide +kernel
theorem dX11_closes_155 : decode cX11_closes 155 = .ok (.iconst 1, 1) := by decide +kernel
theorem dX11_closes_156 : decode cX11_closes 156 = .ok (.goto 4, 3) := by decide +kernel
theorem dX11_closes_159 : decode cX11_closes 159 = .ok (.iconst 0, 1) := by decide +kernel
theorem dX11_closes_160 : decode cX11_closes 160 = .ok (.iastore, 1) := by decide +kernel
theorem dX11_closes_161 : decode cX11_closes 161 = .ok (.iinc 4 1, 3) := by decide +kernel
theorem dX11_closes_164 : decode cX11_closes 164 = .ok (.goto (-152), 3) := by decide +kernel
theorem dX11_closes_167 : decode cX11_closes 167 = .ok (.iinc 3 (-1), 3) := by decide +kernel
theorem dX11_closes_170 : decode cX11_closes 170 = .ok (.goto (-165), 3) := by decide +kernel
theorem dX11_closes_173 : decode cX11_closes 173 = .ok (.return_, 1) := by decide +kernel
theorem dX11_isClosed_0 : decode cX11_isClosed 0 = .ok (.aload_n 0, 1) := by decide +kernel
theorem dX11_isClosed_1 : decode cX11_isClosed 1 = .ok (.getfield 25, 3) := by decide +kernel
theorem dX11_isClosed_4 : decode cX11_isClosed 4 = .ok (.bipush 10, 2) := by decide +kernel
theorem dX11_isClosed_6 : decode cX11_isClosed 6 = .ok (.iconst 1, 1) := by decide +kernel
theorem dX11_isClosed_7 : decode cX11_isClosed 7 = .ok (.iload_n 1, 1) := by decide +kernel
theorem dX11_isClosed_8 : decode cX11_isClosed 8 = .ok (.ishl, 1) := by decide +kernel
theorem dX11_isClosed_9 : decode cX11_isClosed 9 = .ok (.imul, 1) := by decide +kernel
theorem dX11_isClosed_10 : decode cX11_isClosed 10 = .ok (.iload_n 1, 1) := by decide +kernel
theorem dX11_isClosed_11 : decode cX11_isClosed 11 = .ok (.iadd, 1) := by decide +kernel
theorem dX11_isClosed_12 : decode cX11_isClosed 12 = .ok (.iaload, 1) := by decide +kernel
theorem dX11_isClosed_13 : decode cX11_isClosed 13 = .ok (.iconst 1, 1) := by decide +kernel
theorem dX11_isClosed_14 : decode cX11_isClosed 14 = .ok (.if_icmp .ne 7, 3) := by decide +kernel
theorem dX11_isClosed_17 : decode cX11_isClosed 17 = .ok (.iconst 1, 1) := by decide +kernel
theorem dX11_isClosed_18 : decode cX11_isClosed 18 = .ok (.goto 4, 3) := by decide +kernel
theorem dX11_isClosed_21 : decode cX11_isClosed 21 = .ok (.iconst 0, 1) := by decide +kernel
theorem dX11_isClosed_22 : decode cX11_isClosed 22 = .ok (.ireturn, 1) := by decide +kernel
theorem dX11_cycleAt_0 : decode cX11_cycleAt 0 = .ok (.aload_n 0, 1) := by decide +kernel
theorem dX11_cycleAt_1 : decode cX11_cycleAt 1 = .ok (.iload_n 1, 1) := by decide +kernel
theorem dX11_cycleAt_2 : decode cX11_cycleAt 2 = .ok (.invokevirtual 57, 3) := by decide +kernel
theorem dX11_cycleAt_5 : decode cX11_cycleAt 5 = .ok (.ifCond .eq 26, 3) := by decide +kernel
theorem dX11_cycleAt_8 : decode cX11_cycleAt 8 = .ok (.iload_n 2, 1) := by decide +kernel
theorem dX11_cycleAt_9 : decode cX11_cycleAt 9 = .ok (.iconst 3, 1) := by decide +kernel
theorem dX11_cycleAt_10 : decode cX11_cycleAt 10 = .ok (.aload_n 0, 1) := by decide +kernel
theorem dX11_cycleAt_11 : decode cX11_cycleAt 11 = .ok (.invokevirtual 92, 3) := by decide +kernel
theorem dX11_cycleAt_14 : decode cX11_cycleAt 14 = .ok (.invokestatic 53, 3) := by decide +kernel
theorem dX11_cycleAt_17 : decode cX11_cycleAt 17 = .ok (.ifCond .eq 14, 3) := by decide +kernel
theorem dX11_cycleAt_20 : decode cX11_cycleAt 20 = .ok (.iload_n 3, 1) := by decide +kernel
theorem dX11_cycleAt_21 : decode cX11_cycleAt 21 = .ok (.iconst 0, 1) := by decide +kernel
theorem dX11_cycleAt_22 : decode cX11_cycleAt 22 = .ok (.iload_n 2, 1) := by decide +kernel
theorem dX11_cycleAt_23 : decode cX11_cycleAt 23 = .ok (.iconst 1, 1) := by decide +kernel
theorem dX11_cycleAt_24 : decode cX11_cycleAt 24 = .ok (.isub, 1) := by decide +kernel
theorem dX11_cycleAt_25 : decode cX11_cycleAt 25 = .ok (.invokestatic 53, 3) := by decide +kernel
theorem dX11_cycleAt_28 : decode cX11_cycleAt 28 = .ok (.ifCond .ne 5, 3) := by decide +kernel
theorem dX11_cycleAt_31 : decode cX11_cycleAt 31 = .ok (.iconst (-1), 1) := by decide +kernel
theorem dX11_cycleAt_32 : decode cX11_cycleAt 32 = .ok (.ireturn, 1) := by decide +kernel
theorem dX11_cycleAt_33 : decode cX11_cycleAt 33 = .ok (.aload_n 0, 1) := by decide +kernel
theorem dX11_cycleAt_34 : decode cX11_cycleAt 34 = .ok (.iload_n 1, 1) := by decide +kernel
theorem dX11_cycleAt_35 : decode cX11_cycleAt 35 = .ok (.iload_n 2, 1) := by decide +kernel
theorem dX11_cycleAt_36 : decode cX11_cycleAt 36 = .ok (.invokevirtual 132, 3) := by decide +kernel
theorem dX11_cycleAt_39 : decode cX11_cycleAt 39 = .ok (.aload_n 0, 1) := by decide +kernel
theorem dX11_cycleAt_40 : decode cX11_cycleAt 40 = .ok (.iload_n 1, 1) := by decide +kernel
theorem dX11_cycleAt_41 : decode cX11_cycleAt 41 = .ok (.invokevirtual 135, 3) := by decide +kernel
theorem dX11_cycleAt_44 : decode cX11_cycleAt 44 = .ok (.ifCond .ne 6, 3) := by decide +kernel
theorem dX11_cycleAt_47 : decode cX11_cycleAt 47 = .ok (.bipush (-4), 2) := by decide +kernel
theorem dX11_cycleAt_49 : decode cX11_cycleAt 49 = .ok (.ireturn, 1) := by decide +kernel
theorem dX11_cycleAt_50 : decode cX11_cycleAt 50 = .ok (.iload_n 1, 1) := by decide +kernel
theorem dX11_cycleAt_51 : decode cX11_cycleAt 51 = .ok (.istore 4, 2) := by decide +kernel
theorem dX11_cycleAt_53 : decode cX11_cycleAt 53 = .ok (.iconst 1, 1) := by decide +kernel
theorem dX11_cycleAt_54 : decode cX11_cycleAt 54 = .ok (.iload_n 1, 1) := by decide +kernel
theorem dX11_cycleAt_55 : decode cX11_cycleAt 55 = .ok (.ishl, 1) := by decide +kernel
theorem dX11_cycleAt_56 : decode cX11_cycleAt 56 = .ok (.istore 5, 2) := by decide +kernel
theorem dX11_cycleAt_58 : decode cX11_cycleAt 58 = .ok (.iconst 0, 1) := by decide +kernel
theorem dX11_cycleAt_59 : decode cX11_cycleAt 59 = .ok (.istore 6, 2) := by decide +kernel
theorem dX11_cycleAt_61 : decode cX11_cycleAt 61 = .ok (.iload 6, 2) := by decide +kernel
theorem dX11_cycleAt_63 : decode cX11_cycleAt 63 = .ok (.iload_n 3, 1) := by decide +kernel
theorem dX11_cycleAt_64 : decode cX11_cycleAt 64 = .ok (.if_icmp .ge 71, 3) := by decide +kernel
theorem dX11_cycleAt_67 : decode cX11_cycleAt 67 = .ok (.iconst 0, 1) := by decide +kernel
theorem dX11_cycleAt_68 : decode cX11_cycleAt 68 = .ok (.istore 7, 2) := by decide +kernel
theorem dX11_cycleAt_70 : decode cX11_cycleAt 70 = .ok (.aload_n 0, 1) := by decide +kernel
theorem dX11_cycleAt_71 : decode cX11_cycleAt 71 = .ok (.iload 4, 2) := by decide +kernel
theorem dX11_cycleAt_73 : decode cX11_cycleAt 73 = .ok (.invokevirtual 45, 3) := by decide +kernel
theorem dX11_cycleAt_76 : decode cX11_cycleAt 76 = .ok (.iload 5, 2) := by decide +kernel
theorem dX11_cycleAt_78 : decode cX11_cycleAt 78 = .ok (.iconst (-1), 1) := by decide +kernel
theorem dX11_cycleAt_79 : decode cX11_cycleAt 79 = .ok (.ixor, 1) := by decide +kernel
theorem dX11_cycleAt_80 : decode cX11_cycleAt 80 = .ok (.iand, 1) := by decide +kernel
theorem dX11_cycleAt_81 : decode cX11_cycleAt 81 = .ok (.iload 7, 2) := by decide +kernel
theorem dX11_cycleAt_83 : decode cX11_cycleAt 83 = .ok (.invokestatic 49, 3) := by decide +kernel
theorem dX11_cycleAt_86 : decode cX11_cycleAt 86 = .ok (.ifCond .eq 24, 3) := by decide +kernel
theorem dX11_cycleAt_89 : decode cX11_cycleAt 89 = .ok (.aload_n 0, 1) := by decide +kernel
theorem dX11_cycleAt_90 : decode cX11_cycleAt 90 = .ok (.getfield 25, 3) := by decide +kernel
theorem dX11_cycleAt_93 : decode cX11_cycleAt 93 = .ok (.bipush 10, 2) := by decide +kernel
theorem dX11_cycleAt_95 : decode cX11_cycleAt 95 = .ok (.iload 5, 2) := by decide +kernel
theorem dX11_cycleAt_97 : decode cX11_cycleAt 97 = .ok (.iconst 1, 1) := by decide +kernel
theorem dX11_cycleAt_98 : decode cX11_cycleAt 98 = .ok (.iload 7, 2) := by decide +kernel
theorem dX11_cycleAt_100 : decode cX11_cycleAt 100 = .ok (.ishl, 1) := by decide +kernel
theorem dX11_cycleAt_101 : decode cX11_cycleAt 101 = .ok (.ior, 1) := by decide +kernel
theorem dX11_cycleAt_102 : decode cX11_cycleAt 102 = .ok (.imul, 1) := by decide +kernel
theorem dX11_cycleAt_103 : decode cX11_cycleAt 103 = .ok (.iload 7, 2) := by decide +kernel
theorem dX11_cycleAt_105 : decode cX11_cycleAt 105 = .ok (.iadd, 1) := by decide +kernel
theorem dX11_cycleAt_106 : decode cX11_cycleAt 106 = .ok (.iaload, 1) := by decide +kernel
theorem dX11_cycleAt_107 : decode cX11_cycleAt 107 = .ok (.ifCond .ne 9, 3) := by decide +kernel
theorem dX11_cycleAt_110 : decode cX11_cycleAt 110 = .ok (.iinc 7 1, 3) := by decide +kernel
theorem dX11_cycleAt_113 : decode cX11_cycleAt 113 = .ok (.goto (-43), 3) := by decide +kernel
theorem dX11_cycleAt_116 : decode cX11_cycleAt 116 = .ok (.iload 5, 2) := by decide +kernel
theorem dX11_cycleAt_118 : decode cX11_cycleAt 118 = .ok (.iconst 1, 1) := by decide +kernel
theorem dX11_cycleAt_119 : decode cX11_cycleAt 119 = .ok (.iload 7, 2) := by decide +kernel
theorem dX11_cycleAt_121 : decode cX11_cycleAt 121 = .ok (.ishl, 1) := by decide +kernel
theorem dX11_cycleAt_122 : decode cX11_cycleAt 122 = .ok (.ior, 1) := by decide +kernel
theorem dX11_cycleAt_123 : decode cX11_cycleAt 123 = .ok (.istore 5, 2) := by decide +kernel
theorem dX11_cycleAt_125 : decode cX11_cycleAt 125 = .ok (.iload 7, 2) := by decide +kernel
theorem dX11_cycleAt_127 : decode cX11_cycleAt 127 = .ok (.istore 4, 2) := by decide +kernel
theorem dX11_cycleAt_129 : decode cX11_cycleAt 129 = .ok (.iinc 6 1, 3) := by decide +kernel
theorem dX11_cycleAt_132 : decode cX11_cycleAt 132 = .ok (.goto (-71), 3) := by decide +kernel
theorem dX11_cycleAt_135 : decode cX11_cycleAt 135 = .ok (.iload 4, 2) := by decide +kernel
theorem dX11_cycleAt_137 : decode cX11_cycleAt 137 = .ok (.ireturn, 1) := by decide +kernel
theorem dX11_cycleLengths_0 : decode cX11_cycleLengths 0 = .ok (.aload_n 0, 1) := by decide +kernel
theorem dX11_cycleLengths_1 : decode cX11_cycleLengths 1 = .ok (.iload_n 1, 1) := by decide +kernel
