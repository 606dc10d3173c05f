theorem dX11_cycleLengths_2 : decode cX11_cycleLengths 2 = .ok (.invokevirtual 57, 3) := by decide +kernel
theorem dX11_cycleLengths_5 : decode cX11_cycleLengths 5 = .ok (.ifCond .ne 5, 3) := by decide +kernel
theorem dX11_cycleLengths_8 : decode cX11_cycleLengths 8 = .ok (.iconst (-1), 1) := by decide +kernel
theorem dX11_cycleLengths_9 : decode cX11_cycleLengths 9 = .ok (.ireturn, 1) := by decide +kernel
theorem dX11_cycleLengths_10 : decode cX11_cycleLengths 10 = .ok (.iconst 0, 1) := by decide +kernel
theorem dX11_cycleLengths_11 : decode cX11_cycleLengths 11 = .ok (.istore_n 2, 1) := by decide +kernel
theorem dX11_cycleLengths_12 : decode cX11_cycleLengths 12 = .ok (.iconst 3, 1) := by decide +kernel
theorem dX11_cycleLengths_13 : decode cX11_cycleLengths 13 = .ok (.istore_n 3, 1) := by decide +kernel
theorem dX11_cycleLengths_14 : decode cX11_cycleLengths 14 = .ok (.iload_n 3, 1) := by decide +kernel
theorem dX11_cycleLengths_15 : decode cX11_cycleLengths 15 = .ok (.aload_n 0, 1) := by decide +kernel
theorem dX11_cycleLengths_16 : decode cX11_cycleLengths 16 = .ok (.invokevirtual 92, 3) := by decide +kernel
theorem dX11_cycleLengths_19 : decode cX11_cycleLengths 19 = .ok (.if_icmp .gt 31, 3) := by decide +kernel
theorem dX11_cycleLengths_22 : decode cX11_cycleLengths 22 = .ok (.aload_n 0, 1) := by decide +kernel
theorem dX11_cycleLengths_23 : decode cX11_cycleLengths 23 = .ok (.iload_n 1, 1) := by decide +kernel
theorem dX11_cycleLengths_24 : decode cX11_cycleLengths 24 = .ok (.iload_n 3, 1) := by decide +kernel
theorem dX11_cycleLengths_25 : decode cX11_cycleLengths 25 = .ok (.invokevirtual 132, 3) := by decide +kernel
theorem dX11_cycleLengths_28 : decode cX11_cycleLengths 28 = .ok (.iload_n 2, 1) := by decide +kernel
theorem dX11_cycleLengths_29 : decode cX11_cycleLengths 29 = .ok (.aload_n 0, 1) := by decide +kernel
theorem dX11_cycleLengths_30 : decode cX11_cycleLengths 30 = .ok (.iload_n 1, 1) := by decide +kernel
theorem dX11_cycleLengths_31 : decode cX11_cycleLengths 31 = .ok (.invokevirtual 135, 3) := by decide +kernel
theorem dX11_cycleLengths_34 : decode cX11_cycleLengths 34 = .ok (.ifCond .eq 7, 3) := by decide +kernel
theorem dX11_cycleLengths_37 : decode cX11_cycleLengths 37 = .ok (.iconst 1, 1) := by decide +kernel
theorem dX11_cycleLengths_38 : decode cX11_cycleLengths 38 = .ok (.goto 4, 3) := by decide +kernel
theorem dX11_cycleLengths_41 : decode cX11_cycleLengths 41 = .ok (.iconst 0, 1) := by decide +kernel
theorem dX11_cycleLengths_42 : decode cX11_cycleLengths 42 = .ok (.iadd, 1) := by decide +kernel
theorem dX11_cycleLengths_43 : decode cX11_cycleLengths 43 = .ok (.istore_n 2, 1) := by decide +kernel
theorem dX11_cycleLengths_44 : decode cX11_cycleLengths 44 = .ok (.iinc 3 1, 3) := by decide +kernel
theorem dX11_cycleLengths_47 : decode cX11_cycleLengths 47 = .ok (.goto (-33), 3) := by decide +kernel
theorem dX11_cycleLengths_50 : decode cX11_cycleLengths 50 = .ok (.iload_n 2, 1) := by decide +kernel
theorem dX11_cycleLengths_51 : decode cX11_cycleLengths 51 = .ok (.ireturn, 1) := by decide +kernel
theorem dX11_costOf_0 : decode cX11_costOf 0 = .ok (.iconst 0, 1) := by decide +kernel
theorem dX11_costOf_1 : decode cX11_costOf 1 = .ok (.istore_n 3, 1) := by decide +kernel
theorem dX11_costOf_2 : decode cX11_costOf 2 = .ok (.iconst 0, 1) := by decide +kernel
theorem dX11_costOf_3 : decode cX11_costOf 3 = .ok (.istore 4, 2) := by decide +kernel
theorem dX11_costOf_5 : decode cX11_costOf 5 = .ok (.iload 4, 2) := by decide +kernel
theorem dX11_costOf_7 : decode cX11_costOf 7 = .ok (.aload_n 0, 1) := by decide +kernel
theorem dX11_costOf_8 : decode cX11_costOf 8 = .ok (.invokevirtual 92, 3) := by decide +kernel
theorem dX11_costOf_11 : decode cX11_costOf 11 = .ok (.if_icmp .ge 46, 3) := by decide +kernel
theorem dX11_costOf_14 : decode cX11_costOf 14 = .ok (.iload_n 3, 1) := by decide +kernel
theorem dX11_costOf_15 : decode cX11_costOf 15 = .ok (.iload_n 2, 1) := by decide +kernel
theorem dX11_costOf_16 : decode cX11_costOf 16 = .ok (.iload 4, 2) := by decide +kernel
theorem dX11_costOf_18 : decode cX11_costOf 18 = .ok (.invokestatic 49, 3) := by decide +kernel
theorem dX11_costOf_21 : decode cX11_costOf 21 = .ok (.ifCond .eq 27, 3) := by decide +kernel
theorem dX11_costOf_24 : decode cX11_costOf 24 = .ok (.aload_n 0, 1) := by decide +kernel
theorem dX11_costOf_25 : decode cX11_costOf 25 = .ok (.iload 4, 2) := by decide +kernel
theorem dX11_costOf_27 : decode cX11_costOf 27 = .ok (.iload_n 1, 1) := by decide +kernel
theorem dX11_costOf_28 : decode cX11_costOf 28 = .ok (.invokevirtual 69, 3) := by decide +kernel
theorem dX11_costOf_31 : decode cX11_costOf 31 = .ok (.ifCond .eq 17, 3) := by decide +kernel
theorem dX11_costOf_34 : decode cX11_costOf 34 = .ok (.aload_n 0, 1) := by decide +kernel
theorem dX11_costOf_35 : decode cX11_costOf 35 = .ok (.getfield 7, 3) := by decide +kernel
theorem dX11_costOf_38 : decode cX11_costOf 38 = .ok (.iload 4, 2) := by decide +kernel
theorem dX11_costOf_40 : decode cX11_costOf 40 = .ok (.iload_n 1, 1) := by decide +kernel
theorem dX11_costOf_41 : decode cX11_costOf 41 = .ok (.invokestatic 61, 3) := by decide +kernel
theorem dX11_costOf_44 : decode cX11_costOf 44 = .ok (.iaload, 1) := by decide +kernel
theorem dX11_costOf_45 : decode cX11_costOf 45 = .ok (.goto 4, 3) := by decide +kernel
theorem dX11_costOf_48 : decode cX11_costOf 48 = .ok (.iconst 0, 1) := by decide +kernel
theorem dX11_costOf_49 : decode cX11_costOf 49 = .ok (.iadd, 1) := by decide +kernel
theorem dX11_costOf_50 : decode cX11_costOf 50 = .ok (.istore_n 3, 1) := by decide +kernel
theorem dX11_costOf_51 : decode cX11_costOf 51 = .ok (.iinc 4 1, 3) := by decide +kernel
theorem dX11_costOf_54 : decode cX11_costOf 54 = .ok (.goto (-49), 3) := by decide +kernel
theorem dX11_costOf_57 : decode cX11_costOf 57 = .ok (.iload_n 3, 1) := by decide +kernel
theorem dX11_costOf_58 : decode cX11_costOf 58 = .ok (.ireturn, 1) := by decide +kernel
theorem dX11_orders_0 : decode cX11_orders 0 = .ok (.aload_n 0, 1) := by decide +kernel
theorem dX11_orders_1 : decode cX11_orders 1 = .ok (.getfield 28, 3) := by decide +kernel
theorem dX11_orders_4 : decode cX11_orders 4 = .ok (.iconst 0, 1) := by decide +kernel
theorem dX11_orders_5 : decode cX11_orders 5 = .ok (.iconst 0, 1) := by decide +kernel
theorem dX11_orders_6 : decode cX11_orders 6 = .ok (.iastore, 1) := by decide +kernel
theorem dX11_orders_7 : decode cX11_orders 7 = .ok (.iconst 1, 1) := by decide +kernel
theorem dX11_orders_8 : decode cX11_orders 8 = .ok (.istore_n 1, 1) := by decide +kernel
theorem dX11_orders_9 : decode cX11_orders 9 = .ok (.iload_n 1, 1) := by decide +kernel
theorem dX11_orders_10 : decode cX11_orders 10 = .ok (.aload_n 0, 1) := by decide +kernel
theorem dX11_orders_11 : decode cX11_orders 11 = .ok (.invokevirtual 111, 3) := by decide +kernel
theorem dX11_orders_14 : decode cX11_orders 14 = .ok (.if_icmp .gt 94, 3) := by decide +kernel
theorem dX11_orders_17 : decode cX11_orders 17 = .ok (.iconst (-1), 1) := by decide +kernel
theorem dX11_orders_18 : decode cX11_orders 18 = .ok (.istore_n 2, 1) := by decide +kernel
theorem dX11_orders_19 : decode cX11_orders 19 = .ok (.iconst 0, 1) := by decide +kernel
theorem dX11_orders_20 : decode cX11_orders 20 = .ok (.istore_n 3, 1) := by decide +kernel
theorem dX11_orders_21 : decode cX11_orders 21 = .ok (.iload_n 3, 1) := by decide +kernel
theorem dX11_orders_22 : decode cX11_orders 22 = .ok (.aload_n 0, 1) := by decide +kernel
theorem dX11_orders_23 : decode cX11_orders 23 = .ok (.invokevirtual 92, 3) := by decide +kernel
theorem dX11_orders_26 : decode cX11_orders 26 = .ok (.if_icmp .ge 69, 3) := by decide +kernel
theorem dX11_orders_29 : decode cX11_orders 29 = .ok (.iload_n 1, 1) := by decide +kernel
theorem dX11_orders_30 : decode cX11_orders 30 = .ok (.iconst 1, 1) := by decide +kernel
theorem dX11_orders_31 : decode cX11_orders 31 = .ok (.iload_n 3, 1) := by decide +kernel
theorem dX11_orders_32 : decode cX11_orders 32 = .ok (.ishl, 1) := by decide +kernel
theorem dX11_orders_33 : decode cX11_orders 33 = .ok (.iconst (-1), 1) := by decide +kernel
theorem dX11_orders_34 : decode cX11_orders 34 = .ok (.ixor, 1) := by decide +kernel
theorem dX11_orders_35 : decode cX11_orders 35 = .ok (.iand, 1) := by decide +kernel
theorem dX11_orders_36 : decode cX11_orders 36 = .ok (.istore 4, 2) := by decide +kernel
theorem dX11_orders_38 : decode cX11_orders 38 = .ok (.iload_n 1, 1) := by decide +kernel
theorem dX11_orders_39 : decode cX11_orders 39 = .ok (.iload_n 3, 1) := by decide +kernel
theorem dX11_orders_40 : decode cX11_orders 40 = .ok (.invokestatic 49, 3) := by decide +kernel
theorem dX11_orders_43 : decode cX11_orders 43 = .ok (.ifCond .eq 21, 3) := by decide +kernel
theorem dX11_orders_46 : decode cX11_orders 46 = .ok (.aload_n 0, 1) := by decide +kernel
theorem dX11_orders_47 : decode cX11_orders 47 = .ok (.iload_n 3, 1) := by decide +kernel
theorem dX11_orders_48 : decode cX11_orders 48 = .ok (.iload 4, 2) := by decide +kernel
theorem dX11_orders_50 : decode cX11_orders 50 = .ok (.invokevirtual 138, 3) := by decide +kernel
theorem dX11_orders_53 : decode cX11_orders 53 = .ok (.aload_n 0, 1) := by decide +kernel
theorem dX11_orders_54 : decode cX11_orders 54 = .ok (.getfield 28, 3) := by decide +kernel
theorem dX11_orders_57 : decode cX11_orders 57 = .ok (.iload 4, 2) := by decide +kernel
theorem dX11_orders_59 : decode cX11_orders 59 = .ok (.iaload, 1) := by decide +kernel
theorem dX11_orders_60 : decode cX11_orders 60 = .ok (.iadd, 1) := by decide +kernel
theorem dX11_orders_61 : decode cX11_orders 61 = .ok (.goto 4, 3) := by decide +kernel
theorem dX11_orders_64 : decode cX11_orders 64 = .ok (.iconst (-1), 1) := by decide +kernel
theorem dX11_orders_65 : decode cX11_orders 65 = .ok (.istore 5, 2) := by decide +kernel
theorem dX11_orders_67 : decode cX11_orders 67 = .ok (.iload 5, 2) := by decide +kernel
theorem dX11_orders_69 : decode cX11_orders 69 = .ok (.ifCond .lt 18, 3) := by decide +kernel
theorem dX11_orders_72 : decode cX11_orders 72 = .ok (.iload_n 2, 1) := by decide +kernel
theorem dX11_orders_73 : decode cX11_orders 73 = .ok (.ifCond .lt 9, 3) := by decide +kernel
theorem dX11_orders_76 : decode cX11_orders 76 = .ok (.iload 5, 2) := by decide +kernel
theorem dX11_orders_78 : decode cX11_orders 78 = .ok (.iload_n 2, 1) := by decide +kernel
theorem dX11_orders_79 : decode cX11_orders 79 = .ok (.if_icmp .ge 8, 3) := by decide +kernel
theorem dX11_orders_82 : decode cX11_orders 82 = .ok (.iload 5, 2) := by decide +kernel
theorem dX11_orders_84 : decode cX11_orders 84 = .ok (.goto 4, 3) := by decide +kernel
theorem dX11_orders_87 : decode cX11_orders 87 = .ok (.iload_n 2, 1) := by decide +kernel
theorem dX11_orders_88 : decode cX11_orders 88 = .ok (.istore_n 2, 1) := by decide +kernel
theorem dX11_orders_89 : decode cX11_orders 89 = .ok (.iinc 3 1, 3) := by decide +kernel
theorem dX11_orders_92 : decode cX11_orders 92 = .ok (.goto (-71), 3) := by decide +kernel
theorem dX11_orders_95 : decode cX11_orders 95 = .ok (.aload_n 0, 1) := by decide +kernel
theorem dX11_orders_96 : decode cX11_orders 96 = .ok (.getfield 28, 3) := by decide +kernel
theorem dX11_orders_99 : decode cX11_orders 99 = .ok (.iload_n 1, 1) := by decide +kernel
theorem dX11_orders_100 : decode cX11_orders 100 = .ok (.iload_n 2, 1) := by decide +kernel
theorem dX11_orders_101 : decode cX11_orders 101 = .ok (.iastore, 1) := by decide +kernel
theorem dX11_orders_102 : decode cX11_orders 102 = .ok (.iinc 1 1, 3) := by decide +kernel
theorem dX11_orders_105 : decode cX11_orders 105 = .ok (.goto (-96), 3) := by decide +kernel
theorem dX11_orders_108 : decode cX11_orders 108 = .ok (.return_, 1) := by decide +kernel
theorem dX11_isBest_0 : decode cX11_isBest 0 = .ok (.iload_n 2, 1) := by decide +kernel
theorem dX11_isBest_1 : decode cX11_isBest 1 = .ok (.iconst 1, 1) := by decide +kernel
theorem dX11_isBest_2 : decode cX11_isBest 2 = .ok (.iload_n 1, 1) := by decide +kernel
theorem dX11_isBest_3 : decode cX11_isBest 3 = .ok (.ishl, 1) := by decide +kernel
theorem dX11_isBest_4 : decode cX11_isBest 4 = .ok (.iconst (-1), 1) := by decide +kernel
theorem dX11_isBest_5 : decode cX11_isBest 5 = .ok (.ixor, 1) := by decide +kernel
theorem dX11_isBest_6 : decode cX11_isBest 6 = .ok (.iand, 1) := by decide +kernel
theorem dX11_isBest_7 : decode cX11_isBest 7 = .ok (.istore_n 3, 1) := by decide +kernel
theorem dX11_isBest_8 : decode cX11_isBest 8 = .ok (.iload_n 2, 1) := by decide +kernel
theorem dX11_isBest_9 : decode cX11_isBest 9 = .ok (.iload_n 1, 1) := by decide +kernel
theorem dX11_isBest_10 : decode cX11_isBest 10 = .ok (.invokestatic 49, 3) := by decide +kernel
theorem dX11_isBest_13 : decode cX11_isBest 13 = .ok (.ifCond .eq 29, 3) := by decide +kernel
theorem dX11_isBest_16 : decode cX11_isBest 16 = .ok (.aload_n 0, 1) := by decide +kernel
theorem dX11_isBest_17 : decode cX11_isBest 17 = .ok (.iload_n 1, 1) := by decide +kernel
theorem dX11_isBest_18 : decode cX11_isBest 18 = .ok (.iload_n 3, 1) := by decide +kernel
theorem dX11_isBest_19 : decode cX11_isBest 19 = .ok (.invokevirtual 138, 3) := by decide +kernel
theorem dX11_isBest_22 : decode cX11_isBest 22 = .ok (.aload_n 0, 1) := by decide +kernel
theorem dX11_isBest_23 : decode cX11_isBest 23 = .ok (.getfield 28, 3) := by decide +kernel
theorem dX11_isBest_26 : decode cX11_isBest 26 = .ok (.iload_n 3, 1) := by decide +kernel
theorem dX11_isBest_27 : decode cX11_isBest 27 = .ok (.iaload, 1) := by decide +kernel
theorem dX11_isBest_28 : decode cX11_isBest 28 = .ok (.iadd, 1) := by decide +kernel
theorem dX11_isBest_29 : decode cX11_isBest 29 = .ok (.aload_n 0, 1) := by decide +kernel
theorem dX11_isBest_30 : decode cX11_isBest 30 = .ok (.getfield 28, 3) := by decide +kernel
theorem dX11_isBest_33 : decode cX11_isBest 33 = .ok (.iload_n 2, 1) := by decide +kernel
theorem dX11_isBest_34 : decode cX11_isBest 34 = .ok (.iaload, 1) := by decide +kernel
theorem dX11_isBest_35 : decode cX11_isBest 35 = .ok (.if_icmp .ne 7, 3) := by decide +kernel
theorem dX11_isBest_38 : decode cX11_isBest 38 = .ok (.iconst 1, 1) := by decide +kernel
theorem dX11_isBest_39 : decode cX11_isBest 39 = .ok (.goto 4, 3) := by decide +kernel
theorem dX11_isBest_42 : decode cX11_isBest 42 = .ok (.iconst 0, 1) := by decide +kernel
theorem dX11_isBest_43 : decode cX11_isBest 43 = .ok (.ireturn, 1) := by decide +kernel
theorem dX11_leastCost_0 : decode cX11_leastCost 0 = .ok (.aload_n 0, 1) := by decide +kernel
theorem dX11_leastCost_1 : decode cX11_leastCost 1 = .ok (.invokevirtual 141, 3) := by decide +kernel
theorem dX11_leastCost_4 : decode cX11_leastCost 4 = .ok (.aload_n 0, 1) := by decide +kernel
theorem dX11_leastCost_5 : decode cX11_leastCost 5 = .ok (.getfield 28, 3) := by decide +kernel
theorem dX11_leastCost_8 : decode cX11_leastCost 8 = .ok (.aload_n 0, 1) := by decide +kernel
theorem dX11_leastCost_9 : decode cX11_leastCost 9 = .ok (.invokevirtual 111, 3) := by decide +kernel
theorem dX11_leastCost_12 : decode cX11_leastCost 12 = .ok (.iaload, 1) := by decide +kernel
theorem dX11_leastCost_13 : decode cX11_leastCost 13 = .ok (.ireturn, 1) := by decide +kernel
theorem dX11_orderAt_0 : decode cX11_orderAt 0 = .ok (.aload_n 0, 1) := by decide +kernel
theorem dX11_orderAt_1 : decode cX11_orderAt 1 = .ok (.iload_n 1, 1) := by decide +kernel
theorem dX11_orderAt_2 : decode cX11_orderAt 2 = .ok (.invokevirtual 57, 3) := by decide +kernel
theorem dX11_orderAt_5 : decode cX11_orderAt 5 = .ok (.ifCond .ne 5, 3) := by decide +kernel
theorem dX11_orderAt_8 : decode cX11_orderAt 8 = .ok (.iconst (-1), 1) := by decide +kernel
theorem dX11_orderAt_9 : decode cX11_orderAt 9 = .ok (.ireturn, 1) := by decide +kernel
theorem dX11_orderAt_10 : decode cX11_orderAt 10 = .ok (.aload_n 0, 1) := by decide +kernel
theorem dX11_orderAt_11 : decode cX11_orderAt 11 = .ok (.invokevirtual 141, 3) := by decide +kernel
theorem dX11_orderAt_14 : decode cX11_orderAt 14 = .ok (.aload_n 0, 1) := by decide +kernel
theorem dX11_orderAt_15 : decode cX11_orderAt 15 = .ok (.invokevirtual 111, 3) := by decide +kernel
theorem dX11_orderAt_18 : decode cX11_orderAt 18 = .ok (.istore_n 2, 1) := by decide +kernel
theorem dX11_orderAt_19 : decode cX11_orderAt 19 = .ok (.iconst 0, 1) := by decide +kernel
theorem dX11_orderAt_20 : decode cX11_orderAt 20 = .ok (.istore_n 3, 1) := by decide +kernel
theorem dX11_orderAt_21 : decode cX11_orderAt 21 = .ok (.iconst 0, 1) := by decide +kernel
theorem dX11_orderAt_22 : decode cX11_orderAt 22 = .ok (.istore 4, 2) := by decide +kernel
theorem dX11_orderAt_24 : decode cX11_orderAt 24 = .ok (.iload 4, 2) := by decide +kernel
theorem dX11_orderAt_26 : decode cX11_orderAt 26 = .ok (.iload_n 1, 1) := by decide +kernel
theorem dX11_orderAt_27 : decode cX11_orderAt 27 = .ok (.if_icmp .gt 34, 3) := by decide +kernel
theorem dX11_orderAt_30 : decode cX11_orderAt 30 = .ok (.iconst 0, 1) := by decide +kernel
theorem dX11_orderAt_31 : decode cX11_orderAt 31 = .ok (.istore_n 3, 1) := by decide +kernel
theorem dX11_orderAt_32 : decode cX11_orderAt 32 = .ok (.aload_n 0, 1) := by decide +kernel
theorem dX11_orderAt_33 : decode cX11_orderAt 33 = .ok (.iload_n 3, 1) := by decide +kernel
theorem dX11_orderAt_34 : decode cX11_orderAt 34 = .ok (.iload_n 2, 1) := by decide +kernel
theorem dX11_orderAt_35 : decode cX11_orderAt 35 = .ok (.invokevirtual 144, 3) := by decide +kernel
theorem dX11_orderAt_38 : decode cX11_orderAt 38 = .ok (.ifCond .ne 9, 3) := by decide +kernel
theorem dX11_orderAt_41 : decode cX11_orderAt 41 = .ok (.iinc 3 1, 3) := by decide +kernel
theorem dX11_orderAt_44 : decode cX11_orderAt 44 = .ok (.goto (-12), 3) := by decide +kernel
theorem dX11_orderAt_47 : decode cX11_orderAt 47 = .ok (.iload_n 2, 1) := by decide +kernel
theorem dX11_orderAt_48 : decode cX11_orderAt 48 = .ok (.iconst 1, 1) := by decide +kernel
theorem dX11_orderAt_49 : decode cX11_orderAt 49 = .ok (.iload_n 3, 1) := by decide +kernel
theorem dX11_orderAt_50 : decode cX11_orderAt 50 = .ok (.ishl, 1) := by decide +kernel
theorem dX11_orderAt_51 : decode cX11_orderAt 51 = .ok (.iconst (-1), 1) := by decide +kernel
theorem dX11_orderAt_52 : decode cX11_orderAt 52 = .ok (.ixor, 1) := by decide +kernel
theorem dX11_orderAt_53 : decode cX11_orderAt 53 = .ok (.iand, 1) := by decide +kernel
theorem dX11_orderAt_54 : decode cX11_orderAt 54 = .ok (.istore_n 2, 1) := by decide +kernel
theorem dX11_orderAt_55 : decode cX11_orderAt 55 = .ok (.iinc 4 1, 3) := by decide +kernel
theorem dX11_orderAt_58 : decode cX11_orderAt 58 = .ok (.goto (-34), 3) := by decide +kernel
theorem dX11_orderAt_61 : decode cX11_orderAt 61 = .ok (.iload_n 3, 1) := by decide +kernel
theorem dX11_orderAt_62 : decode cX11_orderAt 62 = .ok (.ireturn, 1) := by decide +kernel
theorem dX11_isKing_0 : decode cX11_isKing 0 = .ok (.iconst 1, 1) := by decide +kernel
theorem dX11_isKing_1 : decode cX11_isKing 1 = .ok (.iload_n 1, 1) := by decide +kernel
theorem dX11_isKing_2 : decode cX11_isKing 2 = .ok (.ishl, 1) := by decide +kernel
theorem dX11_isKing_3 : decode cX11_isKing 3 = .ok (.aload_n 0, 1) := by decide +kernel
theorem dX11_isKing_4 : decode cX11_isKing 4 = .ok (.iload_n 1, 1) := by decide +kernel
theorem dX11_isKing_5 : decode cX11_isKing 5 = .ok (.invokevirtual 45, 3) := by decide +kernel
theorem dX11_isKing_8 : decode cX11_isKing 8 = .ok (.ior, 1) := by decide +kernel
theorem dX11_isKing_9 : decode cX11_isKing 9 = .ok (.istore_n 2, 1) := by decide +kernel
theorem dX11_isKing_10 : decode cX11_isKing 10 = .ok (.iconst 0, 1) := by decide +kernel
theorem dX11_isKing_11 : decode cX11_isKing 11 = .ok (.istore_n 3, 1) := by decide +kernel
theorem dX11_isKing_12 : decode cX11_isKing 12 = .ok (.iload_n 3, 1) := by decide +kernel
theorem dX11_isKing_13 : decode cX11_isKing 13 = .ok (.aload_n 0, 1) := by decide +kernel
theorem dX11_isKing_14 : decode cX11_isKing 14 = .ok (.invokevirtual 92, 3) := by decide +kernel
theorem dX11_isKing_17 : decode cX11_isKing 17 = .ok (.if_icmp .ge 30, 3) := by decide +kernel
theorem dX11_isKing_20 : decode cX11_isKing 20 = .ok (.iload_n 2, 1) := by decide +kernel
theorem dX11_isKing_21 : decode cX11_isKing 21 = .ok (.aload_n 0, 1) := by decide +kernel
theorem dX11_isKing_22 : decode cX11_isKing 22 = .ok (.iload_n 1, 1) := by decide +kernel
theorem dX11_isKing_23 : decode cX11_isKing 23 = .ok (.iload_n 3, 1) := by decide +kernel
theorem dX11_isKing_24 : decode cX11_isKing 24 = .ok (.invokevirtual 69, 3) := by decide +kernel
theorem dX11_isKing_27 : decode cX11_isKing 27 = .ok (.ifCond .eq 11, 3) := by decide +kernel
theorem dX11_isKing_30 : decode cX11_isKing 30 = .ok (.aload_n 0, 1) := by decide +kernel
theorem dX11_isKing_31 : decode cX11_isKing 31 = .ok (.iload_n 3, 1) := by decide +kernel
theorem dX11_isKing_32 : decode cX11_isKing 32 = .ok (.invokevirtual 45, 3) := by decide +kernel
theorem dX11_isKing_35 : decode cX11_isKing 35 = .ok (.goto 4, 3) := by decide +kernel
theorem dX11_isKing_38 : decode cX11_isKing 38 = .ok (.iconst 0, 1) := by decide +kernel
theorem dX11_isKing_39 : decode cX11_isKing 39 = .ok (.ior, 1) := by decide +kernel
theorem dX11_isKing_40 : decode cX11_isKing 40 = .ok (.istore_n 2, 1) := by decide +kernel
theorem dX11_isKing_41 : decode cX11_isKing 41 = .ok (.iinc 3 1, 3) := by decide +kernel
theorem dX11_isKing_44 : decode cX11_isKing 44 = .ok (.goto (-32), 3) := by decide +kernel
theorem dX11_isKing_47 : decode cX11_isKing 47 = .ok (.iload_n 2, 1) := by decide +kernel
theorem dX11_isKing_48 : decode cX11_isKing 48 = .ok (.aload_n 0, 1) := by decide +kernel
theorem dX11_isKing_49 : decode cX11_isKing 49 = .ok (.invokevirtual 111, 3) := by decide +kernel
theorem dX11_isKing_52 : decode cX11_isKing 52 = .ok (.if_icmp .ne 7, 3) := by decide +kernel
theorem dX11_isKing_55 : decode cX11_isKing 55 = .ok (.iconst 1, 1) := by decide +kernel
theorem dX11_isKing_56 : decode cX11_isKing 56 = .ok (.goto 4, 3) := by decide +kernel
theorem dX11_isKing_59 : decode cX11_isKing 59 = .ok (.iconst 0, 1) := by decide +kernel
theorem dX11_isKing_60 : decode cX11_isKing 60 = .ok (.ireturn, 1) := by decide +kernel
theorem dX11_isTop_0 : decode cX11_isTop 0 = .ok (.iconst 1, 1) := by decide +kernel
theorem dX11_isTop_1 : decode cX11_isTop 1 = .ok (.istore_n 2, 1) := by decide +kernel
theorem dX11_isTop_2 : decode cX11_isTop 2 = .ok (.iconst 0, 1) := by decide +kernel
theorem dX11_isTop_3 : decode cX11_isTop 3 = .ok (.istore_n 3, 1) := by decide +kernel
theorem dX11_isTop_4 : decode cX11_isTop 4 = .ok (.iload_n 3, 1) := by decide +kernel
theorem dX11_isTop_5 : decode cX11_isTop 5 = .ok (.aload_n 0, 1) := by decide +kernel
theorem dX11_isTop_6 : decode cX11_isTop 6 = .ok (.invokevirtual 92, 3) := by decide +kernel
theorem dX11_isTop_9 : decode cX11_isTop 9 = .ok (.if_icmp .ge 38, 3) := by decide +kernel
theorem dX11_isTop_12 : decode cX11_isTop 12 = .ok (.iload_n 2, 1) := by decide +kernel
theorem dX11_isTop_13 : decode cX11_isTop 13 = .ok (.ifCond .eq 26, 3) := by decide +kernel
theorem dX11_isTop_16 : decode cX11_isTop 16 = .ok (.aload_n 0, 1) := by decide +kernel
theorem dX11_isTop_17 : decode cX11_isTop 17 = .ok (.iload_n 3, 1) := by decide +kernel
theorem dX11_isTop_18 : decode cX11_isTop 18 = .ok (.invokevirtual 45, 3) := by decide +kernel
theorem dX11_isTop_21 : decode cX11_isTop 21 = .ok (.invokestatic 98, 3) := by decide +kernel
theorem dX11_isTop_24 : decode cX11_isTop 24 = .ok (.aload_n 0, 1) := by decide +kernel
theorem dX11_isTop_25 : decode cX11_isTop 25 = .ok (.iload_n 1, 1) := by decide +kernel
theorem dX11_isTop_26 : decode cX11_isTop 26 = .ok (.invokevirtual 45, 3) := by decide +kernel
theorem dX11_isTop_29 : decode cX11_isTop 29 = .ok (.invokestatic 98, 3) := by decide +kernel
theorem dX11_isTop_32 : decode cX11_isTop 32 = .ok (.if_icmp .gt 7, 3) := by decide +kernel
theorem dX11_isTop_35 : decode cX11_isTop 35 = .ok (.iconst 1, 1) := by decide +kernel
theorem dX11_isTop_36 : decode cX11_isTop 36 = .ok (.goto 4, 3) := by decide +kernel
theorem dX11_isTop_39 : decode cX11_isTop 39 = .ok (.iconst 0, 1) := by decide +kernel
theorem dX11_isTop_40 : decode cX11_isTop 40 = .ok (.istore_n 2, 1) := by decide +kernel
theorem dX11_isTop_41 : decode cX11_isTop 41 = .ok (.iinc 3 1, 3) := by decide +kernel
theorem dX11_isTop_44 : decode cX11_isTop 44 = .ok (.goto (-40), 3) := by decide +kernel
theorem dX11_isTop_47 : decode cX11_isTop 47 = .ok (.iload_n 2, 1) := by decide +kernel
theorem dX11_isTop_48 : decode cX11_isTop 48 = .ok (.ireturn, 1) := by decide +kernel
theorem dX11_isChain_0 : decode cX11_isChain 0 = .ok (.iconst 0, 1) := by decide +kernel
theorem dX11_isChain_1 : decode cX11_isChain 1 = .ok (.istore_n 2, 1) := by decide +kernel
theorem dX11_isChain_2 : decode cX11_isChain 2 = .ok (.iconst 0, 1) := by decide +kernel
theorem dX11_isChain_3 : decode cX11_isChain 3 = .ok (.istore_n 3, 1) := by decide +kernel
theorem dX11_isChain_4 : decode cX11_isChain 4 = .ok (.iload_n 3, 1) := by decide +kernel
theorem dX11_isChain_5 : decode cX11_isChain 5 = .ok (.aload_n 0, 1) := by decide +kernel
theorem dX11_isChain_6 : decode cX11_isChain 6 = .ok (.invokevirtual 92, 3) := by decide +kernel
theorem dX11_isChain_9 : decode cX11_isChain 9 = .ok (.if_icmp .ge 36, 3) := by decide +kernel
theorem dX11_isChain_12 : decode cX11_isChain 12 = .ok (.iload_n 2, 1) := by decide +kernel
theorem dX11_isChain_13 : decode cX11_isChain 13 = .ok (.iload_n 1, 1) := by decide +kernel
theorem dX11_isChain_14 : decode cX11_isChain 14 = .ok (.iload_n 3, 1) := by decide +kernel
theorem dX11_isChain_15 : decode cX11_isChain 15 = .ok (.invokestatic 49, 3) := by decide +kernel
theorem dX11_isChain_18 : decode cX11_isChain 18 = .ok (.ifCond .eq 18, 3) := by decide +kernel
theorem dX11_isChain_21 : decode cX11_isChain 21 = .ok (.iconst 1, 1) := by decide +kernel
theorem dX11_isChain_22 : decode cX11_isChain 22 = .ok (.aload_n 0, 1) := by decide +kernel
theorem dX11_isChain_23 : decode cX11_isChain 23 = .ok (.iload_n 3, 1) := by decide +kernel
theorem dX11_isChain_24 : decode cX11_isChain 24 = .ok (.invokevirtual 45, 3) := by decide +kernel
theorem dX11_isChain_27 : decode cX11_isChain 27 = .ok (.iload_n 1, 1) := by decide +kernel
theorem dX11_isChain_28 : decode cX11_isChain 28 = .ok (.iand, 1) := by decide +kernel
theorem dX11_isChain_29 : decode cX11_isChain 29 = .ok (.invokestatic 98, 3) := by decide +kernel
theorem dX11_isChain_32 : decode cX11_isChain 32 = .ok (.ishl, 1) := by decide +kernel
theorem dX11_isChain_33 : decode cX11_isChain 33 = .ok (.goto 4, 3) := by decide +kernel
theorem dX11_isChain_36 : decode cX11_isChain 36 = .ok (.iconst 0, 1) := by decide +kernel
theorem dX11_isChain_37 : decode cX11_isChain 37 = .ok (.ior, 1) := by decide +kernel
theorem dX11_isChain_38 : decode cX11_isChain 38 = .ok (.istore_n 2, 1) := by decide +kernel
theorem dX11_isChain_39 : decode cX11_isChain 39 = .ok (.iinc 3 1, 3) := by decide +kernel
theorem dX11_isChain_42 : decode cX11_isChain 42 = .ok (.goto (-38), 3) := by decide +kernel
theorem dX11_isChain_45 : decode cX11_isChain 45 = .ok (.iload_n 2, 1) := by decide +kernel
theorem dX11_isChain_46 : decode cX11_isChain 46 = .ok (.invokestatic 98, 3) := by decide +kernel
theorem dX11_isChain_49 : decode cX11_isChain 49 = .ok (.iload_n 1, 1) := by decide +kernel
theorem dX11_isChain_50 : decode cX11_isChain 50 = .ok (.invokestatic 98, 3) := by decide +kernel
theorem dX11_isChain_53 : decode cX11_isChain 53 = .ok (.if_icmp .ne 7, 3) := by decide +kernel
theorem dX11_isChain_56 : decode cX11_isChain 56 = .ok (.iconst 1, 1) := by decide +kernel
theorem dX11_isChain_57 : decode cX11_isChain 57 = .ok (.goto 4, 3) := by decide +kernel
theorem dX11_isChain_60 : decode cX11_isChain 60 = .ok (.iconst 0, 1) := by decide +kernel
theorem dX11_isChain_61 : decode cX11_isChain 61 = .ok (.ireturn, 1) := by decide +kernel
theorem dX11_isBeaten_0 : decode cX11_isBeaten 0 = .ok (.iconst 0, 1) := by decide +kernel
theorem dX11_isBeaten_1 : decode cX11_isBeaten 1 = .ok (.istore_n 2, 1) := by decide +kernel
theorem dX11_isBeaten_2 : decode cX11_isBeaten 2 = .ok (.iconst 0, 1) := by decide +kernel
theorem dX11_isBeaten_3 : decode cX11_isBeaten 3 = .ok (.istore_n 3, 1) := by decide +kernel
theorem dX11_isBeaten_4 : decode cX11_isBeaten 4 = .ok (.iload_n 3, 1) := by decide +kernel
theorem dX11_isBeaten_5 : decode cX11_isBeaten 5 = .ok (.aload_n 0, 1) := by decide +kernel
theorem dX11_isBeaten_6 : decode cX11_isBeaten 6 = .ok (.invokevirtual 92, 3) := by decide +kernel
theorem dX11_isBeaten_9 : decode cX11_isBeaten 9 = .ok (.if_icmp .ge 30, 3) := by decide +kernel
theorem dX11_isBeaten_12 : decode cX11_isBeaten 12 = .ok (.iload_n 2, 1) := by decide +kernel
theorem dX11_isBeaten_13 : decode cX11_isBeaten 13 = .ok (.ifCond .ne 14, 3) := by decide +kernel
theorem dX11_isBeaten_16 : decode cX11_isBeaten 16 = .ok (.aload_n 0, 1) := by decide +kernel
theorem dX11_isBeaten_17 : decode cX11_isBeaten 17 = .ok (.iload_n 3, 1) := by decide +kernel
theorem dX11_isBeaten_18 : decode cX11_isBeaten 18 = .ok (.invokevirtual 45, 3) := by decide +kernel
theorem dX11_isBeaten_21 : decode cX11_isBeaten 21 = .ok (.iload_n 1, 1) := by decide +kernel
theorem dX11_isBeaten_22 : decode cX11_isBeaten 22 = .ok (.iand, 1) := by decide +kernel
theorem dX11_isBeaten_23 : decode cX11_isBeaten 23 = .ok (.iload_n 1, 1) := by decide +kernel
theorem dX11_isBeaten_24 : decode cX11_isBeaten 24 = .ok (.if_icmp .ne 7, 3) := by decide +kernel
theorem dX11_isBeaten_27 : decode cX11_isBeaten 27 = .ok (.iconst 1, 1) := by decide +kernel
theorem dX11_isBeaten_28 : decode cX11_isBeaten 28 = .ok (.goto 4, 3) := by decide +kernel
theorem dX11_isBeaten_31 : decode cX11_isBeaten 31 = .ok (.iconst 0, 1) := by decide +kernel
theorem dX11_isBeaten_32 : decode cX11_isBeaten 32 = .ok (.istore_n 2, 1) := by decide +kernel
theorem dX11_isBeaten_33 : decode cX11_isBeaten 33 = .ok (.iinc 3 1, 3) := by decide +kernel
theorem dX11_isBeaten_36 : decode cX11_isBeaten 36 = .ok (.goto (-32), 3) := by decide +kernel
theorem dX11_isBeaten_39 : decode cX11_isBeaten 39 = .ok (.iload_n 2, 1) := by decide +kernel
theorem dX11_isBeaten_40 : decode cX11_isBeaten 40 = .ok (.ireturn, 1) := by decide +kernel
theorem dX11_isFirst_0 : decode cX11_isFirst 0 = .ok (.iconst 0, 1) := by decide +kernel
theorem dX11_isFirst_1 : decode cX11_isFirst 1 = .ok (.istore_n 2, 1) := by decide +kernel
theorem dX11_isFirst_2 : decode cX11_isFirst 2 = .ok (.iconst 0, 1) := by decide +kernel
theorem dX11_isFirst_3 : decode cX11_isFirst 3 = .ok (.istore_n 3, 1) := by decide +kernel
theorem dX11_isFirst_4 : decode cX11_isFirst 4 = .ok (.iload_n 3, 1) := by decide +kernel
theorem dX11_isFirst_5 : decode cX11_isFirst 5 = .ok (.aload_n 0, 1) := by decide +kernel
theorem dX11_isFirst_6 : decode cX11_isFirst 6 = .ok (.invokevirtual 111, 3) := by decide +kernel
theorem dX11_isFirst_9 : decode cX11_isFirst 9 = .ok (.if_icmp .gt 56, 3) := by decide +kernel
theorem dX11_isFirst_12 : decode cX11_isFirst 12 = .ok (.iload_n 2, 1) := by decide +kernel
theorem dX11_isFirst_13 : decode cX11_isFirst 13 = .ok (.ifCond .ne 52, 3) := by decide +kernel
theorem dX11_isFirst_16 : decode cX11_isFirst 16 = .ok (.iload_n 3, 1) := by decide +kernel
theorem dX11_isFirst_17 : decode cX11_isFirst 17 = .ok (.iconst 1, 1) := by decide +kernel
theorem dX11_isFirst_18 : decode cX11_isFirst 18 = .ok (.iload_n 1, 1) := by decide +kernel
theorem dX11_isFirst_19 : decode cX11_isFirst 19 = .ok (.ishl, 1) := by decide +kernel
theorem dX11_isFirst_20 : decode cX11_isFirst 20 = .ok (.ior, 1) := by decide +kernel
theorem dX11_isFirst_21 : decode cX11_isFirst 21 = .ok (.istore 4, 2) := by decide +kernel
theorem dX11_isFirst_23 : decode cX11_isFirst 23 = .ok (.iload_n 3, 1) := by decide +kernel
theorem dX11_isFirst_24 : decode cX11_isFirst 24 = .ok (.aload_n 0, 1) := by decide +kernel
theorem dX11_isFirst_25 : decode cX11_isFirst 25 = .ok (.iload_n 1, 1) := by decide +kernel
theorem dX11_isFirst_26 : decode cX11_isFirst 26 = .ok (.invokevirtual 45, 3) := by decide +kernel
theorem dX11_isFirst_29 : decode cX11_isFirst 29 = .ok (.iconst (-1), 1) := by decide +kernel
theorem dX11_isFirst_30 : decode cX11_isFirst 30 = .ok (.ixor, 1) := by decide +kernel
theorem dX11_isFirst_31 : decode cX11_isFirst 31 = .ok (.iand, 1) := by decide +kernel
theorem dX11_isFirst_32 : decode cX11_isFirst 32 = .ok (.ifCond .ne 25, 3) := by decide +kernel
theorem dX11_isFirst_35 : decode cX11_isFirst 35 = .ok (.aload_n 0, 1) := by decide +kernel
theorem dX11_isFirst_36 : decode cX11_isFirst 36 = .ok (.iload 4, 2) := by decide +kernel
theorem dX11_isFirst_38 : decode cX11_isFirst 38 = .ok (.invokevirtual 147, 3) := by decide +kernel
theorem dX11_isFirst_41 : decode cX11_isFirst 41 = .ok (.ifCond .eq 16, 3) := by decide +kernel
theorem dX11_isFirst_44 : decode cX11_isFirst 44 = .ok (.aload_n 0, 1) := by decide +kernel
theorem dX11_isFirst_45 : decode cX11_isFirst 45 = .ok (.iload 4, 2) := by decide +kernel
theorem dX11_isFirst_47 : decode cX11_isFirst 47 = .ok (.invokevirtual 150, 3) := by decide +kernel
theorem dX11_isFirst_50 : decode cX11_isFirst 50 = .ok (.ifCond .ne 7, 3) := by decide +kernel
theorem dX11_isFirst_53 : decode cX11_isFirst 53 = .ok (.iconst 1, 1) := by decide +kernel
theorem dX11_isFirst_54 : decode cX11_isFirst 54 = .ok (.goto 4, 3) := by decide +kernel
theorem dX11_isFirst_57 : decode cX11_isFirst 57 = .ok (.iconst 0, 1) := by decide +kernel
theorem dX11_isFirst_58 : decode cX11_isFirst 58 = .ok (.istore_n 2, 1) := by decide +kernel
theorem dX11_isFirst_59 : decode cX11_isFirst 59 = .ok (.iinc 3 1, 3) := by decide +kernel
theorem dX11_isFirst_62 : decode cX11_isFirst 62 = .ok (.goto (-58), 3) := by decide +kernel
theorem dX11_isFirst_65 : decode cX11_isFirst 65 = .ok (.iload_n 2, 1) := by decide +kernel
theorem dX11_isFirst_66 : decode cX11_isFirst 66 = .ok (.ireturn, 1) := by decide +kernel
theorem dX11_winnersBy_0 : decode cX11_winnersBy 0 = .ok (.aload_n 0, 1) := by decide +kernel
theorem dX11_winnersBy_1 : decode cX11_winnersBy 1 = .ok (.invokevirtual 120, 3) := by decide +kernel
theorem dX11_winnersBy_4 : decode cX11_winnersBy 4 = .ok (.aload_n 0, 1) := by decide +kernel
theorem dX11_winnersBy_5 : decode cX11_winnersBy 5 = .ok (.invokevirtual 141, 3) := by decide +kernel
theorem dX11_winnersBy_8 : decode cX11_winnersBy 8 = .ok (.iconst 0, 1) := by decide +kernel
theorem dX11_winnersBy_9 : decode cX11_winnersBy 9 = .ok (.istore_n 2, 1) := by decide +kernel
theorem dX11_winnersBy_10 : decode cX11_winnersBy 10 = .ok (.iconst 0, 1) := by decide +kernel
theorem dX11_winnersBy_11 : decode cX11_winnersBy 11 = .ok (.istore_n 3, 1) := by decide +kernel
theorem dX11_winnersBy_12 : decode cX11_winnersBy 12 = .ok (.iload_n 3, 1) := by decide +kernel
theorem dX11_winnersBy_13 : decode cX11_winnersBy 13 = .ok (.aload_n 0, 1) := by decide +kernel
theorem dX11_winnersBy_14 : decode cX11_winnersBy 14 = .ok (.invokevirtual 92, 3) := by decide +kernel
theorem dX11_winnersBy_17 : decode cX11_winnersBy 17 = .ok (.if_icmp .ge 94, 3) := by decide +kernel
theorem dX11_winnersBy_20 : decode cX11_winnersBy 20 = .ok (.iload_n 1, 1) := by decide +kernel
theorem dX11_winnersBy_21 : decode cX11_winnersBy 21 = .ok (.ifCond .ne 19, 3) := by decide +kernel
theorem dX11_winnersBy_24 : decode cX11_winnersBy 24 = .ok (.aload_n 0, 1) := by decide +kernel
theorem dX11_winnersBy_25 : decode cX11_winnersBy 25 = .ok (.iload_n 3, 1) := by decide +kernel
theorem dX11_winnersBy_26 : decode cX11_winnersBy 26 = .ok (.invokevirtual 126, 3) := by decide +kernel
theorem dX11_winnersBy_29 : decode cX11_winnersBy 29 = .ok (.ifCond .ne 7, 3) := by decide +kernel
theorem dX11_winnersBy_32 : decode cX11_winnersBy 32 = .ok (.iconst 1, 1) := by decide +kernel
theorem dX11_winnersBy_33 : decode cX11_winnersBy 33 = .ok (.goto 55, 3) := by decide +kernel
theorem dX11_winnersBy_36 : decode cX11_winnersBy 36 = .ok (.iconst 0, 1) := by decide +kernel
theorem dX11_winnersBy_37 : decode cX11_winnersBy 37 = .ok (.goto 51, 3) := by decide +kernel
theorem dX11_winnersBy_40 : decode cX11_winnersBy 40 = .ok (.iload_n 1, 1) := by decide +kernel
theorem dX11_winnersBy_41 : decode cX11_winnersBy 41 = .ok (.iconst 1, 1) := by decide +kernel
theorem dX11_winnersBy_42 : decode cX11_winnersBy 42 = .ok (.if_icmp .ne 11, 3) := by decide +kernel
theorem dX11_winnersBy_45 : decode cX11_winnersBy 45 = .ok (.aload_n 0, 1) := by decide +kernel
theorem dX11_winnersBy_46 : decode cX11_winnersBy 46 = .ok (.iload_n 3, 1) := by decide +kernel
theorem dX11_winnersBy_47 : decode cX11_winnersBy 47 = .ok (.invokevirtual 153, 3) := by decide +kernel
theorem dX11_winnersBy_50 : decode cX11_winnersBy 50 = .ok (.goto 38, 3) := by decide +kernel
theorem dX11_winnersBy_53 : decode cX11_winnersBy 53 = .ok (.iload_n 1, 1) := by decide +kernel
theorem dX11_winnersBy_54 : decode cX11_winnersBy 54 = .ok (.iconst 2, 1) := by decide +kernel
theorem dX11_winnersBy_55 : decode cX11_winnersBy 55 = .ok (.if_icmp .ne 11, 3) := by decide +kernel
theorem dX11_winnersBy_58 : decode cX11_winnersBy 58 = .ok (.aload_n 0, 1) := by decide +kernel
theorem dX11_winnersBy_59 : decode cX11_winnersBy 59 = .ok (.iload_n 3, 1) := by decide +kernel
theorem dX11_winnersBy_60 : decode cX11_winnersBy 60 = .ok (.invokevirtual 156, 3) := by decide +kernel
theorem dX11_winnersBy_63 : decode cX11_winnersBy 63 = .ok (.goto 25, 3) := by decide +kernel
theorem dX11_winnersBy_66 : decode cX11_winnersBy 66 = .ok (.iload_n 1, 1) := by decide +kernel
theorem dX11_winnersBy_67 : decode cX11_winnersBy 67 = .ok (.iconst 3, 1) := by decide +kernel
theorem dX11_winnersBy_68 : decode cX11_winnersBy 68 = .ok (.if_icmp .ne 11, 3) := by decide +kernel
theorem dX11_winnersBy_71 : decode cX11_winnersBy 71 = .ok (.aload_n 0, 1) := by decide +kernel
theorem dX11_winnersBy_72 : decode cX11_winnersBy 72 = .ok (.iload_n 3, 1) := by decide +kernel
theorem dX11_winnersBy_73 : decode cX11_winnersBy 73 = .ok (.invokevirtual 159, 3) := by decide +kernel
theorem dX11_winnersBy_76 : decode cX11_winnersBy 76 = .ok (.goto 12, 3) := by decide +kernel
theorem dX11_winnersBy_79 : decode cX11_winnersBy 79 = .ok (.aload_n 0, 1) := by decide +kernel
theorem dX11_winnersBy_80 : decode cX11_winnersBy 80 = .ok (.iload_n 3, 1) := by decide +kernel
theorem dX11_winnersBy_81 : decode cX11_winnersBy 81 = .ok (.aload_n 0, 1) := by decide +kernel
theorem dX11_winnersBy_82 : decode cX11_winnersBy 82 = .ok (.invokevirtual 111, 3) := by decide +kernel
theorem dX11_winnersBy_85 : decode cX11_winnersBy 85 = .ok (.invokevirtual 144, 3) := by decide +kernel
theorem dX11_winnersBy_88 : decode cX11_winnersBy 88 = .ok (.istore 4, 2) := by decide +kernel
theorem dX11_winnersBy_90 : decode cX11_winnersBy 90 = .ok (.iload_n 2, 1) := by decide +kernel
theorem dX11_winnersBy_91 : decode cX11_winnersBy 91 = .ok (.iload 4, 2) := by decide +kernel
theorem dX11_winnersBy_93 : decode cX11_winnersBy 93 = .ok (.ifCond .eq 9, 3) := by decide +kernel
theorem dX11_winnersBy_96 : decode cX11_winnersBy 96 = .ok (.iconst 1, 1) := by decide +kernel
theorem dX11_winnersBy_97 : decode cX11_winnersBy 97 = .ok (.iload_n 3, 1) := by decide +kernel
theorem dX11_winnersBy_98 : decode cX11_winnersBy 98 = .ok (.ishl, 1) := by decide +kernel
theorem dX11_winnersBy_99 : decode cX11_winnersBy 99 = .ok (.goto 4, 3) := by decide +kernel
theorem dX11_winnersBy_102 : decode cX11_winnersBy 102 = .ok (.iconst 0, 1) := by decide +kernel
theorem dX11_winnersBy_103 : decode cX11_winnersBy 103 = .ok (.ior, 1) := by decide +kernel
theorem dX11_winnersBy_104 : decode cX11_winnersBy 104 = .ok (.istore_n 2, 1) := by decide +kernel
theorem dX11_winnersBy_105 : decode cX11_winnersBy 105 = .ok (.iinc 3 1, 3) := by decide +kernel
theorem dX11_winnersBy_108 : decode cX11_winnersBy 108 = .ok (.goto (-96), 3) := by decide +kernel
theorem dX11_winnersBy_111 : decode cX11_winnersBy 111 = .ok (.iload_n 2, 1) := by decide +kernel
theorem dX11_winnersBy_112 : decode cX11_winnersBy 112 = .ok (.ireturn, 1) := by decide +kernel
theorem dX11_winners_0 : decode cX11_winners 0 = .ok (.iload_n 1, 1) := by decide +kernel
theorem dX11_winners_1 : decode cX11_winners 1 = .ok (.iconst 0, 1) := by decide +kernel
theorem dX11_winners_2 : decode cX11_winners 2 = .ok (.iconst 4, 1) := by decide +kernel
theorem dX11_winners_3 : decode cX11_winners 3 = .ok (.invokestatic 53, 3) := by decide +kernel
theorem dX11_winners_6 : decode cX11_winners 6 = .ok (.ifCond .eq 11, 3) := by decide +kernel
theorem dX11_winners_9 : decode cX11_winners 9 = .ok (.aload_n 0, 1) := by decide +kernel
theorem dX11_winners_10 : decode cX11_winners 10 = .ok (.iload_n 1, 1) := by decide +kernel
theorem dX11_winners_11 : decode cX11_winners 11 = .ok (.invokevirtual 162, 3) := by decide +kernel
theorem dX11_winners_14 : decode cX11_winners 14 = .ok (.goto 4, 3) := by decide +kernel
theorem dX11_winners_17 : decode cX11_winners 17 = .ok (.iconst (-1), 1) := by decide +kernel
theorem dX11_winners_18 : decode cX11_winners 18 = .ok (.ireturn, 1) := by decide +kernel
theorem dX11_undisputed_0 : decode cX11_undisputed 0 = .ok (.aload_n 0, 1) := by decide +kernel
theorem dX11_undisputed_1 : decode cX11_undisputed 1 = .ok (.invokevirtual 111, 3) := by decide +kernel
theorem dX11_undisputed_4 : decode cX11_undisputed 4 = .ok (.istore_n 1, 1) := by decide +kernel
theorem dX11_undisputed_5 : decode cX11_undisputed 5 = .ok (.iconst 0, 1) := by decide +kernel
theorem dX11_undisputed_6 : decode cX11_undisputed 6 = .ok (.istore_n 2, 1) := by decide +kernel
theorem dX11_undisputed_7 : decode cX11_undisputed 7 = .ok (.iload_n 2, 1) := by decide +kernel
theorem dX11_undisputed_8 : decode cX11_undisputed 8 = .ok (.iconst 5, 1) := by decide +kernel
theorem dX11_undisputed_9 : decode cX11_undisputed 9 = .ok (.if_icmp .ge 17, 3) := by decide +kernel
theorem dX11_undisputed_12 : decode cX11_undisputed 12 = .ok (.iload_n 1, 1) := by decide +kernel
theorem dX11_undisputed_13 : decode cX11_undisputed 13 = .ok (.aload_n 0, 1) := by decide +kernel
theorem dX11_undisputed_14 : decode cX11_undisputed 14 = .ok (.iload_n 2, 1) := by decide +kernel
theorem dX11_undisputed_15 : decode cX11_undisputed 15 = .ok (.invokevirtual 162, 3) := by decide +kernel
theorem dX11_undisputed_18 : decode cX11_undisputed 18 = .ok (.iand, 1) := by decide +kernel
theorem dX11_undisputed_19 : decode cX11_undisputed 19 = .ok (.istore_n 1, 1) := by decide +kernel
theorem dX11_undisputed_20 : decode cX11_undisputed 20 = .ok (.iinc 2 1, 3) := by decide +kernel
theorem dX11_undisputed_23 : decode cX11_undisputed 23 = .ok (.goto (-16), 3) := by decide +kernel
theorem dX11_undisputed_26 : decode cX11_undisputed 26 = .ok (.iload_n 1, 1) := by decide +kernel
theorem dX11_undisputed_27 : decode cX11_undisputed 27 = .ok (.invokestatic 98, 3) := by decide +kernel
theorem dX11_undisputed_30 : decode cX11_undisputed 30 = .ok (.ireturn, 1) := by decide +kernel
theorem dX11_store_0 : decode cX11_store 0 = .ok (.aload_n 0, 1) := by decide +kernel
theorem dX11_store_1 : decode cX11_store 1 = .ok (.getfield 7, 3) := by decide +kernel
theorem dX11_store_4 : decode cX11_store 4 = .ok (.aload_n 0, 1) := by decide +kernel
theorem dX11_store_5 : decode cX11_store 5 = .ok (.getfield 13, 3) := by decide +kernel
theorem dX11_store_8 : decode cX11_store 8 = .ok (.invokestatic 41, 3) := by decide +kernel
theorem dX11_store_11 : decode cX11_store 11 = .ok (.aload_n 0, 1) := by decide +kernel
theorem dX11_store_12 : decode cX11_store 12 = .ok (.invokevirtual 92, 3) := by decide +kernel
theorem dX11_store_15 : decode cX11_store 15 = .ok (.ireturn, 1) := by decide +kernel
theorem dX11_differs_0 : decode cX11_differs 0 = .ok (.aload_n 0, 1) := by decide +kernel
theorem dX11_differs_1 : decode cX11_differs 1 = .ok (.getfield 13, 3) := by decide +kernel
theorem dX11_differs_4 : decode cX11_differs 4 = .ok (.iconst 1, 1) := by decide +kernel
theorem dX11_differs_5 : decode cX11_differs 5 = .ok (.iload_n 1, 1) := by decide +kernel
theorem dX11_differs_6 : decode cX11_differs 6 = .ok (.iadd, 1) := by decide +kernel
theorem dX11_differs_7 : decode cX11_differs 7 = .ok (.iaload, 1) := by decide +kernel
theorem dX11_differs_8 : decode cX11_differs 8 = .ok (.iload_n 2, 1) := by decide +kernel
theorem dX11_differs_9 : decode cX11_differs 9 = .ok (.invokestatic 49, 3) := by decide +kernel
theorem dX11_differs_12 : decode cX11_differs 12 = .ok (.aload_n 0, 1) := by decide +kernel
theorem dX11_differs_13 : decode cX11_differs 13 = .ok (.iload_n 1, 1) := by decide +kernel
theorem dX11_differs_14 : decode cX11_differs 14 = .ok (.iload_n 2, 1) := by decide +kernel
theorem dX11_differs_15 : decode cX11_differs 15 = .ok (.invokevirtual 69, 3) := by decide +kernel
theorem dX11_differs_18 : decode cX11_differs 18 = .ok (.if_icmp .eq 7, 3) := by decide +kernel
theorem dX11_differs_21 : decode cX11_differs 21 = .ok (.iconst 1, 1) := by decide +kernel
theorem dX11_differs_22 : decode cX11_differs 22 = .ok (.goto 4, 3) := by decide +kernel
theorem dX11_differs_25 : decode cX11_differs 25 = .ok (.iconst 0, 1) := by decide +kernel
theorem dX11_differs_26 : decode cX11_differs 26 = .ok (.ireturn, 1) := by decide +kernel
theorem dX11_difference_0 : decode cX11_difference 0 = .ok (.aload_n 0, 1) := by decide +kernel
theorem dX11_difference_1 : decode cX11_difference 1 = .ok (.getfield 13, 3) := by decide +kernel
theorem dX11_difference_4 : decode cX11_difference 4 = .ok (.iconst 0, 1) := by decide +kernel
theorem dX11_difference_5 : decode cX11_difference 5 = .ok (.iaload, 1) := by decide +kernel
theorem dX11_difference_6 : decode cX11_difference 6 = .ok (.aload_n 0, 1) := by decide +kernel
theorem dX11_difference_7 : decode cX11_difference 7 = .ok (.invokevirtual 92, 3) := by decide +kernel
theorem dX11_difference_10 : decode cX11_difference 10 = .ok (.if_icmp .eq 6, 3) := by decide +kernel
theorem dX11_difference_13 : decode cX11_difference 13 = .ok (.bipush (-2), 2) := by decide +kernel
theorem dX11_difference_15 : decode cX11_difference 15 = .ok (.ireturn, 1) := by decide +kernel
theorem dX11_difference_16 : decode cX11_difference 16 = .ok (.iconst 0, 1) := by decide +kernel
theorem dX11_difference_17 : decode cX11_difference 17 = .ok (.istore_n 1, 1) := by decide +kernel
theorem dX11_difference_18 : decode cX11_difference 18 = .ok (.iconst 0, 1) := by decide +kernel
theorem dX11_difference_19 : decode cX11_difference 19 = .ok (.istore_n 2, 1) := by decide +kernel
theorem dX11_difference_20 : decode cX11_difference 20 = .ok (.iload_n 2, 1) := by decide +kernel
theorem dX11_difference_21 : decode cX11_difference 21 = .ok (.aload_n 0, 1) := by decide +kernel
theorem dX11_difference_22 : decode cX11_difference 22 = .ok (.invokevirtual 92, 3) := by decide +kernel
theorem dX11_difference_25 : decode cX11_difference 25 = .ok (.if_icmp .ge 44, 3) := by decide +kernel
theorem dX11_difference_28 : decode cX11_difference 28 = .ok (.iload_n 2, 1) := by decide +kernel
theorem dX11_difference_29 : decode cX11_difference 29 = .ok (.iconst 1, 1) := by decide +kernel
theorem dX11_difference_30 : decode cX11_difference 30 = .ok (.iadd, 1) := by decide +kernel
theorem dX11_difference_31 : decode cX11_difference 31 = .ok (.istore_n 3, 1) := by decide +kernel
theorem dX11_difference_32 : decode cX11_difference 32 = .ok (.iload_n 3, 1) := by decide +kernel
theorem dX11_difference_33 : decode cX11_difference 33 = .ok (.aload_n 0, 1) := by decide +kernel
theorem dX11_difference_34 : decode cX11_difference 34 = .ok (.invokevirtual 92, 3) := by decide +kernel
theorem dX11_difference_37 : decode cX11_difference 37 = .ok (.if_icmp .ge 26, 3) := by decide +kernel
theorem dX11_difference_40 : decode cX11_difference 40 = .ok (.iload_n 1, 1) := by decide +kernel
theorem dX11_difference_41 : decode cX11_difference 41 = .ok (.aload_n 0, 1) := by decide +kernel
theorem dX11_difference_42 : decode cX11_difference 42 = .ok (.iload_n 2, 1) := by decide +kernel
theorem dX11_difference_43 : decode cX11_difference 43 = .ok (.iload_n 3, 1) := by decide +kernel
theorem dX11_difference_44 : decode cX11_difference 44 = .ok (.invokevirtual 165, 3) := by decide +kernel
theorem dX11_difference_47 : decode cX11_difference 47 = .ok (.ifCond .eq 7, 3) := by decide +kernel
theorem dX11_difference_50 : decode cX11_difference 50 = .ok (.iconst 1, 1) := by decide +kernel
theorem dX11_difference_51 : decode cX11_difference 51 = .ok (.goto 4, 3) := by decide +kernel
theorem dX11_difference_54 : decode cX11_difference 54 = .ok (.iconst 0, 1) := by decide +kernel
theorem dX11_difference_55 : decode cX11_difference 55 = .ok (.iadd, 1) := by decide +kernel
theorem dX11_difference_56 : decode cX11_difference 56 = .ok (.istore_n 1, 1) := by decide +kernel
theorem dX11_difference_57 : decode cX11_difference 57 = .ok (.iinc 3 1, 3) := by decide +kernel
theorem dX11_difference_60 : decode cX11_difference 60 = .ok (.goto (-28), 3) := by decide +kernel
theorem dX11_difference_63 : decode cX11_difference 63 = .ok (.iinc 2 1, 3) := by decide +kernel
theorem dX11_difference_66 : decode cX11_difference 66 = .ok (.goto (-46), 3) := by decide +kernel
theorem dX11_difference_69 : decode cX11_difference 69 = .ok (.iload_n 1, 1) := by decide +kernel
theorem dX11_difference_70 : decode cX11_difference 70 = .ok (.ireturn, 1) := by decide +kernel
theorem dX11_fits_0 : decode cX11_fits 0 = .ok (.aload_n 0, 1) := by decide +kernel
theorem dX11_fits_1 : decode cX11_fits 1 = .ok (.iload_n 1, 1) := by decide +kernel
theorem dX11_fits_2 : decode cX11_fits 2 = .ok (.invokevirtual 45, 3) := by decide +kernel
theorem dX11_fits_5 : decode cX11_fits 5 = .ok (.invokestatic 98, 3) := by decide +kernel
theorem dX11_fits_8 : decode cX11_fits 8 = .ok (.aload_n 0, 1) := by decide +kernel
theorem dX11_fits_9 : decode cX11_fits 9 = .ok (.getfield 13, 3) := by decide +kernel
theorem dX11_fits_12 : decode cX11_fits 12 = .ok (.iconst 1, 1) := by decide +kernel
theorem dX11_fits_13 : decode cX11_fits 13 = .ok (.aload_n 0, 1) := by decide +kernel
theorem dX11_fits_14 : decode cX11_fits 14 = .ok (.getfield 34, 3) := by decide +kernel
theorem dX11_fits_17 : decode cX11_fits 17 = .ok (.iload_n 1, 1) := by decide +kernel
theorem dX11_fits_18 : decode cX11_fits 18 = .ok (.iaload, 1) := by decide +kernel
theorem dX11_fits_19 : decode cX11_fits 19 = .ok (.iadd, 1) := by decide +kernel
theorem dX11_fits_20 : decode cX11_fits 20 = .ok (.iaload, 1) := by decide +kernel
theorem dX11_fits_21 : decode cX11_fits 21 = .ok (.invokestatic 98, 3) := by decide +kernel
theorem dX11_fits_24 : decode cX11_fits 24 = .ok (.if_icmp .ne 7, 3) := by decide +kernel
theorem dX11_fits_27 : decode cX11_fits 27 = .ok (.iconst 1, 1) := by decide +kernel
theorem dX11_fits_28 : decode cX11_fits 28 = .ok (.goto 4, 3) := by decide +kernel
theorem dX11_fits_31 : decode cX11_fits 31 = .ok (.iconst 0, 1) := by decide +kernel
theorem dX11_fits_32 : decode cX11_fits 32 = .ok (.istore_n 2, 1) := by decide +kernel
theorem dX11_fits_33 : decode cX11_fits 33 = .ok (.iconst 0, 1) := by decide +kernel
theorem dX11_fits_34 : decode cX11_fits 34 = .ok (.istore_n 3, 1) := by decide +kernel
theorem dX11_fits_35 : decode cX11_fits 35 = .ok (.iload_n 3, 1) := by decide +kernel
theorem dX11_fits_36 : decode cX11_fits 36 = .ok (.iload_n 1, 1) := by decide +kernel
theorem dX11_fits_37 : decode cX11_fits 37 = .ok (.if_icmp .ge 65, 3) := by decide +kernel
theorem dX11_fits_40 : decode cX11_fits 40 = .ok (.iload_n 2, 1) := by decide +kernel
theorem dX11_fits_41 : decode cX11_fits 41 = .ok (.ifCond .eq 61, 3) := by decide +kernel
theorem dX11_fits_44 : decode cX11_fits 44 = .ok (.aload_n 0, 1) := by decide +kernel
theorem dX11_fits_45 : decode cX11_fits 45 = .ok (.getfield 34, 3) := by decide +kernel
theorem dX11_fits_48 : decode cX11_fits 48 = .ok (.iload_n 3, 1) := by decide +kernel
theorem dX11_fits_49 : decode cX11_fits 49 = .ok (.iaload, 1) := by decide +kernel
theorem dX11_fits_50 : decode cX11_fits 50 = .ok (.aload_n 0, 1) := by decide +kernel
theorem dX11_fits_51 : decode cX11_fits 51 = .ok (.getfield 34, 3) := by decide +kernel
theorem dX11_fits_54 : decode cX11_fits 54 = .ok (.iload_n 1, 1) := by decide +kernel
theorem dX11_fits_55 : decode cX11_fits 55 = .ok (.iaload, 1) := by decide +kernel
theorem dX11_fits_56 : decode cX11_fits 56 = .ok (.if_icmp .eq 38, 3) := by decide +kernel
theorem dX11_fits_59 : decode cX11_fits 59 = .ok (.aload_n 0, 1) := by decide +kernel
theorem dX11_fits_60 : decode cX11_fits 60 = .ok (.iload_n 3, 1) := by decide +kernel
theorem dX11_fits_61 : decode cX11_fits 61 = .ok (.iload_n 1, 1) := by decide +kernel
theorem dX11_fits_62 : decode cX11_fits 62 = .ok (.invokevirtual 69, 3) := by decide +kernel
theorem dX11_fits_65 : decode cX11_fits 65 = .ok (.aload_n 0, 1) := by decide +kernel
theorem dX11_fits_66 : decode cX11_fits 66 = .ok (.getfield 13, 3) := by decide +kernel
theorem dX11_fits_69 : decode cX11_fits 69 = .ok (.iconst 1, 1) := by decide +kernel
theorem dX11_fits_70 : decode cX11_fits 70 = .ok (.aload_n 0, 1) := by decide +kernel
theorem dX11_fits_71 : decode cX11_fits 71 = .ok (.getfield 34, 3) := by decide +kernel
theorem dX11_fits_74 : decode cX11_fits 74 = .ok (.iload_n 3, 1) := by decide +kernel
theorem dX11_fits_75 : decode cX11_fits 75 = .ok (.iaload, 1) := by decide +kernel
theorem dX11_fits_76 : decode cX11_fits 76 = .ok (.iadd, 1) := by decide +kernel
theorem dX11_fits_77 : decode cX11_fits 77 = .ok (.iaload, 1) := by decide +kernel
theorem dX11_fits_78 : decode cX11_fits 78 = .ok (.aload_n 0, 1) := by decide +kernel
theorem dX11_fits_79 : decode cX11_fits 79 = .ok (.getfield 34, 3) := by decide +kernel
theorem dX11_fits_82 : decode cX11_fits 82 = .ok (.iload_n 1, 1) := by decide +kernel
theorem dX11_fits_83 : decode cX11_fits 83 = .ok (.iaload, 1) := by decide +kernel
theorem dX11_fits_84 : decode cX11_fits 84 = .ok (.invokestatic 49, 3) := by decide +kernel
theorem dX11_fits_87 : decode cX11_fits 87 = .ok (.if_icmp .ne 7, 3) := by decide +kernel
theorem dX11_fits_90 : decode cX11_fits 90 = .ok (.iconst 1, 1) := by decide +kernel
theorem dX11_fits_91 : decode cX11_fits 91 = .ok (.goto 4, 3) := by decide +kernel
theorem dX11_fits_94 : decode cX11_fits 94 = .ok (.iconst 0, 1) := by decide +kernel
theorem dX11_fits_95 : decode cX11_fits 95 = .ok (.istore_n 2, 1) := by decide +kernel
theorem dX11_fits_96 : decode cX11_fits 96 = .ok (.iinc 3 1, 3) := by decide +kernel
theorem dX11_fits_99 : decode cX11_fits 99 = .ok (.goto (-64), 3) := by decide +kernel
theorem dX11_fits_102 : decode cX11_fits 102 = .ok (.iload_n 2, 1) := by decide +kernel
theorem dX11_fits_103 : decode cX11_fits 103 = .ok (.ireturn, 1) := by decide +kernel
theorem dX11_isLikeStored_0 : decode cX11_isLikeStored 0 = .ok (.aload_n 0, 1) := by decide +kernel
theorem dX11_isLikeStored_1 : decode cX11_isLikeStored 1 = .ok (.getfield 13, 3) := by decide +kernel
theorem dX11_isLikeStored_4 : decode cX11_isLikeStored 4 = .ok (.iconst 0, 1) := by decide +kernel
theorem dX11_isLikeStored_5 : decode cX11_isLikeStored 5 = .ok (.iaload, 1) := by decide +kernel
theorem dX11_isLikeStored_6 : decode cX11_isLikeStored 6 = .ok (.aload_n 0, 1) := by decide +kernel
theorem dX11_isLikeStored_7 : decode cX11_isLikeStored 7 = .ok (.invokevirtual 92, 3) := by decide +kernel
theorem dX11_isLikeStored_10 : decode cX11_isLikeStored 10 = .ok (.if_icmp .eq 5, 3) := by decide +kernel
theorem dX11_isLikeStored_13 : decode cX11_isLikeStored 13 = .ok (.iconst 0, 1) := by decide +kernel
theorem dX11_isLikeStored_14 : decode cX11_isLikeStored 14 = .ok (.ireturn, 1) := by decide +kernel
theorem dX11_isLikeStored_15 : decode cX11_isLikeStored 15 = .ok (.iconst 0, 1) := by decide +kernel
theorem dX11_isLikeStored_16 : decode cX11_isLikeStored 16 = .ok (.istore_n 1, 1) := by decide +kernel
theorem dX11_isLikeStored_17 : decode cX11_isLikeStored 17 = .ok (.aload_n 0, 1) := by decide +kernel
theorem dX11_isLikeStored_18 : decode cX11_isLikeStored 18 = .ok (.getfield 34, 3) := by decide +kernel
theorem dX11_isLikeStored_21 : decode cX11_isLikeStored 21 = .ok (.iconst 0, 1) := by decide +kernel
theorem dX11_isLikeStored_22 : decode cX11_isLikeStored 22 = .ok (.iconst (-1), 1) := by decide +kernel
theorem dX11_isLikeStored_23 : decode cX11_isLikeStored 23 = .ok (.iastore, 1) := by decide +kernel
theorem dX11_isLikeStored_24 : decode cX11_isLikeStored 24 = .ok (.iload_n 1, 1) := by decide +kernel
theorem dX11_isLikeStored_25 : decode cX11_isLikeStored 25 = .ok (.ifCond .lt 69, 3) := by decide +kernel
theorem dX11_isLikeStored_28 : decode cX11_isLikeStored 28 = .ok (.iload_n 1, 1) := by decide +kernel
theorem dX11_isLikeStored_29 : decode cX11_isLikeStored 29 = .ok (.aload_n 0, 1) := by decide +kernel
theorem dX11_isLikeStored_30 : decode cX11_isLikeStored 30 = .ok (.invokevirtual 92, 3) := by decide +kernel
theorem dX11_isLikeStored_33 : decode cX11_isLikeStored 33 = .ok (.if_icmp .ge 61, 3) := by decide +kernel
theorem dX11_isLikeStored_36 : decode cX11_isLikeStored 36 = .ok (.aload_n 0, 1) := by decide +kernel
theorem dX11_isLikeStored_37 : decode cX11_isLikeStored 37 = .ok (.getfield 34, 3) := by decide +kernel
theorem dX11_isLikeStored_40 : decode cX11_isLikeStored 40 = .ok (.iload_n 1, 1) := by decide +kernel
theorem dX11_isLikeStored_41 : decode cX11_isLikeStored 41 = .ok (.dup2, 1) := by decide +kernel
theorem dX11_isLikeStored_42 : decode cX11_isLikeStored 42 = .ok (.iaload, 1) := by decide +kernel
theorem dX11_isLikeStored_43 : decode cX11_isLikeStored 43 = .ok (.iconst 1, 1) := by decide +kernel
theorem dX11_isLikeStored_44 : decode cX11_isLikeStored 44 = .ok (.iadd, 1) := by decide +kernel
theorem dX11_isLikeStored_45 : decode cX11_isLikeStored 45 = .ok (.iastore, 1) := by decide +kernel
theorem dX11_isLikeStored_46 : decode cX11_isLikeStored 46 = .ok (.aload_n 0, 1) := by decide +kernel
theorem dX11_isLikeStored_47 : decode cX11_isLikeStored 47 = .ok (.getfield 34, 3) := by decide +kernel
theorem dX11_isLikeStored_50 : decode cX11_isLikeStored 50 = .ok (.iload_n 1, 1) := by decide +kernel
theorem dX11_isLikeStored_51 : decode cX11_isLikeStored 51 = .ok (.iaload, 1) := by decide +kernel
theorem dX11_isLikeStored_52 : decode cX11_isLikeStored 52 = .ok (.aload_n 0, 1) := by decide +kernel
theorem dX11_isLikeStored_53 : decode cX11_isLikeStored 53 = .ok (.invokevirtual 92, 3) := by decide +kernel
theorem dX11_isLikeStored_56 : decode cX11_isLikeStored 56 = .ok (.if_icmp .ne 9, 3) := by decide +kernel
theorem dX11_isLikeStored_59 : decode cX11_isLikeStored 59 = .ok (.iinc 1 (-1), 3) := by decide +kernel
theorem dX11_isLikeStored_62 : decode cX11_isLikeStored 62 = .ok (.goto (-38), 3) := by decide +kernel
theorem dX11_isLikeStored_65 : decode cX11_isLikeStored 65 = .ok (.aload_n 0, 1) := by decide +kernel
theorem dX11_isLikeStored_66 : decode cX11_isLikeStored 66 = .ok (.iload_n 1, 1) := by decide +kernel
theorem dX11_isLikeStored_67 : decode cX11_isLikeStored 67 = .ok (.invokevirtual 168, 3) := by decide +kernel
theorem dX11_isLikeStored_70 : decode cX11_isLikeStored 70 = .ok (.ifCond .eq (-46), 3) := by decide +kernel
theorem dX11_isLikeStored_73 : decode cX11_isLikeStored 73 = .ok (.iinc 1 1, 3) := by decide +kernel
theorem dX11_isLikeStored_76 : decode cX11_isLikeStored 76 = .ok (.iload_n 1, 1) := by decide +kernel
theorem dX11_isLikeStored_77 : decode cX11_isLikeStored 77 = .ok (.aload_n 0, 1) := by decide +kernel
theorem dX11_isLikeStored_78 : decode cX11_isLikeStored 78 = .ok (.invokevirtual 92, 3) := by decide +kernel
theorem dX11_isLikeStored_81 : decode cX11_isLikeStored 81 = .ok (.if_icmp .ge (-57), 3) := by decide +kernel
theorem dX11_isLikeStored_84 : decode cX11_isLikeStored 84 = .ok (.aload_n 0, 1) := by decide +kernel
theorem dX11_isLikeStored_85 : decode cX11_isLikeStored 85 = .ok (.getfield 34, 3) := by decide +kernel
theorem dX11_isLikeStored_88 : decode cX11_isLikeStored 88 = .ok (.iload_n 1, 1) := by decide +kernel
theorem dX11_isLikeStored_89 : decode cX11_isLikeStored 89 = .ok (.iconst (-1), 1) := by decide +kernel
theorem dX11_isLikeStored_90 : decode cX11_isLikeStored 90 = .ok (.iastore, 1) := by decide +kernel
theorem dX11_isLikeStored_91 : decode cX11_isLikeStored 91 = .ok (.goto (-67), 3) := by decide +kernel
theorem dX11_isLikeStored_94 : decode cX11_isLikeStored 94 = .ok (.iload_n 1, 1) := by decide +kernel
theorem dX11_isLikeStored_95 : decode cX11_isLikeStored 95 = .ok (.aload_n 0, 1) := by decide +kernel
theorem dX11_isLikeStored_96 : decode cX11_isLikeStored 96 = .ok (.invokevirtual 92, 3) := by decide +kernel
theorem dX11_isLikeStored_99 : decode cX11_isLikeStored 99 = .ok (.if_icmp .ne 7, 3) := by decide +kernel
theorem dX11_isLikeStored_102 : decode cX11_isLikeStored 102 = .ok (.iconst 1, 1) := by decide +kernel
theorem dX11_isLikeStored_103 : decode cX11_isLikeStored 103 = .ok (.goto 4, 3) := by decide +kernel
theorem dX11_isLikeStored_106 : decode cX11_isLikeStored 106 = .ok (.iconst 0, 1) := by decide +kernel
theorem dX11_isLikeStored_107 : decode cX11_isLikeStored 107 = .ok (.ireturn, 1) := by decide +kernel
theorem dX11_towardsStored_0 : decode cX11_towardsStored 0 = .ok (.aload_n 0, 1) := by decide +kernel
theorem dX11_towardsStored_1 : decode cX11_towardsStored 1 = .ok (.getfield 13, 3) := by decide +kernel
theorem dX11_towardsStored_4 : decode cX11_towardsStored 4 = .ok (.iconst 0, 1) := by decide +kernel
theorem dX11_towardsStored_5 : decode cX11_towardsStored 5 = .ok (.iaload, 1) := by decide +kernel
theorem dX11_towardsStored_6 : decode cX11_towardsStored 6 = .ok (.aload_n 0, 1) := by decide +kernel
theorem dX11_towardsStored_7 : decode cX11_towardsStored 7 = .ok (.invokevirtual 92, 3) := by decide +kernel
theorem dX11_towardsStored_10 : decode cX11_towardsStored 10 = .ok (.if_icmp .eq 6, 3) := by decide +kernel
theorem dX11_towardsStored_13 : decode cX11_towardsStored 13 = .ok (.bipush (-2), 2) := by decide +kernel
theorem dX11_towardsStored_15 : decode cX11_towardsStored 15 = .ok (.ireturn, 1) := by decide +kernel
theorem dX11_towardsStored_16 : decode cX11_towardsStored 16 = .ok (.iconst 0, 1) := by decide +kernel
theorem dX11_towardsStored_17 : decode cX11_towardsStored 17 = .ok (.istore_n 1, 1) := by decide +kernel
theorem dX11_towardsStored_18 : decode cX11_towardsStored 18 = .ok (.iload_n 1, 1) := by decide +kernel
theorem dX11_towardsStored_19 : decode cX11_towardsStored 19 = .ok (.sipush 1000, 3) := by decide +kernel
theorem dX11_towardsStored_22 : decode cX11_towardsStored 22 = .ok (.if_icmp .ge 123, 3) := by decide +kernel
theorem dX11_towardsStored_25 : decode cX11_towardsStored 25 = .ok (.iload_n 1, 1) := by decide +kernel
theorem dX11_towardsStored_26 : decode cX11_towardsStored 26 = .ok (.bipush 100, 2) := by decide +kernel
theorem dX11_towardsStored_28 : decode cX11_towardsStored 28 = .ok (.idiv, 1) := by decide +kernel
theorem dX11_towardsStored_29 : decode cX11_towardsStored 29 = .ok (.istore_n 2, 1) := by decide +kernel
theorem dX11_towardsStored_30 : decode cX11_towardsStored 30 = .ok (.iload_n 1, 1) := by decide +kernel
theorem dX11_towardsStored_31 : decode cX11_towardsStored 31 = .ok (.bipush 10, 2) := by decide +kernel
theorem dX11_towardsStored_33 : decode cX11_towardsStored 33 = .ok (.idiv, 1) := by decide +kernel
theorem dX11_towardsStored_34 : decode cX11_towardsStored 34 = .ok (.bipush 10, 2) := by decide +kernel
theorem dX11_towardsStored_36 : decode cX11_towardsStored 36 = .ok (.irem, 1) := by decide +kernel
theorem dX11_towardsStored_37 : decode cX11_towardsStored 37 = .ok (.istore_n 3, 1) := by decide +kernel
theorem dX11_towardsStored_38 : decode cX11_towardsStored 38 = .ok (.iload_n 1, 1) := by decide +kernel
theorem dX11_towardsStored_39 : decode cX11_towardsStored 39 = .ok (.bipush 10, 2) := by decide +kernel
theorem dX11_towardsStored_41 : decode cX11_towardsStored 41 = .ok (.irem, 1) := by decide +kernel
theorem dX11_towardsStored_42 : decode cX11_towardsStored 42 = .ok (.istore 4, 2) := by decide +kernel
theorem dX11_towardsStored_44 : decode cX11_towardsStored 44 = .ok (.iload_n 2, 1) := by decide +kernel
theorem dX11_towardsStored_45 : decode cX11_towardsStored 45 = .ok (.iload_n 3, 1) := by decide +kernel
theorem dX11_towardsStored_46 : decode cX11_towardsStored 46 = .ok (.if_icmp .ge 33, 3) := by decide +kernel
theorem dX11_towardsStored_49 : decode cX11_towardsStored 49 = .ok (.iload_n 3, 1) := by decide +kernel
theorem dX11_towardsStored_50 : decode cX11_towardsStored 50 = .ok (.iload 4, 2) := by decide +kernel
theorem dX11_towardsStored_52 : decode cX11_towardsStored 52 = .ok (.if_icmp .ge 27, 3) := by decide +kernel
theorem dX11_towardsStored_55 : decode cX11_towardsStored 55 = .ok (.iload 4, 2) := by decide +kernel
theorem dX11_towardsStored_57 : decode cX11_towardsStored 57 = .ok (.aload_n 0, 1) := by decide +kernel
theorem dX11_towardsStored_58 : decode cX11_towardsStored 58 = .ok (.invokevirtual 92, 3) := by decide +kernel
theorem dX11_towardsStored_61 : decode cX11_towardsStored 61 = .ok (.if_icmp .ge 18, 3) := by decide +kernel
theorem dX11_towardsStored_64 : decode cX11_towardsStored 64 = .ok (.aload_n 0, 1) := by decide +kernel
theorem dX11_towardsStored_65 : decode cX11_towardsStored 65 = .ok (.iload_n 2, 1) := by decide +kernel
theorem dX11_towardsStored_66 : decode cX11_towardsStored 66 = .ok (.iload_n 3, 1) := by decide +kernel
theorem dX11_towardsStored_67 : decode cX11_towardsStored 67 = .ok (.iload 4, 2) := by decide +kernel
theorem dX11_towardsStored_69 : decode cX11_towardsStored 69 = .ok (.invokevirtual 82, 3) := by decide +kernel
theorem dX11_towardsStored_72 : decode cX11_towardsStored 72 = .ok (.ifCond .eq 7, 3) := by decide +kernel
theorem dX11_towardsStored_75 : decode cX11_towardsStored 75 = .ok (.iconst 1, 1) := by decide +kernel
theorem dX11_towardsStored_76 : decode cX11_towardsStored 76 = .ok (.goto 4, 3) := by decide +kernel
theorem dX11_towardsStored_79 : decode cX11_towardsStored 79 = .ok (.iconst 0, 1) := by decide +kernel
theorem dX11_towardsStored_80 : decode cX11_towardsStored 80 = .ok (.istore 5, 2) := by decide +kernel
theorem dX11_towardsStored_82 : decode cX11_towardsStored 82 = .ok (.iload 5, 2) := by decide +kernel
theorem dX11_towardsStored_84 : decode cX11_towardsStored 84 = .ok (.ifCond .eq 55, 3) := by decide +kernel
theorem dX11_towardsStored_87 : decode cX11_towardsStored 87 = .ok (.aload_n 0, 1) := by decide +kernel
theorem dX11_towardsStored_88 : decode cX11_towardsStored 88 = .ok (.iload_n 2, 1) := by decide +kernel
theorem dX11_towardsStored_89 : decode cX11_towardsStored 89 = .ok (.iload_n 3, 1) := by decide +kernel
theorem dX11_towardsStored_90 : decode cX11_towardsStored 90 = .ok (.invokevirtual 165, 3) := by decide +kernel
theorem dX11_towardsStored_93 : decode cX11_towardsStored 93 = .ok (.ifCond .eq 7, 3) := by decide +kernel
theorem dX11_towardsStored_96 : decode cX11_towardsStored 96 = .ok (.iconst 1, 1) := by decide +kernel
theorem dX11_towardsStored_97 : decode cX11_towardsStored 97 = .ok (.goto 4, 3) := by decide +kernel
theorem dX11_towardsStored_100 : decode cX11_towardsStored 100 = .ok (.iconst 0, 1) := by decide +kernel
theorem dX11_towardsStored_101 : decode cX11_towardsStored 101 = .ok (.aload_n 0, 1) := by decide +kernel
theorem dX11_towardsStored_102 : decode cX11_towardsStored 102 = .ok (.iload_n 3, 1) := by decide +kernel
theorem dX11_towardsStored_103 : decode cX11_towardsStored 103 = .ok (.iload 4, 2) := by decide +kernel
theorem dX11_towardsStored_105 : decode cX11_towardsStored 105 = .ok (.invokevirtual 165, 3) := by decide +kernel
theorem dX11_towardsStored_108 : decode cX11_towardsStored 108 = .ok (.ifCond .eq 7, 3) := by decide +kernel
theorem dX11_towardsStored_111 : decode cX11_towardsStored 111 = .ok (.iconst 1, 1) := by decide +kernel
theorem dX11_towardsStored_112 : decode cX11_towardsStored 112 = .ok (.goto 4, 3) := by decide +kernel
theorem dX11_towardsStored_115 : decode cX11_towardsStored 115 = .ok (.iconst 0, 1) := by decide +kernel
theorem dX11_towardsStored_116 : decode cX11_towardsStored 116 = .ok (.iadd, 1) := by decide +kernel
theorem dX11_towardsStored_117 : decode cX11_towardsStored 117 = .ok (.aload_n 0, 1) := by decide +kernel
theorem dX11_towardsStored_118 : decode cX11_towardsStored 118 = .ok (.iload_n 2, 1) := by decide +kernel
theorem dX11_towardsStored_119 : decode cX11_towardsStored 119 = .ok (.iload 4, 2) := by decide +kernel
theorem dX11_towardsStored_121 : decode cX11_towardsStored 121 = .ok (.invokevirtual 165, 3) := by decide +kernel
theorem dX11_towardsStored_124 : decode cX11_towardsStored 124 = .ok (.ifCond .eq 7, 3) := by decide +kernel
theorem dX11_towardsStored_127 : decode cX11_towardsStored 127 = .ok (.iconst 1, 1) := by decide +kernel
theorem dX11_towardsStored_128 : decode cX11_towardsStored 128 = .ok (.goto 4, 3) := by decide +kernel
theorem dX11_towardsStored_131 : decode cX11_towardsStored 131 = .ok (.iconst 0, 1) := by decide +kernel
theorem dX11_towardsStored_132 : decode cX11_towardsStored 132 = .ok (.iadd, 1) := by decide +kernel
theorem dX11_towardsStored_133 : decode cX11_towardsStored 133 = .ok (.iconst 2, 1) := by decide +kernel
theorem dX11_towardsStored_134 : decode cX11_towardsStored 134 = .ok (.if_icmp .lt 5, 3) := by decide +kernel
theorem dX11_towardsStored_137 : decode cX11_towardsStored 137 = .ok (.iload_n 1, 1) := by decide +kernel
theorem dX11_towardsStored_138 : decode cX11_towardsStored 138 = .ok (.ireturn, 1) := by decide +kernel
theorem dX11_towardsStored_139 : decode cX11_towardsStored 139 = .ok (.iinc 1 1, 3) := by decide +kernel
theorem dX11_towardsStored_142 : decode cX11_towardsStored 142 = .ok (.goto (-124), 3) := by decide +kernel
theorem dX11_towardsStored_145 : decode cX11_towardsStored 145 = .ok (.bipush (-4), 2) := by decide +kernel
theorem dX11_towardsStored_147 : decode cX11_towardsStored 147 = .ok (.ireturn, 1) := by decide +kernel
theorem dJ6_bitCount_0f7a4_0 : decode cJ6_bitCount_0f7a4 0 = .ok (.iload_n 0, 1) := by decide +kernel
theorem dJ6_bitCount_0f7a4_1 : decode cJ6_bitCount_0f7a4 1 = .ok (.iload_n 0, 1) := by decide +kernel
theorem dJ6_bitCount_0f7a4_2 : decode cJ6_bitCount_0f7a4 2 = .ok (.iconst 1, 1) := by decide +kernel
theorem dJ6_bitCount_0f7a4_3 : decode cJ6_bitCount_0f7a4 3 = .ok (.iushr, 1) := by decide +kernel
theorem dJ6_bitCount_0f7a4_4 : decode cJ6_bitCount_0f7a4 4 = .ok (.ldc_w 265, 3) := by decide +kernel
theorem dJ6_bitCount_0f7a4_7 : decode cJ6_bitCount_0f7a4 7 = .ok (.iand, 1) := by decide +kernel
theorem dJ6_bitCount_0f7a4_8 : decode cJ6_bitCount_0f7a4 8 = .ok (.isub, 1) := by decide +kernel
theorem dJ6_bitCount_0f7a4_9 : decode cJ6_bitCount_0f7a4 9 = .ok (.istore_n 0, 1) := by decide +kernel
theorem dJ6_bitCount_0f7a4_10 : decode cJ6_bitCount_0f7a4 10 = .ok (.iload_n 0, 1) := by decide +kernel
theorem dJ6_bitCount_0f7a4_11 : decode cJ6_bitCount_0f7a4 11 = .ok (.ldc_w 266, 3) := by decide +kernel
theorem dJ6_bitCount_0f7a4_14 : decode cJ6_bitCount_0f7a4 14 = .ok (.iand, 1) := by decide +kernel
theorem dJ6_bitCount_0f7a4_15 : decode cJ6_bitCount_0f7a4 15 = .ok (.iload_n 0, 1) := by decide +kernel
theorem dJ6_bitCount_0f7a4_16 : decode cJ6_bitCount_0f7a4 16 = .ok (.iconst 2, 1) := by decide +kernel
theorem dJ6_bitCount_0f7a4_17 : decode cJ6_bitCount_0f7a4 17 = .ok (.iushr, 1) := by decide +kernel
theorem dJ6_bitCount_0f7a4_18 : decode cJ6_bitCount_0f7a4 18 = .ok (.ldc_w 266, 3) := by decide +kernel
theorem dJ6_bitCount_0f7a4_21 : decode cJ6_bitCount_0f7a4 21 = .ok (.iand, 1) := by decide +kernel
theorem dJ6_bitCount_0f7a4_22 : decode cJ6_bitCount_0f7a4 22 = .ok (.iadd, 1) := by decide +kernel
theorem dJ6_bitCount_0f7a4_23 : decode cJ6_bitCount_0f7a4 23 = .ok (.istore_n 0, 1) := by decide +kernel
theorem dJ6_bitCount_0f7a4_24 : decode cJ6_bitCount_0f7a4 24 = .ok (.iload_n 0, 1) := by decide +kernel
theorem dJ6_bitCount_0f7a4_25 : decode cJ6_bitCount_0f7a4 25 = .ok (.iload_n 0, 1) := by decide +kernel
theorem dJ6_bitCount_0f7a4_26 : decode cJ6_bitCount_0f7a4 26 = .ok (.iconst 4, 1) := by decide +kernel
theorem dJ6_bitCount_0f7a4_27 : decode cJ6_bitCount_0f7a4 27 = .ok (.iushr, 1) := by decide +kernel
theorem dJ6_bitCount_0f7a4_28 : decode cJ6_bitCount_0f7a4 28 = .ok (.iadd, 1) := by decide +kernel
theorem dJ6_bitCount_0f7a4_29 : decode cJ6_bitCount_0f7a4 29 = .ok (.ldc_w 267, 3) := by decide +kernel
theorem dJ6_bitCount_0f7a4_32 : decode cJ6_bitCount_0f7a4 32 = .ok (.iand, 1) := by decide +kernel
theorem dJ6_bitCount_0f7a4_33 : decode cJ6_bitCount_0f7a4 33 = .ok (.istore_n 0, 1) := by decide +kernel
theorem dJ6_bitCount_0f7a4_34 : decode cJ6_bitCount_0f7a4 34 = .ok (.iload_n 0, 1) := by decide +kernel
theorem dJ6_bitCount_0f7a4_35 : decode cJ6_bitCount_0f7a4 35 = .ok (.iload_n 0, 1) := by decide +kernel
theorem dJ6_bitCount_0f7a4_36 : decode cJ6_bitCount_0f7a4 36 = .ok (.bipush 8, 2) := by decide +kernel
theorem dJ6_bitCount_0f7a4_38 : decode cJ6_bitCount_0f7a4 38 = .ok (.iushr, 1) := by decide +kernel
theorem dJ6_bitCount_0f7a4_39 : decode cJ6_bitCount_0f7a4 39 = .ok (.iadd, 1) := by decide +kernel
theorem dJ6_bitCount_0f7a4_40 : decode cJ6_bitCount_0f7a4 40 = .ok (.istore_n 0, 1) := by decide +kernel
theorem dJ6_bitCount_0f7a4_41 : decode cJ6_bitCount_0f7a4 41 = .ok (.iload_n 0, 1) := by decide +kernel
theorem dJ6_bitCount_0f7a4_42 : decode cJ6_bitCount_0f7a4 42 = .ok (.iload_n 0, 1) := by decide +kernel
theorem dJ6_bitCount_0f7a4_43 : decode cJ6_bitCount_0f7a4 43 = .ok (.bipush 16, 2) := by decide +kernel
theorem dJ6_bitCount_0f7a4_45 : decode cJ6_bitCount_0f7a4 45 = .ok (.iushr, 1) := by decide +kernel
theorem dJ6_bitCount_0f7a4_46 : decode cJ6_bitCount_0f7a4 46 = .ok (.iadd, 1) := by decide +kernel
theorem dJ6_bitCount_0f7a4_47 : decode cJ6_bitCount_0f7a4 47 = .ok (.istore_n 0, 1) := by decide +kernel
theorem dJ6_bitCount_0f7a4_48 : decode cJ6_bitCount_0f7a4 48 = .ok (.iload_n 0, 1) := by decide +kernel
theorem dJ6_bitCount_0f7a4_49 : decode cJ6_bitCount_0f7a4 49 = .ok (.bipush 63, 2) := by decide +kernel
theorem dJ6_bitCount_0f7a4_51 : decode cJ6_bitCount_0f7a4 51 = .ok (.iand, 1) := by decide +kernel
theorem dJ6_bitCount_0f7a4_52 : decode cJ6_bitCount_0f7a4 52 = .ok (.ireturn, 1) := by decide +kernel
theorem dJ9_floorMod_7cf53_0 : decode cJ9_floorMod_7cf53 0 = .ok (.iload_n 0, 1) := by decide +kernel
theorem dJ9_floorMod_7cf53_1 : decode cJ9_floorMod_7cf53 1 = .ok (.iload_n 1, 1) := by decide +kernel
theorem dJ9_floorMod_7cf53_2 : decode cJ9_floorMod_7cf53 2 = .ok (.irem, 1) := by decide +kernel
theorem dJ9_floorMod_7cf53_3 : decode cJ9_floorMod_7cf53 3 = .ok (.istore_n 2, 1) := by decide +kernel
theorem dJ9_floorMod_7cf53_4 : decode cJ9_floorMod_7cf53 4 = .ok (.iload_n 0, 1) := by decide +kernel
theorem dJ9_floorMod_7cf53_5 : decode cJ9_floorMod_7cf53 5 = .ok (.iload_n 1, 1) := by decide +kernel
theorem dJ9_floorMod_7cf53_6 : decode cJ9_floorMod_7cf53 6 = .ok (.ixor, 1) := by decide +kernel
theorem dJ9_floorMod_7cf53_7 : decode cJ9_floorMod_7cf53 7 = .ok (.ifCond .ge 11, 3) := by decide +kernel
theorem dJ9_floorMod_7cf53_10 : decode cJ9_floorMod_7cf53 10 = .ok (.iload_n 2, 1) := by decide +kernel
theorem dJ9_floorMod_7cf53_11 : decode cJ9_floorMod_7cf53 11 = .ok (.ifCond .eq 7, 3) := by decide +kernel
theorem dJ9_floorMod_7cf53_14 : decode cJ9_floorMod_7cf53 14 = .ok (.iload_n 2, 1) := by decide +kernel
theorem dJ9_floorMod_7cf53_15 : decode cJ9_floorMod_7cf53 15 = .ok (.iload_n 1, 1) := by decide +kernel
theorem dJ9_floorMod_7cf53_16 : decode cJ9_floorMod_7cf53 16 = .ok (.iadd, 1) := by decide +kernel
theorem dJ9_floorMod_7cf53_17 : decode cJ9_floorMod_7cf53 17 = .ok (.ireturn, 1) := by decide +kernel
theorem dJ9_floorMod_7cf53_18 : decode cJ9_floorMod_7cf53 18 = .ok (.iload_n 2, 1) := by decide +kernel
theorem dJ9_floorMod_7cf53_19 : decode cJ9_floorMod_7cf53 19 = .ok (.ireturn, 1) := by decide +kernel
theorem dJ9_max_7cf53_0 : decode cJ9_max_7cf53 0 = .ok (.iload_n 0, 1) := by decide +kernel
theorem dJ9_max_7cf53_1 : decode cJ9_max_7cf53 1 = .ok (.iload_n 1, 1) := by decide +kernel
theorem dJ9_max_7cf53_2 : decode cJ9_max_7cf53 2 = .ok (.if_icmp .lt 7, 3) := by decide +kernel
theorem dJ9_max_7cf53_5 : decode cJ9_max_7cf53 5 = .ok (.iload_n 0, 1) := by decide +kernel
theorem dJ9_max_7cf53_6 : decode cJ9_max_7cf53 6 = .ok (.goto 4, 3) := by decide +kernel
theorem dJ9_max_7cf53_9 : decode cJ9_max_7cf53 9 = .ok (.iload_n 1, 1) := by decide +kernel
theorem dJ9_max_7cf53_10 : decode cJ9_max_7cf53 10 = .ok (.ireturn, 1) := by decide +kernel
theorem dJ9_min_7cf53_0 : decode cJ9_min_7cf53 0 = .ok (.iload_n 0, 1) := by decide +kernel
theorem dJ9_min_7cf53_1 : decode cJ9_min_7cf53 1 = .ok (.iload_n 1, 1) := by decide +kernel
theorem dJ9_min_7cf53_2 : decode cJ9_min_7cf53 2 = .ok (.if_icmp .gt 7, 3) := by decide +kernel
theorem dJ9_min_7cf53_5 : decode cJ9_min_7cf53 5 = .ok (.iload_n 0, 1) := by decide +kernel
theorem dJ9_min_7cf53_6 : decode cJ9_min_7cf53 6 = .ok (.goto 4, 3) := by decide +kernel
theorem dJ9_min_7cf53_9 : decode cJ9_min_7cf53 9 = .ok (.iload_n 1, 1) := by decide +kernel
theorem dJ9_min_7cf53_10 : decode cJ9_min_7cf53 10 = .ok (.ireturn, 1) := by decide +kernel
theorem dL_law_0 : decode cL_law 0 = .ok (.new 7, 3) := by decide +kernel
theorem dL_law_3 : decode cL_law 3 = .ok (.dup, 1) := by decide +kernel
theorem dL_law_4 : decode cL_law 4 = .ok (.invokespecial 9, 3) := by decide +kernel
theorem dL_law_7 : decode cL_law 7 = .ok (.astore_n 1, 1) := by decide +kernel
theorem dL_law_8 : decode cL_law 8 = .ok (.new 10, 3) := by decide +kernel
theorem dL_law_11 : decode cL_law 11 = .ok (.dup, 1) := by decide +kernel
theorem dL_law_12 : decode cL_law 12 = .ok (.invokespecial 12, 3) := by decide +kernel
theorem dL_law_15 : decode cL_law 15 = .ok (.astore_n 2, 1) := by decide +kernel
theorem dL_law_16 : decode cL_law 16 = .ok (.iconst 0, 1) := by decide +kernel
theorem dL_law_17 : decode cL_law 17 = .ok (.istore_n 3, 1) := by decide +kernel
theorem dL_law_18 : decode cL_law 18 = .ok (.iload_n 3, 1) := by decide +kernel
theorem dL_law_19 : decode cL_law 19 = .ok (.aload_n 0, 1) := by decide +kernel
theorem dL_law_20 : decode cL_law 20 = .ok (.arraylength, 1) := by decide +kernel
theorem dL_law_21 : decode cL_law 21 = .ok (.iconst 4, 1) := by decide +kernel
theorem dL_law_22 : decode cL_law 22 = .ok (.isub, 1) := by decide +kernel
theorem dL_law_23 : decode cL_law 23 = .ok (.if_icmp .gt 997, 3) := by decide +kernel
theorem dL_law_26 : decode cL_law 26 = .ok (.aload_n 0, 1) := by decide +kernel
theorem dL_law_27 : decode cL_law 27 = .ok (.iload_n 3, 1) := by decide +kernel
theorem dL_law_28 : decode cL_law 28 = .ok (.iaload, 1) := by decide +kernel
theorem dL_law_29 : decode cL_law 29 = .ok (.bipush 63, 2) := by decide +kernel
theorem dL_law_31 : decode cL_law 31 = .ok (.iand, 1) := by decide +kernel
theorem dL_law_32 : decode cL_law 32 = .ok (.tableswitch 982 0 37 #[168, 191, 224, 267, 310, 343, 366, 399, 412, 425, 438, 451, 474, 487, 500, 523, 536, 549, 562, 595, 628, 651, 674, 687, 720, 733, 756, 769, 792, 835, 858, 871, 894, 917, 930, 943, 956, 969], 168) := by decide +kernel
theorem dL_law_200 : decode cL_law 200 = .ok (.aload_n 1, 1) := by decide +kernel
theorem dL_law_201 : decode cL_law 201 = .ok (.aload_n 0, 1) := by decide +kernel
theorem dL_law_202 : decode cL_law 202 = .ok (.iload_n 3, 1) := by decide +kernel
theorem dL_law_203 : decode cL_law 203 = .ok (.iconst 1, 1) := by decide +kernel
theorem dL_law_204 : decode cL_law 204 = .ok (.iadd, 1) := by decide +kernel
theorem dL_law_205 : decode cL_law 205 = .ok (.iaload, 1) := by decide +kernel
theorem dL_law_206 : decode cL_law 206 = .ok (.invokevirtual 13, 3) := by decide +kernel
theorem dL_law_209 : decode cL_law 209 = .ok (.aload_n 2, 1) := by decide +kernel
theorem dL_law_210 : decode cL_law 210 = .ok (.aload_n 0, 1) := by decide +kernel
theorem dL_law_211 : decode cL_law 211 = .ok (.iload_n 3, 1) := by decide +kernel
theorem dL_law_212 : decode cL_law 212 = .ok (.iconst 1, 1) := by decide +kernel
theorem dL_law_213 : decode cL_law 213 = .ok (.iadd, 1) := by decide +kernel
theorem dL_law_214 : decode cL_law 214 = .ok (.iaload, 1) := by decide +kernel
theorem dL_law_215 : decode cL_law 215 = .ok (.invokevirtual 17, 3) := by decide +kernel
theorem dL_law_218 : decode cL_law 218 = .ok (.if_icmp .eq 796, 3) := by decide +kernel
theorem dL_law_221 : decode cL_law 221 = .ok (.iconst 0, 1) := by decide +kernel
theorem dL_law_222 : decode cL_law 222 = .ok (.ireturn, 1) := by decide +kernel
theorem dL_law_223 : decode cL_law 223 = .ok (.aload_n 1, 1) := by decide +kernel
theorem dL_law_224 : decode cL_law 224 = .ok (.aload_n 0, 1) := by decide +kernel
theorem dL_law_225 : decode cL_law 225 = .ok (.iload_n 3, 1) := by decide +kernel
theorem dL_law_226 : decode cL_law 226 = .ok (.iconst 1, 1) := by decide +kernel
theorem dL_law_227 : decode cL_law 227 = .ok (.iadd, 1) := by decide +kernel
theorem dL_law_228 : decode cL_law 228 = .ok (.iaload, 1) := by decide +kernel
theorem dL_law_229 : decode cL_law 229 = .ok (.aload_n 0, 1) := by decide +kernel
theorem dL_law_230 : decode cL_law 230 = .ok (.iload_n 3, 1) := by decide +kernel
theorem dL_law_231 : decode cL_law 231 = .ok (.iconst 2, 1) := by decide +kernel
theorem dL_law_232 : decode cL_law 232 = .ok (.iadd, 1) := by decide +kernel
theorem dL_law_233 : decode cL_law 233 = .ok (.iaload, 1) := by decide +kernel
theorem dL_law_234 : decode cL_law 234 = .ok (.invokevirtual 18, 3) := by decide +kernel
theorem dL_law_237 : decode cL_law 237 = .ok (.aload_n 2, 1) := by decide +kernel
theorem dL_law_238 : decode cL_law 238 = .ok (.aload_n 0, 1) := by decide +kernel
theorem dL_law_239 : decode cL_law 239 = .ok (.iload_n 3, 1) := by decide +kernel
theorem dL_law_240 : decode cL_law 240 = .ok (.iconst 1, 1) := by decide +kernel
theorem dL_law_241 : decode cL_law 241 = .ok (.iadd, 1) := by decide +kernel
theorem dL_law_242 : decode cL_law 242 = .ok (.iaload, 1) := by decide +kernel
theorem dL_law_243 : decode cL_law 243 = .ok (.aload_n 0, 1) := by decide +kernel
theorem dL_law_244 : decode cL_law 244 = .ok (.iload_n 3, 1) := by decide +kernel
theorem dL_law_245 : decode cL_law 245 = .ok (.iconst 2, 1) := by decide +kernel
theorem dL_law_246 : decode cL_law 246 = .ok (.iadd, 1) := by decide +kernel
theorem dL_law_247 : decode cL_law 247 = .ok (.iaload, 1) := by decide +kernel
theorem dL_law_248 : decode cL_law 248 = .ok (.invokevirtual 22, 3) := by decide +kernel
theorem dL_law_251 : decode cL_law 251 = .ok (.if_icmp .eq 763, 3) := by decide +kernel
theorem dL_law_254 : decode cL_law 254 = .ok (.iconst 0, 1) := by decide +kernel
theorem dL_law_255 : decode cL_law 255 = .ok (.ireturn, 1) := by decide +kernel
theorem dL_law_256 : decode cL_law 256 = .ok (.aload_n 1, 1) := by decide +kernel
theorem dL_law_257 : decode cL_law 257 = .ok (.aload_n 0, 1) := by decide +kernel
theorem dL_law_258 : decode cL_law 258 = .ok (.iload_n 3, 1) := by decide +kernel
theorem dL_law_259 : decode cL_law 259 = .ok (.iconst 1, 1) := by decide +kernel
theorem dL_law_260 : decode cL_law 260 = .ok (.iadd, 1) := by decide +kernel
theorem dL_law_261 : decode cL_law 261 = .ok (.iaload, 1) := by decide +kernel
theorem dL_law_262 : decode cL_law 262 = .ok (.aload_n 0, 1) := by decide +kernel
theorem dL_law_263 : decode cL_law 263 = .ok (.iload_n 3, 1) := by decide +kernel
theorem dL_law_264 : decode cL_law 264 = .ok (.iconst 2, 1) := by decide +kernel
theorem dL_law_265 : decode cL_law 265 = .ok (.iadd, 1) := by decide +kernel
theorem dL_law_266 : decode cL_law 266 = .ok (.iaload, 1) := by decide +kernel
theorem dL_law_267 : decode cL_law 267 = .ok (.aload_n 0, 1) := by decide +kernel
theorem dL_law_268 : decode cL_law 268 = .ok (.iload_n 3, 1) := by decide +kernel
theorem dL_law_269 : decode cL_law 269 = .ok (.iconst 3, 1) := by decide +kernel
theorem dL_law_270 : decode cL_law 270 = .ok (.iadd, 1) := by decide +kernel
theorem dL_law_271 : decode cL_law 271 = .ok (.iaload, 1) := by decide +kernel
theorem dL_law_272 : decode cL_law 272 = .ok (.invokevirtual 23, 3) := by decide +kernel
theorem dL_law_275 : decode cL_law 275 = .ok (.aload_n 2, 1) := by decide +kernel
theorem dL_law_276 : decode cL_law 276 = .ok (.aload_n 0, 1) := by decide +kernel
theorem dL_law_277 : decode cL_law 277 = .ok (.iload_n 3, 1) := by decide +kernel
theorem dL_law_278 : decode cL_law 278 = .ok (.iconst 1, 1) := by decide +kernel
theorem dL_law_279 : decode cL_law 279 = .ok (.iadd, 1) := by decide +kernel
theorem dL_law_280 : decode cL_law 280 = .ok (.iaload, 1) := by decide +kernel
theorem dL_law_281 : decode cL_law 281 = .ok (.aload_n 0, 1) := by decide +kernel
theorem dL_law_282 : decode cL_law 282 = .ok (.iload_n 3, 1) := by decide +kernel
theorem dL_law_283 : decode cL_law 283 = .ok (.iconst 2, 1) := by decide +kernel
theorem dL_law_284 : decode cL_law 284 = .ok (.iadd, 1) := by decide +kernel
theorem dL_law_285 : decode cL_law 285 = .ok (.iaload, 1) := by decide +kernel
theorem dL_law_286 : decode cL_law 286 = .ok (.aload_n 0, 1) := by decide +kernel
theorem dL_law_287 : decode cL_law 287 = .ok (.iload_n 3, 1) := by decide +kernel
theorem dL_law_288 : decode cL_law 288 = .ok (.iconst 3, 1) := by decide +kernel
theorem dL_law_289 : decode cL_law 289 = .ok (.iadd, 1) := by decide +kernel
theorem dL_law_290 : decode cL_law 290 = .ok (.iaload, 1) := by decide +kernel
theorem dL_law_291 : decode cL_law 291 = .ok (.invokevirtual 27, 3) := by decide +kernel
theorem dL_law_294 : decode cL_law 294 = .ok (.if_icmp .eq 720, 3) := by decide +kernel
theorem dL_law_297 : decode cL_law 297 = .ok (.iconst 0, 1) := by decide +kernel
theorem dL_law_298 : decode cL_law 298 = .ok (.ireturn, 1) := by decide +kernel
theorem dL_law_299 : decode cL_law 299 = .ok (.aload_n 1, 1) := by decide +kernel
theorem dL_law_300 : decode cL_law 300 = .ok (.aload_n 0, 1) := by decide +kernel
theorem dL_law_301 : decode cL_law 301 = .ok (.iload_n 3, 1) := by decide +kernel
theorem dL_law_302 : decode cL_law 302 = .ok (.iconst 1, 1) := by decide +kernel
theorem dL_law_303 : decode cL_law 303 = .ok (.iadd, 1) := by decide +kernel
theorem dL_law_304 : decode cL_law 304 = .ok (.iaload, 1) := by decide +kernel
theorem dL_law_305 : decode cL_law 305 = .ok (.aload_n 0, 1) := by decide +kernel
theorem dL_law_306 : decode cL_law 306 = .ok (.iload_n 3, 1) := by decide +kernel
theorem dL_law_307 : decode cL_law 307 = .ok (.iconst 2, 1) := by decide +kernel
theorem dL_law_308 : decode cL_law 308 = .ok (.iadd, 1) := by decide +kernel
theorem dL_law_309 : decode cL_law 309 = .ok (.iaload, 1) := by decide +kernel
theorem dL_law_310 : decode cL_law 310 = .ok (.aload_n 0, 1) := by decide +kernel
theorem dL_law_311 : decode cL_law 311 = .ok (.iload_n 3, 1) := by decide +kernel
theorem dL_law_312 : decode cL_law 312 = .ok (.iconst 3, 1) := by decide +kernel
theorem dL_law_313 : decode cL_law 313 = .ok (.iadd, 1) := by decide +kernel
theorem dL_law_314 : decode cL_law 314 = .ok (.iaload, 1) := by decide +kernel
theorem dL_law_315 : decode cL_law 315 = .ok (.invokevirtual 28, 3) := by decide +kernel
theorem dL_law_318 : decode cL_law 318 = .ok (.aload_n 2, 1) := by decide +kernel
theorem dL_law_319 : decode cL_law 319 = .ok (.aload_n 0, 1) := by decide +kernel
theorem dL_law_320 : decode cL_law 320 = .ok (.iload_n 3, 1) := by decide +kernel
theorem dL_law_321 : decode cL_law 321 = .ok (.iconst 1, 1) := by decide +kernel
theorem dL_law_322 : decode cL_law 322 = .ok (.iadd, 1) := by decide +kernel
theorem dL_law_323 : decode cL_law 323 = .ok (.iaload, 1) := by decide +kernel
theorem dL_law_324 : decode cL_law 324 = .ok (.aload_n 0, 1) := by decide +kernel
theorem dL_law_325 : decode cL_law 325 = .ok (.iload_n 3, 1) := by decide +kernel
theorem dL_law_326 : decode cL_law 326 = .ok (.iconst 2, 1) := by decide +kernel
theorem dL_law_327 : decode cL_law 327 = .ok (.iadd, 1) := by decide +kernel
theorem dL_law_328 : decode cL_law 328 = .ok (.iaload, 1) := by decide +kernel
theorem dL_law_329 : decode cL_law 329 = .ok (.aload_n 0, 1) := by decide +kernel
theorem dL_law_330 : decode cL_law 330 = .ok (.iload_n 3, 1) := by decide +kernel
theorem dL_law_331 : decode cL_law 331 = .ok (.iconst 3, 1) := by decide +kernel
theorem dL_law_332 : decode cL_law 332 = .ok (.iadd, 1) := by decide +kernel
theorem dL_law_333 : decode cL_law 333 = .ok (.iaload, 1) := by decide +kernel
theorem dL_law_334 : decode cL_law 334 = .ok (.invokevirtual 31, 3) := by decide +kernel
theorem dL_law_337 : decode cL_law 337 = .ok (.if_icmp .eq 677, 3) := by decide +kernel
theorem dL_law_340 : decode cL_law 340 = .ok (.iconst 0, 1) := by decide +kernel
theorem dL_law_341 : decode cL_law 341 = .ok (.ireturn, 1) := by decide +kernel
theorem dL_law_342 : decode cL_law 342 = .ok (.aload_n 1, 1) := by decide +kernel
theorem dL_law_343 : decode cL_law 343 = .ok (.aload_n 0, 1) := by decide +kernel
theorem dL_law_344 : decode cL_law 344 = .ok (.iload_n 3, 1) := by decide +kernel
theorem dL_law_345 : decode cL_law 345 = .ok (.iconst 1, 1) := by decide +kernel
theorem dL_law_346 : decode cL_law 346 = .ok (.iadd, 1) := by decide +kernel
theorem dL_law_347 : decode cL_law 347 = .ok (.iaload, 1) := by decide +kernel
theorem dL_law_348 : decode cL_law 348 = .ok (.aload_n 0, 1) := by decide +kernel
theorem dL_law_349 : decode cL_law 349 = .ok (.iload_n 3, 1) := by decide +kernel
theorem dL_law_350 : decode cL_law 350 = .ok (.iconst 2, 1) := by decide +kernel
theorem dL_law_351 : decode cL_law 351 = .ok (.iadd, 1) := by decide +kernel
theorem dL_law_352 : decode cL_law 352 = .ok (.iaload, 1) := by decide +kernel
theorem dL_law_353 : decode cL_law 353 = .ok (.invokevirtual 32, 3) := by decide +kernel
theorem dL_law_356 : decode cL_law 356 = .ok (.aload_n 2, 1) := by decide +kernel
theorem dL_law_357 : decode cL_law 357 = .ok (.aload_n 0, 1) := by decide +kernel
theorem dL_law_358 : decode cL_law 358 = .ok (.iload_n 3, 1) := by decide +kernel
theorem dL_law_359 : decode cL_law 359 = .ok (.iconst 1, 1) := by decide +kernel
theorem dL_law_360 : decode cL_law 360 = .ok (.iadd, 1) := by decide +kernel
theorem dL_law_361 : decode cL_law 361 = .ok (.iaload, 1) := by decide +kernel
theorem dL_law_362 : decode cL_law 362 = .ok (.aload_n 0, 1) := by decide +kernel
theorem dL_law_363 : decode cL_law 363 = .ok (.iload_n 3, 1) := by decide +kernel
theorem dL_law_364 : decode cL_law 364 = .ok (.iconst 2, 1) := by decide +kernel
theorem dL_law_365 : decode cL_law 365 = .ok (.iadd, 1) := by decide +kernel
theorem dL_law_366 : decode cL_law 366 = .ok (.iaload, 1) := by decide +kernel
theorem dL_law_367 : decode cL_law 367 = .ok (.invokevirtual 35, 3) := by decide +kernel
theorem dL_law_370 : decode cL_law 370 = .ok (.if_icmp .eq 644, 3) := by decide +kernel
theorem dL_law_373 : decode cL_law 373 = .ok (.iconst 0, 1) := by decide +kernel
theorem dL_law_374 : decode cL_law 374 = .ok (.ireturn, 1) := by decide +kernel
theorem dL_law_375 : decode cL_law 375 = .ok (.aload_n 1, 1) := by decide +kernel
theorem dL_law_376 : decode cL_law 376 = .ok (.aload_n 0, 1) := by decide +kernel
theorem dL_law_377 : decode cL_law 377 = .ok (.iload_n 3, 1) := by decide +kernel
theorem dL_law_378 : decode cL_law 378 = .ok (.iconst 1, 1) := by decide +kernel
theorem dL_law_379 : decode cL_law 379 = .ok (.iadd, 1) := by decide +kernel
theorem dL_law_380 : decode cL_law 380 = .ok (.iaload, 1) := by decide +kernel
theorem dL_law_381 : decode cL_law 381 = .ok (.invokevirtual 36, 3) := by decide +kernel
theorem dL_law_384 : decode cL_law 384 = .ok (.aload_n 2, 1) := by decide +kernel
theorem dL_law_385 : decode cL_law 385 = .ok (.aload_n 0, 1) := by decide +kernel
theorem dL_law_386 : decode cL_law 386 = .ok (.iload_n 3, 1) := by decide +kernel
theorem dL_law_387 : decode cL_law 387 = .ok (.iconst 1, 1) := by decide +kernel
theorem dL_law_388 : decode cL_law 388 = .ok (.iadd, 1) := by decide +kernel
theorem dL_law_389 : decode cL_law 389 = .ok (.iaload, 1) := by decide +kernel
theorem dL_law_390 : decode cL_law 390 = .ok (.invokevirtual 39, 3) := by decide +kernel
theorem dL_law_393 : decode cL_law 393 = .ok (.if_icmp .eq 621, 3) := by decide +kernel
theorem dL_law_396 : decode cL_law 396 = .ok (.iconst 0, 1) := by decide +kernel
theorem dL_law_397 : decode cL_law 397 = .ok (.ireturn, 1) := by decide +kernel
theorem dL_law_398 : decode cL_law 398 = .ok (.aload_n 1, 1) := by decide +kernel
theorem dL_law_399 : decode cL_law 399 = .ok (.aload_n 0, 1) := by decide +kernel
theorem dL_law_400 : decode cL_law 400 = .ok (.iload_n 3, 1) := by decide +kernel
theorem dL_law_401 : decode cL_law 401 = .ok (.iconst 1, 1) := by decide +kernel
theorem dL_law_402 : decode cL_law 402 = .ok (.iadd, 1) := by decide +kernel
theorem dL_law_403 : decode cL_law 403 = .ok (.iaload, 1) := by decide +kernel
theorem dL_law_404 : decode cL_law 404 = .ok (.aload_n 0, 1) := by decide +kernel
theorem dL_law_405 : decode cL_law 405 = .ok (.iload_n 3, 1) := by decide +kernel
theorem dL_law_406 : decode cL_law 406 = .ok (.iconst 2, 1) := by decide +kernel
theorem dL_law_407 : decode cL_law 407 = .ok (.iadd, 1) := by decide +kernel
theorem dL_law_408 : decode cL_law 408 = .ok (.iaload, 1) := by decide +kernel
theorem dL_law_409 : decode cL_law 409 = .ok (.invokevirtual 40, 3) := by decide +kernel
theorem dL_law_412 : decode cL_law 412 = .ok (.aload_n 2, 1) := by decide +kernel
theorem dL_law_413 : decode cL_law 413 = .ok (.aload_n 0, 1) := by decide +kernel
theorem dL_law_414 : decode cL_law 414 = .ok (.iload_n 3, 1) := by decide +kernel
theorem dL_law_415 : decode cL_law 415 = .ok (.iconst 1, 1) := by decide +kernel
theorem dL_law_416 : decode cL_law 416 = .ok (.iadd, 1) := by decide +kernel
theorem dL_law_417 : decode cL_law 417 = .ok (.iaload, 1) := by decide +kernel
theorem dL_law_418 : decode cL_law 418 = .ok (.aload_n 0, 1) := by decide +kernel
theorem dL_law_419 : decode cL_law 419 = .ok (.iload_n 3, 1) := by decide +kernel
theorem dL_law_420 : decode cL_law 420 = .ok (.iconst 2, 1) := by decide +kernel
theorem dL_law_421 : decode cL_law 421 = .ok (.iadd, 1) := by decide +kernel
theorem dL_law_422 : decode cL_law 422 = .ok (.iaload, 1) := by decide +kernel
theorem dL_law_423 : decode cL_law 423 = .ok (.invokevirtual 43, 3) := by decide +kernel
theorem dL_law_426 : decode cL_law 426 = .ok (.if_icmp .eq 588, 3) := by decide +kernel
theorem dL_law_429 : decode cL_law 429 = .ok (.iconst 0, 1) := by decide +kernel
theorem dL_law_430 : decode cL_law 430 = .ok (.ireturn, 1) := by decide +kernel
theorem dL_law_431 : decode cL_law 431 = .ok (.aload_n 1, 1) := by decide +kernel
theorem dL_law_432 : decode cL_law 432 = .ok (.invokevirtual 44, 3) := by decide +kernel
theorem dL_law_435 : decode cL_law 435 = .ok (.aload_n 2, 1) := by decide +kernel
theorem dL_law_436 : decode cL_law 436 = .ok (.invokevirtual 48, 3) := by decide +kernel
theorem dL_law_439 : decode cL_law 439 = .ok (.if_icmp .eq 575, 3) := by decide +kernel
theorem dL_law_442 : decode cL_law 442 = .ok (.iconst 0, 1) := by decide +kernel
theorem dL_law_443 : decode cL_law 443 = .ok (.ireturn, 1) := by decide +kernel
theorem dL_law_444 : decode cL_law 444 = .ok (.aload_n 1, 1) := by decide +kernel
theorem dL_law_445 : decode cL_law 445 = .ok (.invokevirtual 49, 3) := by decide +kernel
theorem dL_law_448 : decode cL_law 448 = .ok (.aload_n 2, 1) := by decide +kernel
theorem dL_law_449 : decode cL_law 449 = .ok (.invokevirtual 52, 3) := by decide +kernel
theorem dL_law_452 : decode cL_law 452 = .ok (.if_icmp .eq 562, 3) := by decide +kernel
theorem dL_law_455 : decode cL_law 455 = .ok (.iconst 0, 1) := by decide +kernel
theorem dL_law_456 : decode cL_law 456 = .ok (.ireturn, 1) := by decide +kernel
theorem dL_law_457 : decode cL_law 457 = .ok (.aload_n 1, 1) := by decide +kernel
theorem dL_law_458 : decode cL_law 458 = .ok (.invokevirtual 53, 3) := by decide +kernel
theorem dL_law_461 : decode cL_law 461 = .ok (.aload_n 2, 1) := by decide +kernel
theorem dL_law_462 : decode cL_law 462 = .ok (.invokevirtual 56, 3) := by decide +kernel
theorem dL_law_465 : decode cL_law 465 = .ok (.if_icmp .eq 549, 3) := by decide +kernel
theorem dL_law_468 : decode cL_law 468 = .ok (.iconst 0, 1) := by decide +kernel
theorem dL_law_469 : decode cL_law 469 = .ok (.ireturn, 1) := by decide +kernel
theorem dL_law_470 : decode cL_law 470 = .ok (.aload_n 1, 1) := by decide +kernel
theorem dL_law_471 : decode cL_law 471 = .ok (.invokevirtual 57, 3) := by decide +kernel
theorem dL_law_474 : decode cL_law 474 = .ok (.aload_n 2, 1) := by decide +kernel
theorem dL_law_475 : decode cL_law 475 = .ok (.invokevirtual 60, 3) := by decide +kernel
theorem dL_law_478 : decode cL_law 478 = .ok (.if_icmp .eq 536, 3) := by decide +kernel
theorem dL_law_481 : decode cL_law 481 = .ok (.iconst 0, 1) := by decide +kernel
theorem dL_law_482 : decode cL_law 482 = .ok (.ireturn, 1) := by decide +kernel
theorem dL_law_483 : decode cL_law 483 = .ok (.aload_n 1, 1) := by decide +kernel
theorem dL_law_484 : decode cL_law 484 = .ok (.aload_n 0, 1) := by decide +kernel
theorem dL_law_485 : decode cL_law 485 = .ok (.iload_n 3, 1) := by decide +kernel
theorem dL_law_486 : decode cL_law 486 = .ok (.iconst 1, 1) := by decide +kernel
theorem dL_law_487 : decode cL_law 487 = .ok (.iadd, 1) := by decide +kernel
theorem dL_law_488 : decode cL_law 488 = .ok (.iaload, 1) := by decide +kernel
theorem dL_law_489 : decode cL_law 489 = .ok (.invokevirtual 61, 3) := by decide +kernel
theorem dL_law_492 : decode cL_law 492 = .ok (.aload_n 2, 1) := by decide +kernel
theorem dL_law_493 : decode cL_law 493 = .ok (.aload_n 0, 1) := by decide +kernel
theorem dL_law_494 : decode cL_law 494 = .ok (.iload_n 3, 1) := by decide +kernel
theorem dL_law_495 : decode cL_law 495 = .ok (.iconst 1, 1) := by decide +kernel
theorem dL_law_496 : decode cL_law 496 = .ok (.iadd, 1) := by decide +kernel
theorem dL_law_497 : decode cL_law 497 = .ok (.iaload, 1) := by decide +kernel
theorem dL_law_498 : decode cL_law 498 = .ok (.invokevirtual 64, 3) := by decide +kernel
theorem dL_law_501 : decode cL_law 501 = .ok (.if_icmp .eq 513, 3) := by decide +kernel
theorem dL_law_504 : decode cL_law 504 = .ok (.iconst 0, 1) := by decide +kernel
theorem dL_law_505 : decode cL_law 505 = .ok (.ireturn, 1) := by decide +kernel
theorem dL_law_506 : decode cL_law 506 = .ok (.aload_n 1, 1) := by decide +kernel
theorem dL_law_507 : decode cL_law 507 = .ok (.invokevirtual 65, 3) := by decide +kernel
theorem dL_law_510 : decode cL_law 510 = .ok (.aload_n 2, 1) := by decide +kernel
theorem dL_law_511 : decode cL_law 511 = .ok (.invokevirtual 68, 3) := by decide +kernel
theorem dL_law_514 : decode cL_law 514 = .ok (.if_icmp .eq 500, 3) := by decide +kernel
theorem dL_law_517 : decode cL_law 517 = .ok (.iconst 0, 1) := by decide +kernel
theorem dL_law_518 : decode cL_law 518 = .ok (.ireturn, 1) := by decide +kernel
theorem dL_law_519 : decode cL_law 519 = .ok (.aload_n 1, 1) := by decide +kernel
theorem dL_law_520 : decode cL_law 520 = .ok (.invokevirtual 69, 3) := by decide +kernel
theorem dL_law_523 : decode cL_law 523 = .ok (.aload_n 2, 1) := by decide +kernel
theorem dL_law_524 : decode cL_law 524 = .ok (.invokevirtual 72, 3) := by decide +kernel
theorem dL_law_527 : decode cL_law 527 = .ok (.if_icmp .eq 487, 3) := by decide +kernel
theorem dL_law_530 : decode cL_law 530 = .ok (.iconst 0, 1) := by decide +kernel
theorem dL_law_531 : decode cL_law 531 = .ok (.ireturn, 1) := by decide +kernel
theorem dL_law_532 : decode cL_law 532 = .ok (.aload_n 1, 1) := by decide +kernel
theorem dL_law_533 : decode cL_law 533 = .ok (.aload_n 0, 1) := by decide +kernel
theorem dL_law_534 : decode cL_law 534 = .ok (.iload_n 3, 1) := by decide +kernel
theorem dL_law_535 : decode cL_law 535 = .ok (.iconst 1, 1) := by decide +kernel
theorem dL_law_536 : decode cL_law 536 = .ok (.iadd, 1) := by decide +kernel
theorem dL_law_537 : decode cL_law 537 = .ok (.iaload, 1) := by decide +kernel
theorem dL_law_538 : decode cL_law 538 = .ok (.invokevirtual 73, 3) := by decide +kernel
theorem dL_law_541 : decode cL_law 541 = .ok (.aload_n 2, 1) := by decide +kernel
theorem dL_law_542 : decode cL_law 542 = .ok (.aload_n 0, 1) := by decide +kernel
theorem dL_law_543 : decode cL_law 543 = .ok (.iload_n 3, 1) := by decide +kernel
theorem dL_law_544 : decode cL_law 544 = .ok (.iconst 1, 1) := by decide +kernel
theorem dL_law_545 : decode cL_law 545 = .ok (.iadd, 1) := by decide +kernel
theorem dL_law_546 : decode cL_law 546 = .ok (.iaload, 1) := by decide +kernel
theorem dL_law_547 : decode cL_law 547 = .ok (.invokevirtual 76, 3) := by decide +kernel
theorem dL_law_550 : decode cL_law 550 = .ok (.if_icmp .eq 464, 3) := by decide +kernel
theorem dL_law_553 : decode cL_law 553 = .ok (.iconst 0, 1) := by decide +kernel
theorem dL_law_554 : decode cL_law 554 = .ok (.ireturn, 1) := by decide +kernel
theorem dL_law_555 : decode cL_law 555 = .ok (.aload_n 1, 1) := by decide +kernel
theorem dL_law_556 : decode cL_law 556 = .ok (.invokevirtual 77, 3) := by decide +kernel
theorem dL_law_559 : decode cL_law 559 = .ok (.aload_n 2, 1) := by decide +kernel
theorem dL_law_560 : decode cL_law 560 = .ok (.invokevirtual 80, 3) := by decide +kernel
theorem dL_law_563 : decode cL_law 563 = .ok (.if_icmp .eq 451, 3) := by decide +kernel
theorem dL_law_566 : decode cL_law 566 = .ok (.iconst 0, 1) := by decide +kernel
theorem dL_law_567 : decode cL_law 567 = .ok (.ireturn, 1) := by decide +kernel
theorem dL_law_568 : decode cL_law 568 = .ok (.aload_n 1, 1) := by decide +kernel
theorem dL_law_569 : decode cL_law 569 = .ok (.invokevirtual 81, 3) := by decide +kernel
theorem dL_law_572 : decode cL_law 572 = .ok (.aload_n 2, 1) := by decide +kernel
theorem dL_law_573 : decode cL_law 573 = .ok (.invokevirtual 84, 3) := by decide +kernel
theorem dL_law_576 : decode cL_law 576 = .ok (.if_icmp .eq 438, 3) := by decide +kernel
theorem dL_law_579 : decode cL_law 579 = .ok (.iconst 0, 1) := by decide +kernel
theorem dL_law_580 : decode cL_law 580 = .ok (.ireturn, 1) := by decide +kernel
theorem dL_law_581 : decode cL_law 581 = .ok (.aload_n 1, 1) := by decide +kernel
theorem dL_law_582 : decode cL_law 582 = .ok (.invokevirtual 85, 3) := by decide +kernel
theorem dL_law_585 : decode cL_law 585 = .ok (.aload_n 2, 1) := by decide +kernel
theorem dL_law_586 : decode cL_law 586 = .ok (.invokevirtual 88, 3) := by decide +kernel
theorem dL_law_589 : decode cL_law 589 = .ok (.if_icmp .eq 425, 3) := by decide +kernel
theorem dL_law_592 : decode cL_law 592 = .ok (.iconst 0, 1) := by decide +kernel
theorem dL_law_593 : decode cL_law 593 = .ok (.ireturn, 1) := by decide +kernel
theorem dL_law_594 : decode cL_law 594 = .ok (.aload_n 1, 1) := by decide +kernel
theorem dL_law_595 : decode cL_law 595 = .ok (.aload_n 0, 1) := by decide +kernel
theorem dL_law_596 : decode cL_law 596 = .ok (.iload_n 3, 1) := by decide +kernel
theorem dL_law_597 : decode cL_law 597 = .ok (.iconst 1, 1) := by decide +kernel
theorem dL_law_598 : decode cL_law 598 = .ok (.iadd, 1) := by decide +kernel
theorem dL_law_599 : decode cL_law 599 = .ok (.iaload, 1) := by decide +kernel
theorem dL_law_600 : decode cL_law 600 = .ok (.aload_n 0, 1) := by decide +kernel
theorem dL_law_601 : decode cL_law 601 = .ok (.iload_n 3, 1) := by decide +kernel
theorem dL_law_602 : decode cL_law 602 = .ok (.iconst 2, 1) := by decide +kernel
theorem dL_law_603 : decode cL_law 603 = .ok (.iadd, 1) := by decide +kernel
theorem dL_law_604 : decode cL_law 604 = .ok (.iaload, 1) := by decide +kernel
theorem dL_law_605 : decode cL_law 605 = .ok (.invokevirtual 89, 3) := by decide +kernel
theorem dL_law_608 : decode cL_law 608 = .ok (.aload_n 2, 1) := by decide +kernel
theorem dL_law_609 : decode cL_law 609 = .ok (.aload_n 0, 1) := by decide +kernel
theorem dL_law_610 : decode cL_law 610 = .ok (.iload_n 3, 1) := by decide +kernel
theorem dL_law_611 : decode cL_law 611 = .ok (.iconst 1, 1) := by decide +kernel
theorem dL_law_612 : decode cL_law 612 = .ok (.iadd, 1) := by decide +kernel
theorem dL_law_613 : decode cL_law 613 = .ok (.iaload, 1) := by decide +kernel
theorem dL_law_614 : decode cL_law 614 = .ok (.aload_n 0, 1) := by decide +kernel
theorem dL_law_615 : decode cL_law 615 = .ok (.iload_n 3, 1) := by decide +kernel
theorem dL_law_616 : decode cL_law 616 = .ok (.iconst 2, 1) := by decide +kernel
theorem dL_law_617 : decode cL_law 617 = .ok (.iadd, 1) := by decide +kernel
theorem dL_law_618 : decode cL_law 618 = .ok (.iaload, 1) := by decide +kernel
theorem dL_law_619 : decode cL_law 619 = .ok (.invokevirtual 92, 3) := by decide +kernel
theorem dL_law_622 : decode cL_law 622 = .ok (.if_icmp .eq 392, 3) := by decide +kernel
theorem dL_law_625 : decode cL_law 625 = .ok (.iconst 0, 1) := by decide +kernel
theorem dL_law_626 : decode cL_law 626 = .ok (.ireturn, 1) := by decide +kernel
theorem dL_law_627 : decode cL_law 627 = .ok (.aload_n 1, 1) := by decide +kernel
theorem dL_law_628 : decode cL_law 628 = .ok (.aload_n 0, 1) := by decide +kernel
theorem dL_law_629 : decode cL_law 629 = .ok (.iload_n 3, 1) := by decide +kernel
theorem dL_law_630 : decode cL_law 630 = .ok (.iconst 1, 1) := by decide +kernel
theorem dL_law_631 : decode cL_law 631 = .ok (.iadd, 1) := by decide +kernel
theorem dL_law_632 : decode cL_law 632 = .ok (.iaload, 1) := by decide +kernel
theorem dL_law_633 : decode cL_law 633 = .ok (.aload_n 0, 1) := by decide +kernel
theorem dL_law_634 : decode cL_law 634 = .ok (.iload_n 3, 1) := by decide +kernel
theorem dL_law_635 : decode cL_law 635 = .ok (.iconst 2, 1) := by decide +kernel
theorem dL_law_636 : decode cL_law 636 = .ok (.iadd, 1) := by decide +kernel
theorem dL_law_637 : decode cL_law 637 = .ok (.iaload, 1) := by decide +kernel
theorem dL_law_638 : decode cL_law 638 = .ok (.invokevirtual 93, 3) := by decide +kernel
theorem dL_law_641 : decode cL_law 641 = .ok (.aload_n 2, 1) := by decide +kernel
theorem dL_law_642 : decode cL_law 642 = .ok (.aload_n 0, 1) := by decide +kernel
theorem dL_law_643 : decode cL_law 643 = .ok (.iload_n 3, 1) := by decide +kernel
theorem dL_law_644 : decode cL_law 644 = .ok (.iconst 1, 1) := by decide +kernel
theorem dL_law_645 : decode cL_law 645 = .ok (.iadd, 1) := by decide +kernel
theorem dL_law_646 : decode cL_law 646 = .ok (.iaload, 1) := by decide +kernel
theorem dL_law_647 : decode cL_law 647 = .ok (.aload_n 0, 1) := by decide +kernel
theorem dL_law_648 : decode cL_law 648 = .ok (.iload_n 3, 1) := by decide +kernel
theorem dL_law_649 : decode cL_law 649 = .ok (.iconst 2, 1) := by decide +kernel
theorem dL_law_650 : decode cL_law 650 = .ok (.iadd, 1) := by decide +kernel
theorem dL_law_651 : decode cL_law 651 = .ok (.iaload, 1) := by decide +kernel
theorem dL_law_652 : decode cL_law 652 = .ok (.invokevirtual 96, 3) := by decide +kernel
theorem dL_law_655 : decode cL_law 655 = .ok (.if_icmp .eq 359, 3) := by decide +kernel
theorem dL_law_658 : decode cL_law 658 = .ok (.iconst 0, 1) := by decide +kernel
theorem dL_law_659 : decode cL_law 659 = .ok (.ireturn, 1) := by decide +kernel
theorem dL_law_660 : decode cL_law 660 = .ok (.aload_n 1, 1) := by decide +kernel
theorem dL_law_661 : decode cL_law 661 = .ok (.aload_n 0, 1) := by decide +kernel
theorem dL_law_662 : decode cL_law 662 = .ok (.iload_n 3, 1) := by decide +kernel
theorem dL_law_663 : decode cL_law 663 = .ok (.iconst 1, 1) := by decide +kernel
theorem dL_law_664 : decode cL_law 664 = .ok (.iadd, 1) := by decide +kernel
theorem dL_law_665 : decode cL_law 665 = .ok (.iaload, 1) := by decide +kernel
theorem dL_law_666 : decode cL_law 666 = .ok (.invokevirtual 97, 3) := by decide +kernel
theorem dL_law_669 : decode cL_law 669 = .ok (.aload_n 2, 1) := by decide +kernel
theorem dL_law_670 : decode cL_law 670 = .ok (.aload_n 0, 1) := by decide +kernel
theorem dL_law_671 : decode cL_law 671 = .ok (.iload_n 3, 1) := by decide +kernel
theorem dL_law_672 : decode cL_law 672 = .ok (.iconst 1, 1) := by decide +kernel
theorem dL_law_673 : decode cL_law 673 = .ok (.iadd, 1) := by decide +kernel
theorem dL_law_674 : decode cL_law 674 = .ok (.iaload, 1) := by decide +kernel
theorem dL_law_675 : decode cL_law 675 = .ok (.invokevirtual 100, 3) := by decide +kernel
theorem dL_law_678 : decode cL_law 678 = .ok (.if_icmp .eq 336, 3) := by decide +kernel
theorem dL_law_681 : decode cL_law 681 = .ok (.iconst 0, 1) := by decide +kernel
theorem dL_law_682 : decode cL_law 682 = .ok (.ireturn, 1) := by decide +kernel
theorem dL_law_683 : decode cL_law 683 = .ok (.aload_n 1, 1) := by decide +kernel
theorem dL_law_684 : decode cL_law 684 = .ok (.aload_n 0, 1) := by decide +kernel
theorem dL_law_685 : decode cL_law 685 = .ok (.iload_n 3, 1) := by decide +kernel
theorem dL_law_686 : decode cL_law 686 = .ok (.iconst 1, 1) := by decide +kernel
theorem dL_law_687 : decode cL_law 687 = .ok (.iadd, 1) := by decide +kernel
theorem dL_law_688 : decode cL_law 688 = .ok (.iaload, 1) := by decide +kernel
theorem dL_law_689 : decode cL_law 689 = .ok (.invokevirtual 101, 3) := by decide +kernel
theorem dL_law_692 : decode cL_law 692 = .ok (.aload_n 2, 1) := by decide +kernel
theorem dL_law_693 : decode cL_law 693 = .ok (.aload_n 0, 1) := by decide +kernel
theorem dL_law_694 : decode cL_law 694 = .ok (.iload_n 3, 1) := by decide +kernel
theorem dL_law_695 : decode cL_law 695 = .ok (.iconst 1, 1) := by decide +kernel
theorem dL_law_696 : decode cL_law 696 = .ok (.iadd, 1) := by decide +kernel
theorem dL_law_697 : decode cL_law 697 = .ok (.iaload, 1) := by decide +kernel
theorem dL_law_698 : decode cL_law 698 = .ok (.invokevirtual 104, 3) := by decide +kernel
theorem dL_law_701 : decode cL_law 701 = .ok (.if_icmp .eq 313, 3) := by decide +kernel
theorem dL_law_704 : decode cL_law 704 = .ok (.iconst 0, 1) := by decide +kernel
theorem dL_law_705 : decode cL_law 705 = .ok (.ireturn, 1) := by decide +kernel
theorem dL_law_706 : decode cL_law 706 = .ok (.aload_n 1, 1) := by decide +kernel
theorem dL_law_707 : decode cL_law 707 = .ok (.invokevirtual 105, 3) := by decide +kernel
theorem dL_law_710 : decode cL_law 710 = .ok (.aload_n 2, 1) := by decide +kernel
theorem dL_law_711 : decode cL_law 711 = .ok (.invokevirtual 108, 3) := by decide +kernel
theorem dL_law_714 : decode cL_law 714 = .ok (.if_icmp .eq 300, 3) := by decide +kernel
theorem dL_law_717 : decode cL_law 717 = .ok (.iconst 0, 1) := by decide +kernel
theorem dL_law_718 : decode cL_law 718 = .ok (.ireturn, 1) := by decide +kernel
theorem dL_law_719 : decode cL_law 719 = .ok (.aload_n 1, 1) := by decide +kernel
theorem dL_law_720 : decode cL_law 720 = .ok (.aload_n 0, 1) := by decide +kernel
theorem dL_law_721 : decode cL_law 721 = .ok (.iload_n 3, 1) := by decide +kernel
theorem dL_law_722 : decode cL_law 722 = .ok (.iconst 1, 1) := by decide +kernel
theorem dL_law_723 : decode cL_law 723 = .ok (.iadd, 1) := by decide +kernel
theorem dL_law_724 : decode cL_law 724 = .ok (.iaload, 1) := by decide +kernel
theorem dL_law_725 : decode cL_law 725 = .ok (.aload_n 0, 1) := by decide +kernel
theorem dL_law_726 : decode cL_law 726 = .ok (.iload_n 3, 1) := by decide +kernel
theorem dL_law_727 : decode cL_law 727 = .ok (.iconst 2, 1) := by decide +kernel
theorem dL_law_728 : decode cL_law 728 = .ok (.iadd, 1) := by decide +kernel
theorem dL_law_729 : decode cL_law 729 = .ok (.iaload, 1) := by decide +kernel
theorem dL_law_730 : decode cL_law 730 = .ok (.invokevirtual 109, 3) := by decide +kernel
theorem dL_law_733 : decode cL_law 733 = .ok (.aload_n 2, 1) := by decide +kernel
theorem dL_law_734 : decode cL_law 734 = .ok (.aload_n 0, 1) := by decide +kernel
theorem dL_law_735 : decode cL_law 735 = .ok (.iload_n 3, 1) := by decide +kernel
theorem dL_law_736 : decode cL_law 736 = .ok (.iconst 1, 1) := by decide +kernel
theorem dL_law_737 : decode cL_law 737 = .ok (.iadd, 1) := by decide +kernel
theorem dL_law_738 : decode cL_law 738 = .ok (.iaload, 1) := by decide +kernel
theorem dL_law_739 : decode cL_law 739 = .ok (.aload_n 0, 1) := by decide +kernel
theorem dL_law_740 : decode cL_law 740 = .ok (.iload_n 3, 1) := by decide +kernel
theorem dL_law_741 : decode cL_law 741 = .ok (.iconst 2, 1) := by decide +kernel
theorem dL_law_742 : decode cL_law 742 = .ok (.iadd, 1) := by decide +kernel
theorem dL_law_743 : decode cL_law 743 = .ok (.iaload, 1) := by decide +kernel
theorem dL_law_744 : decode cL_law 744 = .ok (.invokevirtual 112, 3) := by decide +kernel
theorem dL_law_747 : decode cL_law 747 = .ok (.if_icmp .eq 267, 3) := by decide +kernel
theorem dL_law_750 : decode cL_law 750 = .ok (.iconst 0, 1) := by decide +kernel
theorem dL_law_751 : decode cL_law 751 = .ok (.ireturn, 1) := by decide +kernel
theorem dL_law_752 : decode cL_law 752 = .ok (.aload_n 1, 1) := by decide +kernel
theorem dL_law_753 : decode cL_law 753 = .ok (.invokevirtual 113, 3) := by decide +kernel
theorem dL_law_756 : decode cL_law 756 = .ok (.aload_n 2, 1) := by decide +kernel
theorem dL_law_757 : decode cL_law 757 = .ok (.invokevirtual 116, 3) := by decide +kernel
theorem dL_law_760 : decode cL_law 760 = .ok (.if_icmp .eq 254, 3) := by decide +kernel
theorem dL_law_763 : decode cL_law 763 = .ok (.iconst 0, 1) := by decide +kernel
theorem dL_law_764 : decode cL_law 764 = .ok (.ireturn, 1) := by decide +kernel
theorem dL_law_765 : decode cL_law 765 = .ok (.aload_n 1, 1) := by decide +kernel
theorem dL_law_766 : decode cL_law 766 = .ok (.aload_n 0, 1) := by decide +kernel
theorem dL_law_767 : decode cL_law 767 = .ok (.iload_n 3, 1) := by decide +kernel
theorem dL_law_768 : decode cL_law 768 = .ok (.iconst 1, 1) := by decide +kernel
theorem dL_law_769 : decode cL_law 769 = .ok (.iadd, 1) := by decide +kernel
theorem dL_law_770 : decode cL_law 770 = .ok (.iaload, 1) := by decide +kernel
theorem dL_law_771 : decode cL_law 771 = .ok (.invokevirtual 117, 3) := by decide +kernel
theorem dL_law_774 : decode cL_law 774 = .ok (.aload_n 2, 1) := by decide +kernel
theorem dL_law_775 : decode cL_law 775 = .ok (.aload_n 0, 1) := by decide +kernel
theorem dL_law_776 : decode cL_law 776 = .ok (.iload_n 3, 1) := by decide +kernel
theorem dL_law_777 : decode cL_law 777 = .ok (.iconst 1, 1) := by decide +kernel
theorem dL_law_778 : decode cL_law 778 = .ok (.iadd, 1) := by decide +kernel
theorem dL_law_779 : decode cL_law 779 = .ok (.iaload, 1) := by decide +kernel
theorem dL_law_780 : decode cL_law 780 = .ok (.invokevirtual 120, 3) := by decide +kernel
theorem dL_law_783 : decode cL_law 783 = .ok (.if_icmp .eq 231, 3) := by decide +kernel
theorem dL_law_786 : decode cL_law 786 = .ok (.iconst 0, 1) := by decide +kernel
theorem dL_law_787 : decode cL_law 787 = .ok (.ireturn, 1) := by decide +kernel
theorem dL_law_788 : decode cL_law 788 = .ok (.aload_n 1, 1) := by decide +kernel
theorem dL_law_789 : decode cL_law 789 = .ok (.invokevirtual 121, 3) := by decide +kernel
theorem dL_law_792 : decode cL_law 792 = .ok (.aload_n 2, 1) := by decide +kernel
theorem dL_law_793 : decode cL_law 793 = .ok (.invokevirtual 124, 3) := by decide +kernel
theorem dL_law_796 : decode cL_law 796 = .ok (.if_icmp .eq 218, 3) := by decide +kernel
theorem dL_law_799 : decode cL_law 799 = .ok (.iconst 0, 1) := by decide +kernel
theorem dL_law_800 : decode cL_law 800 = .ok (.ireturn, 1) := by decide +kernel
theorem dL_law_801 : decode cL_law 801 = .ok (.aload_n 1, 1) := by decide +kernel
theorem dL_law_802 : decode cL_law 802 = .ok (.aload_n 0, 1) := by decide +kernel
theorem dL_law_803 : decode cL_law 803 = .ok (.iload_n 3, 1) := by decide +kernel
theorem dL_law_804 : decode cL_law 804 = .ok (.iconst 1, 1) := by decide +kernel
theorem dL_law_805 : decode cL_law 805 = .ok (.iadd, 1) := by decide +kernel
theorem dL_law_806 : decode cL_law 806 = .ok (.iaload, 1) := by decide +kernel
theorem dL_law_807 : decode cL_law 807 = .ok (.invokevirtual 125, 3) := by decide +kernel
theorem dL_law_810 : decode cL_law 810 = .ok (.aload_n 2, 1) := by decide +kernel
theorem dL_law_811 : decode cL_law 811 = .ok (.aload_n 0, 1) := by decide +kernel
theorem dL_law_812 : decode cL_law 812 = .ok (.iload_n 3, 1) := by decide +kernel
theorem dL_law_813 : decode cL_law 813 = .ok (.iconst 1, 1) := by decide +kernel
theorem dL_law_814 : decode cL_law 814 = .ok (.iadd, 1) := by decide +kernel
theorem dL_law_815 : decode cL_law 815 = .ok (.iaload, 1) := by decide +kernel
theorem dL_law_816 : decode cL_law 816 = .ok (.invokevirtual 128, 3) := by decide +kernel
theorem dL_law_819 : decode cL_law 819 = .ok (.if_icmp .eq 195, 3) := by decide +kernel
theorem dL_law_822 : decode cL_law 822 = .ok (.iconst 0, 1) := by decide +kernel
theorem dL_law_823 : decode cL_law 823 = .ok (.ireturn, 1) := by decide +kernel
theorem dL_law_824 : decode cL_law 824 = .ok (.aload_n 1, 1) := by decide +kernel
theorem dL_law_825 : decode cL_law 825 = .ok (.aload_n 0, 1) := by decide +kernel
theorem dL_law_826 : decode cL_law 826 = .ok (.iload_n 3, 1) := by decide +kernel
theorem dL_law_827 : decode cL_law 827 = .ok (.iconst 1, 1) := by decide +kernel
theorem dL_law_828 : decode cL_law 828 = .ok (.iadd, 1) := by decide +kernel
theorem dL_law_829 : decode cL_law 829 = .ok (.iaload, 1) := by decide +kernel
theorem dL_law_830 : decode cL_law 830 = .ok (.aload_n 0, 1) := by decide +kernel
theorem dL_law_831 : decode cL_law 831 = .ok (.iload_n 3, 1) := by decide +kernel
theorem dL_law_832 : decode cL_law 832 = .ok (.iconst 2, 1) := by decide +kernel
theorem dL_law_833 : decode cL_law 833 = .ok (.iadd, 1) := by decide +kernel
theorem dL_law_834 : decode cL_law 834 = .ok (.iaload, 1) := by decide +kernel
theorem dL_law_835 : decode cL_law 835 = .ok (.aload_n 0, 1) := by decide +kernel
theorem dL_law_836 : decode cL_law 836 = .ok (.iload_n 3, 1) := by decide +kernel
theorem dL_law_837 : decode cL_law 837 = .ok (.iconst 3, 1) := by decide +kernel
theorem dL_law_838 : decode cL_law 838 = .ok (.iadd, 1) := by decide +kernel
theorem dL_law_839 : decode cL_law 839 = .ok (.iaload, 1) := by decide +kernel
theorem dL_law_840 : decode cL_law 840 = .ok (.invokevirtual 129, 3) := by decide +kernel
theorem dL_law_843 : decode cL_law 843 = .ok (.aload_n 2, 1) := by decide +kernel
theorem dL_law_844 : decode cL_law 844 = .ok (.aload_n 0, 1) := by decide +kernel
theorem dL_law_845 : decode cL_law 845 = .ok (.iload_n 3, 1) := by decide +kernel
theorem dL_law_846 : decode cL_law 846 = .ok (.iconst 1, 1) := by decide +kernel
theorem dL_law_847 : decode cL_law 847 = .ok (.iadd, 1) := by decide +kernel
theorem dL_law_848 : decode cL_law 848 = .ok (.iaload, 1) := by decide +kernel
theorem dL_law_849 : decode cL_law 849 = .ok (.aload_n 0, 1) := by decide +kernel
theorem dL_law_850 : decode cL_law 850 = .ok (.iload_n 3, 1) := by decide +kernel
theorem dL_law_851 : decode cL_law 851 = .ok (.iconst 2, 1) := by decide +kernel
theorem dL_law_852 : decode cL_law 852 = .ok (.iadd, 1) := by decide +kernel
theorem dL_law_853 : decode cL_law 853 = .ok (.iaload, 1) := by decide +kernel
theorem dL_law_854 : decode cL_law 854 = .ok (.aload_n 0, 1) := by decide +kernel
theorem dL_law_855 : decode cL_law 855 = .ok (.iload_n 3, 1) := by decide +kernel
theorem dL_law_856 : decode cL_law 856 = .ok (.iconst 3, 1) := by decide +kernel
theorem dL_law_857 : decode cL_law 857 = .ok (.iadd, 1) := by decide +kernel
theorem dL_law_858 : decode cL_law 858 = .ok (.iaload, 1) := by decide +kernel
theorem dL_law_859 : decode cL_law 859 = .ok (.invokevirtual 132, 3) := by decide +kernel
theorem dL_law_862 : decode cL_law 862 = .ok (.if_icmp .eq 152, 3) := by decide +kernel
theorem dL_law_865 : decode cL_law 865 = .ok (.iconst 0, 1) := by decide +kernel
theorem dL_law_866 : decode cL_law 866 = .ok (.ireturn, 1) := by decide +kernel
theorem dL_law_867 : decode cL_law 867 = .ok (.aload_n 1, 1) := by decide +kernel
theorem dL_law_868 : decode cL_law 868 = .ok (.aload_n 0, 1) := by decide +kernel
theorem dL_law_869 : decode cL_law 869 = .ok (.iload_n 3, 1) := by decide +kernel
theorem dL_law_870 : decode cL_law 870 = .ok (.iconst 1, 1) := by decide +kernel
theorem dL_law_871 : decode cL_law 871 = .ok (.iadd, 1) := by decide +kernel
theorem dL_law_872 : decode cL_law 872 = .ok (.iaload, 1) := by decide +kernel
theorem dL_law_873 : decode cL_law 873 = .ok (.invokevirtual 133, 3) := by decide +kernel
theorem dL_law_876 : decode cL_law 876 = .ok (.aload_n 2, 1) := by decide +kernel
theorem dL_law_877 : decode cL_law 877 = .ok (.aload_n 0, 1) := by decide +kernel
theorem dL_law_878 : decode cL_law 878 = .ok (.iload_n 3, 1) := by decide +kernel
theorem dL_law_879 : decode cL_law 879 = .ok (.iconst 1, 1) := by decide +kernel
theorem dL_law_880 : decode cL_law 880 = .ok (.iadd, 1) := by decide +kernel
theorem dL_law_881 : decode cL_law 881 = .ok (.iaload, 1) := by decide +kernel
theorem dL_law_882 : decode cL_law 882 = .ok (.invokevirtual 136, 3) := by decide +kernel
theorem dL_law_885 : decode cL_law 885 = .ok (.if_icmp .eq 129, 3) := by decide +kernel
theorem dL_law_888 : decode cL_law 888 = .ok (.iconst 0, 1) := by decide +kernel
theorem dL_law_889 : decode cL_law 889 = .ok (.ireturn, 1) := by decide +kernel
theorem dL_law_890 : decode cL_law 890 = .ok (.aload_n 1, 1) := by decide +kernel
theorem dL_law_891 : decode cL_law 891 = .ok (.invokevirtual 137, 3) := by decide +kernel
theorem dL_law_894 : decode cL_law 894 = .ok (.aload_n 2, 1) := by decide +kernel
theorem dL_law_895 : decode cL_law 895 = .ok (.invokevirtual 140, 3) := by decide +kernel
theorem dL_law_898 : decode cL_law 898 = .ok (.if_icmp .eq 116, 3) := by decide +kernel
theorem dL_law_901 : decode cL_law 901 = .ok (.iconst 0, 1) := by decide +kernel
theorem dL_law_902 : decode cL_law 902 = .ok (.ireturn, 1) := by decide +kernel
theorem dL_law_903 : decode cL_law 903 = .ok (.aload_n 1, 1) := by decide +kernel
theorem dL_law_904 : decode cL_law 904 = .ok (.aload_n 0, 1) := by decide +kernel
theorem dL_law_905 : decode cL_law 905 = .ok (.iload_n 3, 1) := by decide +kernel
theorem dL_law_906 : decode cL_law 906 = .ok (.iconst 1, 1) := by decide +kernel
theorem dL_law_907 : decode cL_law 907 = .ok (.iadd, 1) := by decide +kernel
theorem dL_law_908 : decode cL_law 908 = .ok (.iaload, 1) := by decide +kernel
theorem dL_law_909 : decode cL_law 909 = .ok (.invokevirtual 141, 3) := by decide +kernel
theorem dL_law_912 : decode cL_law 912 = .ok (.aload_n 2, 1) := by decide +kernel
theorem dL_law_913 : decode cL_law 913 = .ok (.aload_n 0, 1) := by decide +kernel
theorem dL_law_914 : decode cL_law 914 = .ok (.iload_n 3, 1) := by decide +kernel
theorem dL_law_915 : decode cL_law 915 = .ok (.iconst 1, 1) := by decide +kernel
theorem dL_law_916 : decode cL_law 916 = .ok (.iadd, 1) := by decide +kernel
theorem dL_law_917 : decode cL_law 917 = .ok (.iaload, 1) := by decide +kernel
theorem dL_law_918 : decode cL_law 918 = .ok (.invokevirtual 144, 3) := by decide +kernel
theorem dL_law_921 : decode cL_law 921 = .ok (.if_icmp .eq 93, 3) := by decide +kernel
theorem dL_law_924 : decode cL_law 924 = .ok (.iconst 0, 1) := by decide +kernel
theorem dL_law_925 : decode cL_law 925 = .ok (.ireturn, 1) := by decide +kernel
theorem dL_law_926 : decode cL_law 926 = .ok (.aload_n 1, 1) := by decide +kernel
theorem dL_law_927 : decode cL_law 927 = .ok (.aload_n 0, 1) := by decide +kernel
theorem dL_law_928 : decode cL_law 928 = .ok (.iload_n 3, 1) := by decide +kernel
theorem dL_law_929 : decode cL_law 929 = .ok (.iconst 1, 1) := by decide +kernel
theorem dL_law_930 : decode cL_law 930 = .ok (.iadd, 1) := by decide +kernel
theorem dL_law_931 : decode cL_law 931 = .ok (.iaload, 1) := by decide +kernel
theorem dL_law_932 : decode cL_law 932 = .ok (.invokevirtual 145, 3) := by decide +kernel
theorem dL_law_935 : decode cL_law 935 = .ok (.aload_n 2, 1) := by decide +kernel
theorem dL_law_936 : decode cL_law 936 = .ok (.aload_n 0, 1) := by decide +kernel
theorem dL_law_937 : decode cL_law 937 = .ok (.iload_n 3, 1) := by decide +kernel
theorem dL_law_938 : decode cL_law 938 = .ok (.iconst 1, 1) := by decide +kernel
theorem dL_law_939 : decode cL_law 939 = .ok (.iadd, 1) := by decide +kernel
theorem dL_law_940 : decode cL_law 940 = .ok (.iaload, 1) := by decide +kernel
theorem dL_law_941 : decode cL_law 941 = .ok (.invokevirtual 148, 3) := by decide +kernel
theorem dL_law_944 : decode cL_law 944 = .ok (.if_icmp .eq 70, 3) := by decide +kernel
theorem dL_law_947 : decode cL_law 947 = .ok (.iconst 0, 1) := by decide +kernel
theorem dL_law_948 : decode cL_law 948 = .ok (.ireturn, 1) := by decide +kernel
theorem dL_law_949 : decode cL_law 949 = .ok (.aload_n 1, 1) := by decide +kernel
theorem dL_law_950 : decode cL_law 950 = .ok (.invokevirtual 149, 3) := by decide +kernel
theorem dL_law_953 : decode cL_law 953 = .ok (.aload_n 2, 1) := by decide +kernel
theorem dL_law_954 : decode cL_law 954 = .ok (.invokevirtual 152, 3) := by decide +kernel
theorem dL_law_957 : decode cL_law 957 = .ok (.if_icmp .eq 57, 3) := by decide +kernel
theorem dL_law_960 : decode cL_law 960 = .ok (.iconst 0, 1) := by decide +kernel
theorem dL_law_961 : decode cL_law 961 = .ok (.ireturn, 1) := by decide +kernel
theorem dL_law_962 : decode cL_law 962 = .ok (.aload_n 1, 1) := by decide +kernel
theorem dL_law_963 : decode cL_law 963 = .ok (.invokevirtual 153, 3) := by decide +kernel
theorem dL_law_966 : decode cL_law 966 = .ok (.aload_n 2, 1) := by decide +kernel
theorem dL_law_967 : decode cL_law 967 = .ok (.invokevirtual 156, 3) := by decide +kernel
theorem dL_law_970 : decode cL_law 970 = .ok (.if_icmp .eq 44, 3) := by decide +kernel
theorem dL_law_973 : decode cL_law 973 = .ok (.iconst 0, 1) := by decide +kernel
theorem dL_law_974 : decode cL_law 974 = .ok (.ireturn, 1) := by decide +kernel
theorem dL_law_975 : decode cL_law 975 = .ok (.aload_n 1, 1) := by decide +kernel
theorem dL_law_976 : decode cL_law 976 = .ok (.invokevirtual 157, 3) := by decide +kernel
theorem dL_law_979 : decode cL_law 979 = .ok (.aload_n 2, 1) := by decide +kernel
theorem dL_law_980 : decode cL_law 980 = .ok (.invokevirtual 160, 3) := by decide +kernel
theorem dL_law_983 : decode cL_law 983 = .ok (.if_icmp .eq 31, 3) := by decide +kernel
theorem dL_law_986 : decode cL_law 986 = .ok (.iconst 0, 1) := by decide +kernel
theorem dL_law_987 : decode cL_law 987 = .ok (.ireturn, 1) := by decide +kernel
theorem dL_law_988 : decode cL_law 988 = .ok (.aload_n 1, 1) := by decide +kernel
theorem dL_law_989 : decode cL_law 989 = .ok (.invokevirtual 161, 3) := by decide +kernel
theorem dL_law_992 : decode cL_law 992 = .ok (.aload_n 2, 1) := by decide +kernel
theorem dL_law_993 : decode cL_law 993 = .ok (.invokevirtual 164, 3) := by decide +kernel
theorem dL_law_996 : decode cL_law 996 = .ok (.if_icmp .eq 18, 3) := by decide +kernel
theorem dL_law_999 : decode cL_law 999 = .ok (.iconst 0, 1) := by decide +kernel
theorem dL_law_1000 : decode cL_law 1000 = .ok (.ireturn, 1) := by decide +kernel
theorem dL_law_1001 : decode cL_law 1001 = .ok (.aload_n 1, 1) := by decide +kernel
theorem dL_law_1002 : decode cL_law 1002 = .ok (.invokevirtual 165, 3) := by decide +kernel
theorem dL_law_1005 : decode cL_law 1005 = .ok (.aload_n 2, 1) := by decide +kernel
theorem dL_law_1006 : decode cL_law 1006 = .ok (.invokevirtual 168, 3) := by decide +kernel
theorem dL_law_1009 : decode cL_law 1009 = .ok (.if_icmp .eq 5, 3) := by decide +kernel
theorem dL_law_1012 : decode cL_law 1012 = .ok (.iconst 0, 1) := by decide +kernel
theorem dL_law_1013 : decode cL_law 1013 = .ok (.ireturn, 1) := by decide +kernel
theorem dL_law_1014 : decode cL_law 1014 = .ok (.iinc 3 4, 3) := by decide +kernel
theorem dL_law_1017 : decode cL_law 1017 = .ok (.goto (-999), 3) := by decide +kernel
theorem dL_law_1020 : decode cL_law 1020 = .ok (.iconst 1, 1) := by decide +kernel
theorem dL_law_1021 : decode cL_law 1021 = .ok (.ireturn, 1) := by decide +kernel
