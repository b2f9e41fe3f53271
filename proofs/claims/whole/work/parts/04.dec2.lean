theorem d_M_judge_18 : decode b_M_judge 18 = .ok (.iload_n 1, 1) := by decide +kernel
theorem d_M_judge_19 : decode b_M_judge 19 = .ok (.if_icmp .ge 46, 3) := by decide +kernel
theorem d_M_judge_22 : decode b_M_judge 22 = .ok (.iload_n 2, 1) := by decide +kernel
theorem d_M_judge_23 : decode b_M_judge 23 = .ok (.aload_n 0, 1) := by decide +kernel
theorem d_M_judge_24 : decode b_M_judge 24 = .ok (.getfield 78, 3) := by decide +kernel
theorem d_M_judge_27 : decode b_M_judge 27 = .ok (.if_icmp .ge 30, 3) := by decide +kernel
theorem d_M_judge_30 : decode b_M_judge 30 = .ok (.aload_n 0, 1) := by decide +kernel
theorem d_M_judge_31 : decode b_M_judge 31 = .ok (.getfield 64, 3) := by decide +kernel
theorem d_M_judge_34 : decode b_M_judge 34 = .ok (.iload_n 2, 1) := by decide +kernel
theorem d_M_judge_35 : decode b_M_judge 35 = .ok (.iaload, 1) := by decide +kernel
theorem d_M_judge_36 : decode b_M_judge 36 = .ok (.aload_n 0, 1) := by decide +kernel
theorem d_M_judge_37 : decode b_M_judge 37 = .ok (.iload_n 2, 1) := by decide +kernel
theorem d_M_judge_38 : decode b_M_judge 38 = .ok (.invokevirtual 153, 3) := by decide +kernel
theorem d_M_judge_41 : decode b_M_judge 41 = .ok (.ifCond .ge 8, 3) := by decide +kernel
theorem d_M_judge_44 : decode b_M_judge 44 = .ok (.bipush 9, 2) := by decide +kernel
theorem d_M_judge_46 : decode b_M_judge 46 = .ok (.goto 8, 3) := by decide +kernel
theorem d_M_judge_49 : decode b_M_judge 49 = .ok (.aload_n 0, 1) := by decide +kernel
theorem d_M_judge_50 : decode b_M_judge 50 = .ok (.iload_n 2, 1) := by decide +kernel
theorem d_M_judge_51 : decode b_M_judge 51 = .ok (.invokevirtual 153, 3) := by decide +kernel
theorem d_M_judge_54 : decode b_M_judge 54 = .ok (.if_icmp .eq 5, 3) := by decide +kernel
theorem d_M_judge_57 : decode b_M_judge 57 = .ok (.iload_n 2, 1) := by decide +kernel
theorem d_M_judge_58 : decode b_M_judge 58 = .ok (.ireturn, 1) := by decide +kernel
theorem d_M_judge_59 : decode b_M_judge 59 = .ok (.iinc 2 1, 3) := by decide +kernel
theorem d_M_judge_62 : decode b_M_judge 62 = .ok (.goto (-45), 3) := by decide +kernel
theorem d_M_judge_65 : decode b_M_judge 65 = .ok (.bipush (-9), 2) := by decide +kernel
theorem d_M_judge_67 : decode b_M_judge 67 = .ok (.ireturn, 1) := by decide +kernel
theorem d_M_keepTurn_0 : decode b_M_keepTurn 0 = .ok (.aload_n 0, 1) := by decide +kernel
theorem d_M_keepTurn_1 : decode b_M_keepTurn 1 = .ok (.getfield 174, 3) := by decide +kernel
theorem d_M_keepTurn_4 : decode b_M_keepTurn 4 = .ok (.bipush 8, 2) := by decide +kernel
theorem d_M_keepTurn_6 : decode b_M_keepTurn 6 = .ok (.if_icmp .ne 44, 3) := by decide +kernel
theorem d_M_keepTurn_9 : decode b_M_keepTurn 9 = .ok (.bipush 41, 2) := by decide +kernel
theorem d_M_keepTurn_11 : decode b_M_keepTurn 11 = .ok (.istore_n 1, 1) := by decide +kernel
theorem d_M_keepTurn_12 : decode b_M_keepTurn 12 = .ok (.iload_n 1, 1) := by decide +kernel
theorem d_M_keepTurn_13 : decode b_M_keepTurn 13 = .ok (.sipush 328, 3) := by decide +kernel
theorem d_M_keepTurn_16 : decode b_M_keepTurn 16 = .ok (.if_icmp .ge 24, 3) := by decide +kernel
theorem d_M_keepTurn_19 : decode b_M_keepTurn 19 = .ok (.aload_n 0, 1) := by decide +kernel
theorem d_M_keepTurn_20 : decode b_M_keepTurn 20 = .ok (.getfield 49, 3) := by decide +kernel
theorem d_M_keepTurn_23 : decode b_M_keepTurn 23 = .ok (.iload_n 1, 1) := by decide +kernel
theorem d_M_keepTurn_24 : decode b_M_keepTurn 24 = .ok (.bipush 41, 2) := by decide +kernel
theorem d_M_keepTurn_26 : decode b_M_keepTurn 26 = .ok (.isub, 1) := by decide +kernel
theorem d_M_keepTurn_27 : decode b_M_keepTurn 27 = .ok (.aload_n 0, 1) := by decide +kernel
theorem d_M_keepTurn_28 : decode b_M_keepTurn 28 = .ok (.getfield 49, 3) := by decide +kernel
theorem d_M_keepTurn_31 : decode b_M_keepTurn 31 = .ok (.iload_n 1, 1) := by decide +kernel
theorem d_M_keepTurn_32 : decode b_M_keepTurn 32 = .ok (.iaload, 1) := by decide +kernel
theorem d_M_keepTurn_33 : decode b_M_keepTurn 33 = .ok (.iastore, 1) := by decide +kernel
theorem d_M_keepTurn_34 : decode b_M_keepTurn 34 = .ok (.iinc 1 1, 3) := by decide +kernel
theorem d_M_keepTurn_37 : decode b_M_keepTurn 37 = .ok (.goto (-25), 3) := by decide +kernel
theorem d_M_keepTurn_40 : decode b_M_keepTurn 40 = .ok (.aload_n 0, 1) := by decide +kernel
theorem d_M_keepTurn_41 : decode b_M_keepTurn 41 = .ok (.dup, 1) := by decide +kernel
theorem d_M_keepTurn_42 : decode b_M_keepTurn 42 = .ok (.getfield 174, 3) := by decide +kernel
theorem d_M_keepTurn_45 : decode b_M_keepTurn 45 = .ok (.iconst 1, 1) := by decide +kernel
theorem d_M_keepTurn_46 : decode b_M_keepTurn 46 = .ok (.isub, 1) := by decide +kernel
theorem d_M_keepTurn_47 : decode b_M_keepTurn 47 = .ok (.putfield 174, 3) := by decide +kernel
theorem d_M_keepTurn_50 : decode b_M_keepTurn 50 = .ok (.aload_n 0, 1) := by decide +kernel
theorem d_M_keepTurn_51 : decode b_M_keepTurn 51 = .ok (.aload_n 0, 1) := by decide +kernel
theorem d_M_keepTurn_52 : decode b_M_keepTurn 52 = .ok (.getfield 52, 3) := by decide +kernel
theorem d_M_keepTurn_55 : decode b_M_keepTurn 55 = .ok (.iconst 1, 1) := by decide +kernel
theorem d_M_keepTurn_56 : decode b_M_keepTurn 56 = .ok (.invokevirtual 189, 3) := by decide +kernel
theorem d_M_keepTurn_59 : decode b_M_keepTurn 59 = .ok (.iconst 0, 1) := by decide +kernel
theorem d_M_keepTurn_60 : decode b_M_keepTurn 60 = .ok (.istore_n 1, 1) := by decide +kernel
theorem d_M_keepTurn_61 : decode b_M_keepTurn 61 = .ok (.iload_n 1, 1) := by decide +kernel
theorem d_M_keepTurn_62 : decode b_M_keepTurn 62 = .ok (.bipush 41, 2) := by decide +kernel
theorem d_M_keepTurn_64 : decode b_M_keepTurn 64 = .ok (.if_icmp .ge 29, 3) := by decide +kernel
theorem d_M_keepTurn_67 : decode b_M_keepTurn 67 = .ok (.aload_n 0, 1) := by decide +kernel
theorem d_M_keepTurn_68 : decode b_M_keepTurn 68 = .ok (.getfield 49, 3) := by decide +kernel
theorem d_M_keepTurn_71 : decode b_M_keepTurn 71 = .ok (.bipush 41, 2) := by decide +kernel
theorem d_M_keepTurn_73 : decode b_M_keepTurn 73 = .ok (.aload_n 0, 1) := by decide +kernel
theorem d_M_keepTurn_74 : decode b_M_keepTurn 74 = .ok (.getfield 174, 3) := by decide +kernel
theorem d_M_keepTurn_77 : decode b_M_keepTurn 77 = .ok (.imul, 1) := by decide +kernel
theorem d_M_keepTurn_78 : decode b_M_keepTurn 78 = .ok (.iload_n 1, 1) := by decide +kernel
theorem d_M_keepTurn_79 : decode b_M_keepTurn 79 = .ok (.iadd, 1) := by decide +kernel
theorem d_M_keepTurn_80 : decode b_M_keepTurn 80 = .ok (.aload_n 0, 1) := by decide +kernel
theorem d_M_keepTurn_81 : decode b_M_keepTurn 81 = .ok (.getfield 52, 3) := by decide +kernel
theorem d_M_keepTurn_84 : decode b_M_keepTurn 84 = .ok (.iload_n 1, 1) := by decide +kernel
theorem d_M_keepTurn_85 : decode b_M_keepTurn 85 = .ok (.iaload, 1) := by decide +kernel
theorem d_M_keepTurn_86 : decode b_M_keepTurn 86 = .ok (.iastore, 1) := by decide +kernel
theorem d_M_keepTurn_87 : decode b_M_keepTurn 87 = .ok (.iinc 1 1, 3) := by decide +kernel
theorem d_M_keepTurn_90 : decode b_M_keepTurn 90 = .ok (.goto (-29), 3) := by decide +kernel
theorem d_M_keepTurn_93 : decode b_M_keepTurn 93 = .ok (.aload_n 0, 1) := by decide +kernel
theorem d_M_keepTurn_94 : decode b_M_keepTurn 94 = .ok (.dup, 1) := by decide +kernel
theorem d_M_keepTurn_95 : decode b_M_keepTurn 95 = .ok (.getfield 174, 3) := by decide +kernel
theorem d_M_keepTurn_98 : decode b_M_keepTurn 98 = .ok (.iconst 1, 1) := by decide +kernel
theorem d_M_keepTurn_99 : decode b_M_keepTurn 99 = .ok (.iadd, 1) := by decide +kernel
theorem d_M_keepTurn_100 : decode b_M_keepTurn 100 = .ok (.putfield 174, 3) := by decide +kernel
theorem d_M_keepTurn_103 : decode b_M_keepTurn 103 = .ok (.return_, 1) := by decide +kernel
theorem d_M_ordersOf_0 : decode b_M_ordersOf 0 = .ok (.iconst 1, 1) := by decide +kernel
theorem d_M_ordersOf_1 : decode b_M_ordersOf 1 = .ok (.istore_n 1, 1) := by decide +kernel
theorem d_M_ordersOf_2 : decode b_M_ordersOf 2 = .ok (.iconst 2, 1) := by decide +kernel
theorem d_M_ordersOf_3 : decode b_M_ordersOf 3 = .ok (.istore_n 2, 1) := by decide +kernel
theorem d_M_ordersOf_4 : decode b_M_ordersOf 4 = .ok (.iload_n 2, 1) := by decide +kernel
theorem d_M_ordersOf_5 : decode b_M_ordersOf 5 = .ok (.iload_n 0, 1) := by decide +kernel
theorem d_M_ordersOf_6 : decode b_M_ordersOf 6 = .ok (.if_icmp .gt 13, 3) := by decide +kernel
theorem d_M_ordersOf_9 : decode b_M_ordersOf 9 = .ok (.iload_n 1, 1) := by decide +kernel
theorem d_M_ordersOf_10 : decode b_M_ordersOf 10 = .ok (.iload_n 2, 1) := by decide +kernel
theorem d_M_ordersOf_11 : decode b_M_ordersOf 11 = .ok (.imul, 1) := by decide +kernel
theorem d_M_ordersOf_12 : decode b_M_ordersOf 12 = .ok (.istore_n 1, 1) := by decide +kernel
theorem d_M_ordersOf_13 : decode b_M_ordersOf 13 = .ok (.iinc 2 1, 3) := by decide +kernel
theorem d_M_ordersOf_16 : decode b_M_ordersOf 16 = .ok (.goto (-12), 3) := by decide +kernel
theorem d_M_ordersOf_19 : decode b_M_ordersOf 19 = .ok (.iload_n 1, 1) := by decide +kernel
theorem d_M_ordersOf_20 : decode b_M_ordersOf 20 = .ok (.ireturn, 1) := by decide +kernel
theorem d_M_layOrder_0 : decode b_M_layOrder 0 = .ok (.iload_n 1, 1) := by decide +kernel
theorem d_M_layOrder_1 : decode b_M_layOrder 1 = .ok (.istore_n 3, 1) := by decide +kernel
theorem d_M_layOrder_2 : decode b_M_layOrder 2 = .ok (.iconst 0, 1) := by decide +kernel
theorem d_M_layOrder_3 : decode b_M_layOrder 3 = .ok (.istore 4, 2) := by decide +kernel
theorem d_M_layOrder_5 : decode b_M_layOrder 5 = .ok (.iconst 0, 1) := by decide +kernel
theorem d_M_layOrder_6 : decode b_M_layOrder 6 = .ok (.istore 5, 2) := by decide +kernel
theorem d_M_layOrder_8 : decode b_M_layOrder 8 = .ok (.iload 5, 2) := by decide +kernel
theorem d_M_layOrder_10 : decode b_M_layOrder 10 = .ok (.iload_n 2, 1) := by decide +kernel
theorem d_M_layOrder_11 : decode b_M_layOrder 11 = .ok (.if_icmp .ge 93, 3) := by decide +kernel
theorem d_M_layOrder_14 : decode b_M_layOrder 14 = .ok (.iload_n 2, 1) := by decide +kernel
theorem d_M_layOrder_15 : decode b_M_layOrder 15 = .ok (.iconst 1, 1) := by decide +kernel
theorem d_M_layOrder_16 : decode b_M_layOrder 16 = .ok (.isub, 1) := by decide +kernel
theorem d_M_layOrder_17 : decode b_M_layOrder 17 = .ok (.iload 5, 2) := by decide +kernel
theorem d_M_layOrder_19 : decode b_M_layOrder 19 = .ok (.isub, 1) := by decide +kernel
theorem d_M_layOrder_20 : decode b_M_layOrder 20 = .ok (.invokestatic 243, 3) := by decide +kernel
theorem d_M_layOrder_23 : decode b_M_layOrder 23 = .ok (.istore 6, 2) := by decide +kernel
theorem d_M_layOrder_25 : decode b_M_layOrder 25 = .ok (.iload_n 3, 1) := by decide +kernel
theorem d_M_layOrder_26 : decode b_M_layOrder 26 = .ok (.iload 6, 2) := by decide +kernel
theorem d_M_layOrder_28 : decode b_M_layOrder 28 = .ok (.idiv, 1) := by decide +kernel
theorem d_M_layOrder_29 : decode b_M_layOrder 29 = .ok (.istore 7, 2) := by decide +kernel
theorem d_M_layOrder_31 : decode b_M_layOrder 31 = .ok (.iload_n 3, 1) := by decide +kernel
theorem d_M_layOrder_32 : decode b_M_layOrder 32 = .ok (.iload 6, 2) := by decide +kernel
theorem d_M_layOrder_34 : decode b_M_layOrder 34 = .ok (.irem, 1) := by decide +kernel
theorem d_M_layOrder_35 : decode b_M_layOrder 35 = .ok (.istore_n 3, 1) := by decide +kernel
theorem d_M_layOrder_36 : decode b_M_layOrder 36 = .ok (.iconst 0, 1) := by decide +kernel
theorem d_M_layOrder_37 : decode b_M_layOrder 37 = .ok (.istore 8, 2) := by decide +kernel
theorem d_M_layOrder_39 : decode b_M_layOrder 39 = .ok (.iload 4, 2) := by decide +kernel
theorem d_M_layOrder_41 : decode b_M_layOrder 41 = .ok (.iload 8, 2) := by decide +kernel
theorem d_M_layOrder_43 : decode b_M_layOrder 43 = .ok (.invokestatic 85, 3) := by decide +kernel
theorem d_M_layOrder_46 : decode b_M_layOrder 46 = .ok (.ifCond .ne 8, 3) := by decide +kernel
theorem d_M_layOrder_49 : decode b_M_layOrder 49 = .ok (.iload 7, 2) := by decide +kernel
theorem d_M_layOrder_51 : decode b_M_layOrder 51 = .ok (.ifCond .le 29, 3) := by decide +kernel
theorem d_M_layOrder_54 : decode b_M_layOrder 54 = .ok (.iload 7, 2) := by decide +kernel
theorem d_M_layOrder_56 : decode b_M_layOrder 56 = .ok (.iload 4, 2) := by decide +kernel
theorem d_M_layOrder_58 : decode b_M_layOrder 58 = .ok (.iload 8, 2) := by decide +kernel
theorem d_M_layOrder_60 : decode b_M_layOrder 60 = .ok (.invokestatic 85, 3) := by decide +kernel
theorem d_M_layOrder_63 : decode b_M_layOrder 63 = .ok (.ifCond .eq 7, 3) := by decide +kernel
theorem d_M_layOrder_66 : decode b_M_layOrder 66 = .ok (.iconst 0, 1) := by decide +kernel
theorem d_M_layOrder_67 : decode b_M_layOrder 67 = .ok (.goto 4, 3) := by decide +kernel
theorem d_M_layOrder_70 : decode b_M_layOrder 70 = .ok (.iconst 1, 1) := by decide +kernel
theorem d_M_layOrder_71 : decode b_M_layOrder 71 = .ok (.isub, 1) := by decide +kernel
theorem d_M_layOrder_72 : decode b_M_layOrder 72 = .ok (.istore 7, 2) := by decide +kernel
theorem d_M_layOrder_74 : decode b_M_layOrder 74 = .ok (.iinc 8 1, 3) := by decide +kernel
theorem d_M_layOrder_77 : decode b_M_layOrder 77 = .ok (.goto (-38), 3) := by decide +kernel
theorem d_M_layOrder_80 : decode b_M_layOrder 80 = .ok (.aload_n 0, 1) := by decide +kernel
theorem d_M_layOrder_81 : decode b_M_layOrder 81 = .ok (.getfield 55, 3) := by decide +kernel
theorem d_M_layOrder_84 : decode b_M_layOrder 84 = .ok (.iload 5, 2) := by decide +kernel
theorem d_M_layOrder_86 : decode b_M_layOrder 86 = .ok (.iload 8, 2) := by decide +kernel
theorem d_M_layOrder_88 : decode b_M_layOrder 88 = .ok (.iastore, 1) := by decide +kernel
theorem d_M_layOrder_89 : decode b_M_layOrder 89 = .ok (.iload 4, 2) := by decide +kernel
theorem d_M_layOrder_91 : decode b_M_layOrder 91 = .ok (.iconst 1, 1) := by decide +kernel
theorem d_M_layOrder_92 : decode b_M_layOrder 92 = .ok (.iload 8, 2) := by decide +kernel
theorem d_M_layOrder_94 : decode b_M_layOrder 94 = .ok (.ishl, 1) := by decide +kernel
theorem d_M_layOrder_95 : decode b_M_layOrder 95 = .ok (.ior, 1) := by decide +kernel
theorem d_M_layOrder_96 : decode b_M_layOrder 96 = .ok (.istore 4, 2) := by decide +kernel
theorem d_M_layOrder_98 : decode b_M_layOrder 98 = .ok (.iinc 5 1, 3) := by decide +kernel
theorem d_M_layOrder_101 : decode b_M_layOrder 101 = .ok (.goto (-93), 3) := by decide +kernel
theorem d_M_layOrder_104 : decode b_M_layOrder 104 = .ok (.return_, 1) := by decide +kernel
theorem d_M_lightest_0 : decode b_M_lightest 0 = .ok (.aload_n 0, 1) := by decide +kernel
theorem d_M_lightest_1 : decode b_M_lightest 1 = .ok (.iconst 0, 1) := by decide +kernel
theorem d_M_lightest_2 : decode b_M_lightest 2 = .ok (.putfield 67, 3) := by decide +kernel
theorem d_M_lightest_5 : decode b_M_lightest 5 = .ok (.iload_n 1, 1) := by decide +kernel
theorem d_M_lightest_6 : decode b_M_lightest 6 = .ok (.i2l, 1) := by decide +kernel
theorem d_M_lightest_7 : decode b_M_lightest 7 = .ok (.lconst 0, 1) := by decide +kernel
theorem d_M_lightest_8 : decode b_M_lightest 8 = .ok (.lconst 1, 1) := by decide +kernel
theorem d_M_lightest_9 : decode b_M_lightest 9 = .ok (.invokestatic 74, 3) := by decide +kernel
theorem d_M_lightest_12 : decode b_M_lightest 12 = .ok (.ifCond .ne 10, 3) := by decide +kernel
theorem d_M_lightest_15 : decode b_M_lightest 15 = .ok (.aload_n 0, 1) := by decide +kernel
theorem d_M_lightest_16 : decode b_M_lightest 16 = .ok (.bipush (-2), 2) := by decide +kernel
theorem d_M_lightest_18 : decode b_M_lightest 18 = .ok (.invokevirtual 108, 3) := by decide +kernel
theorem d_M_lightest_21 : decode b_M_lightest 21 = .ok (.ireturn, 1) := by decide +kernel
theorem d_M_lightest_22 : decode b_M_lightest 22 = .ok (.bipush (-9), 2) := by decide +kernel
theorem d_M_lightest_24 : decode b_M_lightest 24 = .ok (.istore_n 2, 1) := by decide +kernel
theorem d_M_lightest_25 : decode b_M_lightest 25 = .ok (.bipush (-9), 2) := by decide +kernel
theorem d_M_lightest_27 : decode b_M_lightest 27 = .ok (.istore_n 3, 1) := by decide +kernel
theorem d_M_lightest_28 : decode b_M_lightest 28 = .ok (.iconst 0, 1) := by decide +kernel
theorem d_M_lightest_29 : decode b_M_lightest 29 = .ok (.istore 4, 2) := by decide +kernel
theorem d_M_lightest_31 : decode b_M_lightest 31 = .ok (.iload 4, 2) := by decide +kernel
theorem d_M_lightest_33 : decode b_M_lightest 33 = .ok (.aload_n 0, 1) := by decide +kernel
theorem d_M_lightest_34 : decode b_M_lightest 34 = .ok (.getfield 78, 3) := by decide +kernel
theorem d_M_lightest_37 : decode b_M_lightest 37 = .ok (.if_icmp .ge 63, 3) := by decide +kernel
theorem d_M_lightest_40 : decode b_M_lightest 40 = .ok (.aload_n 0, 1) := by decide +kernel
theorem d_M_lightest_41 : decode b_M_lightest 41 = .ok (.aload_n 0, 1) := by decide +kernel
theorem d_M_lightest_42 : decode b_M_lightest 42 = .ok (.getfield 19, 3) := by decide +kernel
theorem d_M_lightest_45 : decode b_M_lightest 45 = .ok (.iload 4, 2) := by decide +kernel
theorem d_M_lightest_47 : decode b_M_lightest 47 = .ok (.iaload, 1) := by decide +kernel
theorem d_M_lightest_48 : decode b_M_lightest 48 = .ok (.invokevirtual 198, 3) := by decide +kernel
theorem d_M_lightest_51 : decode b_M_lightest 51 = .ok (.istore 5, 2) := by decide +kernel
theorem d_M_lightest_53 : decode b_M_lightest 53 = .ok (.iload_n 3, 1) := by decide +kernel
theorem d_M_lightest_54 : decode b_M_lightest 54 = .ok (.ifCond .lt 9, 3) := by decide +kernel
theorem d_M_lightest_57 : decode b_M_lightest 57 = .ok (.iload 5, 2) := by decide +kernel
theorem d_M_lightest_59 : decode b_M_lightest 59 = .ok (.iload_n 3, 1) := by decide +kernel
theorem d_M_lightest_60 : decode b_M_lightest 60 = .ok (.if_icmp .ge 7, 3) := by decide +kernel
theorem d_M_lightest_63 : decode b_M_lightest 63 = .ok (.iconst 1, 1) := by decide +kernel
theorem d_M_lightest_64 : decode b_M_lightest 64 = .ok (.goto 4, 3) := by decide +kernel
theorem d_M_lightest_67 : decode b_M_lightest 67 = .ok (.iconst 0, 1) := by decide +kernel
theorem d_M_lightest_68 : decode b_M_lightest 68 = .ok (.istore 6, 2) := by decide +kernel
theorem d_M_lightest_70 : decode b_M_lightest 70 = .ok (.iload 6, 2) := by decide +kernel
theorem d_M_lightest_72 : decode b_M_lightest 72 = .ok (.ifCond .eq 8, 3) := by decide +kernel
theorem d_M_lightest_75 : decode b_M_lightest 75 = .ok (.iload 4, 2) := by decide +kernel
theorem d_M_lightest_77 : decode b_M_lightest 77 = .ok (.goto 4, 3) := by decide +kernel
theorem d_M_lightest_80 : decode b_M_lightest 80 = .ok (.iload_n 2, 1) := by decide +kernel
theorem d_M_lightest_81 : decode b_M_lightest 81 = .ok (.istore_n 2, 1) := by decide +kernel
theorem d_M_lightest_82 : decode b_M_lightest 82 = .ok (.iload 6, 2) := by decide +kernel
theorem d_M_lightest_84 : decode b_M_lightest 84 = .ok (.ifCond .eq 8, 3) := by decide +kernel
theorem d_M_lightest_87 : decode b_M_lightest 87 = .ok (.iload 5, 2) := by decide +kernel
theorem d_M_lightest_89 : decode b_M_lightest 89 = .ok (.goto 4, 3) := by decide +kernel
theorem d_M_lightest_92 : decode b_M_lightest 92 = .ok (.iload_n 3, 1) := by decide +kernel
theorem d_M_lightest_93 : decode b_M_lightest 93 = .ok (.istore_n 3, 1) := by decide +kernel
theorem d_M_lightest_94 : decode b_M_lightest 94 = .ok (.iinc 4 1, 3) := by decide +kernel
theorem d_M_lightest_97 : decode b_M_lightest 97 = .ok (.goto (-66), 3) := by decide +kernel
theorem d_M_lightest_100 : decode b_M_lightest 100 = .ok (.iload_n 1, 1) := by decide +kernel
theorem d_M_lightest_101 : decode b_M_lightest 101 = .ok (.ifCond .ne 7, 3) := by decide +kernel
theorem d_M_lightest_104 : decode b_M_lightest 104 = .ok (.iload_n 2, 1) := by decide +kernel
theorem d_M_lightest_105 : decode b_M_lightest 105 = .ok (.goto 4, 3) := by decide +kernel
theorem d_M_lightest_108 : decode b_M_lightest 108 = .ok (.iload_n 3, 1) := by decide +kernel
theorem d_M_lightest_109 : decode b_M_lightest 109 = .ok (.ireturn, 1) := by decide +kernel
theorem d_M_looks_0 : decode b_M_looks 0 = .ok (.aload_n 0, 1) := by decide +kernel
theorem d_M_looks_1 : decode b_M_looks 1 = .ok (.iconst 0, 1) := by decide +kernel
theorem d_M_looks_2 : decode b_M_looks 2 = .ok (.putfield 67, 3) := by decide +kernel
theorem d_M_looks_5 : decode b_M_looks 5 = .ok (.aload_n 0, 1) := by decide +kernel
theorem d_M_looks_6 : decode b_M_looks 6 = .ok (.iload_n 1, 1) := by decide +kernel
theorem d_M_looks_7 : decode b_M_looks 7 = .ok (.invokevirtual 150, 3) := by decide +kernel
theorem d_M_looks_10 : decode b_M_looks 10 = .ok (.ifCond .ne 9, 3) := by decide +kernel
theorem d_M_looks_13 : decode b_M_looks 13 = .ok (.aload_n 0, 1) := by decide +kernel
theorem d_M_looks_14 : decode b_M_looks 14 = .ok (.iconst (-1), 1) := by decide +kernel
theorem d_M_looks_15 : decode b_M_looks 15 = .ok (.invokevirtual 108, 3) := by decide +kernel
theorem d_M_looks_18 : decode b_M_looks 18 = .ok (.ireturn, 1) := by decide +kernel
theorem d_M_looks_19 : decode b_M_looks 19 = .ok (.aload_n 0, 1) := by decide +kernel
theorem d_M_looks_20 : decode b_M_looks 20 = .ok (.getfield 19, 3) := by decide +kernel
theorem d_M_looks_23 : decode b_M_looks 23 = .ok (.iload_n 1, 1) := by decide +kernel
theorem d_M_looks_24 : decode b_M_looks 24 = .ok (.iaload, 1) := by decide +kernel
theorem d_M_looks_25 : decode b_M_looks 25 = .ok (.istore_n 2, 1) := by decide +kernel
theorem d_M_looks_26 : decode b_M_looks 26 = .ok (.iload_n 2, 1) := by decide +kernel
theorem d_M_looks_27 : decode b_M_looks 27 = .ok (.istore_n 3, 1) := by decide +kernel
theorem d_M_looks_28 : decode b_M_looks 28 = .ok (.iload_n 2, 1) := by decide +kernel
theorem d_M_looks_29 : decode b_M_looks 29 = .ok (.istore 4, 2) := by decide +kernel
theorem d_M_looks_31 : decode b_M_looks 31 = .ok (.iload 4, 2) := by decide +kernel
theorem d_M_looks_33 : decode b_M_looks 33 = .ok (.ifCond .lt 63, 3) := by decide +kernel
theorem d_M_looks_36 : decode b_M_looks 36 = .ok (.iload 4, 2) := by decide +kernel
theorem d_M_looks_38 : decode b_M_looks 38 = .ok (.iload_n 2, 1) := by decide +kernel
theorem d_M_looks_39 : decode b_M_looks 39 = .ok (.iconst (-1), 1) := by decide +kernel
theorem d_M_looks_40 : decode b_M_looks 40 = .ok (.ixor, 1) := by decide +kernel
theorem d_M_looks_41 : decode b_M_looks 41 = .ok (.iand, 1) := by decide +kernel
theorem d_M_looks_42 : decode b_M_looks 42 = .ok (.ifCond .ne 19, 3) := by decide +kernel
theorem d_M_looks_45 : decode b_M_looks 45 = .ok (.iload 4, 2) := by decide +kernel
theorem d_M_looks_47 : decode b_M_looks 47 = .ok (.invokestatic 231, 3) := by decide +kernel
theorem d_M_looks_50 : decode b_M_looks 50 = .ok (.iload_n 3, 1) := by decide +kernel
theorem d_M_looks_51 : decode b_M_looks 51 = .ok (.invokestatic 231, 3) := by decide +kernel
theorem d_M_looks_54 : decode b_M_looks 54 = .ok (.if_icmp .gt 7, 3) := by decide +kernel
theorem d_M_looks_57 : decode b_M_looks 57 = .ok (.iconst 1, 1) := by decide +kernel
theorem d_M_looks_58 : decode b_M_looks 58 = .ok (.goto 4, 3) := by decide +kernel
theorem d_M_looks_61 : decode b_M_looks 61 = .ok (.iconst 0, 1) := by decide +kernel
theorem d_M_looks_62 : decode b_M_looks 62 = .ok (.istore 5, 2) := by decide +kernel
theorem d_M_looks_64 : decode b_M_looks 64 = .ok (.iload 5, 2) := by decide +kernel
theorem d_M_looks_66 : decode b_M_looks 66 = .ok (.ifCond .eq 22, 3) := by decide +kernel
theorem d_M_looks_69 : decode b_M_looks 69 = .ok (.aload_n 0, 1) := by decide +kernel
theorem d_M_looks_70 : decode b_M_looks 70 = .ok (.iload 4, 2) := by decide +kernel
theorem d_M_looks_72 : decode b_M_looks 72 = .ok (.invokevirtual 99, 3) := by decide +kernel
theorem d_M_looks_75 : decode b_M_looks 75 = .ok (.aload_n 0, 1) := by decide +kernel
theorem d_M_looks_76 : decode b_M_looks 76 = .ok (.iload_n 2, 1) := by decide +kernel
theorem d_M_looks_77 : decode b_M_looks 77 = .ok (.invokevirtual 99, 3) := by decide +kernel
theorem d_M_looks_80 : decode b_M_looks 80 = .ok (.if_icmp .ne 8, 3) := by decide +kernel
theorem d_M_looks_83 : decode b_M_looks 83 = .ok (.iload 4, 2) := by decide +kernel
theorem d_M_looks_85 : decode b_M_looks 85 = .ok (.goto 4, 3) := by decide +kernel
theorem d_M_looks_88 : decode b_M_looks 88 = .ok (.iload_n 3, 1) := by decide +kernel
theorem d_M_looks_89 : decode b_M_looks 89 = .ok (.istore_n 3, 1) := by decide +kernel
theorem d_M_looks_90 : decode b_M_looks 90 = .ok (.iinc 4 (-1), 3) := by decide +kernel
theorem d_M_looks_93 : decode b_M_looks 93 = .ok (.goto (-62), 3) := by decide +kernel
theorem d_M_looks_96 : decode b_M_looks 96 = .ok (.iload_n 3, 1) := by decide +kernel
theorem d_M_looks_97 : decode b_M_looks 97 = .ok (.ireturn, 1) := by decide +kernel
theorem d_M_wrongBit_0 : decode b_M_wrongBit 0 = .ok (.iload_n 0, 1) := by decide +kernel
theorem d_M_wrongBit_1 : decode b_M_wrongBit 1 = .ok (.ifCond .ne 19, 3) := by decide +kernel
theorem d_M_wrongBit_4 : decode b_M_wrongBit 4 = .ok (.iload_n 1, 1) := by decide +kernel
theorem d_M_wrongBit_5 : decode b_M_wrongBit 5 = .ok (.i2l, 1) := by decide +kernel
theorem d_M_wrongBit_6 : decode b_M_wrongBit 6 = .ok (.lconst 0, 1) := by decide +kernel
theorem d_M_wrongBit_7 : decode b_M_wrongBit 7 = .ok (.iload_n 2, 1) := by decide +kernel
theorem d_M_wrongBit_8 : decode b_M_wrongBit 8 = .ok (.i2l, 1) := by decide +kernel
theorem d_M_wrongBit_9 : decode b_M_wrongBit 9 = .ok (.invokestatic 74, 3) := by decide +kernel
theorem d_M_wrongBit_12 : decode b_M_wrongBit 12 = .ok (.ifCond .ne 8, 3) := by decide +kernel
theorem d_M_wrongBit_15 : decode b_M_wrongBit 15 = .ok (.bipush (-2), 2) := by decide +kernel
theorem d_M_wrongBit_17 : decode b_M_wrongBit 17 = .ok (.goto 4, 3) := by decide +kernel
theorem d_M_wrongBit_20 : decode b_M_wrongBit 20 = .ok (.iload_n 0, 1) := by decide +kernel
theorem d_M_wrongBit_21 : decode b_M_wrongBit 21 = .ok (.ireturn, 1) := by decide +kernel
theorem d_M_lots_0 : decode b_M_lots 0 = .ok (.aload_n 0, 1) := by decide +kernel
theorem d_M_lots_1 : decode b_M_lots 1 = .ok (.iconst 0, 1) := by decide +kernel
theorem d_M_lots_2 : decode b_M_lots 2 = .ok (.putfield 67, 3) := by decide +kernel
theorem d_M_lots_5 : decode b_M_lots 5 = .ok (.iload_n 1, 1) := by decide +kernel
theorem d_M_lots_6 : decode b_M_lots 6 = .ok (.iconst 1, 1) := by decide +kernel
theorem d_M_lots_7 : decode b_M_lots 7 = .ok (.bipush 20, 2) := by decide +kernel
theorem d_M_lots_9 : decode b_M_lots 9 = .ok (.invokestatic 208, 3) := by decide +kernel
theorem d_M_lots_12 : decode b_M_lots 12 = .ok (.iload_n 3, 1) := by decide +kernel
theorem d_M_lots_13 : decode b_M_lots 13 = .ok (.iconst 1, 1) := by decide +kernel
theorem d_M_lots_14 : decode b_M_lots 14 = .ok (.invokestatic 219, 3) := by decide +kernel
theorem d_M_lots_17 : decode b_M_lots 17 = .ok (.istore 4, 2) := by decide +kernel
theorem d_M_lots_19 : decode b_M_lots 19 = .ok (.iload 4, 2) := by decide +kernel
theorem d_M_lots_21 : decode b_M_lots 21 = .ok (.ifCond .ge 10, 3) := by decide +kernel
theorem d_M_lots_24 : decode b_M_lots 24 = .ok (.aload_n 0, 1) := by decide +kernel
theorem d_M_lots_25 : decode b_M_lots 25 = .ok (.iload 4, 2) := by decide +kernel
theorem d_M_lots_27 : decode b_M_lots 27 = .ok (.invokevirtual 108, 3) := by decide +kernel
theorem d_M_lots_30 : decode b_M_lots 30 = .ok (.ireturn, 1) := by decide +kernel
theorem d_M_lots_31 : decode b_M_lots 31 = .ok (.aload_n 0, 1) := by decide +kernel
theorem d_M_lots_32 : decode b_M_lots 32 = .ok (.iload_n 2, 1) := by decide +kernel
theorem d_M_lots_33 : decode b_M_lots 33 = .ok (.putfield 267, 3) := by decide +kernel
theorem d_M_lots_36 : decode b_M_lots 36 = .ok (.iconst 0, 1) := by decide +kernel
theorem d_M_lots_37 : decode b_M_lots 37 = .ok (.istore 5, 2) := by decide +kernel
theorem d_M_lots_39 : decode b_M_lots 39 = .ok (.iconst 0, 1) := by decide +kernel
theorem d_M_lots_40 : decode b_M_lots 40 = .ok (.istore 6, 2) := by decide +kernel
theorem d_M_lots_42 : decode b_M_lots 42 = .ok (.aload_n 0, 1) := by decide +kernel
theorem d_M_lots_43 : decode b_M_lots 43 = .ok (.invokevirtual 234, 3) := by decide +kernel
theorem d_M_lots_46 : decode b_M_lots 46 = .ok (.istore 7, 2) := by decide +kernel
theorem d_M_lots_48 : decode b_M_lots 48 = .ok (.aload_n 0, 1) := by decide +kernel
theorem d_M_lots_49 : decode b_M_lots 49 = .ok (.invokevirtual 165, 3) := by decide +kernel
theorem d_M_lots_52 : decode b_M_lots 52 = .ok (.iconst 0, 1) := by decide +kernel
theorem d_M_lots_53 : decode b_M_lots 53 = .ok (.istore 8, 2) := by decide +kernel
theorem d_M_lots_55 : decode b_M_lots 55 = .ok (.iload 8, 2) := by decide +kernel
theorem d_M_lots_57 : decode b_M_lots 57 = .ok (.iload_n 1, 1) := by decide +kernel
theorem d_M_lots_58 : decode b_M_lots 58 = .ok (.if_icmp .ge 83, 3) := by decide +kernel
theorem d_M_lots_61 : decode b_M_lots 61 = .ok (.iconst 0, 1) := by decide +kernel
theorem d_M_lots_62 : decode b_M_lots 62 = .ok (.istore 9, 2) := by decide +kernel
theorem d_M_lots_64 : decode b_M_lots 64 = .ok (.iload 9, 2) := by decide +kernel
theorem d_M_lots_66 : decode b_M_lots 66 = .ok (.bipush 10, 2) := by decide +kernel
theorem d_M_lots_68 : decode b_M_lots 68 = .ok (.if_icmp .ge 51, 3) := by decide +kernel
theorem d_M_lots_71 : decode b_M_lots 71 = .ok (.aload_n 0, 1) := by decide +kernel
theorem d_M_lots_72 : decode b_M_lots 72 = .ok (.aload_n 0, 1) := by decide +kernel
theorem d_M_lots_73 : decode b_M_lots 73 = .ok (.aload_n 0, 1) := by decide +kernel
theorem d_M_lots_74 : decode b_M_lots 74 = .ok (.iconst 1, 1) := by decide +kernel
theorem d_M_lots_75 : decode b_M_lots 75 = .ok (.aload_n 0, 1) := by decide +kernel
theorem d_M_lots_76 : decode b_M_lots 76 = .ok (.getfield 71, 3) := by decide +kernel
theorem d_M_lots_79 : decode b_M_lots 79 = .ok (.ishl, 1) := by decide +kernel
theorem d_M_lots_80 : decode b_M_lots 80 = .ok (.invokevirtual 273, 3) := by decide +kernel
theorem d_M_lots_83 : decode b_M_lots 83 = .ok (.invokevirtual 99, 3) := by decide +kernel
theorem d_M_lots_86 : decode b_M_lots 86 = .ok (.invokevirtual 102, 3) := by decide +kernel
theorem d_M_lots_89 : decode b_M_lots 89 = .ok (.istore 10, 2) := by decide +kernel
theorem d_M_lots_91 : decode b_M_lots 91 = .ok (.iload 6, 2) := by decide +kernel
theorem d_M_lots_93 : decode b_M_lots 93 = .ok (.iload 10, 2) := by decide +kernel
theorem d_M_lots_95 : decode b_M_lots 95 = .ok (.ifCond .ge 7, 3) := by decide +kernel
theorem d_M_lots_98 : decode b_M_lots 98 = .ok (.iconst 1, 1) := by decide +kernel
theorem d_M_lots_99 : decode b_M_lots 99 = .ok (.goto 4, 3) := by decide +kernel
theorem d_M_lots_102 : decode b_M_lots 102 = .ok (.iconst 0, 1) := by decide +kernel
theorem d_M_lots_103 : decode b_M_lots 103 = .ok (.iadd, 1) := by decide +kernel
theorem d_M_lots_104 : decode b_M_lots 104 = .ok (.istore 6, 2) := by decide +kernel
theorem d_M_lots_106 : decode b_M_lots 106 = .ok (.aload_n 0, 1) := by decide +kernel
theorem d_M_lots_107 : decode b_M_lots 107 = .ok (.iload 10, 2) := by decide +kernel
theorem d_M_lots_109 : decode b_M_lots 109 = .ok (.invokevirtual 156, 3) := by decide +kernel
theorem d_M_lots_112 : decode b_M_lots 112 = .ok (.pop, 1) := by decide +kernel
theorem d_M_lots_113 : decode b_M_lots 113 = .ok (.iinc 9 1, 3) := by decide +kernel
theorem d_M_lots_116 : decode b_M_lots 116 = .ok (.goto (-52), 3) := by decide +kernel
theorem d_M_lots_119 : decode b_M_lots 119 = .ok (.iload 5, 2) := by decide +kernel
theorem d_M_lots_121 : decode b_M_lots 121 = .ok (.iload 7, 2) := by decide +kernel
theorem d_M_lots_123 : decode b_M_lots 123 = .ok (.aload_n 0, 1) := by decide +kernel
theorem d_M_lots_124 : decode b_M_lots 124 = .ok (.invokevirtual 234, 3) := by decide +kernel
theorem d_M_lots_127 : decode b_M_lots 127 = .ok (.isub, 1) := by decide +kernel
theorem d_M_lots_128 : decode b_M_lots 128 = .ok (.iadd, 1) := by decide +kernel
theorem d_M_lots_129 : decode b_M_lots 129 = .ok (.istore 5, 2) := by decide +kernel
theorem d_M_lots_131 : decode b_M_lots 131 = .ok (.aload_n 0, 1) := by decide +kernel
theorem d_M_lots_132 : decode b_M_lots 132 = .ok (.invokevirtual 171, 3) := by decide +kernel
theorem d_M_lots_135 : decode b_M_lots 135 = .ok (.iinc 8 1, 3) := by decide +kernel
theorem d_M_lots_138 : decode b_M_lots 138 = .ok (.goto (-83), 3) := by decide +kernel
theorem d_M_lots_141 : decode b_M_lots 141 = .ok (.iload_n 3, 1) := by decide +kernel
theorem d_M_lots_142 : decode b_M_lots 142 = .ok (.ifCond .ne 8, 3) := by decide +kernel
theorem d_M_lots_145 : decode b_M_lots 145 = .ok (.iload 5, 2) := by decide +kernel
theorem d_M_lots_147 : decode b_M_lots 147 = .ok (.goto 5, 3) := by decide +kernel
theorem d_M_lots_150 : decode b_M_lots 150 = .ok (.iload 6, 2) := by decide +kernel
theorem d_M_lots_152 : decode b_M_lots 152 = .ok (.ireturn, 1) := by decide +kernel
theorem d_M_partOf_0 : decode b_M_partOf 0 = .ok (.lload_n 0, 1) := by decide +kernel
theorem d_M_partOf_1 : decode b_M_partOf 1 = .ok (.lconst 0, 1) := by decide +kernel
theorem d_M_partOf_2 : decode b_M_partOf 2 = .ok (.lcmp, 1) := by decide +kernel
theorem d_M_partOf_3 : decode b_M_partOf 3 = .ok (.ifCond .ne 7, 3) := by decide +kernel
theorem d_M_partOf_6 : decode b_M_partOf 6 = .ok (.iload 4, 2) := by decide +kernel
theorem d_M_partOf_8 : decode b_M_partOf 8 = .ok (.i2l, 1) := by decide +kernel
theorem d_M_partOf_9 : decode b_M_partOf 9 = .ok (.lreturn, 1) := by decide +kernel
theorem d_M_partOf_10 : decode b_M_partOf 10 = .ok (.lload_n 0, 1) := by decide +kernel
theorem d_M_partOf_11 : decode b_M_partOf 11 = .ok (.lload_n 2, 1) := by decide +kernel
theorem d_M_partOf_12 : decode b_M_partOf 12 = .ok (.invokestatic 215, 3) := by decide +kernel
theorem d_M_partOf_15 : decode b_M_partOf 15 = .ok (.lstore 5, 2) := by decide +kernel
theorem d_M_partOf_17 : decode b_M_partOf 17 = .ok (.iload 4, 2) := by decide +kernel
theorem d_M_partOf_19 : decode b_M_partOf 19 = .ok (.ifCond .ne 10, 3) := by decide +kernel
theorem d_M_partOf_22 : decode b_M_partOf 22 = .ok (.lload_n 0, 1) := by decide +kernel
theorem d_M_partOf_23 : decode b_M_partOf 23 = .ok (.lload 5, 2) := by decide +kernel
theorem d_M_partOf_25 : decode b_M_partOf 25 = .ok (.ldiv, 1) := by decide +kernel
theorem d_M_partOf_26 : decode b_M_partOf 26 = .ok (.goto 7, 3) := by decide +kernel
theorem d_M_partOf_29 : decode b_M_partOf 29 = .ok (.lload_n 2, 1) := by decide +kernel
theorem d_M_partOf_30 : decode b_M_partOf 30 = .ok (.lload 5, 2) := by decide +kernel
theorem d_M_partOf_32 : decode b_M_partOf 32 = .ok (.ldiv, 1) := by decide +kernel
theorem d_M_partOf_33 : decode b_M_partOf 33 = .ok (.lreturn, 1) := by decide +kernel
theorem d_M_mean_0 : decode b_M_mean 0 = .ok (.aload_n 0, 1) := by decide +kernel
theorem d_M_mean_1 : decode b_M_mean 1 = .ok (.iconst 0, 1) := by decide +kernel
theorem d_M_mean_2 : decode b_M_mean 2 = .ok (.putfield 67, 3) := by decide +kernel
theorem d_M_mean_5 : decode b_M_mean 5 = .ok (.iload_n 1, 1) := by decide +kernel
theorem d_M_mean_6 : decode b_M_mean 6 = .ok (.i2l, 1) := by decide +kernel
theorem d_M_mean_7 : decode b_M_mean 7 = .ok (.lconst 0, 1) := by decide +kernel
theorem d_M_mean_8 : decode b_M_mean 8 = .ok (.lconst 1, 1) := by decide +kernel
theorem d_M_mean_9 : decode b_M_mean 9 = .ok (.invokestatic 74, 3) := by decide +kernel
theorem d_M_mean_12 : decode b_M_mean 12 = .ok (.ifCond .ne 15, 3) := by decide +kernel
theorem d_M_mean_15 : decode b_M_mean 15 = .ok (.ldc2_w 222, 3) := by decide +kernel
theorem d_M_mean_18 : decode b_M_mean 18 = .ok (.aload_n 0, 1) := by decide +kernel
theorem d_M_mean_19 : decode b_M_mean 19 = .ok (.bipush (-2), 2) := by decide +kernel
theorem d_M_mean_21 : decode b_M_mean 21 = .ok (.invokevirtual 108, 3) := by decide +kernel
theorem d_M_mean_24 : decode b_M_mean 24 = .ok (.i2l, 1) := by decide +kernel
theorem d_M_mean_25 : decode b_M_mean 25 = .ok (.lsub, 1) := by decide +kernel
theorem d_M_mean_26 : decode b_M_mean 26 = .ok (.lreturn, 1) := by decide +kernel
theorem d_M_mean_27 : decode b_M_mean 27 = .ok (.iconst 0, 1) := by decide +kernel
theorem d_M_mean_28 : decode b_M_mean 28 = .ok (.istore_n 2, 1) := by decide +kernel
theorem d_M_mean_29 : decode b_M_mean 29 = .ok (.iconst 0, 1) := by decide +kernel
theorem d_M_mean_30 : decode b_M_mean 30 = .ok (.istore_n 3, 1) := by decide +kernel
theorem d_M_mean_31 : decode b_M_mean 31 = .ok (.iload_n 3, 1) := by decide +kernel
theorem d_M_mean_32 : decode b_M_mean 32 = .ok (.aload_n 0, 1) := by decide +kernel
theorem d_M_mean_33 : decode b_M_mean 33 = .ok (.getfield 78, 3) := by decide +kernel
theorem d_M_mean_36 : decode b_M_mean 36 = .ok (.if_icmp .ge 22, 3) := by decide +kernel
theorem d_M_mean_39 : decode b_M_mean 39 = .ok (.iload_n 2, 1) := by decide +kernel
theorem d_M_mean_40 : decode b_M_mean 40 = .ok (.aload_n 0, 1) := by decide +kernel
theorem d_M_mean_41 : decode b_M_mean 41 = .ok (.aload_n 0, 1) := by decide +kernel
theorem d_M_mean_42 : decode b_M_mean 42 = .ok (.getfield 19, 3) := by decide +kernel
theorem d_M_mean_45 : decode b_M_mean 45 = .ok (.iload_n 3, 1) := by decide +kernel
theorem d_M_mean_46 : decode b_M_mean 46 = .ok (.iaload, 1) := by decide +kernel
theorem d_M_mean_47 : decode b_M_mean 47 = .ok (.invokevirtual 198, 3) := by decide +kernel
theorem d_M_mean_50 : decode b_M_mean 50 = .ok (.iadd, 1) := by decide +kernel
theorem d_M_mean_51 : decode b_M_mean 51 = .ok (.istore_n 2, 1) := by decide +kernel
theorem d_M_mean_52 : decode b_M_mean 52 = .ok (.iinc 3 1, 3) := by decide +kernel
theorem d_M_mean_55 : decode b_M_mean 55 = .ok (.goto (-24), 3) := by decide +kernel
theorem d_M_mean_58 : decode b_M_mean 58 = .ok (.iload_n 2, 1) := by decide +kernel
theorem d_M_mean_59 : decode b_M_mean 59 = .ok (.i2l, 1) := by decide +kernel
theorem d_M_mean_60 : decode b_M_mean 60 = .ok (.aload_n 0, 1) := by decide +kernel
theorem d_M_mean_61 : decode b_M_mean 61 = .ok (.getfield 78, 3) := by decide +kernel
theorem d_M_mean_64 : decode b_M_mean 64 = .ok (.i2l, 1) := by decide +kernel
theorem d_M_mean_65 : decode b_M_mean 65 = .ok (.iload_n 1, 1) := by decide +kernel
theorem d_M_mean_66 : decode b_M_mean 66 = .ok (.invokestatic 227, 3) := by decide +kernel
theorem d_M_mean_69 : decode b_M_mean 69 = .ok (.lreturn, 1) := by decide +kernel
theorem d_M_need_0 : decode b_M_need 0 = .ok (.aload_n 0, 1) := by decide +kernel
theorem d_M_need_1 : decode b_M_need 1 = .ok (.iconst 0, 1) := by decide +kernel
theorem d_M_need_2 : decode b_M_need 2 = .ok (.putfield 67, 3) := by decide +kernel
theorem d_M_need_5 : decode b_M_need 5 = .ok (.iload_n 1, 1) := by decide +kernel
theorem d_M_need_6 : decode b_M_need 6 = .ok (.i2l, 1) := by decide +kernel
theorem d_M_need_7 : decode b_M_need 7 = .ok (.lconst 0, 1) := by decide +kernel
theorem d_M_need_8 : decode b_M_need 8 = .ok (.ldc2_w 265, 3) := by decide +kernel
theorem d_M_need_11 : decode b_M_need 11 = .ok (.invokestatic 74, 3) := by decide +kernel
theorem d_M_need_14 : decode b_M_need 14 = .ok (.ifCond .ne 10, 3) := by decide +kernel
theorem d_M_need_17 : decode b_M_need 17 = .ok (.aload_n 0, 1) := by decide +kernel
theorem d_M_need_18 : decode b_M_need 18 = .ok (.bipush (-2), 2) := by decide +kernel
theorem d_M_need_20 : decode b_M_need 20 = .ok (.invokevirtual 108, 3) := by decide +kernel
theorem d_M_need_23 : decode b_M_need 23 = .ok (.ireturn, 1) := by decide +kernel
theorem d_M_need_24 : decode b_M_need 24 = .ok (.iconst 0, 1) := by decide +kernel
theorem d_M_need_25 : decode b_M_need 25 = .ok (.istore_n 2, 1) := by decide +kernel
theorem d_M_need_26 : decode b_M_need 26 = .ok (.iconst 1, 1) := by decide +kernel
theorem d_M_need_27 : decode b_M_need 27 = .ok (.istore_n 3, 1) := by decide +kernel
theorem d_M_need_28 : decode b_M_need 28 = .ok (.iload_n 3, 1) := by decide +kernel
theorem d_M_need_29 : decode b_M_need 29 = .ok (.iconst 4, 1) := by decide +kernel
theorem d_M_need_30 : decode b_M_need 30 = .ok (.if_icmp .ge 30, 3) := by decide +kernel
theorem d_M_need_33 : decode b_M_need 33 = .ok (.aload_n 0, 1) := by decide +kernel
theorem d_M_need_34 : decode b_M_need 34 = .ok (.getfield 25, 3) := by decide +kernel
theorem d_M_need_37 : decode b_M_need 37 = .ok (.iload_n 3, 1) := by decide +kernel
theorem d_M_need_38 : decode b_M_need 38 = .ok (.iaload, 1) := by decide +kernel
theorem d_M_need_39 : decode b_M_need 39 = .ok (.aload_n 0, 1) := by decide +kernel
theorem d_M_need_40 : decode b_M_need 40 = .ok (.getfield 25, 3) := by decide +kernel
theorem d_M_need_43 : decode b_M_need 43 = .ok (.iload_n 2, 1) := by decide +kernel
theorem d_M_need_44 : decode b_M_need 44 = .ok (.iaload, 1) := by decide +kernel
theorem d_M_need_45 : decode b_M_need 45 = .ok (.if_icmp .le 7, 3) := by decide +kernel
theorem d_M_need_48 : decode b_M_need 48 = .ok (.iload_n 3, 1) := by decide +kernel
theorem d_M_need_49 : decode b_M_need 49 = .ok (.goto 4, 3) := by decide +kernel
theorem d_M_need_52 : decode b_M_need 52 = .ok (.iload_n 2, 1) := by decide +kernel
theorem d_M_need_53 : decode b_M_need 53 = .ok (.istore_n 2, 1) := by decide +kernel
theorem d_M_need_54 : decode b_M_need 54 = .ok (.iinc 3 1, 3) := by decide +kernel
theorem d_M_need_57 : decode b_M_need 57 = .ok (.goto (-29), 3) := by decide +kernel
theorem d_M_need_60 : decode b_M_need 60 = .ok (.iload_n 1, 1) := by decide +kernel
theorem d_M_need_61 : decode b_M_need 61 = .ok (.ifCond .ne 7, 3) := by decide +kernel
theorem d_M_need_64 : decode b_M_need 64 = .ok (.iload_n 2, 1) := by decide +kernel
theorem d_M_need_65 : decode b_M_need 65 = .ok (.goto 21, 3) := by decide +kernel
theorem d_M_need_68 : decode b_M_need 68 = .ok (.iload_n 1, 1) := by decide +kernel
theorem d_M_need_69 : decode b_M_need 69 = .ok (.iconst 1, 1) := by decide +kernel
theorem d_M_need_70 : decode b_M_need 70 = .ok (.if_icmp .ne 12, 3) := by decide +kernel
theorem d_M_need_73 : decode b_M_need 73 = .ok (.aload_n 0, 1) := by decide +kernel
theorem d_M_need_74 : decode b_M_need 74 = .ok (.getfield 25, 3) := by decide +kernel
theorem d_M_need_77 : decode b_M_need 77 = .ok (.iload_n 2, 1) := by decide +kernel
theorem d_M_need_78 : decode b_M_need 78 = .ok (.iaload, 1) := by decide +kernel
theorem d_M_need_79 : decode b_M_need 79 = .ok (.goto 7, 3) := by decide +kernel
theorem d_M_need_82 : decode b_M_need 82 = .ok (.aload_n 0, 1) := by decide +kernel
theorem d_M_need_83 : decode b_M_need 83 = .ok (.invokevirtual 234, 3) := by decide +kernel
theorem d_M_need_86 : decode b_M_need 86 = .ok (.ireturn, 1) := by decide +kernel
theorem d_M_odds_0 : decode b_M_odds 0 = .ok (.aload_n 0, 1) := by decide +kernel
theorem d_M_odds_1 : decode b_M_odds 1 = .ok (.iconst 0, 1) := by decide +kernel
theorem d_M_odds_2 : decode b_M_odds 2 = .ok (.putfield 67, 3) := by decide +kernel
theorem d_M_odds_5 : decode b_M_odds 5 = .ok (.aload_n 0, 1) := by decide +kernel
theorem d_M_odds_6 : decode b_M_odds 6 = .ok (.iload_n 1, 1) := by decide +kernel
theorem d_M_odds_7 : decode b_M_odds 7 = .ok (.invokevirtual 150, 3) := by decide +kernel
theorem d_M_odds_10 : decode b_M_odds 10 = .ok (.ifCond .eq 19, 3) := by decide +kernel
theorem d_M_odds_13 : decode b_M_odds 13 = .ok (.iload_n 2, 1) := by decide +kernel
theorem d_M_odds_14 : decode b_M_odds 14 = .ok (.i2l, 1) := by decide +kernel
theorem d_M_odds_15 : decode b_M_odds 15 = .ok (.lconst 0, 1) := by decide +kernel
theorem d_M_odds_16 : decode b_M_odds 16 = .ok (.ldc2_w 206, 3) := by decide +kernel
theorem d_M_odds_19 : decode b_M_odds 19 = .ok (.invokestatic 74, 3) := by decide +kernel
theorem d_M_odds_22 : decode b_M_odds 22 = .ok (.ifCond .eq 7, 3) := by decide +kernel
theorem d_M_odds_25 : decode b_M_odds 25 = .ok (.iconst 0, 1) := by decide +kernel
theorem d_M_odds_26 : decode b_M_odds 26 = .ok (.goto 4, 3) := by decide +kernel
theorem d_M_odds_29 : decode b_M_odds 29 = .ok (.iconst (-1), 1) := by decide +kernel
theorem d_M_odds_30 : decode b_M_odds 30 = .ok (.iload_n 3, 1) := by decide +kernel
theorem d_M_odds_31 : decode b_M_odds 31 = .ok (.iconst 1, 1) := by decide +kernel
theorem d_M_odds_32 : decode b_M_odds 32 = .ok (.invokestatic 219, 3) := by decide +kernel
theorem d_M_odds_35 : decode b_M_odds 35 = .ok (.istore 4, 2) := by decide +kernel
theorem d_M_odds_37 : decode b_M_odds 37 = .ok (.iload 4, 2) := by decide +kernel
theorem d_M_odds_39 : decode b_M_odds 39 = .ok (.ifCond .ge 15, 3) := by decide +kernel
theorem d_M_odds_42 : decode b_M_odds 42 = .ok (.ldc2_w 222, 3) := by decide +kernel
theorem d_M_odds_45 : decode b_M_odds 45 = .ok (.aload_n 0, 1) := by decide +kernel
theorem d_M_odds_46 : decode b_M_odds 46 = .ok (.iload 4, 2) := by decide +kernel
theorem d_M_odds_48 : decode b_M_odds 48 = .ok (.invokevirtual 108, 3) := by decide +kernel
theorem d_M_odds_51 : decode b_M_odds 51 = .ok (.i2l, 1) := by decide +kernel
theorem d_M_odds_52 : decode b_M_odds 52 = .ok (.lsub, 1) := by decide +kernel
theorem d_M_odds_53 : decode b_M_odds 53 = .ok (.lreturn, 1) := by decide +kernel
theorem d_M_odds_54 : decode b_M_odds 54 = .ok (.aload_n 0, 1) := by decide +kernel
theorem d_M_odds_55 : decode b_M_odds 55 = .ok (.aload_n 0, 1) := by decide +kernel
theorem d_M_odds_56 : decode b_M_odds 56 = .ok (.getfield 19, 3) := by decide +kernel
theorem d_M_odds_59 : decode b_M_odds 59 = .ok (.iload_n 1, 1) := by decide +kernel
theorem d_M_odds_60 : decode b_M_odds 60 = .ok (.iaload, 1) := by decide +kernel
theorem d_M_odds_61 : decode b_M_odds 61 = .ok (.invokevirtual 99, 3) := by decide +kernel
theorem d_M_odds_64 : decode b_M_odds 64 = .ok (.istore 5, 2) := by decide +kernel
theorem d_M_odds_66 : decode b_M_odds 66 = .ok (.iload 5, 2) := by decide +kernel
theorem d_M_odds_68 : decode b_M_odds 68 = .ok (.iload_n 2, 1) := by decide +kernel
theorem d_M_odds_69 : decode b_M_odds 69 = .ok (.invokestatic 85, 3) := by decide +kernel
theorem d_M_odds_72 : decode b_M_odds 72 = .ok (.ifCond .eq 13, 3) := by decide +kernel
theorem d_M_odds_75 : decode b_M_odds 75 = .ok (.aload_n 0, 1) := by decide +kernel
theorem d_M_odds_76 : decode b_M_odds 76 = .ok (.getfield 7, 3) := by decide +kernel
theorem d_M_odds_79 : decode b_M_odds 79 = .ok (.iload_n 2, 1) := by decide +kernel
theorem d_M_odds_80 : decode b_M_odds 80 = .ok (.iaload, 1) := by decide +kernel
theorem d_M_odds_81 : decode b_M_odds 81 = .ok (.i2l, 1) := by decide +kernel
theorem d_M_odds_82 : decode b_M_odds 82 = .ok (.goto 4, 3) := by decide +kernel
theorem d_M_odds_85 : decode b_M_odds 85 = .ok (.lconst 0, 1) := by decide +kernel
theorem d_M_odds_86 : decode b_M_odds 86 = .ok (.aload_n 0, 1) := by decide +kernel
theorem d_M_odds_87 : decode b_M_odds 87 = .ok (.iload 5, 2) := by decide +kernel
theorem d_M_odds_89 : decode b_M_odds 89 = .ok (.invokevirtual 224, 3) := by decide +kernel
theorem d_M_odds_92 : decode b_M_odds 92 = .ok (.i2l, 1) := by decide +kernel
theorem d_M_odds_93 : decode b_M_odds 93 = .ok (.iload_n 3, 1) := by decide +kernel
theorem d_M_odds_94 : decode b_M_odds 94 = .ok (.invokestatic 227, 3) := by decide +kernel
theorem d_M_odds_97 : decode b_M_odds 97 = .ok (.lreturn, 1) := by decide +kernel
theorem d_M_often_0 : decode b_M_often 0 = .ok (.aload_n 0, 1) := by decide +kernel
theorem d_M_often_1 : decode b_M_often 1 = .ok (.iconst 0, 1) := by decide +kernel
theorem d_M_often_2 : decode b_M_often 2 = .ok (.putfield 67, 3) := by decide +kernel
theorem d_M_often_5 : decode b_M_often 5 = .ok (.iload_n 1, 1) := by decide +kernel
theorem d_M_often_6 : decode b_M_often 6 = .ok (.i2l, 1) := by decide +kernel
theorem d_M_often_7 : decode b_M_often 7 = .ok (.lconst 0, 1) := by decide +kernel
theorem d_M_often_8 : decode b_M_often 8 = .ok (.lconst 1, 1) := by decide +kernel
theorem d_M_often_9 : decode b_M_often 9 = .ok (.invokestatic 74, 3) := by decide +kernel
theorem d_M_often_12 : decode b_M_often 12 = .ok (.ifCond .ne 10, 3) := by decide +kernel
theorem d_M_often_15 : decode b_M_often 15 = .ok (.aload_n 0, 1) := by decide +kernel
theorem d_M_often_16 : decode b_M_often 16 = .ok (.bipush (-2), 2) := by decide +kernel
theorem d_M_often_18 : decode b_M_often 18 = .ok (.invokevirtual 108, 3) := by decide +kernel
theorem d_M_often_21 : decode b_M_often 21 = .ok (.ireturn, 1) := by decide +kernel
theorem d_M_often_22 : decode b_M_often 22 = .ok (.bipush (-9), 2) := by decide +kernel
theorem d_M_often_24 : decode b_M_often 24 = .ok (.istore_n 2, 1) := by decide +kernel
theorem d_M_often_25 : decode b_M_often 25 = .ok (.iconst (-1), 1) := by decide +kernel
theorem d_M_often_26 : decode b_M_often 26 = .ok (.istore_n 3, 1) := by decide +kernel
theorem d_M_often_27 : decode b_M_often 27 = .ok (.iconst 0, 1) := by decide +kernel
theorem d_M_often_28 : decode b_M_often 28 = .ok (.istore 4, 2) := by decide +kernel
theorem d_M_often_30 : decode b_M_often 30 = .ok (.iload 4, 2) := by decide +kernel
theorem d_M_often_32 : decode b_M_often 32 = .ok (.aload_n 0, 1) := by decide +kernel
theorem d_M_often_33 : decode b_M_often 33 = .ok (.getfield 71, 3) := by decide +kernel
theorem d_M_often_36 : decode b_M_often 36 = .ok (.if_icmp .ge 81, 3) := by decide +kernel
theorem d_M_often_39 : decode b_M_often 39 = .ok (.iconst 0, 1) := by decide +kernel
theorem d_M_often_40 : decode b_M_often 40 = .ok (.istore 5, 2) := by decide +kernel
theorem d_M_often_42 : decode b_M_often 42 = .ok (.iconst 0, 1) := by decide +kernel
theorem d_M_often_43 : decode b_M_often 43 = .ok (.istore 6, 2) := by decide +kernel
theorem d_M_often_45 : decode b_M_often 45 = .ok (.iload 6, 2) := by decide +kernel
theorem d_M_often_47 : decode b_M_often 47 = .ok (.aload_n 0, 1) := by decide +kernel
theorem d_M_often_48 : decode b_M_often 48 = .ok (.getfield 78, 3) := by decide +kernel
theorem d_M_often_51 : decode b_M_often 51 = .ok (.if_icmp .ge 34, 3) := by decide +kernel
theorem d_M_often_54 : decode b_M_often 54 = .ok (.iload 5, 2) := by decide +kernel
theorem d_M_often_56 : decode b_M_often 56 = .ok (.aload_n 0, 1) := by decide +kernel
theorem d_M_often_57 : decode b_M_often 57 = .ok (.getfield 19, 3) := by decide +kernel
theorem d_M_often_60 : decode b_M_often 60 = .ok (.iload 6, 2) := by decide +kernel
theorem d_M_often_62 : decode b_M_often 62 = .ok (.iaload, 1) := by decide +kernel
theorem d_M_often_63 : decode b_M_often 63 = .ok (.iload 4, 2) := by decide +kernel
theorem d_M_often_65 : decode b_M_often 65 = .ok (.invokestatic 85, 3) := by decide +kernel
theorem d_M_often_68 : decode b_M_often 68 = .ok (.ifCond .eq 7, 3) := by decide +kernel
theorem d_M_often_71 : decode b_M_often 71 = .ok (.iconst 1, 1) := by decide +kernel
theorem d_M_often_72 : decode b_M_often 72 = .ok (.goto 4, 3) := by decide +kernel
theorem d_M_often_75 : decode b_M_often 75 = .ok (.iconst 0, 1) := by decide +kernel
theorem d_M_often_76 : decode b_M_often 76 = .ok (.iadd, 1) := by decide +kernel
theorem d_M_often_77 : decode b_M_often 77 = .ok (.istore 5, 2) := by decide +kernel
theorem d_M_often_79 : decode b_M_often 79 = .ok (.iinc 6 1, 3) := by decide +kernel
theorem d_M_often_82 : decode b_M_often 82 = .ok (.goto (-37), 3) := by decide +kernel
theorem d_M_often_85 : decode b_M_often 85 = .ok (.iload 5, 2) := by decide +kernel
theorem d_M_often_87 : decode b_M_often 87 = .ok (.iload_n 3, 1) := by decide +kernel
theorem d_M_often_88 : decode b_M_often 88 = .ok (.if_icmp .le 8, 3) := by decide +kernel
theorem d_M_often_91 : decode b_M_often 91 = .ok (.iload 4, 2) := by decide +kernel
theorem d_M_often_93 : decode b_M_often 93 = .ok (.goto 4, 3) := by decide +kernel
theorem d_M_often_96 : decode b_M_often 96 = .ok (.iload_n 2, 1) := by decide +kernel
theorem d_M_often_97 : decode b_M_often 97 = .ok (.istore_n 2, 1) := by decide +kernel
theorem d_M_often_98 : decode b_M_often 98 = .ok (.iload 5, 2) := by decide +kernel
theorem d_M_often_100 : decode b_M_often 100 = .ok (.iload_n 3, 1) := by decide +kernel
theorem d_M_often_101 : decode b_M_often 101 = .ok (.if_icmp .le 8, 3) := by decide +kernel
theorem d_M_often_104 : decode b_M_often 104 = .ok (.iload 5, 2) := by decide +kernel
theorem d_M_often_106 : decode b_M_often 106 = .ok (.goto 4, 3) := by decide +kernel
theorem d_M_often_109 : decode b_M_often 109 = .ok (.iload_n 3, 1) := by decide +kernel
theorem d_M_often_110 : decode b_M_often 110 = .ok (.istore_n 3, 1) := by decide +kernel
theorem d_M_often_111 : decode b_M_often 111 = .ok (.iinc 4 1, 3) := by decide +kernel
theorem d_M_often_114 : decode b_M_often 114 = .ok (.goto (-84), 3) := by decide +kernel
theorem d_M_often_117 : decode b_M_often 117 = .ok (.iload_n 1, 1) := by decide +kernel
theorem d_M_often_118 : decode b_M_often 118 = .ok (.ifCond .ne 7, 3) := by decide +kernel
theorem d_M_often_121 : decode b_M_often 121 = .ok (.iload_n 2, 1) := by decide +kernel
theorem d_M_often_122 : decode b_M_often 122 = .ok (.goto 12, 3) := by decide +kernel
theorem d_M_often_125 : decode b_M_often 125 = .ok (.iload_n 3, 1) := by decide +kernel
theorem d_M_often_126 : decode b_M_often 126 = .ok (.ifCond .ge 7, 3) := by decide +kernel
theorem d_M_often_129 : decode b_M_often 129 = .ok (.iconst 0, 1) := by decide +kernel
theorem d_M_often_130 : decode b_M_often 130 = .ok (.goto 4, 3) := by decide +kernel
theorem d_M_often_133 : decode b_M_often 133 = .ok (.iload_n 3, 1) := by decide +kernel
theorem d_M_often_134 : decode b_M_often 134 = .ok (.ireturn, 1) := by decide +kernel
theorem d_M_order_0 : decode b_M_order 0 = .ok (.aload_n 0, 1) := by decide +kernel
theorem d_M_order_1 : decode b_M_order 1 = .ok (.iconst 0, 1) := by decide +kernel
theorem d_M_order_2 : decode b_M_order 2 = .ok (.putfield 67, 3) := by decide +kernel
theorem d_M_order_5 : decode b_M_order 5 = .ok (.iload_n 1, 1) := by decide +kernel
theorem d_M_order_6 : decode b_M_order 6 = .ok (.iconst 1, 1) := by decide +kernel
theorem d_M_order_7 : decode b_M_order 7 = .ok (.if_icmp .lt 8, 3) := by decide +kernel
theorem d_M_order_10 : decode b_M_order 10 = .ok (.iload_n 2, 1) := by decide +kernel
theorem d_M_order_11 : decode b_M_order 11 = .ok (.iconst (-1), 1) := by decide +kernel
theorem d_M_order_12 : decode b_M_order 12 = .ok (.if_icmp .ge 8, 3) := by decide +kernel
theorem d_M_order_15 : decode b_M_order 15 = .ok (.bipush (-4), 2) := by decide +kernel
theorem d_M_order_17 : decode b_M_order 17 = .ok (.goto 29, 3) := by decide +kernel
theorem d_M_order_20 : decode b_M_order 20 = .ok (.iload_n 1, 1) := by decide +kernel
theorem d_M_order_21 : decode b_M_order 21 = .ok (.bipush 8, 2) := by decide +kernel
theorem d_M_order_23 : decode b_M_order 23 = .ok (.if_icmp .le 8, 3) := by decide +kernel
theorem d_M_order_26 : decode b_M_order 26 = .ok (.bipush (-6), 2) := by decide +kernel
theorem d_M_order_28 : decode b_M_order 28 = .ok (.goto 18, 3) := by decide +kernel
theorem d_M_order_31 : decode b_M_order 31 = .ok (.aload_n 0, 1) := by decide +kernel
theorem d_M_order_32 : decode b_M_order 32 = .ok (.getfield 78, 3) := by decide +kernel
theorem d_M_order_35 : decode b_M_order 35 = .ok (.bipush 7, 2) := by decide +kernel
theorem d_M_order_37 : decode b_M_order 37 = .ok (.if_icmp .le 8, 3) := by decide +kernel
theorem d_M_order_40 : decode b_M_order 40 = .ok (.bipush (-3), 2) := by decide +kernel
theorem d_M_order_42 : decode b_M_order 42 = .ok (.goto 4, 3) := by decide +kernel
theorem d_M_order_45 : decode b_M_order 45 = .ok (.iconst 0, 1) := by decide +kernel
theorem d_M_order_46 : decode b_M_order 46 = .ok (.istore_n 3, 1) := by decide +kernel
theorem d_M_order_47 : decode b_M_order 47 = .ok (.iload_n 3, 1) := by decide +kernel
theorem d_M_order_48 : decode b_M_order 48 = .ok (.ifCond .ge 9, 3) := by decide +kernel
theorem d_M_order_51 : decode b_M_order 51 = .ok (.aload_n 0, 1) := by decide +kernel
theorem d_M_order_52 : decode b_M_order 52 = .ok (.iload_n 3, 1) := by decide +kernel
theorem d_M_order_53 : decode b_M_order 53 = .ok (.invokevirtual 108, 3) := by decide +kernel
theorem d_M_order_56 : decode b_M_order 56 = .ok (.ireturn, 1) := by decide +kernel
theorem d_M_order_57 : decode b_M_order 57 = .ok (.iconst 0, 1) := by decide +kernel
theorem d_M_order_58 : decode b_M_order 58 = .ok (.istore 4, 2) := by decide +kernel
theorem d_M_order_60 : decode b_M_order 60 = .ok (.iload 4, 2) := by decide +kernel
theorem d_M_order_62 : decode b_M_order 62 = .ok (.aload_n 0, 1) := by decide +kernel
theorem d_M_order_63 : decode b_M_order 63 = .ok (.getfield 78, 3) := by decide +kernel
theorem d_M_order_66 : decode b_M_order 66 = .ok (.if_icmp .ge 22, 3) := by decide +kernel
theorem d_M_order_69 : decode b_M_order 69 = .ok (.aload_n 0, 1) := by decide +kernel
theorem d_M_order_70 : decode b_M_order 70 = .ok (.getfield 58, 3) := by decide +kernel
theorem d_M_order_73 : decode b_M_order 73 = .ok (.iload 4, 2) := by decide +kernel
theorem d_M_order_75 : decode b_M_order 75 = .ok (.aload_n 0, 1) := by decide +kernel
theorem d_M_order_76 : decode b_M_order 76 = .ok (.iload 4, 2) := by decide +kernel
theorem d_M_order_78 : decode b_M_order 78 = .ok (.invokevirtual 153, 3) := by decide +kernel
theorem d_M_order_81 : decode b_M_order 81 = .ok (.iastore, 1) := by decide +kernel
theorem d_M_order_82 : decode b_M_order 82 = .ok (.iinc 4 1, 3) := by decide +kernel
theorem d_M_order_85 : decode b_M_order 85 = .ok (.goto (-25), 3) := by decide +kernel
theorem d_M_order_88 : decode b_M_order 88 = .ok (.iconst 0, 1) := by decide +kernel
theorem d_M_order_89 : decode b_M_order 89 = .ok (.istore 4, 2) := by decide +kernel
theorem d_M_order_91 : decode b_M_order 91 = .ok (.iconst (-1), 1) := by decide +kernel
theorem d_M_order_92 : decode b_M_order 92 = .ok (.istore 5, 2) := by decide +kernel
theorem d_M_order_94 : decode b_M_order 94 = .ok (.aload_n 0, 1) := by decide +kernel
theorem d_M_order_95 : decode b_M_order 95 = .ok (.getfield 78, 3) := by decide +kernel
theorem d_M_order_98 : decode b_M_order 98 = .ok (.invokestatic 243, 3) := by decide +kernel
theorem d_M_order_101 : decode b_M_order 101 = .ok (.istore 6, 2) := by decide +kernel
theorem d_M_order_103 : decode b_M_order 103 = .ok (.iconst 0, 1) := by decide +kernel
theorem d_M_order_104 : decode b_M_order 104 = .ok (.istore 7, 2) := by decide +kernel
theorem d_M_order_106 : decode b_M_order 106 = .ok (.iload 7, 2) := by decide +kernel
theorem d_M_order_108 : decode b_M_order 108 = .ok (.iload 6, 2) := by decide +kernel
theorem d_M_order_110 : decode b_M_order 110 = .ok (.if_icmp .ge 58, 3) := by decide +kernel
theorem d_M_order_113 : decode b_M_order 113 = .ok (.aload_n 0, 1) := by decide +kernel
theorem d_M_order_114 : decode b_M_order 114 = .ok (.iload 7, 2) := by decide +kernel
theorem d_M_order_116 : decode b_M_order 116 = .ok (.aload_n 0, 1) := by decide +kernel
theorem d_M_order_117 : decode b_M_order 117 = .ok (.getfield 78, 3) := by decide +kernel
theorem d_M_order_120 : decode b_M_order 120 = .ok (.invokevirtual 246, 3) := by decide +kernel
theorem d_M_order_123 : decode b_M_order 123 = .ok (.aload_n 0, 1) := by decide +kernel
theorem d_M_order_124 : decode b_M_order 124 = .ok (.iload_n 1, 1) := by decide +kernel
theorem d_M_order_125 : decode b_M_order 125 = .ok (.invokevirtual 249, 3) := by decide +kernel
theorem d_M_order_128 : decode b_M_order 128 = .ok (.istore 8, 2) := by decide +kernel
theorem d_M_order_130 : decode b_M_order 130 = .ok (.iload 8, 2) := by decide +kernel
theorem d_M_order_132 : decode b_M_order 132 = .ok (.iload 5, 2) := by decide +kernel
theorem d_M_order_134 : decode b_M_order 134 = .ok (.if_icmp .le 8, 3) := by decide +kernel
theorem d_M_order_137 : decode b_M_order 137 = .ok (.iload 7, 2) := by decide +kernel
theorem d_M_order_139 : decode b_M_order 139 = .ok (.goto 5, 3) := by decide +kernel
theorem d_M_order_142 : decode b_M_order 142 = .ok (.iload 4, 2) := by decide +kernel
theorem d_M_order_144 : decode b_M_order 144 = .ok (.istore 4, 2) := by decide +kernel
theorem d_M_order_146 : decode b_M_order 146 = .ok (.iload 8, 2) := by decide +kernel
theorem d_M_order_148 : decode b_M_order 148 = .ok (.iload 5, 2) := by decide +kernel
theorem d_M_order_150 : decode b_M_order 150 = .ok (.if_icmp .le 8, 3) := by decide +kernel
theorem d_M_order_153 : decode b_M_order 153 = .ok (.iload 8, 2) := by decide +kernel
theorem d_M_order_155 : decode b_M_order 155 = .ok (.goto 5, 3) := by decide +kernel
theorem d_M_order_158 : decode b_M_order 158 = .ok (.iload 5, 2) := by decide +kernel
theorem d_M_order_160 : decode b_M_order 160 = .ok (.istore 5, 2) := by decide +kernel
theorem d_M_order_162 : decode b_M_order 162 = .ok (.iinc 7 1, 3) := by decide +kernel
theorem d_M_order_165 : decode b_M_order 165 = .ok (.goto (-59), 3) := by decide +kernel
theorem d_M_order_168 : decode b_M_order 168 = .ok (.aload_n 0, 1) := by decide +kernel
theorem d_M_order_169 : decode b_M_order 169 = .ok (.iload 4, 2) := by decide +kernel
theorem d_M_order_171 : decode b_M_order 171 = .ok (.aload_n 0, 1) := by decide +kernel
theorem d_M_order_172 : decode b_M_order 172 = .ok (.getfield 78, 3) := by decide +kernel
theorem d_M_order_175 : decode b_M_order 175 = .ok (.invokevirtual 246, 3) := by decide +kernel
theorem d_M_order_178 : decode b_M_order 178 = .ok (.iload_n 2, 1) := by decide +kernel
theorem d_M_order_179 : decode b_M_order 179 = .ok (.ifCond .ge 8, 3) := by decide +kernel
theorem d_M_order_182 : decode b_M_order 182 = .ok (.iload 5, 2) := by decide +kernel
theorem d_M_order_184 : decode b_M_order 184 = .ok (.goto 22, 3) := by decide +kernel
theorem d_M_order_187 : decode b_M_order 187 = .ok (.iload_n 2, 1) := by decide +kernel
theorem d_M_order_188 : decode b_M_order 188 = .ok (.aload_n 0, 1) := by decide +kernel
theorem d_M_order_189 : decode b_M_order 189 = .ok (.getfield 78, 3) := by decide +kernel
theorem d_M_order_192 : decode b_M_order 192 = .ok (.if_icmp .ge 12, 3) := by decide +kernel
theorem d_M_order_195 : decode b_M_order 195 = .ok (.aload_n 0, 1) := by decide +kernel
theorem d_M_order_196 : decode b_M_order 196 = .ok (.getfield 55, 3) := by decide +kernel
theorem d_M_order_199 : decode b_M_order 199 = .ok (.iload_n 2, 1) := by decide +kernel
theorem d_M_order_200 : decode b_M_order 200 = .ok (.iaload, 1) := by decide +kernel
theorem d_M_order_201 : decode b_M_order 201 = .ok (.goto 5, 3) := by decide +kernel
theorem d_M_order_204 : decode b_M_order 204 = .ok (.bipush (-9), 2) := by decide +kernel
theorem d_M_order_206 : decode b_M_order 206 = .ok (.ireturn, 1) := by decide +kernel
theorem d_M_pack_0 : decode b_M_pack 0 = .ok (.aload_n 0, 1) := by decide +kernel
theorem d_M_pack_1 : decode b_M_pack 1 = .ok (.iconst 0, 1) := by decide +kernel
theorem d_M_pack_2 : decode b_M_pack 2 = .ok (.putfield 67, 3) := by decide +kernel
theorem d_M_pack_5 : decode b_M_pack 5 = .ok (.iload_n 1, 1) := by decide +kernel
theorem d_M_pack_6 : decode b_M_pack 6 = .ok (.i2l, 1) := by decide +kernel
theorem d_M_pack_7 : decode b_M_pack 7 = .ok (.lconst 0, 1) := by decide +kernel
theorem d_M_pack_8 : decode b_M_pack 8 = .ok (.ldc2_w 206, 3) := by decide +kernel
theorem d_M_pack_11 : decode b_M_pack 11 = .ok (.invokestatic 74, 3) := by decide +kernel
theorem d_M_pack_14 : decode b_M_pack 14 = .ok (.ifCond .eq 7, 3) := by decide +kernel
theorem d_M_pack_17 : decode b_M_pack 17 = .ok (.iconst 0, 1) := by decide +kernel
theorem d_M_pack_18 : decode b_M_pack 18 = .ok (.goto 4, 3) := by decide +kernel
theorem d_M_pack_21 : decode b_M_pack 21 = .ok (.iconst (-1), 1) := by decide +kernel
theorem d_M_pack_22 : decode b_M_pack 22 = .ok (.iload_n 2, 1) := by decide +kernel
theorem d_M_pack_23 : decode b_M_pack 23 = .ok (.iconst 1, 1) := by decide +kernel
theorem d_M_pack_24 : decode b_M_pack 24 = .ok (.invokestatic 219, 3) := by decide +kernel
theorem d_M_pack_27 : decode b_M_pack 27 = .ok (.istore_n 3, 1) := by decide +kernel
theorem d_M_pack_28 : decode b_M_pack 28 = .ok (.iload_n 3, 1) := by decide +kernel
theorem d_M_pack_29 : decode b_M_pack 29 = .ok (.ifCond .ge 9, 3) := by decide +kernel
theorem d_M_pack_32 : decode b_M_pack 32 = .ok (.aload_n 0, 1) := by decide +kernel
theorem d_M_pack_33 : decode b_M_pack 33 = .ok (.iload_n 3, 1) := by decide +kernel
theorem d_M_pack_34 : decode b_M_pack 34 = .ok (.invokevirtual 108, 3) := by decide +kernel
theorem d_M_pack_37 : decode b_M_pack 37 = .ok (.ireturn, 1) := by decide +kernel
theorem d_M_pack_38 : decode b_M_pack 38 = .ok (.bipush (-9), 2) := by decide +kernel
theorem d_M_pack_40 : decode b_M_pack 40 = .ok (.istore 4, 2) := by decide +kernel
theorem d_M_pack_42 : decode b_M_pack 42 = .ok (.iconst 0, 1) := by decide +kernel
theorem d_M_pack_43 : decode b_M_pack 43 = .ok (.istore 5, 2) := by decide +kernel
theorem d_M_pack_45 : decode b_M_pack 45 = .ok (.iconst 0, 1) := by decide +kernel
theorem d_M_pack_46 : decode b_M_pack 46 = .ok (.istore 6, 2) := by decide +kernel
theorem d_M_pack_48 : decode b_M_pack 48 = .ok (.iload 6, 2) := by decide +kernel
theorem d_M_pack_50 : decode b_M_pack 50 = .ok (.iconst 1, 1) := by decide +kernel
theorem d_M_pack_51 : decode b_M_pack 51 = .ok (.aload_n 0, 1) := by decide +kernel
theorem d_M_pack_52 : decode b_M_pack 52 = .ok (.getfield 71, 3) := by decide +kernel
theorem d_M_pack_55 : decode b_M_pack 55 = .ok (.ishl, 1) := by decide +kernel
theorem d_M_pack_56 : decode b_M_pack 56 = .ok (.if_icmp .ge 90, 3) := by decide +kernel
theorem d_M_pack_59 : decode b_M_pack 59 = .ok (.aload_n 0, 1) := by decide +kernel
theorem d_M_pack_60 : decode b_M_pack 60 = .ok (.iload 6, 2) := by decide +kernel
theorem d_M_pack_62 : decode b_M_pack 62 = .ok (.invokevirtual 99, 3) := by decide +kernel
theorem d_M_pack_65 : decode b_M_pack 65 = .ok (.iconst 1, 1) := by decide +kernel
theorem d_M_pack_66 : decode b_M_pack 66 = .ok (.iload_n 1, 1) := by decide +kernel
theorem d_M_pack_67 : decode b_M_pack 67 = .ok (.ishl, 1) := by decide +kernel
theorem d_M_pack_68 : decode b_M_pack 68 = .ok (.if_icmp .ne 72, 3) := by decide +kernel
theorem d_M_pack_71 : decode b_M_pack 71 = .ok (.iload_n 2, 1) := by decide +kernel
theorem d_M_pack_72 : decode b_M_pack 72 = .ok (.ifCond .ne 12, 3) := by decide +kernel
theorem d_M_pack_75 : decode b_M_pack 75 = .ok (.aload_n 0, 1) := by decide +kernel
theorem d_M_pack_76 : decode b_M_pack 76 = .ok (.iload 6, 2) := by decide +kernel
theorem d_M_pack_78 : decode b_M_pack 78 = .ok (.invokevirtual 198, 3) := by decide +kernel
theorem d_M_pack_81 : decode b_M_pack 81 = .ok (.goto 10, 3) := by decide +kernel
theorem d_M_pack_84 : decode b_M_pack 84 = .ok (.aload_n 0, 1) := by decide +kernel
theorem d_M_pack_85 : decode b_M_pack 85 = .ok (.iload 6, 2) := by decide +kernel
theorem d_M_pack_87 : decode b_M_pack 87 = .ok (.invokevirtual 201, 3) := by decide +kernel
theorem d_M_pack_90 : decode b_M_pack 90 = .ok (.ineg, 1) := by decide +kernel
theorem d_M_pack_91 : decode b_M_pack 91 = .ok (.istore 7, 2) := by decide +kernel
theorem d_M_pack_93 : decode b_M_pack 93 = .ok (.iload 4, 2) := by decide +kernel
theorem d_M_pack_95 : decode b_M_pack 95 = .ok (.ifCond .lt 10, 3) := by decide +kernel
theorem d_M_pack_98 : decode b_M_pack 98 = .ok (.iload 7, 2) := by decide +kernel
theorem d_M_pack_100 : decode b_M_pack 100 = .ok (.iload 5, 2) := by decide +kernel
theorem d_M_pack_102 : decode b_M_pack 102 = .ok (.if_icmp .ge 7, 3) := by decide +kernel
theorem d_M_pack_105 : decode b_M_pack 105 = .ok (.iconst 1, 1) := by decide +kernel
theorem d_M_pack_106 : decode b_M_pack 106 = .ok (.goto 4, 3) := by decide +kernel
theorem d_M_pack_109 : decode b_M_pack 109 = .ok (.iconst 0, 1) := by decide +kernel
theorem d_M_pack_110 : decode b_M_pack 110 = .ok (.istore 8, 2) := by decide +kernel
theorem d_M_pack_112 : decode b_M_pack 112 = .ok (.iload 8, 2) := by decide +kernel
theorem d_M_pack_114 : decode b_M_pack 114 = .ok (.ifCond .eq 8, 3) := by decide +kernel
theorem d_M_pack_117 : decode b_M_pack 117 = .ok (.iload 6, 2) := by decide +kernel
theorem d_M_pack_119 : decode b_M_pack 119 = .ok (.goto 5, 3) := by decide +kernel
theorem d_M_pack_122 : decode b_M_pack 122 = .ok (.iload 4, 2) := by decide +kernel
theorem d_M_pack_124 : decode b_M_pack 124 = .ok (.istore 4, 2) := by decide +kernel
theorem d_M_pack_126 : decode b_M_pack 126 = .ok (.iload 8, 2) := by decide +kernel
theorem d_M_pack_128 : decode b_M_pack 128 = .ok (.ifCond .eq 8, 3) := by decide +kernel
theorem d_M_pack_131 : decode b_M_pack 131 = .ok (.iload 7, 2) := by decide +kernel
theorem d_M_pack_133 : decode b_M_pack 133 = .ok (.goto 5, 3) := by decide +kernel
theorem d_M_pack_136 : decode b_M_pack 136 = .ok (.iload 5, 2) := by decide +kernel
theorem d_M_pack_138 : decode b_M_pack 138 = .ok (.istore 5, 2) := by decide +kernel
theorem d_M_pack_140 : decode b_M_pack 140 = .ok (.iinc 6 1, 3) := by decide +kernel
theorem d_M_pack_143 : decode b_M_pack 143 = .ok (.goto (-95), 3) := by decide +kernel
theorem d_M_pack_146 : decode b_M_pack 146 = .ok (.iload 4, 2) := by decide +kernel
theorem d_M_pack_148 : decode b_M_pack 148 = .ok (.ireturn, 1) := by decide +kernel
theorem d_M_packs_0 : decode b_M_packs 0 = .ok (.aload_n 0, 1) := by decide +kernel
theorem d_M_packs_1 : decode b_M_packs 1 = .ok (.iconst 0, 1) := by decide +kernel
theorem d_M_packs_2 : decode b_M_packs 2 = .ok (.putfield 67, 3) := by decide +kernel
theorem d_M_packs_5 : decode b_M_packs 5 = .ok (.aload_n 0, 1) := by decide +kernel
theorem d_M_packs_6 : decode b_M_packs 6 = .ok (.iload_n 1, 1) := by decide +kernel
theorem d_M_packs_7 : decode b_M_packs 7 = .ok (.invokevirtual 150, 3) := by decide +kernel
theorem d_M_packs_10 : decode b_M_packs 10 = .ok (.ifCond .eq 11, 3) := by decide +kernel
theorem d_M_packs_13 : decode b_M_packs 13 = .ok (.aload_n 0, 1) := by decide +kernel
theorem d_M_packs_14 : decode b_M_packs 14 = .ok (.iload_n 2, 1) := by decide +kernel
theorem d_M_packs_15 : decode b_M_packs 15 = .ok (.invokevirtual 159, 3) := by decide +kernel
theorem d_M_packs_18 : decode b_M_packs 18 = .ok (.ifCond .ne 9, 3) := by decide +kernel
theorem d_M_packs_21 : decode b_M_packs 21 = .ok (.aload_n 0, 1) := by decide +kernel
theorem d_M_packs_22 : decode b_M_packs 22 = .ok (.iconst (-1), 1) := by decide +kernel
theorem d_M_packs_23 : decode b_M_packs 23 = .ok (.invokevirtual 108, 3) := by decide +kernel
theorem d_M_packs_26 : decode b_M_packs 26 = .ok (.ireturn, 1) := by decide +kernel
theorem d_M_packs_27 : decode b_M_packs 27 = .ok (.aload_n 0, 1) := by decide +kernel
theorem d_M_packs_28 : decode b_M_packs 28 = .ok (.invokevirtual 212, 3) := by decide +kernel
theorem d_M_packs_31 : decode b_M_packs 31 = .ok (.aload_n 0, 1) := by decide +kernel
theorem d_M_packs_32 : decode b_M_packs 32 = .ok (.getfield 19, 3) := by decide +kernel
theorem d_M_packs_35 : decode b_M_packs 35 = .ok (.iload_n 1, 1) := by decide +kernel
theorem d_M_packs_36 : decode b_M_packs 36 = .ok (.dup2, 1) := by decide +kernel
theorem d_M_packs_37 : decode b_M_packs 37 = .ok (.iaload, 1) := by decide +kernel
theorem d_M_packs_38 : decode b_M_packs 38 = .ok (.iconst 1, 1) := by decide +kernel
theorem d_M_packs_39 : decode b_M_packs 39 = .ok (.iload_n 2, 1) := by decide +kernel
theorem d_M_packs_40 : decode b_M_packs 40 = .ok (.ishl, 1) := by decide +kernel
theorem d_M_packs_41 : decode b_M_packs 41 = .ok (.ixor, 1) := by decide +kernel
theorem d_M_packs_42 : decode b_M_packs 42 = .ok (.iastore, 1) := by decide +kernel
theorem d_M_packs_43 : decode b_M_packs 43 = .ok (.aload_n 0, 1) := by decide +kernel
theorem d_M_packs_44 : decode b_M_packs 44 = .ok (.getfield 19, 3) := by decide +kernel
theorem d_M_packs_47 : decode b_M_packs 47 = .ok (.iload_n 1, 1) := by decide +kernel
theorem d_M_packs_48 : decode b_M_packs 48 = .ok (.iaload, 1) := by decide +kernel
theorem d_M_packs_49 : decode b_M_packs 49 = .ok (.iload_n 2, 1) := by decide +kernel
theorem d_M_packs_50 : decode b_M_packs 50 = .ok (.ishr, 1) := by decide +kernel
theorem d_M_packs_51 : decode b_M_packs 51 = .ok (.iconst 1, 1) := by decide +kernel
theorem d_M_packs_52 : decode b_M_packs 52 = .ok (.iand, 1) := by decide +kernel
theorem d_M_packs_53 : decode b_M_packs 53 = .ok (.ireturn, 1) := by decide +kernel
theorem d_M_plan_0 : decode b_M_plan 0 = .ok (.aload_n 0, 1) := by decide +kernel
theorem d_M_plan_1 : decode b_M_plan 1 = .ok (.iconst 0, 1) := by decide +kernel
theorem d_M_plan_2 : decode b_M_plan 2 = .ok (.putfield 67, 3) := by decide +kernel
theorem d_M_plan_5 : decode b_M_plan 5 = .ok (.iconst (-1), 1) := by decide +kernel
theorem d_M_plan_6 : decode b_M_plan 6 = .ok (.istore_n 1, 1) := by decide +kernel
theorem d_M_plan_7 : decode b_M_plan 7 = .ok (.iconst 0, 1) := by decide +kernel
theorem d_M_plan_8 : decode b_M_plan 8 = .ok (.istore_n 2, 1) := by decide +kernel
theorem d_M_plan_9 : decode b_M_plan 9 = .ok (.iload_n 2, 1) := by decide +kernel
theorem d_M_plan_10 : decode b_M_plan 10 = .ok (.bipush 16, 2) := by decide +kernel
theorem d_M_plan_12 : decode b_M_plan 12 = .ok (.if_icmp .ge 162, 3) := by decide +kernel
theorem d_M_plan_15 : decode b_M_plan 15 = .ok (.iconst 0, 1) := by decide +kernel
theorem d_M_plan_16 : decode b_M_plan 16 = .ok (.istore_n 3, 1) := by decide +kernel
theorem d_M_plan_17 : decode b_M_plan 17 = .ok (.iconst 0, 1) := by decide +kernel
theorem d_M_plan_18 : decode b_M_plan 18 = .ok (.istore 4, 2) := by decide +kernel
theorem d_M_plan_20 : decode b_M_plan 20 = .ok (.iload 4, 2) := by decide +kernel
theorem d_M_plan_22 : decode b_M_plan 22 = .ok (.iconst 4, 1) := by decide +kernel
theorem d_M_plan_23 : decode b_M_plan 23 = .ok (.if_icmp .ge 32, 3) := by decide +kernel
theorem d_M_plan_26 : decode b_M_plan 26 = .ok (.iload_n 3, 1) := by decide +kernel
theorem d_M_plan_27 : decode b_M_plan 27 = .ok (.iload_n 2, 1) := by decide +kernel
theorem d_M_plan_28 : decode b_M_plan 28 = .ok (.iload 4, 2) := by decide +kernel
theorem d_M_plan_30 : decode b_M_plan 30 = .ok (.invokestatic 85, 3) := by decide +kernel
theorem d_M_plan_33 : decode b_M_plan 33 = .ok (.ifCond .eq 13, 3) := by decide +kernel
theorem d_M_plan_36 : decode b_M_plan 36 = .ok (.aload_n 0, 1) := by decide +kernel
theorem d_M_plan_37 : decode b_M_plan 37 = .ok (.getfield 25, 3) := by decide +kernel
theorem d_M_plan_40 : decode b_M_plan 40 = .ok (.iload 4, 2) := by decide +kernel
theorem d_M_plan_42 : decode b_M_plan 42 = .ok (.iaload, 1) := by decide +kernel
theorem d_M_plan_43 : decode b_M_plan 43 = .ok (.goto 4, 3) := by decide +kernel
theorem d_M_plan_46 : decode b_M_plan 46 = .ok (.iconst 0, 1) := by decide +kernel
theorem d_M_plan_47 : decode b_M_plan 47 = .ok (.iadd, 1) := by decide +kernel
theorem d_M_plan_48 : decode b_M_plan 48 = .ok (.istore_n 3, 1) := by decide +kernel
theorem d_M_plan_49 : decode b_M_plan 49 = .ok (.iinc 4 1, 3) := by decide +kernel
theorem d_M_plan_52 : decode b_M_plan 52 = .ok (.goto (-32), 3) := by decide +kernel
theorem d_M_plan_55 : decode b_M_plan 55 = .ok (.iconst 0, 1) := by decide +kernel
theorem d_M_plan_56 : decode b_M_plan 56 = .ok (.istore 4, 2) := by decide +kernel
theorem d_M_plan_58 : decode b_M_plan 58 = .ok (.iload 4, 2) := by decide +kernel
theorem d_M_plan_60 : decode b_M_plan 60 = .ok (.aload_n 0, 1) := by decide +kernel
theorem d_M_plan_61 : decode b_M_plan 61 = .ok (.getfield 78, 3) := by decide +kernel
theorem d_M_plan_64 : decode b_M_plan 64 = .ok (.if_icmp .ge 89, 3) := by decide +kernel
theorem d_M_plan_67 : decode b_M_plan 67 = .ok (.aload_n 0, 1) := by decide +kernel
theorem d_M_plan_68 : decode b_M_plan 68 = .ok (.iload 4, 2) := by decide +kernel
theorem d_M_plan_70 : decode b_M_plan 70 = .ok (.invokevirtual 153, 3) := by decide +kernel
theorem d_M_plan_73 : decode b_M_plan 73 = .ok (.istore 5, 2) := by decide +kernel
theorem d_M_plan_75 : decode b_M_plan 75 = .ok (.iconst 0, 1) := by decide +kernel
theorem d_M_plan_76 : decode b_M_plan 76 = .ok (.istore 6, 2) := by decide +kernel
theorem d_M_plan_78 : decode b_M_plan 78 = .ok (.iconst 0, 1) := by decide +kernel
theorem d_M_plan_79 : decode b_M_plan 79 = .ok (.istore 7, 2) := by decide +kernel
theorem d_M_plan_81 : decode b_M_plan 81 = .ok (.iload 7, 2) := by decide +kernel
theorem d_M_plan_83 : decode b_M_plan 83 = .ok (.iconst 4, 1) := by decide +kernel
theorem d_M_plan_84 : decode b_M_plan 84 = .ok (.if_icmp .ge 50, 3) := by decide +kernel
theorem d_M_plan_87 : decode b_M_plan 87 = .ok (.iload 6, 2) := by decide +kernel
theorem d_M_plan_89 : decode b_M_plan 89 = .ok (.ifCond .ne 32, 3) := by decide +kernel
theorem d_M_plan_92 : decode b_M_plan 92 = .ok (.iload 5, 2) := by decide +kernel
theorem d_M_plan_94 : decode b_M_plan 94 = .ok (.ifCond .lt 31, 3) := by decide +kernel
theorem d_M_plan_97 : decode b_M_plan 97 = .ok (.iload_n 2, 1) := by decide +kernel
theorem d_M_plan_98 : decode b_M_plan 98 = .ok (.iload 7, 2) := by decide +kernel
theorem d_M_plan_100 : decode b_M_plan 100 = .ok (.invokestatic 85, 3) := by decide +kernel
theorem d_M_plan_103 : decode b_M_plan 103 = .ok (.ifCond .ne 22, 3) := by decide +kernel
theorem d_M_plan_106 : decode b_M_plan 106 = .ok (.aload_n 0, 1) := by decide +kernel
theorem d_M_plan_107 : decode b_M_plan 107 = .ok (.getfield 22, 3) := by decide +kernel
theorem d_M_plan_110 : decode b_M_plan 110 = .ok (.iload 7, 2) := by decide +kernel
theorem d_M_plan_112 : decode b_M_plan 112 = .ok (.iaload, 1) := by decide +kernel
theorem d_M_plan_113 : decode b_M_plan 113 = .ok (.iload 5, 2) := by decide +kernel
theorem d_M_plan_115 : decode b_M_plan 115 = .ok (.invokestatic 85, 3) := by decide +kernel
theorem d_M_plan_118 : decode b_M_plan 118 = .ok (.ifCond .eq 7, 3) := by decide +kernel
theorem d_M_plan_121 : decode b_M_plan 121 = .ok (.iconst 1, 1) := by decide +kernel
theorem d_M_plan_122 : decode b_M_plan 122 = .ok (.goto 4, 3) := by decide +kernel
theorem d_M_plan_125 : decode b_M_plan 125 = .ok (.iconst 0, 1) := by decide +kernel
theorem d_M_plan_126 : decode b_M_plan 126 = .ok (.istore 6, 2) := by decide +kernel
theorem d_M_plan_128 : decode b_M_plan 128 = .ok (.iinc 7 1, 3) := by decide +kernel
theorem d_M_plan_131 : decode b_M_plan 131 = .ok (.goto (-50), 3) := by decide +kernel
theorem d_M_plan_134 : decode b_M_plan 134 = .ok (.iload_n 3, 1) := by decide +kernel
theorem d_M_plan_135 : decode b_M_plan 135 = .ok (.iload 6, 2) := by decide +kernel
theorem d_M_plan_137 : decode b_M_plan 137 = .ok (.ifCond .eq 7, 3) := by decide +kernel
theorem d_M_plan_140 : decode b_M_plan 140 = .ok (.iconst 1, 1) := by decide +kernel
theorem d_M_plan_141 : decode b_M_plan 141 = .ok (.goto 4, 3) := by decide +kernel
theorem d_M_plan_144 : decode b_M_plan 144 = .ok (.iconst 0, 1) := by decide +kernel
theorem d_M_plan_145 : decode b_M_plan 145 = .ok (.iadd, 1) := by decide +kernel
theorem d_M_plan_146 : decode b_M_plan 146 = .ok (.istore_n 3, 1) := by decide +kernel
theorem d_M_plan_147 : decode b_M_plan 147 = .ok (.iinc 4 1, 3) := by decide +kernel
theorem d_M_plan_150 : decode b_M_plan 150 = .ok (.goto (-92), 3) := by decide +kernel
theorem d_M_plan_153 : decode b_M_plan 153 = .ok (.iload_n 1, 1) := by decide +kernel
theorem d_M_plan_154 : decode b_M_plan 154 = .ok (.ifCond .lt 8, 3) := by decide +kernel
theorem d_M_plan_157 : decode b_M_plan 157 = .ok (.iload_n 3, 1) := by decide +kernel
theorem d_M_plan_158 : decode b_M_plan 158 = .ok (.iload_n 1, 1) := by decide +kernel
theorem d_M_plan_159 : decode b_M_plan 159 = .ok (.if_icmp .ge 7, 3) := by decide +kernel
theorem d_M_plan_162 : decode b_M_plan 162 = .ok (.iload_n 3, 1) := by decide +kernel
theorem d_M_plan_163 : decode b_M_plan 163 = .ok (.goto 4, 3) := by decide +kernel
theorem d_M_plan_166 : decode b_M_plan 166 = .ok (.iload_n 1, 1) := by decide +kernel
theorem d_M_plan_167 : decode b_M_plan 167 = .ok (.istore_n 1, 1) := by decide +kernel
theorem d_M_plan_168 : decode b_M_plan 168 = .ok (.iinc 2 1, 3) := by decide +kernel
theorem d_M_plan_171 : decode b_M_plan 171 = .ok (.goto (-162), 3) := by decide +kernel
theorem d_M_plan_174 : decode b_M_plan 174 = .ok (.iload_n 1, 1) := by decide +kernel
theorem d_M_plan_175 : decode b_M_plan 175 = .ok (.ireturn, 1) := by decide +kernel
theorem d_M_restore_0 : decode b_M_restore 0 = .ok (.aload_n 0, 1) := by decide +kernel
theorem d_M_restore_1 : decode b_M_restore 1 = .ok (.iconst 0, 1) := by decide +kernel
theorem d_M_restore_2 : decode b_M_restore 2 = .ok (.putfield 67, 3) := by decide +kernel
theorem d_M_restore_5 : decode b_M_restore 5 = .ok (.aload_n 0, 1) := by decide +kernel
theorem d_M_restore_6 : decode b_M_restore 6 = .ok (.getfield 193, 3) := by decide +kernel
theorem d_M_restore_9 : decode b_M_restore 9 = .ok (.ifCond .ne 10, 3) := by decide +kernel
theorem d_M_restore_12 : decode b_M_restore 12 = .ok (.aload_n 0, 1) := by decide +kernel
theorem d_M_restore_13 : decode b_M_restore 13 = .ok (.bipush (-3), 2) := by decide +kernel
theorem d_M_restore_15 : decode b_M_restore 15 = .ok (.invokevirtual 108, 3) := by decide +kernel
theorem d_M_restore_18 : decode b_M_restore 18 = .ok (.ireturn, 1) := by decide +kernel
theorem d_M_restore_19 : decode b_M_restore 19 = .ok (.aload_n 0, 1) := by decide +kernel
theorem d_M_restore_20 : decode b_M_restore 20 = .ok (.aload_n 0, 1) := by decide +kernel
theorem d_M_restore_21 : decode b_M_restore 21 = .ok (.getfield 46, 3) := by decide +kernel
theorem d_M_restore_24 : decode b_M_restore 24 = .ok (.iconst 0, 1) := by decide +kernel
theorem d_M_restore_25 : decode b_M_restore 25 = .ok (.invokevirtual 189, 3) := by decide +kernel
theorem d_M_restore_28 : decode b_M_restore 28 = .ok (.aload_n 0, 1) := by decide +kernel
theorem d_M_restore_29 : decode b_M_restore 29 = .ok (.iconst 0, 1) := by decide +kernel
theorem d_M_restore_30 : decode b_M_restore 30 = .ok (.putfield 174, 3) := by decide +kernel
theorem d_M_restore_33 : decode b_M_restore 33 = .ok (.aload_n 0, 1) := by decide +kernel
theorem d_M_restore_34 : decode b_M_restore 34 = .ok (.getfield 105, 3) := by decide +kernel
theorem d_M_restore_37 : decode b_M_restore 37 = .ok (.ireturn, 1) := by decide +kernel
theorem d_M_rope_0 : decode b_M_rope 0 = .ok (.aload_n 0, 1) := by decide +kernel
theorem d_M_rope_1 : decode b_M_rope 1 = .ok (.iconst 0, 1) := by decide +kernel
theorem d_M_rope_2 : decode b_M_rope 2 = .ok (.putfield 67, 3) := by decide +kernel
theorem d_M_rope_5 : decode b_M_rope 5 = .ok (.iconst 0, 1) := by decide +kernel
theorem d_M_rope_6 : decode b_M_rope 6 = .ok (.istore_n 1, 1) := by decide +kernel
theorem d_M_rope_7 : decode b_M_rope 7 = .ok (.iload_n 1, 1) := by decide +kernel
theorem d_M_rope_8 : decode b_M_rope 8 = .ok (.aload_n 0, 1) := by decide +kernel
theorem d_M_rope_9 : decode b_M_rope 9 = .ok (.getfield 78, 3) := by decide +kernel
theorem d_M_rope_12 : decode b_M_rope 12 = .ok (.if_icmp .ge 50, 3) := by decide +kernel
theorem d_M_rope_15 : decode b_M_rope 15 = .ok (.iconst 0, 1) := by decide +kernel
theorem d_M_rope_16 : decode b_M_rope 16 = .ok (.istore_n 2, 1) := by decide +kernel
theorem d_M_rope_17 : decode b_M_rope 17 = .ok (.iload_n 2, 1) := by decide +kernel
theorem d_M_rope_18 : decode b_M_rope 18 = .ok (.aload_n 0, 1) := by decide +kernel
theorem d_M_rope_19 : decode b_M_rope 19 = .ok (.getfield 71, 3) := by decide +kernel
theorem d_M_rope_22 : decode b_M_rope 22 = .ok (.if_icmp .ge 34, 3) := by decide +kernel
theorem d_M_rope_25 : decode b_M_rope 25 = .ok (.aload_n 0, 1) := by decide +kernel
theorem d_M_rope_26 : decode b_M_rope 26 = .ok (.getfield 19, 3) := by decide +kernel
theorem d_M_rope_29 : decode b_M_rope 29 = .ok (.iload_n 1, 1) := by decide +kernel
theorem d_M_rope_30 : decode b_M_rope 30 = .ok (.iaload, 1) := by decide +kernel
theorem d_M_rope_31 : decode b_M_rope 31 = .ok (.iload_n 2, 1) := by decide +kernel
theorem d_M_rope_32 : decode b_M_rope 32 = .ok (.invokestatic 85, 3) := by decide +kernel
theorem d_M_rope_35 : decode b_M_rope 35 = .ok (.ifCond .eq 15, 3) := by decide +kernel
theorem d_M_rope_38 : decode b_M_rope 38 = .ok (.aload_n 0, 1) := by decide +kernel
theorem d_M_rope_39 : decode b_M_rope 39 = .ok (.getfield 13, 3) := by decide +kernel
theorem d_M_rope_42 : decode b_M_rope 42 = .ok (.iload_n 2, 1) := by decide +kernel
theorem d_M_rope_43 : decode b_M_rope 43 = .ok (.iaload, 1) := by decide +kernel
theorem d_M_rope_44 : decode b_M_rope 44 = .ok (.iconst 3, 1) := by decide +kernel
theorem d_M_rope_45 : decode b_M_rope 45 = .ok (.if_icmp .ne 5, 3) := by decide +kernel
theorem d_M_rope_48 : decode b_M_rope 48 = .ok (.iload_n 1, 1) := by decide +kernel
theorem d_M_rope_49 : decode b_M_rope 49 = .ok (.ireturn, 1) := by decide +kernel
theorem d_M_rope_50 : decode b_M_rope 50 = .ok (.iinc 2 1, 3) := by decide +kernel
theorem d_M_rope_53 : decode b_M_rope 53 = .ok (.goto (-36), 3) := by decide +kernel
theorem d_M_rope_56 : decode b_M_rope 56 = .ok (.iinc 1 1, 3) := by decide +kernel
theorem d_M_rope_59 : decode b_M_rope 59 = .ok (.goto (-52), 3) := by decide +kernel
theorem d_M_rope_62 : decode b_M_rope 62 = .ok (.bipush (-9), 2) := by decide +kernel
theorem d_M_rope_64 : decode b_M_rope 64 = .ok (.ireturn, 1) := by decide +kernel
theorem d_M_row_0 : decode b_M_row 0 = .ok (.aload_n 0, 1) := by decide +kernel
theorem d_M_row_1 : decode b_M_row 1 = .ok (.iconst 0, 1) := by decide +kernel
theorem d_M_row_2 : decode b_M_row 2 = .ok (.putfield 67, 3) := by decide +kernel
theorem d_M_row_5 : decode b_M_row 5 = .ok (.iload_n 1, 1) := by decide +kernel
theorem d_M_row_6 : decode b_M_row 6 = .ok (.ifCond .ge 10, 3) := by decide +kernel
theorem d_M_row_9 : decode b_M_row 9 = .ok (.aload_n 0, 1) := by decide +kernel
theorem d_M_row_10 : decode b_M_row 10 = .ok (.bipush (-4), 2) := by decide +kernel
theorem d_M_row_12 : decode b_M_row 12 = .ok (.invokevirtual 108, 3) := by decide +kernel
theorem d_M_row_15 : decode b_M_row 15 = .ok (.ireturn, 1) := by decide +kernel
theorem d_M_row_16 : decode b_M_row 16 = .ok (.iload_n 1, 1) := by decide +kernel
theorem d_M_row_17 : decode b_M_row 17 = .ok (.bipush 99, 2) := by decide +kernel
theorem d_M_row_19 : decode b_M_row 19 = .ok (.if_icmp .gt 12, 3) := by decide +kernel
theorem d_M_row_22 : decode b_M_row 22 = .ok (.aload_n 0, 1) := by decide +kernel
theorem d_M_row_23 : decode b_M_row 23 = .ok (.getfield 252, 3) := by decide +kernel
theorem d_M_row_26 : decode b_M_row 26 = .ok (.bipush 12, 2) := by decide +kernel
theorem d_M_row_28 : decode b_M_row 28 = .ok (.if_icmp .ne 10, 3) := by decide +kernel
theorem d_M_row_31 : decode b_M_row 31 = .ok (.aload_n 0, 1) := by decide +kernel
theorem d_M_row_32 : decode b_M_row 32 = .ok (.bipush (-6), 2) := by decide +kernel
theorem d_M_row_34 : decode b_M_row 34 = .ok (.invokevirtual 108, 3) := by decide +kernel
theorem d_M_row_37 : decode b_M_row 37 = .ok (.ireturn, 1) := by decide +kernel
theorem d_M_row_38 : decode b_M_row 38 = .ok (.aload_n 0, 1) := by decide +kernel
theorem d_M_row_39 : decode b_M_row 39 = .ok (.getfield 64, 3) := by decide +kernel
theorem d_M_row_42 : decode b_M_row 42 = .ok (.aload_n 0, 1) := by decide +kernel
theorem d_M_row_43 : decode b_M_row 43 = .ok (.getfield 252, 3) := by decide +kernel
theorem d_M_row_46 : decode b_M_row 46 = .ok (.iload_n 1, 1) := by decide +kernel
theorem d_M_row_47 : decode b_M_row 47 = .ok (.iastore, 1) := by decide +kernel
theorem d_M_row_48 : decode b_M_row 48 = .ok (.aload_n 0, 1) := by decide +kernel
theorem d_M_row_49 : decode b_M_row 49 = .ok (.dup, 1) := by decide +kernel
theorem d_M_row_50 : decode b_M_row 50 = .ok (.getfield 252, 3) := by decide +kernel
theorem d_M_row_53 : decode b_M_row 53 = .ok (.iconst 1, 1) := by decide +kernel
theorem d_M_row_54 : decode b_M_row 54 = .ok (.iadd, 1) := by decide +kernel
theorem d_M_row_55 : decode b_M_row 55 = .ok (.putfield 252, 3) := by decide +kernel
theorem d_M_row_58 : decode b_M_row 58 = .ok (.aload_n 0, 1) := by decide +kernel
theorem d_M_row_59 : decode b_M_row 59 = .ok (.getfield 252, 3) := by decide +kernel
theorem d_M_row_62 : decode b_M_row 62 = .ok (.ireturn, 1) := by decide +kernel
theorem d_M_smallest_0 : decode b_M_smallest 0 = .ok (.aload_n 0, 1) := by decide +kernel
theorem d_M_smallest_1 : decode b_M_smallest 1 = .ok (.iconst 0, 1) := by decide +kernel
theorem d_M_smallest_2 : decode b_M_smallest 2 = .ok (.putfield 67, 3) := by decide +kernel
theorem d_M_smallest_5 : decode b_M_smallest 5 = .ok (.iload_n 1, 1) := by decide +kernel
theorem d_M_smallest_6 : decode b_M_smallest 6 = .ok (.iconst 1, 1) := by decide +kernel
theorem d_M_smallest_7 : decode b_M_smallest 7 = .ok (.bipush 63, 2) := by decide +kernel
theorem d_M_smallest_9 : decode b_M_smallest 9 = .ok (.invokestatic 208, 3) := by decide +kernel
theorem d_M_smallest_12 : decode b_M_smallest 12 = .ok (.ifCond .ge 15, 3) := by decide +kernel
theorem d_M_smallest_15 : decode b_M_smallest 15 = .ok (.aload_n 0, 1) := by decide +kernel
theorem d_M_smallest_16 : decode b_M_smallest 16 = .ok (.iload_n 1, 1) := by decide +kernel
theorem d_M_smallest_17 : decode b_M_smallest 17 = .ok (.iconst 1, 1) := by decide +kernel
theorem d_M_smallest_18 : decode b_M_smallest 18 = .ok (.bipush 63, 2) := by decide +kernel
theorem d_M_smallest_20 : decode b_M_smallest 20 = .ok (.invokestatic 208, 3) := by decide +kernel
theorem d_M_smallest_23 : decode b_M_smallest 23 = .ok (.invokevirtual 108, 3) := by decide +kernel
theorem d_M_smallest_26 : decode b_M_smallest 26 = .ok (.ireturn, 1) := by decide +kernel
theorem d_M_smallest_27 : decode b_M_smallest 27 = .ok (.bipush (-9), 2) := by decide +kernel
theorem d_M_smallest_29 : decode b_M_smallest 29 = .ok (.istore_n 2, 1) := by decide +kernel
theorem d_M_smallest_30 : decode b_M_smallest 30 = .ok (.iconst 0, 1) := by decide +kernel
theorem d_M_smallest_31 : decode b_M_smallest 31 = .ok (.istore_n 3, 1) := by decide +kernel
theorem d_M_smallest_32 : decode b_M_smallest 32 = .ok (.iload_n 3, 1) := by decide +kernel
theorem d_M_smallest_33 : decode b_M_smallest 33 = .ok (.iconst 1, 1) := by decide +kernel
theorem d_M_smallest_34 : decode b_M_smallest 34 = .ok (.aload_n 0, 1) := by decide +kernel
theorem d_M_smallest_35 : decode b_M_smallest 35 = .ok (.getfield 71, 3) := by decide +kernel
theorem d_M_smallest_38 : decode b_M_smallest 38 = .ok (.ishl, 1) := by decide +kernel
theorem d_M_smallest_39 : decode b_M_smallest 39 = .ok (.if_icmp .ge 51, 3) := by decide +kernel
theorem d_M_smallest_42 : decode b_M_smallest 42 = .ok (.iload_n 2, 1) := by decide +kernel
theorem d_M_smallest_43 : decode b_M_smallest 43 = .ok (.ifCond .lt 14, 3) := by decide +kernel
theorem d_M_smallest_46 : decode b_M_smallest 46 = .ok (.iload_n 3, 1) := by decide +kernel
theorem d_M_smallest_47 : decode b_M_smallest 47 = .ok (.invokestatic 231, 3) := by decide +kernel
theorem d_M_smallest_50 : decode b_M_smallest 50 = .ok (.iload_n 2, 1) := by decide +kernel
theorem d_M_smallest_51 : decode b_M_smallest 51 = .ok (.invokestatic 231, 3) := by decide +kernel
theorem d_M_smallest_54 : decode b_M_smallest 54 = .ok (.if_icmp .ge 7, 3) := by decide +kernel
theorem d_M_smallest_57 : decode b_M_smallest 57 = .ok (.iconst 1, 1) := by decide +kernel
theorem d_M_smallest_58 : decode b_M_smallest 58 = .ok (.goto 4, 3) := by decide +kernel
theorem d_M_smallest_61 : decode b_M_smallest 61 = .ok (.iconst 0, 1) := by decide +kernel
theorem d_M_smallest_62 : decode b_M_smallest 62 = .ok (.istore 4, 2) := by decide +kernel
theorem d_M_smallest_64 : decode b_M_smallest 64 = .ok (.iload 4, 2) := by decide +kernel
theorem d_M_smallest_66 : decode b_M_smallest 66 = .ok (.ifCond .eq 16, 3) := by decide +kernel
theorem d_M_smallest_69 : decode b_M_smallest 69 = .ok (.aload_n 0, 1) := by decide +kernel
theorem d_M_smallest_70 : decode b_M_smallest 70 = .ok (.iload_n 3, 1) := by decide +kernel
theorem d_M_smallest_71 : decode b_M_smallest 71 = .ok (.invokevirtual 99, 3) := by decide +kernel
theorem d_M_smallest_74 : decode b_M_smallest 74 = .ok (.iload_n 1, 1) := by decide +kernel
theorem d_M_smallest_75 : decode b_M_smallest 75 = .ok (.if_icmp .ne 7, 3) := by decide +kernel
theorem d_M_smallest_78 : decode b_M_smallest 78 = .ok (.iload_n 3, 1) := by decide +kernel
theorem d_M_smallest_79 : decode b_M_smallest 79 = .ok (.goto 4, 3) := by decide +kernel
theorem d_M_smallest_82 : decode b_M_smallest 82 = .ok (.iload_n 2, 1) := by decide +kernel
theorem d_M_smallest_83 : decode b_M_smallest 83 = .ok (.istore_n 2, 1) := by decide +kernel
theorem d_M_smallest_84 : decode b_M_smallest 84 = .ok (.iinc 3 1, 3) := by decide +kernel
theorem d_M_smallest_87 : decode b_M_smallest 87 = .ok (.goto (-55), 3) := by decide +kernel
theorem d_M_smallest_90 : decode b_M_smallest 90 = .ok (.iload_n 2, 1) := by decide +kernel
theorem d_M_smallest_91 : decode b_M_smallest 91 = .ok (.ireturn, 1) := by decide +kernel
theorem d_M_spare_0 : decode b_M_spare 0 = .ok (.aload_n 0, 1) := by decide +kernel
theorem d_M_spare_1 : decode b_M_spare 1 = .ok (.iconst 0, 1) := by decide +kernel
theorem d_M_spare_2 : decode b_M_spare 2 = .ok (.putfield 67, 3) := by decide +kernel
theorem d_M_spare_5 : decode b_M_spare 5 = .ok (.aload_n 0, 1) := by decide +kernel
theorem d_M_spare_6 : decode b_M_spare 6 = .ok (.bipush (-9), 2) := by decide +kernel
theorem d_M_spare_8 : decode b_M_spare 8 = .ok (.invokevirtual 237, 3) := by decide +kernel
theorem d_M_spare_11 : decode b_M_spare 11 = .ok (.istore_n 1, 1) := by decide +kernel
theorem d_M_spare_12 : decode b_M_spare 12 = .ok (.iconst 0, 1) := by decide +kernel
theorem d_M_spare_13 : decode b_M_spare 13 = .ok (.istore_n 2, 1) := by decide +kernel
theorem d_M_spare_14 : decode b_M_spare 14 = .ok (.iconst 0, 1) := by decide +kernel
theorem d_M_spare_15 : decode b_M_spare 15 = .ok (.istore_n 3, 1) := by decide +kernel
theorem d_M_spare_16 : decode b_M_spare 16 = .ok (.iload_n 3, 1) := by decide +kernel
theorem d_M_spare_17 : decode b_M_spare 17 = .ok (.aload_n 0, 1) := by decide +kernel
theorem d_M_spare_18 : decode b_M_spare 18 = .ok (.getfield 78, 3) := by decide +kernel
theorem d_M_spare_21 : decode b_M_spare 21 = .ok (.if_icmp .ge 28, 3) := by decide +kernel
theorem d_M_spare_24 : decode b_M_spare 24 = .ok (.iload_n 2, 1) := by decide +kernel
theorem d_M_spare_25 : decode b_M_spare 25 = .ok (.aload_n 0, 1) := by decide +kernel
theorem d_M_spare_26 : decode b_M_spare 26 = .ok (.iload_n 3, 1) := by decide +kernel
theorem d_M_spare_27 : decode b_M_spare 27 = .ok (.invokevirtual 237, 3) := by decide +kernel
theorem d_M_spare_30 : decode b_M_spare 30 = .ok (.iload_n 1, 1) := by decide +kernel
theorem d_M_spare_31 : decode b_M_spare 31 = .ok (.if_icmp .ne 9, 3) := by decide +kernel
theorem d_M_spare_34 : decode b_M_spare 34 = .ok (.iconst 1, 1) := by decide +kernel
theorem d_M_spare_35 : decode b_M_spare 35 = .ok (.iload_n 3, 1) := by decide +kernel
theorem d_M_spare_36 : decode b_M_spare 36 = .ok (.ishl, 1) := by decide +kernel
theorem d_M_spare_37 : decode b_M_spare 37 = .ok (.goto 4, 3) := by decide +kernel
theorem d_M_spare_40 : decode b_M_spare 40 = .ok (.iconst 0, 1) := by decide +kernel
theorem d_M_spare_41 : decode b_M_spare 41 = .ok (.ior, 1) := by decide +kernel
theorem d_M_spare_42 : decode b_M_spare 42 = .ok (.istore_n 2, 1) := by decide +kernel
theorem d_M_spare_43 : decode b_M_spare 43 = .ok (.iinc 3 1, 3) := by decide +kernel
theorem d_M_spare_46 : decode b_M_spare 46 = .ok (.goto (-30), 3) := by decide +kernel
theorem d_M_spare_49 : decode b_M_spare 49 = .ok (.iload_n 2, 1) := by decide +kernel
theorem d_M_spare_50 : decode b_M_spare 50 = .ok (.ireturn, 1) := by decide +kernel
theorem d_M_spends_0 : decode b_M_spends 0 = .ok (.aload_n 0, 1) := by decide +kernel
theorem d_M_spends_1 : decode b_M_spends 1 = .ok (.iconst 0, 1) := by decide +kernel
theorem d_M_spends_2 : decode b_M_spends 2 = .ok (.putfield 67, 3) := by decide +kernel
theorem d_M_spends_5 : decode b_M_spends 5 = .ok (.aload_n 0, 1) := by decide +kernel
theorem d_M_spends_6 : decode b_M_spends 6 = .ok (.iload_n 1, 1) := by decide +kernel
theorem d_M_spends_7 : decode b_M_spends 7 = .ok (.invokevirtual 150, 3) := by decide +kernel
theorem d_M_spends_10 : decode b_M_spends 10 = .ok (.ifCond .eq 21, 3) := by decide +kernel
theorem d_M_spends_13 : decode b_M_spends 13 = .ok (.iload_n 2, 1) := by decide +kernel
theorem d_M_spends_14 : decode b_M_spends 14 = .ok (.bipush 9, 2) := by decide +kernel
theorem d_M_spends_16 : decode b_M_spends 16 = .ok (.if_icmp .eq 21, 3) := by decide +kernel
theorem d_M_spends_19 : decode b_M_spends 19 = .ok (.iload_n 2, 1) := by decide +kernel
theorem d_M_spends_20 : decode b_M_spends 20 = .ok (.i2l, 1) := by decide +kernel
theorem d_M_spends_21 : decode b_M_spends 21 = .ok (.lconst 0, 1) := by decide +kernel
theorem d_M_spends_22 : decode b_M_spends 22 = .ok (.ldc2_w 206, 3) := by decide +kernel
theorem d_M_spends_25 : decode b_M_spends 25 = .ok (.invokestatic 74, 3) := by decide +kernel
theorem d_M_spends_28 : decode b_M_spends 28 = .ok (.ifCond .ne 9, 3) := by decide +kernel
theorem d_M_spends_31 : decode b_M_spends 31 = .ok (.aload_n 0, 1) := by decide +kernel
theorem d_M_spends_32 : decode b_M_spends 32 = .ok (.iconst (-1), 1) := by decide +kernel
theorem d_M_spends_33 : decode b_M_spends 33 = .ok (.invokevirtual 108, 3) := by decide +kernel
theorem d_M_spends_36 : decode b_M_spends 36 = .ok (.ireturn, 1) := by decide +kernel
theorem d_M_spends_37 : decode b_M_spends 37 = .ok (.aload_n 0, 1) := by decide +kernel
theorem d_M_spends_38 : decode b_M_spends 38 = .ok (.invokevirtual 212, 3) := by decide +kernel
theorem d_M_spends_41 : decode b_M_spends 41 = .ok (.aload_n 0, 1) := by decide +kernel
theorem d_M_spends_42 : decode b_M_spends 42 = .ok (.iload_n 2, 1) := by decide +kernel
theorem d_M_spends_43 : decode b_M_spends 43 = .ok (.bipush 9, 2) := by decide +kernel
theorem d_M_spends_45 : decode b_M_spends 45 = .ok (.if_icmp .ne 11, 3) := by decide +kernel
theorem d_M_spends_48 : decode b_M_spends 48 = .ok (.aload_n 0, 1) := by decide +kernel
theorem d_M_spends_49 : decode b_M_spends 49 = .ok (.iload_n 1, 1) := by decide +kernel
theorem d_M_spends_50 : decode b_M_spends 50 = .ok (.invokevirtual 153, 3) := by decide +kernel
theorem d_M_spends_53 : decode b_M_spends 53 = .ok (.goto 4, 3) := by decide +kernel
theorem d_M_spends_56 : decode b_M_spends 56 = .ok (.iload_n 2, 1) := by decide +kernel
theorem d_M_spends_57 : decode b_M_spends 57 = .ok (.invokevirtual 156, 3) := by decide +kernel
theorem d_M_spends_60 : decode b_M_spends 60 = .ok (.ireturn, 1) := by decide +kernel
theorem d_M_sure_0 : decode b_M_sure 0 = .ok (.aload_n 0, 1) := by decide +kernel
theorem d_M_sure_1 : decode b_M_sure 1 = .ok (.iconst 0, 1) := by decide +kernel
theorem d_M_sure_2 : decode b_M_sure 2 = .ok (.putfield 67, 3) := by decide +kernel
theorem d_M_sure_5 : decode b_M_sure 5 = .ok (.iload_n 1, 1) := by decide +kernel
theorem d_M_sure_6 : decode b_M_sure 6 = .ok (.i2l, 1) := by decide +kernel
theorem d_M_sure_7 : decode b_M_sure 7 = .ok (.lconst 0, 1) := by decide +kernel
theorem d_M_sure_8 : decode b_M_sure 8 = .ok (.lconst 1, 1) := by decide +kernel
theorem d_M_sure_9 : decode b_M_sure 9 = .ok (.invokestatic 74, 3) := by decide +kernel
theorem d_M_sure_12 : decode b_M_sure 12 = .ok (.ifCond .ne 10, 3) := by decide +kernel
theorem d_M_sure_15 : decode b_M_sure 15 = .ok (.aload_n 0, 1) := by decide +kernel
theorem d_M_sure_16 : decode b_M_sure 16 = .ok (.bipush (-2), 2) := by decide +kernel
theorem d_M_sure_18 : decode b_M_sure 18 = .ok (.invokevirtual 108, 3) := by decide +kernel
theorem d_M_sure_21 : decode b_M_sure 21 = .ok (.ireturn, 1) := by decide +kernel
theorem d_M_sure_22 : decode b_M_sure 22 = .ok (.iconst 0, 1) := by decide +kernel
theorem d_M_sure_23 : decode b_M_sure 23 = .ok (.istore_n 2, 1) := by decide +kernel
theorem d_M_sure_24 : decode b_M_sure 24 = .ok (.iconst 0, 1) := by decide +kernel
theorem d_M_sure_25 : decode b_M_sure 25 = .ok (.istore_n 3, 1) := by decide +kernel
theorem d_M_sure_26 : decode b_M_sure 26 = .ok (.iload_n 3, 1) := by decide +kernel
theorem d_M_sure_27 : decode b_M_sure 27 = .ok (.aload_n 0, 1) := by decide +kernel
theorem d_M_sure_28 : decode b_M_sure 28 = .ok (.getfield 78, 3) := by decide +kernel
theorem d_M_sure_31 : decode b_M_sure 31 = .ok (.if_icmp .ge 38, 3) := by decide +kernel
theorem d_M_sure_34 : decode b_M_sure 34 = .ok (.iload_n 2, 1) := by decide +kernel
theorem d_M_sure_35 : decode b_M_sure 35 = .ok (.aload_n 0, 1) := by decide +kernel
theorem d_M_sure_36 : decode b_M_sure 36 = .ok (.aload_n 0, 1) := by decide +kernel
theorem d_M_sure_37 : decode b_M_sure 37 = .ok (.getfield 19, 3) := by decide +kernel
theorem d_M_sure_40 : decode b_M_sure 40 = .ok (.iload_n 3, 1) := by decide +kernel
theorem d_M_sure_41 : decode b_M_sure 41 = .ok (.iaload, 1) := by decide +kernel
theorem d_M_sure_42 : decode b_M_sure 42 = .ok (.invokevirtual 99, 3) := by decide +kernel
theorem d_M_sure_45 : decode b_M_sure 45 = .ok (.invokestatic 231, 3) := by decide +kernel
theorem d_M_sure_48 : decode b_M_sure 48 = .ok (.iconst 1, 1) := by decide +kernel
theorem d_M_sure_49 : decode b_M_sure 49 = .ok (.iload_n 1, 1) := by decide +kernel
theorem d_M_sure_50 : decode b_M_sure 50 = .ok (.isub, 1) := by decide +kernel
theorem d_M_sure_51 : decode b_M_sure 51 = .ok (.if_icmp .ne 9, 3) := by decide +kernel
theorem d_M_sure_54 : decode b_M_sure 54 = .ok (.iconst 1, 1) := by decide +kernel
theorem d_M_sure_55 : decode b_M_sure 55 = .ok (.iload_n 3, 1) := by decide +kernel
theorem d_M_sure_56 : decode b_M_sure 56 = .ok (.ishl, 1) := by decide +kernel
theorem d_M_sure_57 : decode b_M_sure 57 = .ok (.goto 4, 3) := by decide +kernel
theorem d_M_sure_60 : decode b_M_sure 60 = .ok (.iconst 0, 1) := by decide +kernel
theorem d_M_sure_61 : decode b_M_sure 61 = .ok (.ior, 1) := by decide +kernel
theorem d_M_sure_62 : decode b_M_sure 62 = .ok (.istore_n 2, 1) := by decide +kernel
theorem d_M_sure_63 : decode b_M_sure 63 = .ok (.iinc 3 1, 3) := by decide +kernel
theorem d_M_sure_66 : decode b_M_sure 66 = .ok (.goto (-40), 3) := by decide +kernel
theorem d_M_sure_69 : decode b_M_sure 69 = .ok (.iload_n 2, 1) := by decide +kernel
theorem d_M_sure_70 : decode b_M_sure 70 = .ok (.ireturn, 1) := by decide +kernel
theorem d_M_swap_0 : decode b_M_swap 0 = .ok (.aload_n 0, 1) := by decide +kernel
theorem d_M_swap_1 : decode b_M_swap 1 = .ok (.iconst 0, 1) := by decide +kernel
theorem d_M_swap_2 : decode b_M_swap 2 = .ok (.putfield 67, 3) := by decide +kernel
theorem d_M_swap_5 : decode b_M_swap 5 = .ok (.aload_n 0, 1) := by decide +kernel
theorem d_M_swap_6 : decode b_M_swap 6 = .ok (.invokevirtual 262, 3) := by decide +kernel
theorem d_M_swap_9 : decode b_M_swap 9 = .ok (.istore_n 1, 1) := by decide +kernel
theorem d_M_swap_10 : decode b_M_swap 10 = .ok (.iconst 0, 1) := by decide +kernel
theorem d_M_swap_11 : decode b_M_swap 11 = .ok (.istore_n 2, 1) := by decide +kernel
theorem d_M_swap_12 : decode b_M_swap 12 = .ok (.iload_n 2, 1) := by decide +kernel
theorem d_M_swap_13 : decode b_M_swap 13 = .ok (.aload_n 0, 1) := by decide +kernel
theorem d_M_swap_14 : decode b_M_swap 14 = .ok (.getfield 78, 3) := by decide +kernel
theorem d_M_swap_17 : decode b_M_swap 17 = .ok (.if_icmp .ge 187, 3) := by decide +kernel
theorem d_M_swap_20 : decode b_M_swap 20 = .ok (.iload_n 2, 1) := by decide +kernel
theorem d_M_swap_21 : decode b_M_swap 21 = .ok (.iconst 1, 1) := by decide +kernel
theorem d_M_swap_22 : decode b_M_swap 22 = .ok (.iadd, 1) := by decide +kernel
theorem d_M_swap_23 : decode b_M_swap 23 = .ok (.istore_n 3, 1) := by decide +kernel
theorem d_M_swap_24 : decode b_M_swap 24 = .ok (.iload_n 3, 1) := by decide +kernel
theorem d_M_swap_25 : decode b_M_swap 25 = .ok (.aload_n 0, 1) := by decide +kernel
theorem d_M_swap_26 : decode b_M_swap 26 = .ok (.getfield 78, 3) := by decide +kernel
theorem d_M_swap_29 : decode b_M_swap 29 = .ok (.if_icmp .ge 169, 3) := by decide +kernel
theorem d_M_swap_32 : decode b_M_swap 32 = .ok (.iconst 0, 1) := by decide +kernel
theorem d_M_swap_33 : decode b_M_swap 33 = .ok (.istore 4, 2) := by decide +kernel
theorem d_M_swap_35 : decode b_M_swap 35 = .ok (.iload 4, 2) := by decide +kernel
theorem d_M_swap_37 : decode b_M_swap 37 = .ok (.bipush 64, 2) := by decide +kernel
theorem d_M_swap_39 : decode b_M_swap 39 = .ok (.if_icmp .ge 153, 3) := by decide +kernel
theorem d_M_swap_42 : decode b_M_swap 42 = .ok (.iload 4, 2) := by decide +kernel
theorem d_M_swap_44 : decode b_M_swap 44 = .ok (.bipush 8, 2) := by decide +kernel
theorem d_M_swap_46 : decode b_M_swap 46 = .ok (.idiv, 1) := by decide +kernel
theorem d_M_swap_47 : decode b_M_swap 47 = .ok (.istore 5, 2) := by decide +kernel
theorem d_M_swap_49 : decode b_M_swap 49 = .ok (.iload 4, 2) := by decide +kernel
theorem d_M_swap_51 : decode b_M_swap 51 = .ok (.bipush 8, 2) := by decide +kernel
theorem d_M_swap_53 : decode b_M_swap 53 = .ok (.irem, 1) := by decide +kernel
theorem d_M_swap_54 : decode b_M_swap 54 = .ok (.istore 6, 2) := by decide +kernel
theorem d_M_swap_56 : decode b_M_swap 56 = .ok (.aload_n 0, 1) := by decide +kernel
theorem d_M_swap_57 : decode b_M_swap 57 = .ok (.getfield 19, 3) := by decide +kernel
theorem d_M_swap_60 : decode b_M_swap 60 = .ok (.iload_n 2, 1) := by decide +kernel
theorem d_M_swap_61 : decode b_M_swap 61 = .ok (.iaload, 1) := by decide +kernel
theorem d_M_swap_62 : decode b_M_swap 62 = .ok (.istore 7, 2) := by decide +kernel
theorem d_M_swap_64 : decode b_M_swap 64 = .ok (.aload_n 0, 1) := by decide +kernel
theorem d_M_swap_65 : decode b_M_swap 65 = .ok (.getfield 19, 3) := by decide +kernel
theorem d_M_swap_68 : decode b_M_swap 68 = .ok (.iload_n 3, 1) := by decide +kernel
theorem d_M_swap_69 : decode b_M_swap 69 = .ok (.iaload, 1) := by decide +kernel
theorem d_M_swap_70 : decode b_M_swap 70 = .ok (.istore 8, 2) := by decide +kernel
theorem d_M_swap_72 : decode b_M_swap 72 = .ok (.iload 7, 2) := by decide +kernel
theorem d_M_swap_74 : decode b_M_swap 74 = .ok (.iload 8, 2) := by decide +kernel
theorem d_M_swap_76 : decode b_M_swap 76 = .ok (.iconst (-1), 1) := by decide +kernel
theorem d_M_swap_77 : decode b_M_swap 77 = .ok (.ixor, 1) := by decide +kernel
theorem d_M_swap_78 : decode b_M_swap 78 = .ok (.iand, 1) := by decide +kernel
theorem d_M_swap_79 : decode b_M_swap 79 = .ok (.iload 5, 2) := by decide +kernel
theorem d_M_swap_81 : decode b_M_swap 81 = .ok (.invokestatic 85, 3) := by decide +kernel
theorem d_M_swap_84 : decode b_M_swap 84 = .ok (.ifCond .eq 102, 3) := by decide +kernel
theorem d_M_swap_87 : decode b_M_swap 87 = .ok (.iload 8, 2) := by decide +kernel
theorem d_M_swap_89 : decode b_M_swap 89 = .ok (.iload 7, 2) := by decide +kernel
theorem d_M_swap_91 : decode b_M_swap 91 = .ok (.iconst (-1), 1) := by decide +kernel
theorem d_M_swap_92 : decode b_M_swap 92 = .ok (.ixor, 1) := by decide +kernel
theorem d_M_swap_93 : decode b_M_swap 93 = .ok (.iand, 1) := by decide +kernel
theorem d_M_swap_94 : decode b_M_swap 94 = .ok (.iload 6, 2) := by decide +kernel
theorem d_M_swap_96 : decode b_M_swap 96 = .ok (.invokestatic 85, 3) := by decide +kernel
theorem d_M_swap_99 : decode b_M_swap 99 = .ok (.ifCond .eq 87, 3) := by decide +kernel
theorem d_M_swap_102 : decode b_M_swap 102 = .ok (.aload_n 0, 1) := by decide +kernel
theorem d_M_swap_103 : decode b_M_swap 103 = .ok (.getfield 19, 3) := by decide +kernel
theorem d_M_swap_106 : decode b_M_swap 106 = .ok (.iload_n 2, 1) := by decide +kernel
theorem d_M_swap_107 : decode b_M_swap 107 = .ok (.iload 7, 2) := by decide +kernel
theorem d_M_swap_109 : decode b_M_swap 109 = .ok (.iconst 1, 1) := by decide +kernel
theorem d_M_swap_110 : decode b_M_swap 110 = .ok (.iload 5, 2) := by decide +kernel
theorem d_M_swap_112 : decode b_M_swap 112 = .ok (.ishl, 1) := by decide +kernel
theorem d_M_swap_113 : decode b_M_swap 113 = .ok (.iconst 1, 1) := by decide +kernel
theorem d_M_swap_114 : decode b_M_swap 114 = .ok (.iload 6, 2) := by decide +kernel
theorem d_M_swap_116 : decode b_M_swap 116 = .ok (.ishl, 1) := by decide +kernel
theorem d_M_swap_117 : decode b_M_swap 117 = .ok (.ior, 1) := by decide +kernel
theorem d_M_swap_118 : decode b_M_swap 118 = .ok (.ixor, 1) := by decide +kernel
theorem d_M_swap_119 : decode b_M_swap 119 = .ok (.iastore, 1) := by decide +kernel
theorem d_M_swap_120 : decode b_M_swap 120 = .ok (.aload_n 0, 1) := by decide +kernel
theorem d_M_swap_121 : decode b_M_swap 121 = .ok (.getfield 19, 3) := by decide +kernel
theorem d_M_swap_124 : decode b_M_swap 124 = .ok (.iload_n 3, 1) := by decide +kernel
theorem d_M_swap_125 : decode b_M_swap 125 = .ok (.iload 8, 2) := by decide +kernel
theorem d_M_swap_127 : decode b_M_swap 127 = .ok (.iconst 1, 1) := by decide +kernel
theorem d_M_swap_128 : decode b_M_swap 128 = .ok (.iload 5, 2) := by decide +kernel
theorem d_M_swap_130 : decode b_M_swap 130 = .ok (.ishl, 1) := by decide +kernel
theorem d_M_swap_131 : decode b_M_swap 131 = .ok (.iconst 1, 1) := by decide +kernel
theorem d_M_swap_132 : decode b_M_swap 132 = .ok (.iload 6, 2) := by decide +kernel
theorem d_M_swap_134 : decode b_M_swap 134 = .ok (.ishl, 1) := by decide +kernel
theorem d_M_swap_135 : decode b_M_swap 135 = .ok (.ior, 1) := by decide +kernel
theorem d_M_swap_136 : decode b_M_swap 136 = .ok (.ixor, 1) := by decide +kernel
theorem d_M_swap_137 : decode b_M_swap 137 = .ok (.iastore, 1) := by decide +kernel
theorem d_M_swap_138 : decode b_M_swap 138 = .ok (.aload_n 0, 1) := by decide +kernel
theorem d_M_swap_139 : decode b_M_swap 139 = .ok (.invokevirtual 262, 3) := by decide +kernel
theorem d_M_swap_142 : decode b_M_swap 142 = .ok (.istore 9, 2) := by decide +kernel
theorem d_M_swap_144 : decode b_M_swap 144 = .ok (.aload_n 0, 1) := by decide +kernel
theorem d_M_swap_145 : decode b_M_swap 145 = .ok (.getfield 19, 3) := by decide +kernel
theorem d_M_swap_148 : decode b_M_swap 148 = .ok (.iload_n 2, 1) := by decide +kernel
theorem d_M_swap_149 : decode b_M_swap 149 = .ok (.iload 7, 2) := by decide +kernel
theorem d_M_swap_151 : decode b_M_swap 151 = .ok (.iastore, 1) := by decide +kernel
theorem d_M_swap_152 : decode b_M_swap 152 = .ok (.aload_n 0, 1) := by decide +kernel
theorem d_M_swap_153 : decode b_M_swap 153 = .ok (.getfield 19, 3) := by decide +kernel
theorem d_M_swap_156 : decode b_M_swap 156 = .ok (.iload_n 3, 1) := by decide +kernel
theorem d_M_swap_157 : decode b_M_swap 157 = .ok (.iload 8, 2) := by decide +kernel
theorem d_M_swap_159 : decode b_M_swap 159 = .ok (.iastore, 1) := by decide +kernel
theorem d_M_swap_160 : decode b_M_swap 160 = .ok (.iload 9, 2) := by decide +kernel
theorem d_M_swap_162 : decode b_M_swap 162 = .ok (.iload_n 1, 1) := by decide +kernel
theorem d_M_swap_163 : decode b_M_swap 163 = .ok (.if_icmp .le 23, 3) := by decide +kernel
theorem d_M_swap_166 : decode b_M_swap 166 = .ok (.sipush 1000, 3) := by decide +kernel
theorem d_M_swap_169 : decode b_M_swap 169 = .ok (.iload_n 2, 1) := by decide +kernel
theorem d_M_swap_170 : decode b_M_swap 170 = .ok (.imul, 1) := by decide +kernel
theorem d_M_swap_171 : decode b_M_swap 171 = .ok (.bipush 100, 2) := by decide +kernel
theorem d_M_swap_173 : decode b_M_swap 173 = .ok (.iload_n 3, 1) := by decide +kernel
theorem d_M_swap_174 : decode b_M_swap 174 = .ok (.imul, 1) := by decide +kernel
theorem d_M_swap_175 : decode b_M_swap 175 = .ok (.iadd, 1) := by decide +kernel
theorem d_M_swap_176 : decode b_M_swap 176 = .ok (.bipush 10, 2) := by decide +kernel
theorem d_M_swap_178 : decode b_M_swap 178 = .ok (.iload 5, 2) := by decide +kernel
theorem d_M_swap_180 : decode b_M_swap 180 = .ok (.imul, 1) := by decide +kernel
theorem d_M_swap_181 : decode b_M_swap 181 = .ok (.iadd, 1) := by decide +kernel
theorem d_M_swap_182 : decode b_M_swap 182 = .ok (.iload 6, 2) := by decide +kernel
theorem d_M_swap_184 : decode b_M_swap 184 = .ok (.iadd, 1) := by decide +kernel
theorem d_M_swap_185 : decode b_M_swap 185 = .ok (.ireturn, 1) := by decide +kernel
theorem d_M_swap_186 : decode b_M_swap 186 = .ok (.iinc 4 1, 3) := by decide +kernel
theorem d_M_swap_189 : decode b_M_swap 189 = .ok (.goto (-154), 3) := by decide +kernel
theorem d_M_swap_192 : decode b_M_swap 192 = .ok (.iinc 3 1, 3) := by decide +kernel
theorem d_M_swap_195 : decode b_M_swap 195 = .ok (.goto (-171), 3) := by decide +kernel
theorem d_M_swap_198 : decode b_M_swap 198 = .ok (.iinc 2 1, 3) := by decide +kernel
theorem d_M_swap_201 : decode b_M_swap 201 = .ok (.goto (-189), 3) := by decide +kernel
theorem d_M_swap_204 : decode b_M_swap 204 = .ok (.bipush (-9), 2) := by decide +kernel
theorem d_M_swap_206 : decode b_M_swap 206 = .ok (.ireturn, 1) := by decide +kernel
theorem d_M_tell_0 : decode b_M_tell 0 = .ok (.aload_n 0, 1) := by decide +kernel
theorem d_M_tell_1 : decode b_M_tell 1 = .ok (.iconst 0, 1) := by decide +kernel
theorem d_M_tell_2 : decode b_M_tell 2 = .ok (.putfield 67, 3) := by decide +kernel
theorem d_M_tell_5 : decode b_M_tell 5 = .ok (.bipush (-9), 2) := by decide +kernel
theorem d_M_tell_7 : decode b_M_tell 7 = .ok (.istore_n 1, 1) := by decide +kernel
theorem d_M_tell_8 : decode b_M_tell 8 = .ok (.iconst (-1), 1) := by decide +kernel
theorem d_M_tell_9 : decode b_M_tell 9 = .ok (.istore_n 2, 1) := by decide +kernel
theorem d_M_tell_10 : decode b_M_tell 10 = .ok (.iconst 0, 1) := by decide +kernel
theorem d_M_tell_11 : decode b_M_tell 11 = .ok (.istore_n 3, 1) := by decide +kernel
theorem d_M_tell_12 : decode b_M_tell 12 = .ok (.iload_n 3, 1) := by decide +kernel
theorem d_M_tell_13 : decode b_M_tell 13 = .ok (.aload_n 0, 1) := by decide +kernel
theorem d_M_tell_14 : decode b_M_tell 14 = .ok (.getfield 71, 3) := by decide +kernel
theorem d_M_tell_17 : decode b_M_tell 17 = .ok (.if_icmp .ge 83, 3) := by decide +kernel
theorem d_M_tell_20 : decode b_M_tell 20 = .ok (.aload_n 0, 1) := by decide +kernel
theorem d_M_tell_21 : decode b_M_tell 21 = .ok (.aload_n 0, 1) := by decide +kernel
theorem d_M_tell_22 : decode b_M_tell 22 = .ok (.iload_n 3, 1) := by decide +kernel
theorem d_M_tell_23 : decode b_M_tell 23 = .ok (.invokevirtual 96, 3) := by decide +kernel
theorem d_M_tell_26 : decode b_M_tell 26 = .ok (.invokevirtual 224, 3) := by decide +kernel
theorem d_M_tell_29 : decode b_M_tell 29 = .ok (.aload_n 0, 1) := by decide +kernel
theorem d_M_tell_30 : decode b_M_tell 30 = .ok (.bipush 63, 2) := by decide +kernel
theorem d_M_tell_32 : decode b_M_tell 32 = .ok (.aload_n 0, 1) := by decide +kernel
theorem d_M_tell_33 : decode b_M_tell 33 = .ok (.iload_n 3, 1) := by decide +kernel
theorem d_M_tell_34 : decode b_M_tell 34 = .ok (.invokevirtual 96, 3) := by decide +kernel
theorem d_M_tell_37 : decode b_M_tell 37 = .ok (.iconst (-1), 1) := by decide +kernel
theorem d_M_tell_38 : decode b_M_tell 38 = .ok (.ixor, 1) := by decide +kernel
theorem d_M_tell_39 : decode b_M_tell 39 = .ok (.iand, 1) := by decide +kernel
theorem d_M_tell_40 : decode b_M_tell 40 = .ok (.invokevirtual 224, 3) := by decide +kernel
theorem d_M_tell_43 : decode b_M_tell 43 = .ok (.isub, 1) := by decide +kernel
theorem d_M_tell_44 : decode b_M_tell 44 = .ok (.istore 4, 2) := by decide +kernel
theorem d_M_tell_46 : decode b_M_tell 46 = .ok (.iload 4, 2) := by decide +kernel
theorem d_M_tell_48 : decode b_M_tell 48 = .ok (.ifCond .ge 9, 3) := by decide +kernel
theorem d_M_tell_51 : decode b_M_tell 51 = .ok (.iload 4, 2) := by decide +kernel
theorem d_M_tell_53 : decode b_M_tell 53 = .ok (.ineg, 1) := by decide +kernel
theorem d_M_tell_54 : decode b_M_tell 54 = .ok (.goto 5, 3) := by decide +kernel
theorem d_M_tell_57 : decode b_M_tell 57 = .ok (.iload 4, 2) := by decide +kernel
theorem d_M_tell_59 : decode b_M_tell 59 = .ok (.istore 4, 2) := by decide +kernel
theorem d_M_tell_61 : decode b_M_tell 61 = .ok (.iload_n 2, 1) := by decide +kernel
theorem d_M_tell_62 : decode b_M_tell 62 = .ok (.ifCond .lt 9, 3) := by decide +kernel
theorem d_M_tell_65 : decode b_M_tell 65 = .ok (.iload 4, 2) := by decide +kernel
theorem d_M_tell_67 : decode b_M_tell 67 = .ok (.iload_n 2, 1) := by decide +kernel
theorem d_M_tell_68 : decode b_M_tell 68 = .ok (.if_icmp .ge 7, 3) := by decide +kernel
theorem d_M_tell_71 : decode b_M_tell 71 = .ok (.iload_n 3, 1) := by decide +kernel
theorem d_M_tell_72 : decode b_M_tell 72 = .ok (.goto 4, 3) := by decide +kernel
theorem d_M_tell_75 : decode b_M_tell 75 = .ok (.iload_n 1, 1) := by decide +kernel
theorem d_M_tell_76 : decode b_M_tell 76 = .ok (.istore_n 1, 1) := by decide +kernel
theorem d_M_tell_77 : decode b_M_tell 77 = .ok (.iload_n 2, 1) := by decide +kernel
theorem d_M_tell_78 : decode b_M_tell 78 = .ok (.ifCond .lt 9, 3) := by decide +kernel
theorem d_M_tell_81 : decode b_M_tell 81 = .ok (.iload 4, 2) := by decide +kernel
theorem d_M_tell_83 : decode b_M_tell 83 = .ok (.iload_n 2, 1) := by decide +kernel
theorem d_M_tell_84 : decode b_M_tell 84 = .ok (.if_icmp .ge 8, 3) := by decide +kernel
theorem d_M_tell_87 : decode b_M_tell 87 = .ok (.iload 4, 2) := by decide +kernel
theorem d_M_tell_89 : decode b_M_tell 89 = .ok (.goto 4, 3) := by decide +kernel
theorem d_M_tell_92 : decode b_M_tell 92 = .ok (.iload_n 2, 1) := by decide +kernel
theorem d_M_tell_93 : decode b_M_tell 93 = .ok (.istore_n 2, 1) := by decide +kernel
theorem d_M_tell_94 : decode b_M_tell 94 = .ok (.iinc 3 1, 3) := by decide +kernel
theorem d_M_tell_97 : decode b_M_tell 97 = .ok (.goto (-85), 3) := by decide +kernel
theorem d_M_tell_100 : decode b_M_tell 100 = .ok (.iload_n 1, 1) := by decide +kernel
theorem d_M_tell_101 : decode b_M_tell 101 = .ok (.ireturn, 1) := by decide +kernel
theorem d_M_thing_0 : decode b_M_thing 0 = .ok (.aload_n 0, 1) := by decide +kernel
theorem d_M_thing_1 : decode b_M_thing 1 = .ok (.iconst 0, 1) := by decide +kernel
theorem d_M_thing_2 : decode b_M_thing 2 = .ok (.putfield 67, 3) := by decide +kernel
theorem d_M_thing_5 : decode b_M_thing 5 = .ok (.iload_n 1, 1) := by decide +kernel
theorem d_M_thing_6 : decode b_M_thing 6 = .ok (.i2l, 1) := by decide +kernel
theorem d_M_thing_7 : decode b_M_thing 7 = .ok (.lconst 0, 1) := by decide +kernel
theorem d_M_thing_8 : decode b_M_thing 8 = .ok (.ldc2_w 206, 3) := by decide +kernel
theorem d_M_thing_11 : decode b_M_thing 11 = .ok (.invokestatic 74, 3) := by decide +kernel
theorem d_M_thing_14 : decode b_M_thing 14 = .ok (.ifCond .eq 13, 3) := by decide +kernel
theorem d_M_thing_17 : decode b_M_thing 17 = .ok (.iload_n 2, 1) := by decide +kernel
theorem d_M_thing_18 : decode b_M_thing 18 = .ok (.iconst 0, 1) := by decide +kernel
theorem d_M_thing_19 : decode b_M_thing 19 = .ok (.bipush 9, 2) := by decide +kernel
theorem d_M_thing_21 : decode b_M_thing 21 = .ok (.invokestatic 208, 3) := by decide +kernel
theorem d_M_thing_24 : decode b_M_thing 24 = .ok (.goto 5, 3) := by decide +kernel
theorem d_M_thing_27 : decode b_M_thing 27 = .ok (.bipush (-2), 2) := by decide +kernel
theorem d_M_thing_29 : decode b_M_thing 29 = .ok (.istore_n 3, 1) := by decide +kernel
theorem d_M_thing_30 : decode b_M_thing 30 = .ok (.iload_n 3, 1) := by decide +kernel
theorem d_M_thing_31 : decode b_M_thing 31 = .ok (.ifCond .ne 17, 3) := by decide +kernel
theorem d_M_thing_34 : decode b_M_thing 34 = .ok (.aload_n 0, 1) := by decide +kernel
theorem d_M_thing_35 : decode b_M_thing 35 = .ok (.getfield 71, 3) := by decide +kernel
theorem d_M_thing_38 : decode b_M_thing 38 = .ok (.bipush 8, 2) := by decide +kernel
theorem d_M_thing_40 : decode b_M_thing 40 = .ok (.if_icmp .ne 8, 3) := by decide +kernel
theorem d_M_thing_43 : decode b_M_thing 43 = .ok (.bipush (-6), 2) := by decide +kernel
theorem d_M_thing_45 : decode b_M_thing 45 = .ok (.goto 4, 3) := by decide +kernel
theorem d_M_thing_48 : decode b_M_thing 48 = .ok (.iload_n 3, 1) := by decide +kernel
theorem d_M_thing_49 : decode b_M_thing 49 = .ok (.istore_n 3, 1) := by decide +kernel
theorem d_M_thing_50 : decode b_M_thing 50 = .ok (.iload_n 3, 1) := by decide +kernel
theorem d_M_thing_51 : decode b_M_thing 51 = .ok (.ifCond .ge 9, 3) := by decide +kernel
theorem d_M_thing_54 : decode b_M_thing 54 = .ok (.aload_n 0, 1) := by decide +kernel
theorem d_M_thing_55 : decode b_M_thing 55 = .ok (.iload_n 3, 1) := by decide +kernel
theorem d_M_thing_56 : decode b_M_thing 56 = .ok (.invokevirtual 108, 3) := by decide +kernel
theorem d_M_thing_59 : decode b_M_thing 59 = .ok (.ireturn, 1) := by decide +kernel
theorem d_M_thing_60 : decode b_M_thing 60 = .ok (.aload_n 0, 1) := by decide +kernel
theorem d_M_thing_61 : decode b_M_thing 61 = .ok (.iload_n 1, 1) := by decide +kernel
theorem d_M_thing_62 : decode b_M_thing 62 = .ok (.iload_n 2, 1) := by decide +kernel
theorem d_M_thing_63 : decode b_M_thing 63 = .ok (.invokevirtual 143, 3) := by decide +kernel
theorem d_M_thing_66 : decode b_M_thing 66 = .ok (.aload_n 0, 1) := by decide +kernel
theorem d_M_thing_67 : decode b_M_thing 67 = .ok (.iconst 0, 1) := by decide +kernel
theorem d_M_thing_68 : decode b_M_thing 68 = .ok (.putfield 174, 3) := by decide +kernel
theorem d_M_thing_71 : decode b_M_thing 71 = .ok (.aload_n 0, 1) := by decide +kernel
theorem d_M_thing_72 : decode b_M_thing 72 = .ok (.getfield 71, 3) := by decide +kernel
theorem d_M_thing_75 : decode b_M_thing 75 = .ok (.iconst 1, 1) := by decide +kernel
theorem d_M_thing_76 : decode b_M_thing 76 = .ok (.isub, 1) := by decide +kernel
theorem d_M_thing_77 : decode b_M_thing 77 = .ok (.ireturn, 1) := by decide +kernel
theorem d_M_thingOf_0 : decode b_M_thingOf 0 = .ok (.aload_n 0, 1) := by decide +kernel
theorem d_M_thingOf_1 : decode b_M_thingOf 1 = .ok (.iconst 0, 1) := by decide +kernel
theorem d_M_thingOf_2 : decode b_M_thingOf 2 = .ok (.putfield 67, 3) := by decide +kernel
theorem d_M_thingOf_5 : decode b_M_thingOf 5 = .ok (.aload_n 0, 1) := by decide +kernel
theorem d_M_thingOf_6 : decode b_M_thingOf 6 = .ok (.iload_n 1, 1) := by decide +kernel
theorem d_M_thingOf_7 : decode b_M_thingOf 7 = .ok (.invokevirtual 159, 3) := by decide +kernel
theorem d_M_thingOf_10 : decode b_M_thingOf 10 = .ok (.ifCond .eq 15, 3) := by decide +kernel
theorem d_M_thingOf_13 : decode b_M_thingOf 13 = .ok (.iload_n 2, 1) := by decide +kernel
theorem d_M_thingOf_14 : decode b_M_thingOf 14 = .ok (.i2l, 1) := by decide +kernel
theorem d_M_thingOf_15 : decode b_M_thingOf 15 = .ok (.lconst 0, 1) := by decide +kernel
theorem d_M_thingOf_16 : decode b_M_thingOf 16 = .ok (.ldc2_w 196, 3) := by decide +kernel
theorem d_M_thingOf_19 : decode b_M_thingOf 19 = .ok (.invokestatic 74, 3) := by decide +kernel
theorem d_M_thingOf_22 : decode b_M_thingOf 22 = .ok (.ifCond .ne 22, 3) := by decide +kernel
theorem d_M_thingOf_25 : decode b_M_thingOf 25 = .ok (.aload_n 0, 1) := by decide +kernel
theorem d_M_thingOf_26 : decode b_M_thingOf 26 = .ok (.aload_n 0, 1) := by decide +kernel
theorem d_M_thingOf_27 : decode b_M_thingOf 27 = .ok (.iload_n 1, 1) := by decide +kernel
theorem d_M_thingOf_28 : decode b_M_thingOf 28 = .ok (.invokevirtual 159, 3) := by decide +kernel
theorem d_M_thingOf_31 : decode b_M_thingOf 31 = .ok (.ifCond .eq 8, 3) := by decide +kernel
theorem d_M_thingOf_34 : decode b_M_thingOf 34 = .ok (.bipush (-2), 2) := by decide +kernel
theorem d_M_thingOf_36 : decode b_M_thingOf 36 = .ok (.goto 4, 3) := by decide +kernel
theorem d_M_thingOf_39 : decode b_M_thingOf 39 = .ok (.iconst (-1), 1) := by decide +kernel
theorem d_M_thingOf_40 : decode b_M_thingOf 40 = .ok (.invokevirtual 108, 3) := by decide +kernel
theorem d_M_thingOf_43 : decode b_M_thingOf 43 = .ok (.ireturn, 1) := by decide +kernel
theorem d_M_thingOf_44 : decode b_M_thingOf 44 = .ok (.iload_n 2, 1) := by decide +kernel
theorem d_M_thingOf_45 : decode b_M_thingOf 45 = .ok (.tableswitch 57 0 3 #[31, 38, 45, 51], 31) := by decide +kernel
theorem d_M_thingOf_76 : decode b_M_thingOf 76 = .ok (.aload_n 0, 1) := by decide +kernel
theorem d_M_thingOf_77 : decode b_M_thingOf 77 = .ok (.getfield 13, 3) := by decide +kernel
theorem d_M_thingOf_80 : decode b_M_thingOf 80 = .ok (.iload_n 1, 1) := by decide +kernel
theorem d_M_thingOf_81 : decode b_M_thingOf 81 = .ok (.iaload, 1) := by decide +kernel
theorem d_M_thingOf_82 : decode b_M_thingOf 82 = .ok (.ireturn, 1) := by decide +kernel
theorem d_M_thingOf_83 : decode b_M_thingOf 83 = .ok (.aload_n 0, 1) := by decide +kernel
theorem d_M_thingOf_84 : decode b_M_thingOf 84 = .ok (.getfield 16, 3) := by decide +kernel
theorem d_M_thingOf_87 : decode b_M_thingOf 87 = .ok (.iload_n 1, 1) := by decide +kernel
theorem d_M_thingOf_88 : decode b_M_thingOf 88 = .ok (.iaload, 1) := by decide +kernel
theorem d_M_thingOf_89 : decode b_M_thingOf 89 = .ok (.ireturn, 1) := by decide +kernel
theorem d_M_thingOf_90 : decode b_M_thingOf 90 = .ok (.aload_n 0, 1) := by decide +kernel
theorem d_M_thingOf_91 : decode b_M_thingOf 91 = .ok (.iload_n 1, 1) := by decide +kernel
theorem d_M_thingOf_92 : decode b_M_thingOf 92 = .ok (.invokevirtual 89, 3) := by decide +kernel
theorem d_M_thingOf_95 : decode b_M_thingOf 95 = .ok (.ireturn, 1) := by decide +kernel
theorem d_M_thingOf_96 : decode b_M_thingOf 96 = .ok (.aload_n 0, 1) := by decide +kernel
theorem d_M_thingOf_97 : decode b_M_thingOf 97 = .ok (.iload_n 1, 1) := by decide +kernel
theorem d_M_thingOf_98 : decode b_M_thingOf 98 = .ok (.invokevirtual 93, 3) := by decide +kernel
theorem d_M_thingOf_101 : decode b_M_thingOf 101 = .ok (.ireturn, 1) := by decide +kernel
theorem d_M_thingOf_102 : decode b_M_thingOf 102 = .ok (.aload_n 0, 1) := by decide +kernel
theorem d_M_thingOf_103 : decode b_M_thingOf 103 = .ok (.iload_n 1, 1) := by decide +kernel
theorem d_M_thingOf_104 : decode b_M_thingOf 104 = .ok (.invokevirtual 96, 3) := by decide +kernel
theorem d_M_thingOf_107 : decode b_M_thingOf 107 = .ok (.ireturn, 1) := by decide +kernel
theorem d_M_wanted_0 : decode b_M_wanted 0 = .ok (.aload_n 0, 1) := by decide +kernel
theorem d_M_wanted_1 : decode b_M_wanted 1 = .ok (.iconst 0, 1) := by decide +kernel
theorem d_M_wanted_2 : decode b_M_wanted 2 = .ok (.putfield 67, 3) := by decide +kernel
theorem d_M_wanted_5 : decode b_M_wanted 5 = .ok (.iload_n 1, 1) := by decide +kernel
theorem d_M_wanted_6 : decode b_M_wanted 6 = .ok (.i2l, 1) := by decide +kernel
theorem d_M_wanted_7 : decode b_M_wanted 7 = .ok (.lconst 0, 1) := by decide +kernel
theorem d_M_wanted_8 : decode b_M_wanted 8 = .ok (.ldc2_w 204, 3) := by decide +kernel
theorem d_M_wanted_11 : decode b_M_wanted 11 = .ok (.invokestatic 74, 3) := by decide +kernel
theorem d_M_wanted_14 : decode b_M_wanted 14 = .ok (.ifCond .ne 9, 3) := by decide +kernel
theorem d_M_wanted_17 : decode b_M_wanted 17 = .ok (.aload_n 0, 1) := by decide +kernel
theorem d_M_wanted_18 : decode b_M_wanted 18 = .ok (.iconst (-1), 1) := by decide +kernel
theorem d_M_wanted_19 : decode b_M_wanted 19 = .ok (.invokevirtual 108, 3) := by decide +kernel
theorem d_M_wanted_22 : decode b_M_wanted 22 = .ok (.ireturn, 1) := by decide +kernel
theorem d_M_wanted_23 : decode b_M_wanted 23 = .ok (.iconst 0, 1) := by decide +kernel
theorem d_M_wanted_24 : decode b_M_wanted 24 = .ok (.istore_n 2, 1) := by decide +kernel
theorem d_M_wanted_25 : decode b_M_wanted 25 = .ok (.iconst 0, 1) := by decide +kernel
theorem d_M_wanted_26 : decode b_M_wanted 26 = .ok (.istore_n 3, 1) := by decide +kernel
theorem d_M_wanted_27 : decode b_M_wanted 27 = .ok (.iload_n 3, 1) := by decide +kernel
theorem d_M_wanted_28 : decode b_M_wanted 28 = .ok (.aload_n 0, 1) := by decide +kernel
theorem d_M_wanted_29 : decode b_M_wanted 29 = .ok (.getfield 78, 3) := by decide +kernel
theorem d_M_wanted_32 : decode b_M_wanted 32 = .ok (.if_icmp .ge 39, 3) := by decide +kernel
theorem d_M_wanted_35 : decode b_M_wanted 35 = .ok (.iload_n 2, 1) := by decide +kernel
theorem d_M_wanted_36 : decode b_M_wanted 36 = .ok (.aload_n 0, 1) := by decide +kernel
theorem d_M_wanted_37 : decode b_M_wanted 37 = .ok (.aload_n 0, 1) := by decide +kernel
theorem d_M_wanted_38 : decode b_M_wanted 38 = .ok (.getfield 19, 3) := by decide +kernel
theorem d_M_wanted_41 : decode b_M_wanted 41 = .ok (.iload_n 3, 1) := by decide +kernel
theorem d_M_wanted_42 : decode b_M_wanted 42 = .ok (.iaload, 1) := by decide +kernel
theorem d_M_wanted_43 : decode b_M_wanted 43 = .ok (.invokevirtual 99, 3) := by decide +kernel
theorem d_M_wanted_46 : decode b_M_wanted 46 = .ok (.aload_n 0, 1) := by decide +kernel
theorem d_M_wanted_47 : decode b_M_wanted 47 = .ok (.getfield 22, 3) := by decide +kernel
theorem d_M_wanted_50 : decode b_M_wanted 50 = .ok (.iload_n 1, 1) := by decide +kernel
theorem d_M_wanted_51 : decode b_M_wanted 51 = .ok (.iaload, 1) := by decide +kernel
theorem d_M_wanted_52 : decode b_M_wanted 52 = .ok (.iand, 1) := by decide +kernel
theorem d_M_wanted_53 : decode b_M_wanted 53 = .ok (.ifCond .ne 9, 3) := by decide +kernel
theorem d_M_wanted_56 : decode b_M_wanted 56 = .ok (.iconst 1, 1) := by decide +kernel
theorem d_M_wanted_57 : decode b_M_wanted 57 = .ok (.iload_n 3, 1) := by decide +kernel
theorem d_M_wanted_58 : decode b_M_wanted 58 = .ok (.ishl, 1) := by decide +kernel
theorem d_M_wanted_59 : decode b_M_wanted 59 = .ok (.goto 4, 3) := by decide +kernel
theorem d_M_wanted_62 : decode b_M_wanted 62 = .ok (.iconst 0, 1) := by decide +kernel
theorem d_M_wanted_63 : decode b_M_wanted 63 = .ok (.ior, 1) := by decide +kernel
theorem d_M_wanted_64 : decode b_M_wanted 64 = .ok (.istore_n 2, 1) := by decide +kernel
theorem d_M_wanted_65 : decode b_M_wanted 65 = .ok (.iinc 3 1, 3) := by decide +kernel
theorem d_M_wanted_68 : decode b_M_wanted 68 = .ok (.goto (-41), 3) := by decide +kernel
theorem d_M_wanted_71 : decode b_M_wanted 71 = .ok (.iload_n 2, 1) := by decide +kernel
theorem d_M_wanted_72 : decode b_M_wanted 72 = .ok (.ireturn, 1) := by decide +kernel
theorem d_M_wants_0 : decode b_M_wants 0 = .ok (.aload_n 0, 1) := by decide +kernel
theorem d_M_wants_1 : decode b_M_wants 1 = .ok (.iconst 0, 1) := by decide +kernel
theorem d_M_wants_2 : decode b_M_wants 2 = .ok (.putfield 67, 3) := by decide +kernel
theorem d_M_wants_5 : decode b_M_wants 5 = .ok (.iconst 0, 1) := by decide +kernel
theorem d_M_wants_6 : decode b_M_wants 6 = .ok (.istore 4, 2) := by decide +kernel
theorem d_M_wants_8 : decode b_M_wants 8 = .ok (.iload_n 1, 1) := by decide +kernel
theorem d_M_wants_9 : decode b_M_wants 9 = .ok (.i2l, 1) := by decide +kernel
theorem d_M_wants_10 : decode b_M_wants 10 = .ok (.lconst 0, 1) := by decide +kernel
theorem d_M_wants_11 : decode b_M_wants 11 = .ok (.ldc2_w 204, 3) := by decide +kernel
theorem d_M_wants_14 : decode b_M_wants 14 = .ok (.invokestatic 74, 3) := by decide +kernel
theorem d_M_wants_17 : decode b_M_wants 17 = .ok (.ifCond .ne 9, 3) := by decide +kernel
theorem d_M_wants_20 : decode b_M_wants 20 = .ok (.iconst (-1), 1) := by decide +kernel
theorem d_M_wants_21 : decode b_M_wants 21 = .ok (.istore 4, 2) := by decide +kernel
theorem d_M_wants_23 : decode b_M_wants 23 = .ok (.goto 34, 3) := by decide +kernel
theorem d_M_wants_26 : decode b_M_wants 26 = .ok (.iload_n 2, 1) := by decide +kernel
theorem d_M_wants_27 : decode b_M_wants 27 = .ok (.ifCond .lt 7, 3) := by decide +kernel
theorem d_M_wants_30 : decode b_M_wants 30 = .ok (.iload_n 3, 1) := by decide +kernel
theorem d_M_wants_31 : decode b_M_wants 31 = .ok (.ifCond .ge 10, 3) := by decide +kernel
theorem d_M_wants_34 : decode b_M_wants 34 = .ok (.bipush (-4), 2) := by decide +kernel
theorem d_M_wants_36 : decode b_M_wants 36 = .ok (.istore 4, 2) := by decide +kernel
theorem d_M_wants_38 : decode b_M_wants 38 = .ok (.goto 19, 3) := by decide +kernel
theorem d_M_wants_41 : decode b_M_wants 41 = .ok (.iload_n 2, 1) := by decide +kernel
theorem d_M_wants_42 : decode b_M_wants 42 = .ok (.bipush 63, 2) := by decide +kernel
theorem d_M_wants_44 : decode b_M_wants 44 = .ok (.if_icmp .gt 9, 3) := by decide +kernel
theorem d_M_wants_47 : decode b_M_wants 47 = .ok (.iload_n 3, 1) := by decide +kernel
theorem d_M_wants_48 : decode b_M_wants 48 = .ok (.bipush 9, 2) := by decide +kernel
theorem d_M_wants_50 : decode b_M_wants 50 = .ok (.if_icmp .le 7, 3) := by decide +kernel
theorem d_M_wants_53 : decode b_M_wants 53 = .ok (.bipush (-6), 2) := by decide +kernel
theorem d_M_wants_55 : decode b_M_wants 55 = .ok (.istore 4, 2) := by decide +kernel
theorem d_M_wants_57 : decode b_M_wants 57 = .ok (.iload 4, 2) := by decide +kernel
theorem d_M_wants_59 : decode b_M_wants 59 = .ok (.ifCond .ge 10, 3) := by decide +kernel
theorem d_M_wants_62 : decode b_M_wants 62 = .ok (.aload_n 0, 1) := by decide +kernel
theorem d_M_wants_63 : decode b_M_wants 63 = .ok (.iload 4, 2) := by decide +kernel
theorem d_M_wants_65 : decode b_M_wants 65 = .ok (.invokevirtual 108, 3) := by decide +kernel
theorem d_M_wants_68 : decode b_M_wants 68 = .ok (.ireturn, 1) := by decide +kernel
theorem d_M_wants_69 : decode b_M_wants 69 = .ok (.aload_n 0, 1) := by decide +kernel
theorem d_M_wants_70 : decode b_M_wants 70 = .ok (.invokevirtual 212, 3) := by decide +kernel
theorem d_M_wants_73 : decode b_M_wants 73 = .ok (.aload_n 0, 1) := by decide +kernel
theorem d_M_wants_74 : decode b_M_wants 74 = .ok (.getfield 25, 3) := by decide +kernel
theorem d_M_wants_77 : decode b_M_wants 77 = .ok (.iload_n 1, 1) := by decide +kernel
theorem d_M_wants_78 : decode b_M_wants 78 = .ok (.iaload, 1) := by decide +kernel
theorem d_M_wants_79 : decode b_M_wants 79 = .ok (.istore 5, 2) := by decide +kernel
theorem d_M_wants_81 : decode b_M_wants 81 = .ok (.aload_n 0, 1) := by decide +kernel
theorem d_M_wants_82 : decode b_M_wants 82 = .ok (.getfield 22, 3) := by decide +kernel
theorem d_M_wants_85 : decode b_M_wants 85 = .ok (.iload_n 1, 1) := by decide +kernel
theorem d_M_wants_86 : decode b_M_wants 86 = .ok (.iload_n 2, 1) := by decide +kernel
theorem d_M_wants_87 : decode b_M_wants 87 = .ok (.iastore, 1) := by decide +kernel
theorem d_M_wants_88 : decode b_M_wants 88 = .ok (.aload_n 0, 1) := by decide +kernel
theorem d_M_wants_89 : decode b_M_wants 89 = .ok (.getfield 25, 3) := by decide +kernel
theorem d_M_wants_92 : decode b_M_wants 92 = .ok (.iload_n 1, 1) := by decide +kernel
theorem d_M_wants_93 : decode b_M_wants 93 = .ok (.iload_n 3, 1) := by decide +kernel
theorem d_M_wants_94 : decode b_M_wants 94 = .ok (.iastore, 1) := by decide +kernel
theorem d_M_wants_95 : decode b_M_wants 95 = .ok (.iload 5, 2) := by decide +kernel
theorem d_M_wants_97 : decode b_M_wants 97 = .ok (.ireturn, 1) := by decide +kernel
theorem d_M_weighs_0 : decode b_M_weighs 0 = .ok (.aload_n 0, 1) := by decide +kernel
theorem d_M_weighs_1 : decode b_M_weighs 1 = .ok (.iconst 0, 1) := by decide +kernel
theorem d_M_weighs_2 : decode b_M_weighs 2 = .ok (.putfield 67, 3) := by decide +kernel
theorem d_M_weighs_5 : decode b_M_weighs 5 = .ok (.iload_n 1, 1) := by decide +kernel
theorem d_M_weighs_6 : decode b_M_weighs 6 = .ok (.i2l, 1) := by decide +kernel
theorem d_M_weighs_7 : decode b_M_weighs 7 = .ok (.lconst 0, 1) := by decide +kernel
theorem d_M_weighs_8 : decode b_M_weighs 8 = .ok (.ldc2_w 206, 3) := by decide +kernel
theorem d_M_weighs_11 : decode b_M_weighs 11 = .ok (.invokestatic 74, 3) := by decide +kernel
theorem d_M_weighs_14 : decode b_M_weighs 14 = .ok (.ifCond .eq 13, 3) := by decide +kernel
theorem d_M_weighs_17 : decode b_M_weighs 17 = .ok (.iload_n 2, 1) := by decide +kernel
theorem d_M_weighs_18 : decode b_M_weighs 18 = .ok (.iconst 0, 1) := by decide +kernel
theorem d_M_weighs_19 : decode b_M_weighs 19 = .ok (.bipush 9, 2) := by decide +kernel
theorem d_M_weighs_21 : decode b_M_weighs 21 = .ok (.invokestatic 208, 3) := by decide +kernel
theorem d_M_weighs_24 : decode b_M_weighs 24 = .ok (.goto 4, 3) := by decide +kernel
theorem d_M_weighs_27 : decode b_M_weighs 27 = .ok (.iconst (-1), 1) := by decide +kernel
theorem d_M_weighs_28 : decode b_M_weighs 28 = .ok (.istore_n 3, 1) := by decide +kernel
theorem d_M_weighs_29 : decode b_M_weighs 29 = .ok (.iload_n 3, 1) := by decide +kernel
theorem d_M_weighs_30 : decode b_M_weighs 30 = .ok (.ifCond .ge 9, 3) := by decide +kernel
theorem d_M_weighs_33 : decode b_M_weighs 33 = .ok (.aload_n 0, 1) := by decide +kernel
theorem d_M_weighs_34 : decode b_M_weighs 34 = .ok (.iload_n 3, 1) := by decide +kernel
theorem d_M_weighs_35 : decode b_M_weighs 35 = .ok (.invokevirtual 108, 3) := by decide +kernel
theorem d_M_weighs_38 : decode b_M_weighs 38 = .ok (.ireturn, 1) := by decide +kernel
theorem d_M_weighs_39 : decode b_M_weighs 39 = .ok (.aload_n 0, 1) := by decide +kernel
theorem d_M_weighs_40 : decode b_M_weighs 40 = .ok (.invokevirtual 212, 3) := by decide +kernel
theorem d_M_weighs_43 : decode b_M_weighs 43 = .ok (.aload_n 0, 1) := by decide +kernel
theorem d_M_weighs_44 : decode b_M_weighs 44 = .ok (.getfield 7, 3) := by decide +kernel
theorem d_M_weighs_47 : decode b_M_weighs 47 = .ok (.iload_n 1, 1) := by decide +kernel
theorem d_M_weighs_48 : decode b_M_weighs 48 = .ok (.iaload, 1) := by decide +kernel
theorem d_M_weighs_49 : decode b_M_weighs 49 = .ok (.istore 4, 2) := by decide +kernel
theorem d_M_weighs_51 : decode b_M_weighs 51 = .ok (.aload_n 0, 1) := by decide +kernel
theorem d_M_weighs_52 : decode b_M_weighs 52 = .ok (.getfield 7, 3) := by decide +kernel
theorem d_M_weighs_55 : decode b_M_weighs 55 = .ok (.iload_n 1, 1) := by decide +kernel
theorem d_M_weighs_56 : decode b_M_weighs 56 = .ok (.iload_n 2, 1) := by decide +kernel
theorem d_M_weighs_57 : decode b_M_weighs 57 = .ok (.iastore, 1) := by decide +kernel
theorem d_M_weighs_58 : decode b_M_weighs 58 = .ok (.iload 4, 2) := by decide +kernel
theorem d_M_weighs_60 : decode b_M_weighs 60 = .ok (.ireturn, 1) := by decide +kernel
theorem d_M_weight_0 : decode b_M_weight 0 = .ok (.aload_n 0, 1) := by decide +kernel
theorem d_M_weight_1 : decode b_M_weight 1 = .ok (.iconst 0, 1) := by decide +kernel
theorem d_M_weight_2 : decode b_M_weight 2 = .ok (.putfield 67, 3) := by decide +kernel
theorem d_M_weight_5 : decode b_M_weight 5 = .ok (.iload_n 1, 1) := by decide +kernel
theorem d_M_weight_6 : decode b_M_weight 6 = .ok (.i2l, 1) := by decide +kernel
theorem d_M_weight_7 : decode b_M_weight 7 = .ok (.lconst 0, 1) := by decide +kernel
theorem d_M_weight_8 : decode b_M_weight 8 = .ok (.ldc2_w 206, 3) := by decide +kernel
theorem d_M_weight_11 : decode b_M_weight 11 = .ok (.invokestatic 74, 3) := by decide +kernel
theorem d_M_weight_14 : decode b_M_weight 14 = .ok (.ifCond .eq 12, 3) := by decide +kernel
theorem d_M_weight_17 : decode b_M_weight 17 = .ok (.aload_n 0, 1) := by decide +kernel
theorem d_M_weight_18 : decode b_M_weight 18 = .ok (.getfield 7, 3) := by decide +kernel
theorem d_M_weight_21 : decode b_M_weight 21 = .ok (.iload_n 1, 1) := by decide +kernel
theorem d_M_weight_22 : decode b_M_weight 22 = .ok (.iaload, 1) := by decide +kernel
theorem d_M_weight_23 : decode b_M_weight 23 = .ok (.goto 8, 3) := by decide +kernel
theorem d_M_weight_26 : decode b_M_weight 26 = .ok (.aload_n 0, 1) := by decide +kernel
theorem d_M_weight_27 : decode b_M_weight 27 = .ok (.iconst (-1), 1) := by decide +kernel
theorem d_M_weight_28 : decode b_M_weight 28 = .ok (.invokevirtual 108, 3) := by decide +kernel
theorem d_M_weight_31 : decode b_M_weight 31 = .ok (.ireturn, 1) := by decide +kernel
theorem d_M_whatKind_0 : decode b_M_whatKind 0 = .ok (.aload_n 0, 1) := by decide +kernel
theorem d_M_whatKind_1 : decode b_M_whatKind 1 = .ok (.iconst 0, 1) := by decide +kernel
theorem d_M_whatKind_2 : decode b_M_whatKind 2 = .ok (.putfield 67, 3) := by decide +kernel
theorem d_M_whatKind_5 : decode b_M_whatKind 5 = .ok (.aload_n 0, 1) := by decide +kernel
theorem d_M_whatKind_6 : decode b_M_whatKind 6 = .ok (.iload_n 1, 1) := by decide +kernel
theorem d_M_whatKind_7 : decode b_M_whatKind 7 = .ok (.invokevirtual 159, 3) := by decide +kernel
theorem d_M_whatKind_10 : decode b_M_whatKind 10 = .ok (.ifCond .eq 7, 3) := by decide +kernel
theorem d_M_whatKind_13 : decode b_M_whatKind 13 = .ok (.iconst 0, 1) := by decide +kernel
theorem d_M_whatKind_14 : decode b_M_whatKind 14 = .ok (.goto 4, 3) := by decide +kernel
theorem d_M_whatKind_17 : decode b_M_whatKind 17 = .ok (.iconst (-1), 1) := by decide +kernel
theorem d_M_whatKind_18 : decode b_M_whatKind 18 = .ok (.iload_n 2, 1) := by decide +kernel
theorem d_M_whatKind_19 : decode b_M_whatKind 19 = .ok (.iconst 1, 1) := by decide +kernel
theorem d_M_whatKind_20 : decode b_M_whatKind 20 = .ok (.invokestatic 219, 3) := by decide +kernel
theorem d_M_whatKind_23 : decode b_M_whatKind 23 = .ok (.istore_n 3, 1) := by decide +kernel
theorem d_M_whatKind_24 : decode b_M_whatKind 24 = .ok (.aload_n 0, 1) := by decide +kernel
theorem d_M_whatKind_25 : decode b_M_whatKind 25 = .ok (.getfield 252, 3) := by decide +kernel
theorem d_M_whatKind_28 : decode b_M_whatKind 28 = .ok (.bipush 6, 2) := by decide +kernel
theorem d_M_whatKind_30 : decode b_M_whatKind 30 = .ok (.if_icmp .gt 7, 3) := by decide +kernel
theorem d_M_whatKind_33 : decode b_M_whatKind 33 = .ok (.iconst 1, 1) := by decide +kernel
theorem d_M_whatKind_34 : decode b_M_whatKind 34 = .ok (.goto 4, 3) := by decide +kernel
theorem d_M_whatKind_37 : decode b_M_whatKind 37 = .ok (.iconst 0, 1) := by decide +kernel
theorem d_M_whatKind_38 : decode b_M_whatKind 38 = .ok (.istore 4, 2) := by decide +kernel
theorem d_M_whatKind_40 : decode b_M_whatKind 40 = .ok (.iconst 0, 1) := by decide +kernel
theorem d_M_whatKind_41 : decode b_M_whatKind 41 = .ok (.istore 5, 2) := by decide +kernel
theorem d_M_whatKind_43 : decode b_M_whatKind 43 = .ok (.iload 5, 2) := by decide +kernel
theorem d_M_whatKind_45 : decode b_M_whatKind 45 = .ok (.aload_n 0, 1) := by decide +kernel
theorem d_M_whatKind_46 : decode b_M_whatKind 46 = .ok (.getfield 252, 3) := by decide +kernel
theorem d_M_whatKind_49 : decode b_M_whatKind 49 = .ok (.if_icmp .ge 32, 3) := by decide +kernel
theorem d_M_whatKind_52 : decode b_M_whatKind 52 = .ok (.iload 4, 2) := by decide +kernel
theorem d_M_whatKind_54 : decode b_M_whatKind 54 = .ok (.ifCond .eq 18, 3) := by decide +kernel
theorem d_M_whatKind_57 : decode b_M_whatKind 57 = .ok (.aload_n 0, 1) := by decide +kernel
theorem d_M_whatKind_58 : decode b_M_whatKind 58 = .ok (.getfield 64, 3) := by decide +kernel
theorem d_M_whatKind_61 : decode b_M_whatKind 61 = .ok (.iload 5, 2) := by decide +kernel
theorem d_M_whatKind_63 : decode b_M_whatKind 63 = .ok (.iaload, 1) := by decide +kernel
theorem d_M_whatKind_64 : decode b_M_whatKind 64 = .ok (.iconst 2, 1) := by decide +kernel
theorem d_M_whatKind_65 : decode b_M_whatKind 65 = .ok (.if_icmp .gt 7, 3) := by decide +kernel
theorem d_M_whatKind_68 : decode b_M_whatKind 68 = .ok (.iconst 1, 1) := by decide +kernel
theorem d_M_whatKind_69 : decode b_M_whatKind 69 = .ok (.goto 4, 3) := by decide +kernel
theorem d_M_whatKind_72 : decode b_M_whatKind 72 = .ok (.iconst 0, 1) := by decide +kernel
theorem d_M_whatKind_73 : decode b_M_whatKind 73 = .ok (.istore 4, 2) := by decide +kernel
theorem d_M_whatKind_75 : decode b_M_whatKind 75 = .ok (.iinc 5 1, 3) := by decide +kernel
theorem d_M_whatKind_78 : decode b_M_whatKind 78 = .ok (.goto (-35), 3) := by decide +kernel
theorem d_M_whatKind_81 : decode b_M_whatKind 81 = .ok (.iload_n 3, 1) := by decide +kernel
theorem d_M_whatKind_82 : decode b_M_whatKind 82 = .ok (.ifCond .ne 13, 3) := by decide +kernel
theorem d_M_whatKind_85 : decode b_M_whatKind 85 = .ok (.iload 4, 2) := by decide +kernel
theorem d_M_whatKind_87 : decode b_M_whatKind 87 = .ok (.ifCond .ne 8, 3) := by decide +kernel
theorem d_M_whatKind_90 : decode b_M_whatKind 90 = .ok (.bipush (-3), 2) := by decide +kernel
theorem d_M_whatKind_92 : decode b_M_whatKind 92 = .ok (.goto 4, 3) := by decide +kernel
theorem d_M_whatKind_95 : decode b_M_whatKind 95 = .ok (.iload_n 3, 1) := by decide +kernel
theorem d_M_whatKind_96 : decode b_M_whatKind 96 = .ok (.istore_n 3, 1) := by decide +kernel
theorem d_M_whatKind_97 : decode b_M_whatKind 97 = .ok (.iload_n 3, 1) := by decide +kernel
theorem d_M_whatKind_98 : decode b_M_whatKind 98 = .ok (.ifCond .ge 9, 3) := by decide +kernel
theorem d_M_whatKind_101 : decode b_M_whatKind 101 = .ok (.aload_n 0, 1) := by decide +kernel
theorem d_M_whatKind_102 : decode b_M_whatKind 102 = .ok (.iload_n 3, 1) := by decide +kernel
theorem d_M_whatKind_103 : decode b_M_whatKind 103 = .ok (.invokevirtual 108, 3) := by decide +kernel
theorem d_M_whatKind_106 : decode b_M_whatKind 106 = .ok (.ireturn, 1) := by decide +kernel
theorem d_M_whatKind_107 : decode b_M_whatKind 107 = .ok (.iconst 0, 1) := by decide +kernel
theorem d_M_whatKind_108 : decode b_M_whatKind 108 = .ok (.istore 5, 2) := by decide +kernel
theorem d_M_whatKind_110 : decode b_M_whatKind 110 = .ok (.iconst 0, 1) := by decide +kernel
theorem d_M_whatKind_111 : decode b_M_whatKind 111 = .ok (.istore 6, 2) := by decide +kernel
theorem d_M_whatKind_113 : decode b_M_whatKind 113 = .ok (.iload 6, 2) := by decide +kernel
theorem d_M_whatKind_115 : decode b_M_whatKind 115 = .ok (.iload_n 2, 1) := by decide +kernel
theorem d_M_whatKind_116 : decode b_M_whatKind 116 = .ok (.ifCond .ne 8, 3) := by decide +kernel
theorem d_M_whatKind_119 : decode b_M_whatKind 119 = .ok (.bipush 6, 2) := by decide +kernel
theorem d_M_whatKind_121 : decode b_M_whatKind 121 = .ok (.goto 5, 3) := by decide +kernel
theorem d_M_whatKind_124 : decode b_M_whatKind 124 = .ok (.bipush 10, 2) := by decide +kernel
theorem d_M_whatKind_126 : decode b_M_whatKind 126 = .ok (.if_icmp .ge 60, 3) := by decide +kernel
theorem d_M_whatKind_129 : decode b_M_whatKind 129 = .ok (.iload 5, 2) := by decide +kernel
theorem d_M_whatKind_131 : decode b_M_whatKind 131 = .ok (.aload_n 0, 1) := by decide +kernel
theorem d_M_whatKind_132 : decode b_M_whatKind 132 = .ok (.iload_n 2, 1) := by decide +kernel
theorem d_M_whatKind_133 : decode b_M_whatKind 133 = .ok (.ifCond .ne 8, 3) := by decide +kernel
theorem d_M_whatKind_136 : decode b_M_whatKind 136 = .ok (.iload 6, 2) := by decide +kernel
theorem d_M_whatKind_138 : decode b_M_whatKind 138 = .ok (.goto 9, 3) := by decide +kernel
theorem d_M_whatKind_141 : decode b_M_whatKind 141 = .ok (.aload_n 0, 1) := by decide +kernel
theorem d_M_whatKind_142 : decode b_M_whatKind 142 = .ok (.getfield 13, 3) := by decide +kernel
theorem d_M_whatKind_145 : decode b_M_whatKind 145 = .ok (.iload_n 1, 1) := by decide +kernel
theorem d_M_whatKind_146 : decode b_M_whatKind 146 = .ok (.iaload, 1) := by decide +kernel
theorem d_M_whatKind_147 : decode b_M_whatKind 147 = .ok (.iload_n 2, 1) := by decide +kernel
theorem d_M_whatKind_148 : decode b_M_whatKind 148 = .ok (.iconst 1, 1) := by decide +kernel
theorem d_M_whatKind_149 : decode b_M_whatKind 149 = .ok (.if_icmp .ne 8, 3) := by decide +kernel
theorem d_M_whatKind_152 : decode b_M_whatKind 152 = .ok (.iload 6, 2) := by decide +kernel
theorem d_M_whatKind_154 : decode b_M_whatKind 154 = .ok (.goto 9, 3) := by decide +kernel
theorem d_M_whatKind_157 : decode b_M_whatKind 157 = .ok (.aload_n 0, 1) := by decide +kernel
theorem d_M_whatKind_158 : decode b_M_whatKind 158 = .ok (.getfield 16, 3) := by decide +kernel
theorem d_M_whatKind_161 : decode b_M_whatKind 161 = .ok (.iload_n 1, 1) := by decide +kernel
theorem d_M_whatKind_162 : decode b_M_whatKind 162 = .ok (.iaload, 1) := by decide +kernel
theorem d_M_whatKind_163 : decode b_M_whatKind 163 = .ok (.invokevirtual 255, 3) := by decide +kernel
theorem d_M_whatKind_166 : decode b_M_whatKind 166 = .ok (.ifCond .eq 10, 3) := by decide +kernel
theorem d_M_whatKind_169 : decode b_M_whatKind 169 = .ok (.iconst 1, 1) := by decide +kernel
theorem d_M_whatKind_170 : decode b_M_whatKind 170 = .ok (.iload 6, 2) := by decide +kernel
theorem d_M_whatKind_172 : decode b_M_whatKind 172 = .ok (.ishl, 1) := by decide +kernel
theorem d_M_whatKind_173 : decode b_M_whatKind 173 = .ok (.goto 4, 3) := by decide +kernel
theorem d_M_whatKind_176 : decode b_M_whatKind 176 = .ok (.iconst 0, 1) := by decide +kernel
theorem d_M_whatKind_177 : decode b_M_whatKind 177 = .ok (.ior, 1) := by decide +kernel
theorem d_M_whatKind_178 : decode b_M_whatKind 178 = .ok (.istore 5, 2) := by decide +kernel
theorem d_M_whatKind_180 : decode b_M_whatKind 180 = .ok (.iinc 6 1, 3) := by decide +kernel
theorem d_M_whatKind_183 : decode b_M_whatKind 183 = .ok (.goto (-70), 3) := by decide +kernel
theorem d_M_whatKind_186 : decode b_M_whatKind 186 = .ok (.iload 5, 2) := by decide +kernel
theorem d_M_whatKind_188 : decode b_M_whatKind 188 = .ok (.ireturn, 1) := by decide +kernel
theorem d_M_worth_0 : decode b_M_worth 0 = .ok (.aload_n 0, 1) := by decide +kernel
theorem d_M_worth_1 : decode b_M_worth 1 = .ok (.iconst 0, 1) := by decide +kernel
theorem d_M_worth_2 : decode b_M_worth 2 = .ok (.putfield 67, 3) := by decide +kernel
theorem d_M_worth_5 : decode b_M_worth 5 = .ok (.aload_n 0, 1) := by decide +kernel
theorem d_M_worth_6 : decode b_M_worth 6 = .ok (.iload_n 1, 1) := by decide +kernel
theorem d_M_worth_7 : decode b_M_worth 7 = .ok (.invokevirtual 150, 3) := by decide +kernel
theorem d_M_worth_10 : decode b_M_worth 10 = .ok (.ifCond .eq 7, 3) := by decide +kernel
theorem d_M_worth_13 : decode b_M_worth 13 = .ok (.iconst 0, 1) := by decide +kernel
theorem d_M_worth_14 : decode b_M_worth 14 = .ok (.goto 4, 3) := by decide +kernel
theorem d_M_worth_17 : decode b_M_worth 17 = .ok (.iconst (-1), 1) := by decide +kernel
theorem d_M_worth_18 : decode b_M_worth 18 = .ok (.iload_n 2, 1) := by decide +kernel
theorem d_M_worth_19 : decode b_M_worth 19 = .ok (.iconst 1, 1) := by decide +kernel
theorem d_M_worth_20 : decode b_M_worth 20 = .ok (.invokestatic 219, 3) := by decide +kernel
theorem d_M_worth_23 : decode b_M_worth 23 = .ok (.istore_n 3, 1) := by decide +kernel
theorem d_M_worth_24 : decode b_M_worth 24 = .ok (.iload_n 3, 1) := by decide +kernel
theorem d_M_worth_25 : decode b_M_worth 25 = .ok (.ifCond .ge 14, 3) := by decide +kernel
theorem d_M_worth_28 : decode b_M_worth 28 = .ok (.ldc2_w 222, 3) := by decide +kernel
theorem d_M_worth_31 : decode b_M_worth 31 = .ok (.aload_n 0, 1) := by decide +kernel
theorem d_M_worth_32 : decode b_M_worth 32 = .ok (.iload_n 3, 1) := by decide +kernel
theorem d_M_worth_33 : decode b_M_worth 33 = .ok (.invokevirtual 108, 3) := by decide +kernel
theorem d_M_worth_36 : decode b_M_worth 36 = .ok (.i2l, 1) := by decide +kernel
theorem d_M_worth_37 : decode b_M_worth 37 = .ok (.lsub, 1) := by decide +kernel
theorem d_M_worth_38 : decode b_M_worth 38 = .ok (.lreturn, 1) := by decide +kernel
theorem d_M_worth_39 : decode b_M_worth 39 = .ok (.aload_n 0, 1) := by decide +kernel
theorem d_M_worth_40 : decode b_M_worth 40 = .ok (.aload_n 0, 1) := by decide +kernel
theorem d_M_worth_41 : decode b_M_worth 41 = .ok (.getfield 19, 3) := by decide +kernel
theorem d_M_worth_44 : decode b_M_worth 44 = .ok (.iload_n 1, 1) := by decide +kernel
theorem d_M_worth_45 : decode b_M_worth 45 = .ok (.iaload, 1) := by decide +kernel
theorem d_M_worth_46 : decode b_M_worth 46 = .ok (.invokevirtual 99, 3) := by decide +kernel
theorem d_M_worth_49 : decode b_M_worth 49 = .ok (.istore 4, 2) := by decide +kernel
theorem d_M_worth_51 : decode b_M_worth 51 = .ok (.aload_n 0, 1) := by decide +kernel
theorem d_M_worth_52 : decode b_M_worth 52 = .ok (.iload 4, 2) := by decide +kernel
theorem d_M_worth_54 : decode b_M_worth 54 = .ok (.invokevirtual 102, 3) := by decide +kernel
theorem d_M_worth_57 : decode b_M_worth 57 = .ok (.istore 5, 2) := by decide +kernel
theorem d_M_worth_59 : decode b_M_worth 59 = .ok (.iload 5, 2) := by decide +kernel
theorem d_M_worth_61 : decode b_M_worth 61 = .ok (.ifCond .ge 6, 3) := by decide +kernel
theorem d_M_worth_64 : decode b_M_worth 64 = .ok (.iload_n 2, 1) := by decide +kernel
theorem d_M_worth_65 : decode b_M_worth 65 = .ok (.i2l, 1) := by decide +kernel
theorem d_M_worth_66 : decode b_M_worth 66 = .ok (.lreturn, 1) := by decide +kernel
theorem d_M_worth_67 : decode b_M_worth 67 = .ok (.aload_n 0, 1) := by decide +kernel
theorem d_M_worth_68 : decode b_M_worth 68 = .ok (.getfield 7, 3) := by decide +kernel
theorem d_M_worth_71 : decode b_M_worth 71 = .ok (.aload_n 0, 1) := by decide +kernel
theorem d_M_worth_72 : decode b_M_worth 72 = .ok (.bipush 63, 2) := by decide +kernel
theorem d_M_worth_74 : decode b_M_worth 74 = .ok (.invokevirtual 102, 3) := by decide +kernel
theorem d_M_worth_77 : decode b_M_worth 77 = .ok (.iaload, 1) := by decide +kernel
theorem d_M_worth_78 : decode b_M_worth 78 = .ok (.istore 6, 2) := by decide +kernel
theorem d_M_worth_80 : decode b_M_worth 80 = .ok (.aload_n 0, 1) := by decide +kernel
theorem d_M_worth_81 : decode b_M_worth 81 = .ok (.getfield 7, 3) := by decide +kernel
theorem d_M_worth_84 : decode b_M_worth 84 = .ok (.iload 5, 2) := by decide +kernel
theorem d_M_worth_86 : decode b_M_worth 86 = .ok (.iaload, 1) := by decide +kernel
theorem d_M_worth_87 : decode b_M_worth 87 = .ok (.i2l, 1) := by decide +kernel
theorem d_M_worth_88 : decode b_M_worth 88 = .ok (.aload_n 0, 1) := by decide +kernel
theorem d_M_worth_89 : decode b_M_worth 89 = .ok (.bipush 63, 2) := by decide +kernel
theorem d_M_worth_91 : decode b_M_worth 91 = .ok (.invokevirtual 224, 3) := by decide +kernel
theorem d_M_worth_94 : decode b_M_worth 94 = .ok (.i2l, 1) := by decide +kernel
theorem d_M_worth_95 : decode b_M_worth 95 = .ok (.lmul, 1) := by decide +kernel
theorem d_M_worth_96 : decode b_M_worth 96 = .ok (.iload 6, 2) := by decide +kernel
theorem d_M_worth_98 : decode b_M_worth 98 = .ok (.i2l, 1) := by decide +kernel
theorem d_M_worth_99 : decode b_M_worth 99 = .ok (.aload_n 0, 1) := by decide +kernel
theorem d_M_worth_100 : decode b_M_worth 100 = .ok (.iload 4, 2) := by decide +kernel
theorem d_M_worth_102 : decode b_M_worth 102 = .ok (.invokevirtual 224, 3) := by decide +kernel
theorem d_M_worth_105 : decode b_M_worth 105 = .ok (.i2l, 1) := by decide +kernel
theorem d_M_worth_106 : decode b_M_worth 106 = .ok (.lmul, 1) := by decide +kernel
theorem d_M_worth_107 : decode b_M_worth 107 = .ok (.lsub, 1) := by decide +kernel
theorem d_M_worth_108 : decode b_M_worth 108 = .ok (.lstore 7, 2) := by decide +kernel
theorem d_M_worth_110 : decode b_M_worth 110 = .ok (.aload_n 0, 1) := by decide +kernel
theorem d_M_worth_111 : decode b_M_worth 111 = .ok (.iload 4, 2) := by decide +kernel
theorem d_M_worth_113 : decode b_M_worth 113 = .ok (.invokevirtual 224, 3) := by decide +kernel
theorem d_M_worth_116 : decode b_M_worth 116 = .ok (.i2l, 1) := by decide +kernel
theorem d_M_worth_117 : decode b_M_worth 117 = .ok (.aload_n 0, 1) := by decide +kernel
theorem d_M_worth_118 : decode b_M_worth 118 = .ok (.bipush 63, 2) := by decide +kernel
theorem d_M_worth_120 : decode b_M_worth 120 = .ok (.invokevirtual 224, 3) := by decide +kernel
theorem d_M_worth_123 : decode b_M_worth 123 = .ok (.i2l, 1) := by decide +kernel
theorem d_M_worth_124 : decode b_M_worth 124 = .ok (.lmul, 1) := by decide +kernel
theorem d_M_worth_125 : decode b_M_worth 125 = .ok (.lstore 9, 2) := by decide +kernel
theorem d_M_worth_127 : decode b_M_worth 127 = .ok (.lload 7, 2) := by decide +kernel
theorem d_M_worth_129 : decode b_M_worth 129 = .ok (.lconst 0, 1) := by decide +kernel
theorem d_M_worth_130 : decode b_M_worth 130 = .ok (.lcmp, 1) := by decide +kernel
theorem d_M_worth_131 : decode b_M_worth 131 = .ok (.ifCond .gt 8, 3) := by decide +kernel
theorem d_M_worth_134 : decode b_M_worth 134 = .ok (.iload_n 2, 1) := by decide +kernel
theorem d_M_worth_135 : decode b_M_worth 135 = .ok (.i2l, 1) := by decide +kernel
theorem d_M_worth_136 : decode b_M_worth 136 = .ok (.goto 11, 3) := by decide +kernel
theorem d_M_worth_139 : decode b_M_worth 139 = .ok (.lload 7, 2) := by decide +kernel
theorem d_M_worth_141 : decode b_M_worth 141 = .ok (.lload 9, 2) := by decide +kernel
theorem d_M_worth_143 : decode b_M_worth 143 = .ok (.iload_n 2, 1) := by decide +kernel
theorem d_M_worth_144 : decode b_M_worth 144 = .ok (.invokestatic 227, 3) := by decide +kernel
theorem d_M_worth_147 : decode b_M_worth 147 = .ok (.lreturn, 1) := by decide +kernel
theorem d_M_wrong_0 : decode b_M_wrong 0 = .ok (.aload_n 0, 1) := by decide +kernel
theorem d_M_wrong_1 : decode b_M_wrong 1 = .ok (.iconst 0, 1) := by decide +kernel
theorem d_M_wrong_2 : decode b_M_wrong 2 = .ok (.putfield 67, 3) := by decide +kernel
theorem d_M_wrong_5 : decode b_M_wrong 5 = .ok (.iload_n 1, 1) := by decide +kernel
theorem d_M_wrong_6 : decode b_M_wrong 6 = .ok (.ifCond .lt 8, 3) := by decide +kernel
theorem d_M_wrong_9 : decode b_M_wrong 9 = .ok (.iload_n 2, 1) := by decide +kernel
theorem d_M_wrong_10 : decode b_M_wrong 10 = .ok (.iconst 2, 1) := by decide +kernel
theorem d_M_wrong_11 : decode b_M_wrong 11 = .ok (.if_icmp .ge 8, 3) := by decide +kernel
theorem d_M_wrong_14 : decode b_M_wrong 14 = .ok (.bipush (-4), 2) := by decide +kernel
theorem d_M_wrong_16 : decode b_M_wrong 16 = .ok (.goto 29, 3) := by decide +kernel
theorem d_M_wrong_19 : decode b_M_wrong 19 = .ok (.iload_n 1, 1) := by decide +kernel
theorem d_M_wrong_20 : decode b_M_wrong 20 = .ok (.bipush 8, 2) := by decide +kernel
theorem d_M_wrong_22 : decode b_M_wrong 22 = .ok (.if_icmp .gt 17, 3) := by decide +kernel
theorem d_M_wrong_25 : decode b_M_wrong 25 = .ok (.iload_n 1, 1) := by decide +kernel
theorem d_M_wrong_26 : decode b_M_wrong 26 = .ok (.aload_n 0, 1) := by decide +kernel
theorem d_M_wrong_27 : decode b_M_wrong 27 = .ok (.getfield 78, 3) := by decide +kernel
theorem d_M_wrong_30 : decode b_M_wrong 30 = .ok (.if_icmp .gt 9, 3) := by decide +kernel
theorem d_M_wrong_33 : decode b_M_wrong 33 = .ok (.iload_n 2, 1) := by decide +kernel
theorem d_M_wrong_34 : decode b_M_wrong 34 = .ok (.bipush 20, 2) := by decide +kernel
theorem d_M_wrong_36 : decode b_M_wrong 36 = .ok (.if_icmp .le 8, 3) := by decide +kernel
theorem d_M_wrong_39 : decode b_M_wrong 39 = .ok (.bipush (-6), 2) := by decide +kernel
theorem d_M_wrong_41 : decode b_M_wrong 41 = .ok (.goto 4, 3) := by decide +kernel
theorem d_M_wrong_44 : decode b_M_wrong 44 = .ok (.iconst 0, 1) := by decide +kernel
theorem d_M_wrong_45 : decode b_M_wrong 45 = .ok (.istore 4, 2) := by decide +kernel
theorem d_M_wrong_47 : decode b_M_wrong 47 = .ok (.iload 4, 2) := by decide +kernel
theorem d_M_wrong_49 : decode b_M_wrong 49 = .ok (.iload_n 3, 1) := by decide +kernel
theorem d_M_wrong_50 : decode b_M_wrong 50 = .ok (.iconst 1, 1) := by decide +kernel
theorem d_M_wrong_51 : decode b_M_wrong 51 = .ok (.invokestatic 219, 3) := by decide +kernel
theorem d_M_wrong_54 : decode b_M_wrong 54 = .ok (.istore 4, 2) := by decide +kernel
theorem d_M_wrong_56 : decode b_M_wrong 56 = .ok (.iload 4, 2) := by decide +kernel
theorem d_M_wrong_58 : decode b_M_wrong 58 = .ok (.ifCond .ge 15, 3) := by decide +kernel
theorem d_M_wrong_61 : decode b_M_wrong 61 = .ok (.ldc2_w 222, 3) := by decide +kernel
theorem d_M_wrong_64 : decode b_M_wrong 64 = .ok (.aload_n 0, 1) := by decide +kernel
theorem d_M_wrong_65 : decode b_M_wrong 65 = .ok (.iload 4, 2) := by decide +kernel
theorem d_M_wrong_67 : decode b_M_wrong 67 = .ok (.invokevirtual 108, 3) := by decide +kernel
theorem d_M_wrong_70 : decode b_M_wrong 70 = .ok (.i2l, 1) := by decide +kernel
theorem d_M_wrong_71 : decode b_M_wrong 71 = .ok (.lsub, 1) := by decide +kernel
theorem d_M_wrong_72 : decode b_M_wrong 72 = .ok (.lreturn, 1) := by decide +kernel
theorem d_M_wrong_73 : decode b_M_wrong 73 = .ok (.lconst 0, 1) := by decide +kernel
theorem d_M_wrong_74 : decode b_M_wrong 74 = .ok (.lstore 5, 2) := by decide +kernel
theorem d_M_wrong_76 : decode b_M_wrong 76 = .ok (.lconst 1, 1) := by decide +kernel
theorem d_M_wrong_77 : decode b_M_wrong 77 = .ok (.lstore 7, 2) := by decide +kernel
theorem d_M_wrong_79 : decode b_M_wrong 79 = .ok (.iconst 0, 1) := by decide +kernel
theorem d_M_wrong_80 : decode b_M_wrong 80 = .ok (.istore 9, 2) := by decide +kernel
theorem d_M_wrong_82 : decode b_M_wrong 82 = .ok (.iload 9, 2) := by decide +kernel
theorem d_M_wrong_84 : decode b_M_wrong 84 = .ok (.iload_n 1, 1) := by decide +kernel
theorem d_M_wrong_85 : decode b_M_wrong 85 = .ok (.if_icmp .ge 16, 3) := by decide +kernel
theorem d_M_wrong_88 : decode b_M_wrong 88 = .ok (.lload 7, 2) := by decide +kernel
theorem d_M_wrong_90 : decode b_M_wrong 90 = .ok (.iload_n 2, 1) := by decide +kernel
theorem d_M_wrong_91 : decode b_M_wrong 91 = .ok (.i2l, 1) := by decide +kernel
theorem d_M_wrong_92 : decode b_M_wrong 92 = .ok (.lmul, 1) := by decide +kernel
theorem d_M_wrong_93 : decode b_M_wrong 93 = .ok (.lstore 7, 2) := by decide +kernel
theorem d_M_wrong_95 : decode b_M_wrong 95 = .ok (.iinc 9 1, 3) := by decide +kernel
theorem d_M_wrong_98 : decode b_M_wrong 98 = .ok (.goto (-16), 3) := by decide +kernel
theorem d_M_wrong_101 : decode b_M_wrong 101 = .ok (.aload_n 0, 1) := by decide +kernel
theorem d_M_wrong_102 : decode b_M_wrong 102 = .ok (.invokevirtual 165, 3) := by decide +kernel
theorem d_M_wrong_105 : decode b_M_wrong 105 = .ok (.iconst 0, 1) := by decide +kernel
theorem d_M_wrong_106 : decode b_M_wrong 106 = .ok (.istore 9, 2) := by decide +kernel
theorem d_M_wrong_108 : decode b_M_wrong 108 = .ok (.iload 9, 2) := by decide +kernel
theorem d_M_wrong_110 : decode b_M_wrong 110 = .ok (.iconst 1, 1) := by decide +kernel
theorem d_M_wrong_111 : decode b_M_wrong 111 = .ok (.iload_n 1, 1) := by decide +kernel
theorem d_M_wrong_112 : decode b_M_wrong 112 = .ok (.ishl, 1) := by decide +kernel
theorem d_M_wrong_113 : decode b_M_wrong 113 = .ok (.if_icmp .ge 97, 3) := by decide +kernel
theorem d_M_wrong_116 : decode b_M_wrong 116 = .ok (.lconst 1, 1) := by decide +kernel
theorem d_M_wrong_117 : decode b_M_wrong 117 = .ok (.lstore 10, 2) := by decide +kernel
theorem d_M_wrong_119 : decode b_M_wrong 119 = .ok (.iconst 0, 1) := by decide +kernel
theorem d_M_wrong_120 : decode b_M_wrong 120 = .ok (.istore 12, 2) := by decide +kernel
theorem d_M_wrong_122 : decode b_M_wrong 122 = .ok (.iload 12, 2) := by decide +kernel
theorem d_M_wrong_124 : decode b_M_wrong 124 = .ok (.iload_n 1, 1) := by decide +kernel
theorem d_M_wrong_125 : decode b_M_wrong 125 = .ok (.if_icmp .ge 57, 3) := by decide +kernel
theorem d_M_wrong_128 : decode b_M_wrong 128 = .ok (.lload 10, 2) := by decide +kernel
theorem d_M_wrong_130 : decode b_M_wrong 130 = .ok (.iload 9, 2) := by decide +kernel
theorem d_M_wrong_132 : decode b_M_wrong 132 = .ok (.iload 12, 2) := by decide +kernel
theorem d_M_wrong_134 : decode b_M_wrong 134 = .ok (.invokestatic 85, 3) := by decide +kernel
theorem d_M_wrong_137 : decode b_M_wrong 137 = .ok (.ifCond .eq 7, 3) := by decide +kernel
theorem d_M_wrong_140 : decode b_M_wrong 140 = .ok (.lconst 1, 1) := by decide +kernel
theorem d_M_wrong_141 : decode b_M_wrong 141 = .ok (.goto 7, 3) := by decide +kernel
theorem d_M_wrong_144 : decode b_M_wrong 144 = .ok (.iload_n 2, 1) := by decide +kernel
theorem d_M_wrong_145 : decode b_M_wrong 145 = .ok (.iconst 1, 1) := by decide +kernel
theorem d_M_wrong_146 : decode b_M_wrong 146 = .ok (.isub, 1) := by decide +kernel
theorem d_M_wrong_147 : decode b_M_wrong 147 = .ok (.i2l, 1) := by decide +kernel
theorem d_M_wrong_148 : decode b_M_wrong 148 = .ok (.lmul, 1) := by decide +kernel
theorem d_M_wrong_149 : decode b_M_wrong 149 = .ok (.lstore 10, 2) := by decide +kernel
theorem d_M_wrong_151 : decode b_M_wrong 151 = .ok (.aload_n 0, 1) := by decide +kernel
theorem d_M_wrong_152 : decode b_M_wrong 152 = .ok (.iload 9, 2) := by decide +kernel
theorem d_M_wrong_154 : decode b_M_wrong 154 = .ok (.iload 12, 2) := by decide +kernel
theorem d_M_wrong_156 : decode b_M_wrong 156 = .ok (.invokestatic 85, 3) := by decide +kernel
theorem d_M_wrong_159 : decode b_M_wrong 159 = .ok (.ifCond .eq 7, 3) := by decide +kernel
theorem d_M_wrong_162 : decode b_M_wrong 162 = .ok (.iconst 1, 1) := by decide +kernel
theorem d_M_wrong_163 : decode b_M_wrong 163 = .ok (.goto 9, 3) := by decide +kernel
theorem d_M_wrong_166 : decode b_M_wrong 166 = .ok (.aload_n 0, 1) := by decide +kernel
theorem d_M_wrong_167 : decode b_M_wrong 167 = .ok (.iload 12, 2) := by decide +kernel
theorem d_M_wrong_169 : decode b_M_wrong 169 = .ok (.invokevirtual 153, 3) := by decide +kernel
theorem d_M_wrong_172 : decode b_M_wrong 172 = .ok (.invokevirtual 156, 3) := by decide +kernel
theorem d_M_wrong_175 : decode b_M_wrong 175 = .ok (.pop, 1) := by decide +kernel
theorem d_M_wrong_176 : decode b_M_wrong 176 = .ok (.iinc 12 1, 3) := by decide +kernel
theorem d_M_wrong_179 : decode b_M_wrong 179 = .ok (.goto (-57), 3) := by decide +kernel
theorem d_M_wrong_182 : decode b_M_wrong 182 = .ok (.lload 5, 2) := by decide +kernel
theorem d_M_wrong_184 : decode b_M_wrong 184 = .ok (.aload_n 0, 1) := by decide +kernel
theorem d_M_wrong_185 : decode b_M_wrong 185 = .ok (.invokevirtual 234, 3) := by decide +kernel
theorem d_M_wrong_188 : decode b_M_wrong 188 = .ok (.ifCond .ne 8, 3) := by decide +kernel
theorem d_M_wrong_191 : decode b_M_wrong 191 = .ok (.lload 10, 2) := by decide +kernel
theorem d_M_wrong_193 : decode b_M_wrong 193 = .ok (.goto 4, 3) := by decide +kernel
theorem d_M_wrong_196 : decode b_M_wrong 196 = .ok (.lconst 0, 1) := by decide +kernel
theorem d_M_wrong_197 : decode b_M_wrong 197 = .ok (.ladd, 1) := by decide +kernel
theorem d_M_wrong_198 : decode b_M_wrong 198 = .ok (.lstore 5, 2) := by decide +kernel
theorem d_M_wrong_200 : decode b_M_wrong 200 = .ok (.aload_n 0, 1) := by decide +kernel
theorem d_M_wrong_201 : decode b_M_wrong 201 = .ok (.invokevirtual 171, 3) := by decide +kernel
theorem d_M_wrong_204 : decode b_M_wrong 204 = .ok (.iinc 9 1, 3) := by decide +kernel
theorem d_M_wrong_207 : decode b_M_wrong 207 = .ok (.goto (-99), 3) := by decide +kernel
theorem d_M_wrong_210 : decode b_M_wrong 210 = .ok (.lload 5, 2) := by decide +kernel
theorem d_M_wrong_212 : decode b_M_wrong 212 = .ok (.lload 7, 2) := by decide +kernel
theorem d_M_wrong_214 : decode b_M_wrong 214 = .ok (.iload_n 3, 1) := by decide +kernel
theorem d_M_wrong_215 : decode b_M_wrong 215 = .ok (.invokestatic 227, 3) := by decide +kernel
theorem d_M_wrong_218 : decode b_M_wrong 218 = .ok (.lreturn, 1) := by decide +kernel
