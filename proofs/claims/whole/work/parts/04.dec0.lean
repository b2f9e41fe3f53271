theorem d_Jint_bitCount_0 : decode b_Jint_bitCount 0 = .ok (.iload_n 0, 1) := by decide +kernel
theorem d_Jint_bitCount_1 : decode b_Jint_bitCount 1 = .ok (.iload_n 0, 1) := by decide +kernel
theorem d_Jint_bitCount_2 : decode b_Jint_bitCount 2 = .ok (.iconst 1, 1) := by decide +kernel
theorem d_Jint_bitCount_3 : decode b_Jint_bitCount 3 = .ok (.iushr, 1) := by decide +kernel
theorem d_Jint_bitCount_4 : decode b_Jint_bitCount 4 = .ok (.ldc_w 265, 3) := by decide +kernel
theorem d_Jint_bitCount_7 : decode b_Jint_bitCount 7 = .ok (.iand, 1) := by decide +kernel
theorem d_Jint_bitCount_8 : decode b_Jint_bitCount 8 = .ok (.isub, 1) := by decide +kernel
theorem d_Jint_bitCount_9 : decode b_Jint_bitCount 9 = .ok (.istore_n 0, 1) := by decide +kernel
theorem d_Jint_bitCount_10 : decode b_Jint_bitCount 10 = .ok (.iload_n 0, 1) := by decide +kernel
theorem d_Jint_bitCount_11 : decode b_Jint_bitCount 11 = .ok (.ldc_w 266, 3) := by decide +kernel
theorem d_Jint_bitCount_14 : decode b_Jint_bitCount 14 = .ok (.iand, 1) := by decide +kernel
theorem d_Jint_bitCount_15 : decode b_Jint_bitCount 15 = .ok (.iload_n 0, 1) := by decide +kernel
theorem d_Jint_bitCount_16 : decode b_Jint_bitCount 16 = .ok (.iconst 2, 1) := by decide +kernel
theorem d_Jint_bitCount_17 : decode b_Jint_bitCount 17 = .ok (.iushr, 1) := by decide +kernel
theorem d_Jint_bitCount_18 : decode b_Jint_bitCount 18 = .ok (.ldc_w 266, 3) := by decide +kernel
theorem d_Jint_bitCount_21 : decode b_Jint_bitCount 21 = .ok (.iand, 1) := by decide +kernel
theorem d_Jint_bitCount_22 : decode b_Jint_bitCount 22 = .ok (.iadd, 1) := by decide +kernel
theorem d_Jint_bitCount_23 : decode b_Jint_bitCount 23 = .ok (.istore_n 0, 1) := by decide +kernel
theorem d_Jint_bitCount_24 : decode b_Jint_bitCount 24 = .ok (.iload_n 0, 1) := by decide +kernel
theorem d_Jint_bitCount_25 : decode b_Jint_bitCount 25 = .ok (.iload_n 0, 1) := by decide +kernel
theorem d_Jint_bitCount_26 : decode b_Jint_bitCount 26 = .ok (.iconst 4, 1) := by decide +kernel
theorem d_Jint_bitCount_27 : decode b_Jint_bitCount 27 = .ok (.iushr, 1) := by decide +kernel
theorem d_Jint_bitCount_28 : decode b_Jint_bitCount 28 = .ok (.iadd, 1) := by decide +kernel
theorem d_Jint_bitCount_29 : decode b_Jint_bitCount 29 = .ok (.ldc_w 267, 3) := by decide +kernel
theorem d_Jint_bitCount_32 : decode b_Jint_bitCount 32 = .ok (.iand, 1) := by decide +kernel
theorem d_Jint_bitCount_33 : decode b_Jint_bitCount 33 = .ok (.istore_n 0, 1) := by decide +kernel
theorem d_Jint_bitCount_34 : decode b_Jint_bitCount 34 = .ok (.iload_n 0, 1) := by decide +kernel
theorem d_Jint_bitCount_35 : decode b_Jint_bitCount 35 = .ok (.iload_n 0, 1) := by decide +kernel
theorem d_Jint_bitCount_36 : decode b_Jint_bitCount 36 = .ok (.bipush 8, 2) := by decide +kernel
theorem d_Jint_bitCount_38 : decode b_Jint_bitCount 38 = .ok (.iushr, 1) := by decide +kernel
theorem d_Jint_bitCount_39 : decode b_Jint_bitCount 39 = .ok (.iadd, 1) := by decide +kernel
theorem d_Jint_bitCount_40 : decode b_Jint_bitCount 40 = .ok (.istore_n 0, 1) := by decide +kernel
theorem d_Jint_bitCount_41 : decode b_Jint_bitCount 41 = .ok (.iload_n 0, 1) := by decide +kernel
theorem d_Jint_bitCount_42 : decode b_Jint_bitCount 42 = .ok (.iload_n 0, 1) := by decide +kernel
theorem d_Jint_bitCount_43 : decode b_Jint_bitCount 43 = .ok (.bipush 16, 2) := by decide +kernel
theorem d_Jint_bitCount_45 : decode b_Jint_bitCount 45 = .ok (.iushr, 1) := by decide +kernel
theorem d_Jint_bitCount_46 : decode b_Jint_bitCount 46 = .ok (.iadd, 1) := by decide +kernel
theorem d_Jint_bitCount_47 : decode b_Jint_bitCount 47 = .ok (.istore_n 0, 1) := by decide +kernel
theorem d_Jint_bitCount_48 : decode b_Jint_bitCount 48 = .ok (.iload_n 0, 1) := by decide +kernel
theorem d_Jint_bitCount_49 : decode b_Jint_bitCount 49 = .ok (.bipush 63, 2) := by decide +kernel
theorem d_Jint_bitCount_51 : decode b_Jint_bitCount 51 = .ok (.iand, 1) := by decide +kernel
theorem d_Jint_bitCount_52 : decode b_Jint_bitCount 52 = .ok (.ireturn, 1) := by decide +kernel
theorem d_Jlong_bitCount_0 : decode b_Jlong_bitCount 0 = .ok (.lload_n 0, 1) := by decide +kernel
theorem d_Jlong_bitCount_1 : decode b_Jlong_bitCount 1 = .ok (.lload_n 0, 1) := by decide +kernel
theorem d_Jlong_bitCount_2 : decode b_Jlong_bitCount 2 = .ok (.iconst 1, 1) := by decide +kernel
theorem d_Jlong_bitCount_3 : decode b_Jlong_bitCount 3 = .ok (.lushr, 1) := by decide +kernel
theorem d_Jlong_bitCount_4 : decode b_Jlong_bitCount 4 = .ok (.ldc2_w 314, 3) := by decide +kernel
theorem d_Jlong_bitCount_7 : decode b_Jlong_bitCount 7 = .ok (.land, 1) := by decide +kernel
theorem d_Jlong_bitCount_8 : decode b_Jlong_bitCount 8 = .ok (.lsub, 1) := by decide +kernel
theorem d_Jlong_bitCount_9 : decode b_Jlong_bitCount 9 = .ok (.lstore_n 0, 1) := by decide +kernel
theorem d_Jlong_bitCount_10 : decode b_Jlong_bitCount 10 = .ok (.lload_n 0, 1) := by decide +kernel
theorem d_Jlong_bitCount_11 : decode b_Jlong_bitCount 11 = .ok (.ldc2_w 316, 3) := by decide +kernel
theorem d_Jlong_bitCount_14 : decode b_Jlong_bitCount 14 = .ok (.land, 1) := by decide +kernel
theorem d_Jlong_bitCount_15 : decode b_Jlong_bitCount 15 = .ok (.lload_n 0, 1) := by decide +kernel
theorem d_Jlong_bitCount_16 : decode b_Jlong_bitCount 16 = .ok (.iconst 2, 1) := by decide +kernel
theorem d_Jlong_bitCount_17 : decode b_Jlong_bitCount 17 = .ok (.lushr, 1) := by decide +kernel
theorem d_Jlong_bitCount_18 : decode b_Jlong_bitCount 18 = .ok (.ldc2_w 316, 3) := by decide +kernel
theorem d_Jlong_bitCount_21 : decode b_Jlong_bitCount 21 = .ok (.land, 1) := by decide +kernel
theorem d_Jlong_bitCount_22 : decode b_Jlong_bitCount 22 = .ok (.ladd, 1) := by decide +kernel
theorem d_Jlong_bitCount_23 : decode b_Jlong_bitCount 23 = .ok (.lstore_n 0, 1) := by decide +kernel
theorem d_Jlong_bitCount_24 : decode b_Jlong_bitCount 24 = .ok (.lload_n 0, 1) := by decide +kernel
theorem d_Jlong_bitCount_25 : decode b_Jlong_bitCount 25 = .ok (.lload_n 0, 1) := by decide +kernel
theorem d_Jlong_bitCount_26 : decode b_Jlong_bitCount 26 = .ok (.iconst 4, 1) := by decide +kernel
theorem d_Jlong_bitCount_27 : decode b_Jlong_bitCount 27 = .ok (.lushr, 1) := by decide +kernel
theorem d_Jlong_bitCount_28 : decode b_Jlong_bitCount 28 = .ok (.ladd, 1) := by decide +kernel
theorem d_Jlong_bitCount_29 : decode b_Jlong_bitCount 29 = .ok (.ldc2_w 318, 3) := by decide +kernel
theorem d_Jlong_bitCount_32 : decode b_Jlong_bitCount 32 = .ok (.land, 1) := by decide +kernel
theorem d_Jlong_bitCount_33 : decode b_Jlong_bitCount 33 = .ok (.lstore_n 0, 1) := by decide +kernel
theorem d_Jlong_bitCount_34 : decode b_Jlong_bitCount 34 = .ok (.lload_n 0, 1) := by decide +kernel
theorem d_Jlong_bitCount_35 : decode b_Jlong_bitCount 35 = .ok (.lload_n 0, 1) := by decide +kernel
theorem d_Jlong_bitCount_36 : decode b_Jlong_bitCount 36 = .ok (.bipush 8, 2) := by decide +kernel
theorem d_Jlong_bitCount_38 : decode b_Jlong_bitCount 38 = .ok (.lushr, 1) := by decide +kernel
theorem d_Jlong_bitCount_39 : decode b_Jlong_bitCount 39 = .ok (.ladd, 1) := by decide +kernel
theorem d_Jlong_bitCount_40 : decode b_Jlong_bitCount 40 = .ok (.lstore_n 0, 1) := by decide +kernel
theorem d_Jlong_bitCount_41 : decode b_Jlong_bitCount 41 = .ok (.lload_n 0, 1) := by decide +kernel
theorem d_Jlong_bitCount_42 : decode b_Jlong_bitCount 42 = .ok (.lload_n 0, 1) := by decide +kernel
theorem d_Jlong_bitCount_43 : decode b_Jlong_bitCount 43 = .ok (.bipush 16, 2) := by decide +kernel
theorem d_Jlong_bitCount_45 : decode b_Jlong_bitCount 45 = .ok (.lushr, 1) := by decide +kernel
theorem d_Jlong_bitCount_46 : decode b_Jlong_bitCount 46 = .ok (.ladd, 1) := by decide +kernel
theorem d_Jlong_bitCount_47 : decode b_Jlong_bitCount 47 = .ok (.lstore_n 0, 1) := by decide +kernel
theorem d_Jlong_bitCount_48 : decode b_Jlong_bitCount 48 = .ok (.lload_n 0, 1) := by decide +kernel
theorem d_Jlong_bitCount_49 : decode b_Jlong_bitCount 49 = .ok (.lload_n 0, 1) := by decide +kernel
theorem d_Jlong_bitCount_50 : decode b_Jlong_bitCount 50 = .ok (.bipush 32, 2) := by decide +kernel
theorem d_Jlong_bitCount_52 : decode b_Jlong_bitCount 52 = .ok (.lushr, 1) := by decide +kernel
theorem d_Jlong_bitCount_53 : decode b_Jlong_bitCount 53 = .ok (.ladd, 1) := by decide +kernel
theorem d_Jlong_bitCount_54 : decode b_Jlong_bitCount 54 = .ok (.lstore_n 0, 1) := by decide +kernel
theorem d_Jlong_bitCount_55 : decode b_Jlong_bitCount 55 = .ok (.lload_n 0, 1) := by decide +kernel
theorem d_Jlong_bitCount_56 : decode b_Jlong_bitCount 56 = .ok (.l2i, 1) := by decide +kernel
theorem d_Jlong_bitCount_57 : decode b_Jlong_bitCount 57 = .ok (.bipush 127, 2) := by decide +kernel
theorem d_Jlong_bitCount_59 : decode b_Jlong_bitCount 59 = .ok (.iand, 1) := by decide +kernel
theorem d_Jlong_bitCount_60 : decode b_Jlong_bitCount 60 = .ok (.ireturn, 1) := by decide +kernel
theorem d_Sta_hasDay_0 : decode b_Sta_hasDay 0 = .ok (.iload_n 1, 1) := by decide +kernel
theorem d_Sta_hasDay_1 : decode b_Sta_hasDay 1 = .ok (.ifCond .lt 21, 3) := by decide +kernel
theorem d_Sta_hasDay_4 : decode b_Sta_hasDay 4 = .ok (.iload_n 1, 1) := by decide +kernel
theorem d_Sta_hasDay_5 : decode b_Sta_hasDay 5 = .ok (.aload_n 0, 1) := by decide +kernel
theorem d_Sta_hasDay_6 : decode b_Sta_hasDay 6 = .ok (.getfield 47, 3) := by decide +kernel
theorem d_Sta_hasDay_9 : decode b_Sta_hasDay 9 = .ok (.if_icmp .ge 13, 3) := by decide +kernel
theorem d_Sta_hasDay_12 : decode b_Sta_hasDay 12 = .ok (.iload_n 1, 1) := by decide +kernel
theorem d_Sta_hasDay_13 : decode b_Sta_hasDay 13 = .ok (.bipush 8, 2) := by decide +kernel
theorem d_Sta_hasDay_15 : decode b_Sta_hasDay 15 = .ok (.if_icmp .ge 7, 3) := by decide +kernel
theorem d_Sta_hasDay_18 : decode b_Sta_hasDay 18 = .ok (.iconst 1, 1) := by decide +kernel
theorem d_Sta_hasDay_19 : decode b_Sta_hasDay 19 = .ok (.goto 4, 3) := by decide +kernel
theorem d_Sta_hasDay_22 : decode b_Sta_hasDay 22 = .ok (.iconst 0, 1) := by decide +kernel
theorem d_Sta_hasDay_23 : decode b_Sta_hasDay 23 = .ok (.ireturn, 1) := by decide +kernel
theorem d_Sta_hamperOf_0 : decode b_Sta_hamperOf 0 = .ok (.aload_n 0, 1) := by decide +kernel
theorem d_Sta_hamperOf_1 : decode b_Sta_hamperOf 1 = .ok (.iload_n 1, 1) := by decide +kernel
theorem d_Sta_hamperOf_2 : decode b_Sta_hamperOf 2 = .ok (.invokevirtual 65, 3) := by decide +kernel
theorem d_Sta_hamperOf_5 : decode b_Sta_hamperOf 5 = .ok (.ifCond .eq 12, 3) := by decide +kernel
theorem d_Sta_hamperOf_8 : decode b_Sta_hamperOf 8 = .ok (.aload_n 0, 1) := by decide +kernel
theorem d_Sta_hamperOf_9 : decode b_Sta_hamperOf 9 = .ok (.getfield 24, 3) := by decide +kernel
theorem d_Sta_hamperOf_12 : decode b_Sta_hamperOf 12 = .ok (.iload_n 1, 1) := by decide +kernel
theorem d_Sta_hamperOf_13 : decode b_Sta_hamperOf 13 = .ok (.iaload, 1) := by decide +kernel
theorem d_Sta_hamperOf_14 : decode b_Sta_hamperOf 14 = .ok (.goto 4, 3) := by decide +kernel
theorem d_Sta_hamperOf_17 : decode b_Sta_hamperOf 17 = .ok (.iconst 0, 1) := by decide +kernel
theorem d_Sta_hamperOf_18 : decode b_Sta_hamperOf 18 = .ok (.ireturn, 1) := by decide +kernel
theorem d_H_holds_0 : decode b_H_holds 0 = .ok (.iload_n 1, 1) := by decide +kernel
theorem d_H_holds_1 : decode b_H_holds 1 = .ok (.ifCond .lt 22, 3) := by decide +kernel
theorem d_H_holds_4 : decode b_H_holds 4 = .ok (.iload_n 1, 1) := by decide +kernel
theorem d_H_holds_5 : decode b_H_holds 5 = .ok (.bipush 31, 2) := by decide +kernel
theorem d_H_holds_7 : decode b_H_holds 7 = .ok (.if_icmp .ge 16, 3) := by decide +kernel
theorem d_H_holds_10 : decode b_H_holds 10 = .ok (.iload_n 0, 1) := by decide +kernel
theorem d_H_holds_11 : decode b_H_holds 11 = .ok (.iload_n 1, 1) := by decide +kernel
theorem d_H_holds_12 : decode b_H_holds 12 = .ok (.ishr, 1) := by decide +kernel
theorem d_H_holds_13 : decode b_H_holds 13 = .ok (.iconst 1, 1) := by decide +kernel
theorem d_H_holds_14 : decode b_H_holds 14 = .ok (.iand, 1) := by decide +kernel
theorem d_H_holds_15 : decode b_H_holds 15 = .ok (.iconst 1, 1) := by decide +kernel
theorem d_H_holds_16 : decode b_H_holds 16 = .ok (.if_icmp .ne 7, 3) := by decide +kernel
theorem d_H_holds_19 : decode b_H_holds 19 = .ok (.iconst 1, 1) := by decide +kernel
theorem d_H_holds_20 : decode b_H_holds 20 = .ok (.goto 4, 3) := by decide +kernel
theorem d_H_holds_23 : decode b_H_holds 23 = .ok (.iconst 0, 1) := by decide +kernel
theorem d_H_holds_24 : decode b_H_holds 24 = .ok (.ireturn, 1) := by decide +kernel
theorem d_Sta_couldBe_0 : decode b_Sta_couldBe 0 = .ok (.bipush 63, 2) := by decide +kernel
theorem d_Sta_couldBe_2 : decode b_Sta_couldBe 2 = .ok (.istore_n 2, 1) := by decide +kernel
theorem d_Sta_couldBe_3 : decode b_Sta_couldBe 3 = .ok (.iconst 0, 1) := by decide +kernel
theorem d_Sta_couldBe_4 : decode b_Sta_couldBe 4 = .ok (.istore_n 3, 1) := by decide +kernel
theorem d_Sta_couldBe_5 : decode b_Sta_couldBe 5 = .ok (.iload_n 3, 1) := by decide +kernel
theorem d_Sta_couldBe_6 : decode b_Sta_couldBe 6 = .ok (.bipush 8, 2) := by decide +kernel
theorem d_Sta_couldBe_8 : decode b_Sta_couldBe 8 = .ok (.if_icmp .ge 26, 3) := by decide +kernel
theorem d_Sta_couldBe_11 : decode b_Sta_couldBe 11 = .ok (.iload_n 1, 1) := by decide +kernel
theorem d_Sta_couldBe_12 : decode b_Sta_couldBe 12 = .ok (.iload_n 3, 1) := by decide +kernel
theorem d_Sta_couldBe_13 : decode b_Sta_couldBe 13 = .ok (.invokestatic 77, 3) := by decide +kernel
theorem d_Sta_couldBe_16 : decode b_Sta_couldBe 16 = .ok (.ifCond .eq 12, 3) := by decide +kernel
theorem d_Sta_couldBe_19 : decode b_Sta_couldBe 19 = .ok (.iload_n 2, 1) := by decide +kernel
theorem d_Sta_couldBe_20 : decode b_Sta_couldBe 20 = .ok (.aload_n 0, 1) := by decide +kernel
theorem d_Sta_couldBe_21 : decode b_Sta_couldBe 21 = .ok (.getfield 21, 3) := by decide +kernel
theorem d_Sta_couldBe_24 : decode b_Sta_couldBe 24 = .ok (.iload_n 3, 1) := by decide +kernel
theorem d_Sta_couldBe_25 : decode b_Sta_couldBe 25 = .ok (.iaload, 1) := by decide +kernel
theorem d_Sta_couldBe_26 : decode b_Sta_couldBe 26 = .ok (.iand, 1) := by decide +kernel
theorem d_Sta_couldBe_27 : decode b_Sta_couldBe 27 = .ok (.istore_n 2, 1) := by decide +kernel
theorem d_Sta_couldBe_28 : decode b_Sta_couldBe 28 = .ok (.iinc 3 1, 3) := by decide +kernel
theorem d_Sta_couldBe_31 : decode b_Sta_couldBe 31 = .ok (.goto (-26), 3) := by decide +kernel
theorem d_Sta_couldBe_34 : decode b_Sta_couldBe 34 = .ok (.iload_n 2, 1) := by decide +kernel
theorem d_Sta_couldBe_35 : decode b_Sta_couldBe 35 = .ok (.ireturn, 1) := by decide +kernel
theorem d_Sta_likeliestOf_0 : decode b_Sta_likeliestOf 0 = .ok (.bipush (-9), 2) := by decide +kernel
theorem d_Sta_likeliestOf_2 : decode b_Sta_likeliestOf 2 = .ok (.istore_n 2, 1) := by decide +kernel
theorem d_Sta_likeliestOf_3 : decode b_Sta_likeliestOf 3 = .ok (.iconst 0, 1) := by decide +kernel
theorem d_Sta_likeliestOf_4 : decode b_Sta_likeliestOf 4 = .ok (.istore_n 3, 1) := by decide +kernel
theorem d_Sta_likeliestOf_5 : decode b_Sta_likeliestOf 5 = .ok (.iconst 0, 1) := by decide +kernel
theorem d_Sta_likeliestOf_6 : decode b_Sta_likeliestOf 6 = .ok (.istore 4, 2) := by decide +kernel
theorem d_Sta_likeliestOf_8 : decode b_Sta_likeliestOf 8 = .ok (.iload 4, 2) := by decide +kernel
theorem d_Sta_likeliestOf_10 : decode b_Sta_likeliestOf 10 = .ok (.bipush 6, 2) := by decide +kernel
theorem d_Sta_likeliestOf_12 : decode b_Sta_likeliestOf 12 = .ok (.if_icmp .ge 40, 3) := by decide +kernel
theorem d_Sta_likeliestOf_15 : decode b_Sta_likeliestOf 15 = .ok (.iload_n 1, 1) := by decide +kernel
theorem d_Sta_likeliestOf_16 : decode b_Sta_likeliestOf 16 = .ok (.iload 4, 2) := by decide +kernel
theorem d_Sta_likeliestOf_18 : decode b_Sta_likeliestOf 18 = .ok (.invokestatic 77, 3) := by decide +kernel
theorem d_Sta_likeliestOf_21 : decode b_Sta_likeliestOf 21 = .ok (.ifCond .eq 25, 3) := by decide +kernel
theorem d_Sta_likeliestOf_24 : decode b_Sta_likeliestOf 24 = .ok (.aload_n 0, 1) := by decide +kernel
theorem d_Sta_likeliestOf_25 : decode b_Sta_likeliestOf 25 = .ok (.getfield 9, 3) := by decide +kernel
theorem d_Sta_likeliestOf_28 : decode b_Sta_likeliestOf 28 = .ok (.iload 4, 2) := by decide +kernel
theorem d_Sta_likeliestOf_30 : decode b_Sta_likeliestOf 30 = .ok (.iaload, 1) := by decide +kernel
theorem d_Sta_likeliestOf_31 : decode b_Sta_likeliestOf 31 = .ok (.iload_n 3, 1) := by decide +kernel
theorem d_Sta_likeliestOf_32 : decode b_Sta_likeliestOf 32 = .ok (.if_icmp .le 14, 3) := by decide +kernel
theorem d_Sta_likeliestOf_35 : decode b_Sta_likeliestOf 35 = .ok (.iload 4, 2) := by decide +kernel
theorem d_Sta_likeliestOf_37 : decode b_Sta_likeliestOf 37 = .ok (.istore_n 2, 1) := by decide +kernel
theorem d_Sta_likeliestOf_38 : decode b_Sta_likeliestOf 38 = .ok (.aload_n 0, 1) := by decide +kernel
theorem d_Sta_likeliestOf_39 : decode b_Sta_likeliestOf 39 = .ok (.getfield 9, 3) := by decide +kernel
theorem d_Sta_likeliestOf_42 : decode b_Sta_likeliestOf 42 = .ok (.iload 4, 2) := by decide +kernel
theorem d_Sta_likeliestOf_44 : decode b_Sta_likeliestOf 44 = .ok (.iaload, 1) := by decide +kernel
theorem d_Sta_likeliestOf_45 : decode b_Sta_likeliestOf 45 = .ok (.istore_n 3, 1) := by decide +kernel
theorem d_Sta_likeliestOf_46 : decode b_Sta_likeliestOf 46 = .ok (.iinc 4 1, 3) := by decide +kernel
theorem d_Sta_likeliestOf_49 : decode b_Sta_likeliestOf 49 = .ok (.goto (-41), 3) := by decide +kernel
theorem d_Sta_likeliestOf_52 : decode b_Sta_likeliestOf 52 = .ok (.iload_n 2, 1) := by decide +kernel
theorem d_Sta_likeliestOf_53 : decode b_Sta_likeliestOf 53 = .ok (.ireturn, 1) := by decide +kernel
theorem d_Sta_likeliestBy_0 : decode b_Sta_likeliestBy 0 = .ok (.aload_n 0, 1) := by decide +kernel
theorem d_Sta_likeliestBy_1 : decode b_Sta_likeliestBy 1 = .ok (.aload_n 0, 1) := by decide +kernel
theorem d_Sta_likeliestBy_2 : decode b_Sta_likeliestBy 2 = .ok (.iload_n 1, 1) := by decide +kernel
theorem d_Sta_likeliestBy_3 : decode b_Sta_likeliestBy 3 = .ok (.invokevirtual 91, 3) := by decide +kernel
theorem d_Sta_likeliestBy_6 : decode b_Sta_likeliestBy 6 = .ok (.invokevirtual 94, 3) := by decide +kernel
theorem d_Sta_likeliestBy_9 : decode b_Sta_likeliestBy 9 = .ok (.ireturn, 1) := by decide +kernel
theorem d_Dia_likelyWithout_0 : decode b_Dia_likelyWithout 0 = .ok (.iconst 0, 1) := by decide +kernel
theorem d_Dia_likelyWithout_1 : decode b_Dia_likelyWithout 1 = .ok (.istore_n 2, 1) := by decide +kernel
theorem d_Dia_likelyWithout_2 : decode b_Dia_likelyWithout 2 = .ok (.iconst 0, 1) := by decide +kernel
theorem d_Dia_likelyWithout_3 : decode b_Dia_likelyWithout 3 = .ok (.istore_n 3, 1) := by decide +kernel
theorem d_Dia_likelyWithout_4 : decode b_Dia_likelyWithout 4 = .ok (.iload_n 3, 1) := by decide +kernel
theorem d_Dia_likelyWithout_5 : decode b_Dia_likelyWithout 5 = .ok (.bipush 8, 2) := by decide +kernel
theorem d_Dia_likelyWithout_7 : decode b_Dia_likelyWithout 7 = .ok (.if_icmp .ge 40, 3) := by decide +kernel
theorem d_Dia_likelyWithout_10 : decode b_Dia_likelyWithout 10 = .ok (.aload_n 0, 1) := by decide +kernel
theorem d_Dia_likelyWithout_11 : decode b_Dia_likelyWithout 11 = .ok (.iload_n 3, 1) := by decide +kernel
theorem d_Dia_likelyWithout_12 : decode b_Dia_likelyWithout 12 = .ok (.invokevirtual 23, 3) := by decide +kernel
theorem d_Dia_likelyWithout_15 : decode b_Dia_likelyWithout 15 = .ok (.ifCond .eq 26, 3) := by decide +kernel
theorem d_Dia_likelyWithout_18 : decode b_Dia_likelyWithout 18 = .ok (.aload_n 0, 1) := by decide +kernel
theorem d_Dia_likelyWithout_19 : decode b_Dia_likelyWithout 19 = .ok (.aload_n 0, 1) := by decide +kernel
theorem d_Dia_likelyWithout_20 : decode b_Dia_likelyWithout 20 = .ok (.iload_n 3, 1) := by decide +kernel
theorem d_Dia_likelyWithout_21 : decode b_Dia_likelyWithout 21 = .ok (.invokevirtual 9, 3) := by decide +kernel
theorem d_Dia_likelyWithout_24 : decode b_Dia_likelyWithout 24 = .ok (.iconst 1, 1) := by decide +kernel
theorem d_Dia_likelyWithout_25 : decode b_Dia_likelyWithout 25 = .ok (.iload_n 1, 1) := by decide +kernel
theorem d_Dia_likelyWithout_26 : decode b_Dia_likelyWithout 26 = .ok (.ishl, 1) := by decide +kernel
theorem d_Dia_likelyWithout_27 : decode b_Dia_likelyWithout 27 = .ok (.iconst (-1), 1) := by decide +kernel
theorem d_Dia_likelyWithout_28 : decode b_Dia_likelyWithout 28 = .ok (.ixor, 1) := by decide +kernel
theorem d_Dia_likelyWithout_29 : decode b_Dia_likelyWithout 29 = .ok (.iand, 1) := by decide +kernel
theorem d_Dia_likelyWithout_30 : decode b_Dia_likelyWithout 30 = .ok (.invokevirtual 54, 3) := by decide +kernel
theorem d_Dia_likelyWithout_33 : decode b_Dia_likelyWithout 33 = .ok (.bipush (-9), 2) := by decide +kernel
theorem d_Dia_likelyWithout_35 : decode b_Dia_likelyWithout 35 = .ok (.if_icmp .eq 6, 3) := by decide +kernel
theorem d_Dia_likelyWithout_38 : decode b_Dia_likelyWithout 38 = .ok (.iinc 2 1, 3) := by decide +kernel
theorem d_Dia_likelyWithout_41 : decode b_Dia_likelyWithout 41 = .ok (.iinc 3 1, 3) := by decide +kernel
theorem d_Dia_likelyWithout_44 : decode b_Dia_likelyWithout 44 = .ok (.goto (-40), 3) := by decide +kernel
theorem d_Dia_likelyWithout_47 : decode b_Dia_likelyWithout 47 = .ok (.iload_n 2, 1) := by decide +kernel
theorem d_Dia_likelyWithout_48 : decode b_Dia_likelyWithout 48 = .ok (.ireturn, 1) := by decide +kernel
theorem d_Dia_bestDropped_0 : decode b_Dia_bestDropped 0 = .ok (.bipush (-9), 2) := by decide +kernel
theorem d_Dia_bestDropped_2 : decode b_Dia_bestDropped 2 = .ok (.istore_n 1, 1) := by decide +kernel
theorem d_Dia_bestDropped_3 : decode b_Dia_bestDropped 3 = .ok (.iconst 0, 1) := by decide +kernel
theorem d_Dia_bestDropped_4 : decode b_Dia_bestDropped 4 = .ok (.istore_n 2, 1) := by decide +kernel
theorem d_Dia_bestDropped_5 : decode b_Dia_bestDropped 5 = .ok (.iconst 0, 1) := by decide +kernel
theorem d_Dia_bestDropped_6 : decode b_Dia_bestDropped 6 = .ok (.istore_n 3, 1) := by decide +kernel
theorem d_Dia_bestDropped_7 : decode b_Dia_bestDropped 7 = .ok (.iload_n 3, 1) := by decide +kernel
theorem d_Dia_bestDropped_8 : decode b_Dia_bestDropped 8 = .ok (.aload_n 0, 1) := by decide +kernel
theorem d_Dia_bestDropped_9 : decode b_Dia_bestDropped 9 = .ok (.getfield 42, 3) := by decide +kernel
theorem d_Dia_bestDropped_12 : decode b_Dia_bestDropped 12 = .ok (.if_icmp .ge 33, 3) := by decide +kernel
theorem d_Dia_bestDropped_15 : decode b_Dia_bestDropped 15 = .ok (.aload_n 0, 1) := by decide +kernel
theorem d_Dia_bestDropped_16 : decode b_Dia_bestDropped 16 = .ok (.iload_n 3, 1) := by decide +kernel
theorem d_Dia_bestDropped_17 : decode b_Dia_bestDropped 17 = .ok (.invokestatic 51, 3) := by decide +kernel
theorem d_Dia_bestDropped_20 : decode b_Dia_bestDropped 20 = .ok (.istore 4, 2) := by decide +kernel
theorem d_Dia_bestDropped_22 : decode b_Dia_bestDropped 22 = .ok (.iload_n 1, 1) := by decide +kernel
theorem d_Dia_bestDropped_23 : decode b_Dia_bestDropped 23 = .ok (.bipush (-9), 2) := by decide +kernel
theorem d_Dia_bestDropped_25 : decode b_Dia_bestDropped 25 = .ok (.if_icmp .eq 9, 3) := by decide +kernel
theorem d_Dia_bestDropped_28 : decode b_Dia_bestDropped 28 = .ok (.iload 4, 2) := by decide +kernel
theorem d_Dia_bestDropped_30 : decode b_Dia_bestDropped 30 = .ok (.iload_n 2, 1) := by decide +kernel
theorem d_Dia_bestDropped_31 : decode b_Dia_bestDropped 31 = .ok (.if_icmp .le 8, 3) := by decide +kernel
theorem d_Dia_bestDropped_34 : decode b_Dia_bestDropped 34 = .ok (.iload_n 3, 1) := by decide +kernel
theorem d_Dia_bestDropped_35 : decode b_Dia_bestDropped 35 = .ok (.istore_n 1, 1) := by decide +kernel
theorem d_Dia_bestDropped_36 : decode b_Dia_bestDropped 36 = .ok (.iload 4, 2) := by decide +kernel
theorem d_Dia_bestDropped_38 : decode b_Dia_bestDropped 38 = .ok (.istore_n 2, 1) := by decide +kernel
theorem d_Dia_bestDropped_39 : decode b_Dia_bestDropped 39 = .ok (.iinc 3 1, 3) := by decide +kernel
theorem d_Dia_bestDropped_42 : decode b_Dia_bestDropped 42 = .ok (.goto (-35), 3) := by decide +kernel
theorem d_Dia_bestDropped_45 : decode b_Dia_bestDropped 45 = .ok (.iload_n 1, 1) := by decide +kernel
theorem d_Dia_bestDropped_46 : decode b_Dia_bestDropped 46 = .ok (.ireturn, 1) := by decide +kernel
theorem d_Dia_winsBy_0 : decode b_Dia_winsBy 0 = .ok (.iload_n 0, 1) := by decide +kernel
theorem d_Dia_winsBy_1 : decode b_Dia_winsBy 1 = .ok (.iload_n 1, 1) := by decide +kernel
theorem d_Dia_winsBy_2 : decode b_Dia_winsBy 2 = .ok (.if_icmp .ne 5, 3) := by decide +kernel
theorem d_Dia_winsBy_5 : decode b_Dia_winsBy 5 = .ok (.iconst 0, 1) := by decide +kernel
theorem d_Dia_winsBy_6 : decode b_Dia_winsBy 6 = .ok (.ireturn, 1) := by decide +kernel
theorem d_Dia_winsBy_7 : decode b_Dia_winsBy 7 = .ok (.iload_n 0, 1) := by decide +kernel
theorem d_Dia_winsBy_8 : decode b_Dia_winsBy 8 = .ok (.ifCond .ne 7, 3) := by decide +kernel
theorem d_Dia_winsBy_11 : decode b_Dia_winsBy 11 = .ok (.iload_n 2, 1) := by decide +kernel
theorem d_Dia_winsBy_12 : decode b_Dia_winsBy 12 = .ok (.goto 4, 3) := by decide +kernel
theorem d_Dia_winsBy_15 : decode b_Dia_winsBy 15 = .ok (.iload_n 3, 1) := by decide +kernel
theorem d_Dia_winsBy_16 : decode b_Dia_winsBy 16 = .ok (.istore 4, 2) := by decide +kernel
theorem d_Dia_winsBy_18 : decode b_Dia_winsBy 18 = .ok (.iload_n 0, 1) := by decide +kernel
theorem d_Dia_winsBy_19 : decode b_Dia_winsBy 19 = .ok (.ifCond .ne 7, 3) := by decide +kernel
theorem d_Dia_winsBy_22 : decode b_Dia_winsBy 22 = .ok (.iload_n 3, 1) := by decide +kernel
theorem d_Dia_winsBy_23 : decode b_Dia_winsBy 23 = .ok (.goto 4, 3) := by decide +kernel
theorem d_Dia_winsBy_26 : decode b_Dia_winsBy 26 = .ok (.iload_n 2, 1) := by decide +kernel
theorem d_Dia_winsBy_27 : decode b_Dia_winsBy 27 = .ok (.istore 5, 2) := by decide +kernel
theorem d_Dia_winsBy_29 : decode b_Dia_winsBy 29 = .ok (.iload 4, 2) := by decide +kernel
theorem d_Dia_winsBy_31 : decode b_Dia_winsBy 31 = .ok (.iload 5, 2) := by decide +kernel
theorem d_Dia_winsBy_33 : decode b_Dia_winsBy 33 = .ok (.if_icmp .ne 5, 3) := by decide +kernel
theorem d_Dia_winsBy_36 : decode b_Dia_winsBy 36 = .ok (.iconst 1, 1) := by decide +kernel
theorem d_Dia_winsBy_37 : decode b_Dia_winsBy 37 = .ok (.ireturn, 1) := by decide +kernel
theorem d_Dia_winsBy_38 : decode b_Dia_winsBy 38 = .ok (.iload 4, 2) := by decide +kernel
theorem d_Dia_winsBy_40 : decode b_Dia_winsBy 40 = .ok (.iload 5, 2) := by decide +kernel
theorem d_Dia_winsBy_42 : decode b_Dia_winsBy 42 = .ok (.if_icmp .le 7, 3) := by decide +kernel
theorem d_Dia_winsBy_45 : decode b_Dia_winsBy 45 = .ok (.iconst 3, 1) := by decide +kernel
theorem d_Dia_winsBy_46 : decode b_Dia_winsBy 46 = .ok (.goto 4, 3) := by decide +kernel
theorem d_Dia_winsBy_49 : decode b_Dia_winsBy 49 = .ok (.iconst (-1), 1) := by decide +kernel
theorem d_Dia_winsBy_50 : decode b_Dia_winsBy 50 = .ok (.ireturn, 1) := by decide +kernel
theorem d_Dia_firstSettledBet_0 : decode b_Dia_firstSettledBet 0 = .ok (.iconst 0, 1) := by decide +kernel
theorem d_Dia_firstSettledBet_1 : decode b_Dia_firstSettledBet 1 = .ok (.istore_n 2, 1) := by decide +kernel
theorem d_Dia_firstSettledBet_2 : decode b_Dia_firstSettledBet 2 = .ok (.iload_n 2, 1) := by decide +kernel
theorem d_Dia_firstSettledBet_3 : decode b_Dia_firstSettledBet 3 = .ok (.iconst 2, 1) := by decide +kernel
theorem d_Dia_firstSettledBet_4 : decode b_Dia_firstSettledBet 4 = .ok (.if_icmp .ge 83, 3) := by decide +kernel
theorem d_Dia_firstSettledBet_7 : decode b_Dia_firstSettledBet 7 = .ok (.iconst 0, 1) := by decide +kernel
theorem d_Dia_firstSettledBet_8 : decode b_Dia_firstSettledBet 8 = .ok (.istore_n 3, 1) := by decide +kernel
theorem d_Dia_firstSettledBet_9 : decode b_Dia_firstSettledBet 9 = .ok (.iload_n 3, 1) := by decide +kernel
theorem d_Dia_firstSettledBet_10 : decode b_Dia_firstSettledBet 10 = .ok (.iconst 2, 1) := by decide +kernel
theorem d_Dia_firstSettledBet_11 : decode b_Dia_firstSettledBet 11 = .ok (.if_icmp .ge 70, 3) := by decide +kernel
theorem d_Dia_firstSettledBet_14 : decode b_Dia_firstSettledBet 14 = .ok (.iload_n 2, 1) := by decide +kernel
theorem d_Dia_firstSettledBet_15 : decode b_Dia_firstSettledBet 15 = .ok (.iload_n 3, 1) := by decide +kernel
theorem d_Dia_firstSettledBet_16 : decode b_Dia_firstSettledBet 16 = .ok (.iload_n 0, 1) := by decide +kernel
theorem d_Dia_firstSettledBet_17 : decode b_Dia_firstSettledBet 17 = .ok (.iload_n 1, 1) := by decide +kernel
theorem d_Dia_firstSettledBet_18 : decode b_Dia_firstSettledBet 18 = .ok (.invokestatic 64, 3) := by decide +kernel
theorem d_Dia_firstSettledBet_21 : decode b_Dia_firstSettledBet 21 = .ok (.istore 4, 2) := by decide +kernel
theorem d_Dia_firstSettledBet_23 : decode b_Dia_firstSettledBet 23 = .ok (.iconst 1, 1) := by decide +kernel
theorem d_Dia_firstSettledBet_24 : decode b_Dia_firstSettledBet 24 = .ok (.iload_n 2, 1) := by decide +kernel
theorem d_Dia_firstSettledBet_25 : decode b_Dia_firstSettledBet 25 = .ok (.isub, 1) := by decide +kernel
theorem d_Dia_firstSettledBet_26 : decode b_Dia_firstSettledBet 26 = .ok (.iload_n 3, 1) := by decide +kernel
theorem d_Dia_firstSettledBet_27 : decode b_Dia_firstSettledBet 27 = .ok (.iload_n 0, 1) := by decide +kernel
theorem d_Dia_firstSettledBet_28 : decode b_Dia_firstSettledBet 28 = .ok (.iload_n 1, 1) := by decide +kernel
theorem d_Dia_firstSettledBet_29 : decode b_Dia_firstSettledBet 29 = .ok (.invokestatic 64, 3) := by decide +kernel
theorem d_Dia_firstSettledBet_32 : decode b_Dia_firstSettledBet 32 = .ok (.istore 5, 2) := by decide +kernel
theorem d_Dia_firstSettledBet_34 : decode b_Dia_firstSettledBet 34 = .ok (.iload_n 3, 1) := by decide +kernel
theorem d_Dia_firstSettledBet_35 : decode b_Dia_firstSettledBet 35 = .ok (.iload_n 2, 1) := by decide +kernel
theorem d_Dia_firstSettledBet_36 : decode b_Dia_firstSettledBet 36 = .ok (.iload_n 0, 1) := by decide +kernel
theorem d_Dia_firstSettledBet_37 : decode b_Dia_firstSettledBet 37 = .ok (.iload_n 1, 1) := by decide +kernel
theorem d_Dia_firstSettledBet_38 : decode b_Dia_firstSettledBet 38 = .ok (.invokestatic 64, 3) := by decide +kernel
theorem d_Dia_firstSettledBet_41 : decode b_Dia_firstSettledBet 41 = .ok (.istore 6, 2) := by decide +kernel
theorem d_Dia_firstSettledBet_43 : decode b_Dia_firstSettledBet 43 = .ok (.iconst 1, 1) := by decide +kernel
theorem d_Dia_firstSettledBet_44 : decode b_Dia_firstSettledBet 44 = .ok (.iload_n 3, 1) := by decide +kernel
theorem d_Dia_firstSettledBet_45 : decode b_Dia_firstSettledBet 45 = .ok (.isub, 1) := by decide +kernel
theorem d_Dia_firstSettledBet_46 : decode b_Dia_firstSettledBet 46 = .ok (.iload_n 2, 1) := by decide +kernel
theorem d_Dia_firstSettledBet_47 : decode b_Dia_firstSettledBet 47 = .ok (.iload_n 0, 1) := by decide +kernel
theorem d_Dia_firstSettledBet_48 : decode b_Dia_firstSettledBet 48 = .ok (.iload_n 1, 1) := by decide +kernel
theorem d_Dia_firstSettledBet_49 : decode b_Dia_firstSettledBet 49 = .ok (.invokestatic 64, 3) := by decide +kernel
theorem d_Dia_firstSettledBet_52 : decode b_Dia_firstSettledBet 52 = .ok (.istore 7, 2) := by decide +kernel
theorem d_Dia_firstSettledBet_54 : decode b_Dia_firstSettledBet 54 = .ok (.iload 5, 2) := by decide +kernel
theorem d_Dia_firstSettledBet_56 : decode b_Dia_firstSettledBet 56 = .ok (.iload 4, 2) := by decide +kernel
theorem d_Dia_firstSettledBet_58 : decode b_Dia_firstSettledBet 58 = .ok (.if_icmp .gt 17, 3) := by decide +kernel
theorem d_Dia_firstSettledBet_61 : decode b_Dia_firstSettledBet 61 = .ok (.iload 7, 2) := by decide +kernel
theorem d_Dia_firstSettledBet_63 : decode b_Dia_firstSettledBet 63 = .ok (.iload 6, 2) := by decide +kernel
theorem d_Dia_firstSettledBet_65 : decode b_Dia_firstSettledBet 65 = .ok (.if_icmp .gt 10, 3) := by decide +kernel
theorem d_Dia_firstSettledBet_68 : decode b_Dia_firstSettledBet 68 = .ok (.bipush 10, 2) := by decide +kernel
theorem d_Dia_firstSettledBet_70 : decode b_Dia_firstSettledBet 70 = .ok (.iload_n 2, 1) := by decide +kernel
theorem d_Dia_firstSettledBet_71 : decode b_Dia_firstSettledBet 71 = .ok (.imul, 1) := by decide +kernel
theorem d_Dia_firstSettledBet_72 : decode b_Dia_firstSettledBet 72 = .ok (.iload_n 3, 1) := by decide +kernel
theorem d_Dia_firstSettledBet_73 : decode b_Dia_firstSettledBet 73 = .ok (.iadd, 1) := by decide +kernel
theorem d_Dia_firstSettledBet_74 : decode b_Dia_firstSettledBet 74 = .ok (.ireturn, 1) := by decide +kernel
theorem d_Dia_firstSettledBet_75 : decode b_Dia_firstSettledBet 75 = .ok (.iinc 3 1, 3) := by decide +kernel
theorem d_Dia_firstSettledBet_78 : decode b_Dia_firstSettledBet 78 = .ok (.goto (-69), 3) := by decide +kernel
theorem d_Dia_firstSettledBet_81 : decode b_Dia_firstSettledBet 81 = .ok (.iinc 2 1, 3) := by decide +kernel
theorem d_Dia_firstSettledBet_84 : decode b_Dia_firstSettledBet 84 = .ok (.goto (-82), 3) := by decide +kernel
theorem d_Dia_firstSettledBet_87 : decode b_Dia_firstSettledBet 87 = .ok (.bipush (-9), 2) := by decide +kernel
theorem d_Dia_firstSettledBet_89 : decode b_Dia_firstSettledBet 89 = .ok (.ireturn, 1) := by decide +kernel
theorem d_Dia_likelyOfTwo_0 : decode b_Dia_likelyOfTwo 0 = .ok (.aload_n 0, 1) := by decide +kernel
theorem d_Dia_likelyOfTwo_1 : decode b_Dia_likelyOfTwo 1 = .ok (.iload_n 1, 1) := by decide +kernel
theorem d_Dia_likelyOfTwo_2 : decode b_Dia_likelyOfTwo 2 = .ok (.invokevirtual 54, 3) := by decide +kernel
theorem d_Dia_likelyOfTwo_5 : decode b_Dia_likelyOfTwo 5 = .ok (.bipush (-9), 2) := by decide +kernel
theorem d_Dia_likelyOfTwo_7 : decode b_Dia_likelyOfTwo 7 = .ok (.if_icmp .ne 7, 3) := by decide +kernel
theorem d_Dia_likelyOfTwo_10 : decode b_Dia_likelyOfTwo 10 = .ok (.iconst 0, 1) := by decide +kernel
theorem d_Dia_likelyOfTwo_11 : decode b_Dia_likelyOfTwo 11 = .ok (.goto 4, 3) := by decide +kernel
theorem d_Dia_likelyOfTwo_14 : decode b_Dia_likelyOfTwo 14 = .ok (.iconst 1, 1) := by decide +kernel
theorem d_Dia_likelyOfTwo_15 : decode b_Dia_likelyOfTwo 15 = .ok (.istore_n 3, 1) := by decide +kernel
theorem d_Dia_likelyOfTwo_16 : decode b_Dia_likelyOfTwo 16 = .ok (.aload_n 0, 1) := by decide +kernel
theorem d_Dia_likelyOfTwo_17 : decode b_Dia_likelyOfTwo 17 = .ok (.iload_n 2, 1) := by decide +kernel
theorem d_Dia_likelyOfTwo_18 : decode b_Dia_likelyOfTwo 18 = .ok (.invokevirtual 54, 3) := by decide +kernel
theorem d_Dia_likelyOfTwo_21 : decode b_Dia_likelyOfTwo 21 = .ok (.bipush (-9), 2) := by decide +kernel
theorem d_Dia_likelyOfTwo_23 : decode b_Dia_likelyOfTwo 23 = .ok (.if_icmp .ne 7, 3) := by decide +kernel
theorem d_Dia_likelyOfTwo_26 : decode b_Dia_likelyOfTwo 26 = .ok (.iconst 0, 1) := by decide +kernel
theorem d_Dia_likelyOfTwo_27 : decode b_Dia_likelyOfTwo 27 = .ok (.goto 4, 3) := by decide +kernel
theorem d_Dia_likelyOfTwo_30 : decode b_Dia_likelyOfTwo 30 = .ok (.iconst 1, 1) := by decide +kernel
theorem d_Dia_likelyOfTwo_31 : decode b_Dia_likelyOfTwo 31 = .ok (.istore 4, 2) := by decide +kernel
theorem d_Dia_likelyOfTwo_33 : decode b_Dia_likelyOfTwo 33 = .ok (.iload_n 3, 1) := by decide +kernel
theorem d_Dia_likelyOfTwo_34 : decode b_Dia_likelyOfTwo 34 = .ok (.iload 4, 2) := by decide +kernel
theorem d_Dia_likelyOfTwo_36 : decode b_Dia_likelyOfTwo 36 = .ok (.iadd, 1) := by decide +kernel
theorem d_Dia_likelyOfTwo_37 : decode b_Dia_likelyOfTwo 37 = .ok (.ireturn, 1) := by decide +kernel
theorem d_Dia_firstSwapOf_0 : decode b_Dia_firstSwapOf 0 = .ok (.aload_n 0, 1) := by decide +kernel
theorem d_Dia_firstSwapOf_1 : decode b_Dia_firstSwapOf 1 = .ok (.iload_n 1, 1) := by decide +kernel
theorem d_Dia_firstSwapOf_2 : decode b_Dia_firstSwapOf 2 = .ok (.iload_n 2, 1) := by decide +kernel
theorem d_Dia_firstSwapOf_3 : decode b_Dia_firstSwapOf 3 = .ok (.invokestatic 61, 3) := by decide +kernel
theorem d_Dia_firstSwapOf_6 : decode b_Dia_firstSwapOf 6 = .ok (.istore_n 3, 1) := by decide +kernel
theorem d_Dia_firstSwapOf_7 : decode b_Dia_firstSwapOf 7 = .ok (.iconst 0, 1) := by decide +kernel
theorem d_Dia_firstSwapOf_8 : decode b_Dia_firstSwapOf 8 = .ok (.istore 4, 2) := by decide +kernel
theorem d_Dia_firstSwapOf_10 : decode b_Dia_firstSwapOf 10 = .ok (.iload 4, 2) := by decide +kernel
theorem d_Dia_firstSwapOf_12 : decode b_Dia_firstSwapOf 12 = .ok (.aload_n 0, 1) := by decide +kernel
theorem d_Dia_firstSwapOf_13 : decode b_Dia_firstSwapOf 13 = .ok (.getfield 42, 3) := by decide +kernel
theorem d_Dia_firstSwapOf_16 : decode b_Dia_firstSwapOf 16 = .ok (.if_icmp .ge 101, 3) := by decide +kernel
theorem d_Dia_firstSwapOf_19 : decode b_Dia_firstSwapOf 19 = .ok (.iconst 0, 1) := by decide +kernel
theorem d_Dia_firstSwapOf_20 : decode b_Dia_firstSwapOf 20 = .ok (.istore 5, 2) := by decide +kernel
theorem d_Dia_firstSwapOf_22 : decode b_Dia_firstSwapOf 22 = .ok (.iload 5, 2) := by decide +kernel
theorem d_Dia_firstSwapOf_24 : decode b_Dia_firstSwapOf 24 = .ok (.aload_n 0, 1) := by decide +kernel
theorem d_Dia_firstSwapOf_25 : decode b_Dia_firstSwapOf 25 = .ok (.getfield 42, 3) := by decide +kernel
theorem d_Dia_firstSwapOf_28 : decode b_Dia_firstSwapOf 28 = .ok (.if_icmp .ge 83, 3) := by decide +kernel
theorem d_Dia_firstSwapOf_31 : decode b_Dia_firstSwapOf 31 = .ok (.iload_n 1, 1) := by decide +kernel
theorem d_Dia_firstSwapOf_32 : decode b_Dia_firstSwapOf 32 = .ok (.iload_n 2, 1) := by decide +kernel
theorem d_Dia_firstSwapOf_33 : decode b_Dia_firstSwapOf 33 = .ok (.iconst (-1), 1) := by decide +kernel
theorem d_Dia_firstSwapOf_34 : decode b_Dia_firstSwapOf 34 = .ok (.ixor, 1) := by decide +kernel
theorem d_Dia_firstSwapOf_35 : decode b_Dia_firstSwapOf 35 = .ok (.iand, 1) := by decide +kernel
theorem d_Dia_firstSwapOf_36 : decode b_Dia_firstSwapOf 36 = .ok (.iload 4, 2) := by decide +kernel
theorem d_Dia_firstSwapOf_38 : decode b_Dia_firstSwapOf 38 = .ok (.invokestatic 15, 3) := by decide +kernel
theorem d_Dia_firstSwapOf_41 : decode b_Dia_firstSwapOf 41 = .ok (.ifCond .eq 20, 3) := by decide +kernel
theorem d_Dia_firstSwapOf_44 : decode b_Dia_firstSwapOf 44 = .ok (.iload_n 2, 1) := by decide +kernel
theorem d_Dia_firstSwapOf_45 : decode b_Dia_firstSwapOf 45 = .ok (.iload_n 1, 1) := by decide +kernel
theorem d_Dia_firstSwapOf_46 : decode b_Dia_firstSwapOf 46 = .ok (.iconst (-1), 1) := by decide +kernel
theorem d_Dia_firstSwapOf_47 : decode b_Dia_firstSwapOf 47 = .ok (.ixor, 1) := by decide +kernel
theorem d_Dia_firstSwapOf_48 : decode b_Dia_firstSwapOf 48 = .ok (.iand, 1) := by decide +kernel
theorem d_Dia_firstSwapOf_49 : decode b_Dia_firstSwapOf 49 = .ok (.iload 5, 2) := by decide +kernel
theorem d_Dia_firstSwapOf_51 : decode b_Dia_firstSwapOf 51 = .ok (.invokestatic 15, 3) := by decide +kernel
theorem d_Dia_firstSwapOf_54 : decode b_Dia_firstSwapOf 54 = .ok (.ifCond .eq 7, 3) := by decide +kernel
theorem d_Dia_firstSwapOf_57 : decode b_Dia_firstSwapOf 57 = .ok (.iconst 1, 1) := by decide +kernel
theorem d_Dia_firstSwapOf_58 : decode b_Dia_firstSwapOf 58 = .ok (.goto 4, 3) := by decide +kernel
theorem d_Dia_firstSwapOf_61 : decode b_Dia_firstSwapOf 61 = .ok (.iconst 0, 1) := by decide +kernel
theorem d_Dia_firstSwapOf_62 : decode b_Dia_firstSwapOf 62 = .ok (.istore 6, 2) := by decide +kernel
theorem d_Dia_firstSwapOf_64 : decode b_Dia_firstSwapOf 64 = .ok (.iconst 1, 1) := by decide +kernel
theorem d_Dia_firstSwapOf_65 : decode b_Dia_firstSwapOf 65 = .ok (.iload 4, 2) := by decide +kernel
theorem d_Dia_firstSwapOf_67 : decode b_Dia_firstSwapOf 67 = .ok (.ishl, 1) := by decide +kernel
theorem d_Dia_firstSwapOf_68 : decode b_Dia_firstSwapOf 68 = .ok (.iconst 1, 1) := by decide +kernel
theorem d_Dia_firstSwapOf_69 : decode b_Dia_firstSwapOf 69 = .ok (.iload 5, 2) := by decide +kernel
theorem d_Dia_firstSwapOf_71 : decode b_Dia_firstSwapOf 71 = .ok (.ishl, 1) := by decide +kernel
theorem d_Dia_firstSwapOf_72 : decode b_Dia_firstSwapOf 72 = .ok (.ior, 1) := by decide +kernel
theorem d_Dia_firstSwapOf_73 : decode b_Dia_firstSwapOf 73 = .ok (.istore 7, 2) := by decide +kernel
theorem d_Dia_firstSwapOf_75 : decode b_Dia_firstSwapOf 75 = .ok (.iload 6, 2) := by decide +kernel
theorem d_Dia_firstSwapOf_77 : decode b_Dia_firstSwapOf 77 = .ok (.ifCond .eq 28, 3) := by decide +kernel
theorem d_Dia_firstSwapOf_80 : decode b_Dia_firstSwapOf 80 = .ok (.aload_n 0, 1) := by decide +kernel
theorem d_Dia_firstSwapOf_81 : decode b_Dia_firstSwapOf 81 = .ok (.iload_n 1, 1) := by decide +kernel
theorem d_Dia_firstSwapOf_82 : decode b_Dia_firstSwapOf 82 = .ok (.iload 7, 2) := by decide +kernel
theorem d_Dia_firstSwapOf_84 : decode b_Dia_firstSwapOf 84 = .ok (.ixor, 1) := by decide +kernel
theorem d_Dia_firstSwapOf_85 : decode b_Dia_firstSwapOf 85 = .ok (.iload_n 2, 1) := by decide +kernel
theorem d_Dia_firstSwapOf_86 : decode b_Dia_firstSwapOf 86 = .ok (.iload 7, 2) := by decide +kernel
theorem d_Dia_firstSwapOf_88 : decode b_Dia_firstSwapOf 88 = .ok (.ixor, 1) := by decide +kernel
theorem d_Dia_firstSwapOf_89 : decode b_Dia_firstSwapOf 89 = .ok (.invokestatic 61, 3) := by decide +kernel
theorem d_Dia_firstSwapOf_92 : decode b_Dia_firstSwapOf 92 = .ok (.iload_n 3, 1) := by decide +kernel
theorem d_Dia_firstSwapOf_93 : decode b_Dia_firstSwapOf 93 = .ok (.if_icmp .le 12, 3) := by decide +kernel
theorem d_Dia_firstSwapOf_96 : decode b_Dia_firstSwapOf 96 = .ok (.bipush 10, 2) := by decide +kernel
theorem d_Dia_firstSwapOf_98 : decode b_Dia_firstSwapOf 98 = .ok (.iload 4, 2) := by decide +kernel
theorem d_Dia_firstSwapOf_100 : decode b_Dia_firstSwapOf 100 = .ok (.imul, 1) := by decide +kernel
theorem d_Dia_firstSwapOf_101 : decode b_Dia_firstSwapOf 101 = .ok (.iload 5, 2) := by decide +kernel
theorem d_Dia_firstSwapOf_103 : decode b_Dia_firstSwapOf 103 = .ok (.iadd, 1) := by decide +kernel
theorem d_Dia_firstSwapOf_104 : decode b_Dia_firstSwapOf 104 = .ok (.ireturn, 1) := by decide +kernel
theorem d_Dia_firstSwapOf_105 : decode b_Dia_firstSwapOf 105 = .ok (.iinc 5 1, 3) := by decide +kernel
theorem d_Dia_firstSwapOf_108 : decode b_Dia_firstSwapOf 108 = .ok (.goto (-86), 3) := by decide +kernel
theorem d_Dia_firstSwapOf_111 : decode b_Dia_firstSwapOf 111 = .ok (.iinc 4 1, 3) := by decide +kernel
theorem d_Dia_firstSwapOf_114 : decode b_Dia_firstSwapOf 114 = .ok (.goto (-104), 3) := by decide +kernel
theorem d_Dia_firstSwapOf_117 : decode b_Dia_firstSwapOf 117 = .ok (.bipush (-9), 2) := by decide +kernel
theorem d_Dia_firstSwapOf_119 : decode b_Dia_firstSwapOf 119 = .ok (.ireturn, 1) := by decide +kernel
theorem d_Dia_firstSwap_0 : decode b_Dia_firstSwap 0 = .ok (.iconst 0, 1) := by decide +kernel
theorem d_Dia_firstSwap_1 : decode b_Dia_firstSwap 1 = .ok (.istore_n 1, 1) := by decide +kernel
theorem d_Dia_firstSwap_2 : decode b_Dia_firstSwap 2 = .ok (.iload_n 1, 1) := by decide +kernel
theorem d_Dia_firstSwap_3 : decode b_Dia_firstSwap 3 = .ok (.aload_n 0, 1) := by decide +kernel
theorem d_Dia_firstSwap_4 : decode b_Dia_firstSwap 4 = .ok (.getfield 30, 3) := by decide +kernel
theorem d_Dia_firstSwap_7 : decode b_Dia_firstSwap 7 = .ok (.if_icmp .ge 59, 3) := by decide +kernel
theorem d_Dia_firstSwap_10 : decode b_Dia_firstSwap 10 = .ok (.iload_n 1, 1) := by decide +kernel
theorem d_Dia_firstSwap_11 : decode b_Dia_firstSwap 11 = .ok (.iconst 1, 1) := by decide +kernel
theorem d_Dia_firstSwap_12 : decode b_Dia_firstSwap 12 = .ok (.iadd, 1) := by decide +kernel
theorem d_Dia_firstSwap_13 : decode b_Dia_firstSwap 13 = .ok (.istore_n 2, 1) := by decide +kernel
theorem d_Dia_firstSwap_14 : decode b_Dia_firstSwap 14 = .ok (.iload_n 2, 1) := by decide +kernel
theorem d_Dia_firstSwap_15 : decode b_Dia_firstSwap 15 = .ok (.aload_n 0, 1) := by decide +kernel
theorem d_Dia_firstSwap_16 : decode b_Dia_firstSwap 16 = .ok (.getfield 30, 3) := by decide +kernel
theorem d_Dia_firstSwap_19 : decode b_Dia_firstSwap 19 = .ok (.if_icmp .ge 41, 3) := by decide +kernel
theorem d_Dia_firstSwap_22 : decode b_Dia_firstSwap 22 = .ok (.aload_n 0, 1) := by decide +kernel
theorem d_Dia_firstSwap_23 : decode b_Dia_firstSwap 23 = .ok (.aload_n 0, 1) := by decide +kernel
theorem d_Dia_firstSwap_24 : decode b_Dia_firstSwap 24 = .ok (.iload_n 1, 1) := by decide +kernel
theorem d_Dia_firstSwap_25 : decode b_Dia_firstSwap 25 = .ok (.invokevirtual 9, 3) := by decide +kernel
theorem d_Dia_firstSwap_28 : decode b_Dia_firstSwap 28 = .ok (.aload_n 0, 1) := by decide +kernel
theorem d_Dia_firstSwap_29 : decode b_Dia_firstSwap 29 = .ok (.iload_n 2, 1) := by decide +kernel
theorem d_Dia_firstSwap_30 : decode b_Dia_firstSwap 30 = .ok (.invokevirtual 9, 3) := by decide +kernel
theorem d_Dia_firstSwap_33 : decode b_Dia_firstSwap 33 = .ok (.invokestatic 57, 3) := by decide +kernel
theorem d_Dia_firstSwap_36 : decode b_Dia_firstSwap 36 = .ok (.istore_n 3, 1) := by decide +kernel
theorem d_Dia_firstSwap_37 : decode b_Dia_firstSwap 37 = .ok (.iload_n 3, 1) := by decide +kernel
theorem d_Dia_firstSwap_38 : decode b_Dia_firstSwap 38 = .ok (.ifCond .lt 16, 3) := by decide +kernel
theorem d_Dia_firstSwap_41 : decode b_Dia_firstSwap 41 = .ok (.sipush 1000, 3) := by decide +kernel
theorem d_Dia_firstSwap_44 : decode b_Dia_firstSwap 44 = .ok (.iload_n 1, 1) := by decide +kernel
theorem d_Dia_firstSwap_45 : decode b_Dia_firstSwap 45 = .ok (.imul, 1) := by decide +kernel
theorem d_Dia_firstSwap_46 : decode b_Dia_firstSwap 46 = .ok (.bipush 100, 2) := by decide +kernel
theorem d_Dia_firstSwap_48 : decode b_Dia_firstSwap 48 = .ok (.iload_n 2, 1) := by decide +kernel
theorem d_Dia_firstSwap_49 : decode b_Dia_firstSwap 49 = .ok (.imul, 1) := by decide +kernel
theorem d_Dia_firstSwap_50 : decode b_Dia_firstSwap 50 = .ok (.iadd, 1) := by decide +kernel
theorem d_Dia_firstSwap_51 : decode b_Dia_firstSwap 51 = .ok (.iload_n 3, 1) := by decide +kernel
theorem d_Dia_firstSwap_52 : decode b_Dia_firstSwap 52 = .ok (.iadd, 1) := by decide +kernel
theorem d_Dia_firstSwap_53 : decode b_Dia_firstSwap 53 = .ok (.ireturn, 1) := by decide +kernel
theorem d_Dia_firstSwap_54 : decode b_Dia_firstSwap 54 = .ok (.iinc 2 1, 3) := by decide +kernel
theorem d_Dia_firstSwap_57 : decode b_Dia_firstSwap 57 = .ok (.goto (-43), 3) := by decide +kernel
theorem d_Dia_firstSwap_60 : decode b_Dia_firstSwap 60 = .ok (.iinc 1 1, 3) := by decide +kernel
theorem d_Dia_firstSwap_63 : decode b_Dia_firstSwap 63 = .ok (.goto (-61), 3) := by decide +kernel
theorem d_Dia_firstSwap_66 : decode b_Dia_firstSwap 66 = .ok (.bipush (-9), 2) := by decide +kernel
theorem d_Dia_firstSwap_68 : decode b_Dia_firstSwap 68 = .ok (.ireturn, 1) := by decide +kernel
theorem d_Dia_firstWithRope_0 : decode b_Dia_firstWithRope 0 = .ok (.iconst 0, 1) := by decide +kernel
theorem d_Dia_firstWithRope_1 : decode b_Dia_firstWithRope 1 = .ok (.istore_n 1, 1) := by decide +kernel
theorem d_Dia_firstWithRope_2 : decode b_Dia_firstWithRope 2 = .ok (.iload_n 1, 1) := by decide +kernel
theorem d_Dia_firstWithRope_3 : decode b_Dia_firstWithRope 3 = .ok (.bipush 8, 2) := by decide +kernel
theorem d_Dia_firstWithRope_5 : decode b_Dia_firstWithRope 5 = .ok (.if_icmp .ge 47, 3) := by decide +kernel
theorem d_Dia_firstWithRope_8 : decode b_Dia_firstWithRope 8 = .ok (.iconst 0, 1) := by decide +kernel
theorem d_Dia_firstWithRope_9 : decode b_Dia_firstWithRope 9 = .ok (.istore_n 2, 1) := by decide +kernel
theorem d_Dia_firstWithRope_10 : decode b_Dia_firstWithRope 10 = .ok (.iload_n 2, 1) := by decide +kernel
theorem d_Dia_firstWithRope_11 : decode b_Dia_firstWithRope 11 = .ok (.bipush 8, 2) := by decide +kernel
theorem d_Dia_firstWithRope_13 : decode b_Dia_firstWithRope 13 = .ok (.if_icmp .ge 33, 3) := by decide +kernel
theorem d_Dia_firstWithRope_16 : decode b_Dia_firstWithRope 16 = .ok (.aload_n 0, 1) := by decide +kernel
theorem d_Dia_firstWithRope_17 : decode b_Dia_firstWithRope 17 = .ok (.iload_n 1, 1) := by decide +kernel
theorem d_Dia_firstWithRope_18 : decode b_Dia_firstWithRope 18 = .ok (.invokevirtual 9, 3) := by decide +kernel
theorem d_Dia_firstWithRope_21 : decode b_Dia_firstWithRope 21 = .ok (.iload_n 2, 1) := by decide +kernel
theorem d_Dia_firstWithRope_22 : decode b_Dia_firstWithRope 22 = .ok (.invokestatic 15, 3) := by decide +kernel
theorem d_Dia_firstWithRope_25 : decode b_Dia_firstWithRope 25 = .ok (.ifCond .eq 15, 3) := by decide +kernel
theorem d_Dia_firstWithRope_28 : decode b_Dia_firstWithRope 28 = .ok (.aload_n 0, 1) := by decide +kernel
theorem d_Dia_firstWithRope_29 : decode b_Dia_firstWithRope 29 = .ok (.getfield 19, 3) := by decide +kernel
theorem d_Dia_firstWithRope_32 : decode b_Dia_firstWithRope 32 = .ok (.iload_n 2, 1) := by decide +kernel
theorem d_Dia_firstWithRope_33 : decode b_Dia_firstWithRope 33 = .ok (.iaload, 1) := by decide +kernel
theorem d_Dia_firstWithRope_34 : decode b_Dia_firstWithRope 34 = .ok (.iconst 3, 1) := by decide +kernel
theorem d_Dia_firstWithRope_35 : decode b_Dia_firstWithRope 35 = .ok (.if_icmp .ne 5, 3) := by decide +kernel
theorem d_Dia_firstWithRope_38 : decode b_Dia_firstWithRope 38 = .ok (.iload_n 1, 1) := by decide +kernel
theorem d_Dia_firstWithRope_39 : decode b_Dia_firstWithRope 39 = .ok (.ireturn, 1) := by decide +kernel
theorem d_Dia_firstWithRope_40 : decode b_Dia_firstWithRope 40 = .ok (.iinc 2 1, 3) := by decide +kernel
theorem d_Dia_firstWithRope_43 : decode b_Dia_firstWithRope 43 = .ok (.goto (-33), 3) := by decide +kernel
theorem d_Dia_firstWithRope_46 : decode b_Dia_firstWithRope 46 = .ok (.iinc 1 1, 3) := by decide +kernel
theorem d_Dia_firstWithRope_49 : decode b_Dia_firstWithRope 49 = .ok (.goto (-47), 3) := by decide +kernel
theorem d_Dia_firstWithRope_52 : decode b_Dia_firstWithRope 52 = .ok (.bipush (-9), 2) := by decide +kernel
theorem d_Dia_firstWithRope_54 : decode b_Dia_firstWithRope 54 = .ok (.ireturn, 1) := by decide +kernel
theorem d_Kin_heavy_0 : decode b_Kin_heavy 0 = .ok (.iload_n 1, 1) := by decide +kernel
theorem d_Kin_heavy_1 : decode b_Kin_heavy 1 = .ok (.iconst 1, 1) := by decide +kernel
theorem d_Kin_heavy_2 : decode b_Kin_heavy 2 = .ok (.iadd, 1) := by decide +kernel
theorem d_Kin_heavy_3 : decode b_Kin_heavy 3 = .ok (.istore_n 2, 1) := by decide +kernel
theorem d_Kin_heavy_4 : decode b_Kin_heavy 4 = .ok (.iload_n 2, 1) := by decide +kernel
theorem d_Kin_heavy_5 : decode b_Kin_heavy 5 = .ok (.iconst 2, 1) := by decide +kernel
theorem d_Kin_heavy_6 : decode b_Kin_heavy 6 = .ok (.iadd, 1) := by decide +kernel
theorem d_Kin_heavy_7 : decode b_Kin_heavy 7 = .ok (.istore_n 3, 1) := by decide +kernel
theorem d_Kin_heavy_8 : decode b_Kin_heavy 8 = .ok (.iconst 4, 1) := by decide +kernel
theorem d_Kin_heavy_9 : decode b_Kin_heavy 9 = .ok (.istore 4, 2) := by decide +kernel
theorem d_Kin_heavy_11 : decode b_Kin_heavy 11 = .ok (.iload_n 0, 1) := by decide +kernel
theorem d_Kin_heavy_12 : decode b_Kin_heavy 12 = .ok (.tableswitch 52 1 5 #[36, 38, 41, 46, 50], 36) := by decide +kernel
theorem d_Kin_heavy_48 : decode b_Kin_heavy 48 = .ok (.iload_n 3, 1) := by decide +kernel
theorem d_Kin_heavy_49 : decode b_Kin_heavy 49 = .ok (.ireturn, 1) := by decide +kernel
theorem d_Kin_heavy_50 : decode b_Kin_heavy 50 = .ok (.iload 4, 2) := by decide +kernel
theorem d_Kin_heavy_52 : decode b_Kin_heavy 52 = .ok (.ireturn, 1) := by decide +kernel
theorem d_Kin_heavy_53 : decode b_Kin_heavy 53 = .ok (.iload 4, 2) := by decide +kernel
theorem d_Kin_heavy_55 : decode b_Kin_heavy 55 = .ok (.iconst 2, 1) := by decide +kernel
theorem d_Kin_heavy_56 : decode b_Kin_heavy 56 = .ok (.idiv, 1) := by decide +kernel
theorem d_Kin_heavy_57 : decode b_Kin_heavy 57 = .ok (.ireturn, 1) := by decide +kernel
theorem d_Kin_heavy_58 : decode b_Kin_heavy 58 = .ok (.iconst 2, 1) := by decide +kernel
theorem d_Kin_heavy_59 : decode b_Kin_heavy 59 = .ok (.iload_n 3, 1) := by decide +kernel
theorem d_Kin_heavy_60 : decode b_Kin_heavy 60 = .ok (.imul, 1) := by decide +kernel
theorem d_Kin_heavy_61 : decode b_Kin_heavy 61 = .ok (.ireturn, 1) := by decide +kernel
theorem d_Kin_heavy_62 : decode b_Kin_heavy 62 = .ok (.iconst 0, 1) := by decide +kernel
theorem d_Kin_heavy_63 : decode b_Kin_heavy 63 = .ok (.ireturn, 1) := by decide +kernel
theorem d_Kin_heavy_64 : decode b_Kin_heavy 64 = .ok (.iload_n 2, 1) := by decide +kernel
theorem d_Kin_heavy_65 : decode b_Kin_heavy 65 = .ok (.ireturn, 1) := by decide +kernel
theorem d_Sta_heavyOf_0 : decode b_Sta_heavyOf 0 = .ok (.iconst 0, 1) := by decide +kernel
theorem d_Sta_heavyOf_1 : decode b_Sta_heavyOf 1 = .ok (.istore_n 2, 1) := by decide +kernel
theorem d_Sta_heavyOf_2 : decode b_Sta_heavyOf 2 = .ok (.iconst 0, 1) := by decide +kernel
theorem d_Sta_heavyOf_3 : decode b_Sta_heavyOf 3 = .ok (.istore_n 3, 1) := by decide +kernel
theorem d_Sta_heavyOf_4 : decode b_Sta_heavyOf 4 = .ok (.iload_n 3, 1) := by decide +kernel
theorem d_Sta_heavyOf_5 : decode b_Sta_heavyOf 5 = .ok (.bipush 8, 2) := by decide +kernel
theorem d_Sta_heavyOf_7 : decode b_Sta_heavyOf 7 = .ok (.if_icmp .ge 35, 3) := by decide +kernel
theorem d_Sta_heavyOf_10 : decode b_Sta_heavyOf 10 = .ok (.iload_n 1, 1) := by decide +kernel
theorem d_Sta_heavyOf_11 : decode b_Sta_heavyOf 11 = .ok (.iload_n 3, 1) := by decide +kernel
theorem d_Sta_heavyOf_12 : decode b_Sta_heavyOf 12 = .ok (.invokestatic 77, 3) := by decide +kernel
theorem d_Sta_heavyOf_15 : decode b_Sta_heavyOf 15 = .ok (.ifCond .eq 21, 3) := by decide +kernel
theorem d_Sta_heavyOf_18 : decode b_Sta_heavyOf 18 = .ok (.iload_n 2, 1) := by decide +kernel
theorem d_Sta_heavyOf_19 : decode b_Sta_heavyOf 19 = .ok (.aload_n 0, 1) := by decide +kernel
theorem d_Sta_heavyOf_20 : decode b_Sta_heavyOf 20 = .ok (.getfield 15, 3) := by decide +kernel
theorem d_Sta_heavyOf_23 : decode b_Sta_heavyOf 23 = .ok (.iload_n 3, 1) := by decide +kernel
theorem d_Sta_heavyOf_24 : decode b_Sta_heavyOf 24 = .ok (.iaload, 1) := by decide +kernel
theorem d_Sta_heavyOf_25 : decode b_Sta_heavyOf 25 = .ok (.aload_n 0, 1) := by decide +kernel
theorem d_Sta_heavyOf_26 : decode b_Sta_heavyOf 26 = .ok (.getfield 18, 3) := by decide +kernel
theorem d_Sta_heavyOf_29 : decode b_Sta_heavyOf 29 = .ok (.iload_n 3, 1) := by decide +kernel
theorem d_Sta_heavyOf_30 : decode b_Sta_heavyOf 30 = .ok (.iaload, 1) := by decide +kernel
theorem d_Sta_heavyOf_31 : decode b_Sta_heavyOf 31 = .ok (.invokestatic 85, 3) := by decide +kernel
theorem d_Sta_heavyOf_34 : decode b_Sta_heavyOf 34 = .ok (.iadd, 1) := by decide +kernel
theorem d_Sta_heavyOf_35 : decode b_Sta_heavyOf 35 = .ok (.istore_n 2, 1) := by decide +kernel
theorem d_Sta_heavyOf_36 : decode b_Sta_heavyOf 36 = .ok (.iinc 3 1, 3) := by decide +kernel
theorem d_Sta_heavyOf_39 : decode b_Sta_heavyOf 39 = .ok (.goto (-35), 3) := by decide +kernel
theorem d_Sta_heavyOf_42 : decode b_Sta_heavyOf 42 = .ok (.iload_n 2, 1) := by decide +kernel
theorem d_Sta_heavyOf_43 : decode b_Sta_heavyOf 43 = .ok (.ireturn, 1) := by decide +kernel
theorem d_Dia_heavyOfAll_0 : decode b_Dia_heavyOfAll 0 = .ok (.iconst 0, 1) := by decide +kernel
theorem d_Dia_heavyOfAll_1 : decode b_Dia_heavyOfAll 1 = .ok (.istore_n 1, 1) := by decide +kernel
theorem d_Dia_heavyOfAll_2 : decode b_Dia_heavyOfAll 2 = .ok (.iconst 0, 1) := by decide +kernel
theorem d_Dia_heavyOfAll_3 : decode b_Dia_heavyOfAll 3 = .ok (.istore_n 2, 1) := by decide +kernel
theorem d_Dia_heavyOfAll_4 : decode b_Dia_heavyOfAll 4 = .ok (.iload_n 2, 1) := by decide +kernel
theorem d_Dia_heavyOfAll_5 : decode b_Dia_heavyOfAll 5 = .ok (.bipush 8, 2) := by decide +kernel
theorem d_Dia_heavyOfAll_7 : decode b_Dia_heavyOfAll 7 = .ok (.if_icmp .ge 21, 3) := by decide +kernel
theorem d_Dia_heavyOfAll_10 : decode b_Dia_heavyOfAll 10 = .ok (.iload_n 1, 1) := by decide +kernel
theorem d_Dia_heavyOfAll_11 : decode b_Dia_heavyOfAll 11 = .ok (.aload_n 0, 1) := by decide +kernel
theorem d_Dia_heavyOfAll_12 : decode b_Dia_heavyOfAll 12 = .ok (.aload_n 0, 1) := by decide +kernel
theorem d_Dia_heavyOfAll_13 : decode b_Dia_heavyOfAll 13 = .ok (.iload_n 2, 1) := by decide +kernel
theorem d_Dia_heavyOfAll_14 : decode b_Dia_heavyOfAll 14 = .ok (.invokevirtual 9, 3) := by decide +kernel
theorem d_Dia_heavyOfAll_17 : decode b_Dia_heavyOfAll 17 = .ok (.invokevirtual 39, 3) := by decide +kernel
theorem d_Dia_heavyOfAll_20 : decode b_Dia_heavyOfAll 20 = .ok (.iadd, 1) := by decide +kernel
theorem d_Dia_heavyOfAll_21 : decode b_Dia_heavyOfAll 21 = .ok (.istore_n 1, 1) := by decide +kernel
theorem d_Dia_heavyOfAll_22 : decode b_Dia_heavyOfAll 22 = .ok (.iinc 2 1, 3) := by decide +kernel
theorem d_Dia_heavyOfAll_25 : decode b_Dia_heavyOfAll 25 = .ok (.goto (-21), 3) := by decide +kernel
theorem d_Dia_heavyOfAll_28 : decode b_Dia_heavyOfAll 28 = .ok (.iload_n 1, 1) := by decide +kernel
theorem d_Dia_heavyOfAll_29 : decode b_Dia_heavyOfAll 29 = .ok (.ireturn, 1) := by decide +kernel
theorem d_Dia_lightestDay_0 : decode b_Dia_lightestDay 0 = .ok (.bipush (-9), 2) := by decide +kernel
theorem d_Dia_lightestDay_2 : decode b_Dia_lightestDay 2 = .ok (.istore_n 1, 1) := by decide +kernel
theorem d_Dia_lightestDay_3 : decode b_Dia_lightestDay 3 = .ok (.iconst 0, 1) := by decide +kernel
theorem d_Dia_lightestDay_4 : decode b_Dia_lightestDay 4 = .ok (.istore_n 2, 1) := by decide +kernel
theorem d_Dia_lightestDay_5 : decode b_Dia_lightestDay 5 = .ok (.iconst 0, 1) := by decide +kernel
theorem d_Dia_lightestDay_6 : decode b_Dia_lightestDay 6 = .ok (.istore_n 3, 1) := by decide +kernel
theorem d_Dia_lightestDay_7 : decode b_Dia_lightestDay 7 = .ok (.iload_n 3, 1) := by decide +kernel
theorem d_Dia_lightestDay_8 : decode b_Dia_lightestDay 8 = .ok (.bipush 8, 2) := by decide +kernel
theorem d_Dia_lightestDay_10 : decode b_Dia_lightestDay 10 = .ok (.if_icmp .ge 45, 3) := by decide +kernel
theorem d_Dia_lightestDay_13 : decode b_Dia_lightestDay 13 = .ok (.iload_n 3, 1) := by decide +kernel
theorem d_Dia_lightestDay_14 : decode b_Dia_lightestDay 14 = .ok (.aload_n 0, 1) := by decide +kernel
theorem d_Dia_lightestDay_15 : decode b_Dia_lightestDay 15 = .ok (.getfield 30, 3) := by decide +kernel
theorem d_Dia_lightestDay_18 : decode b_Dia_lightestDay 18 = .ok (.if_icmp .ge 37, 3) := by decide +kernel
theorem d_Dia_lightestDay_21 : decode b_Dia_lightestDay 21 = .ok (.aload_n 0, 1) := by decide +kernel
theorem d_Dia_lightestDay_22 : decode b_Dia_lightestDay 22 = .ok (.aload_n 0, 1) := by decide +kernel
theorem d_Dia_lightestDay_23 : decode b_Dia_lightestDay 23 = .ok (.iload_n 3, 1) := by decide +kernel
theorem d_Dia_lightestDay_24 : decode b_Dia_lightestDay 24 = .ok (.invokevirtual 9, 3) := by decide +kernel
theorem d_Dia_lightestDay_27 : decode b_Dia_lightestDay 27 = .ok (.invokevirtual 39, 3) := by decide +kernel
theorem d_Dia_lightestDay_30 : decode b_Dia_lightestDay 30 = .ok (.istore 4, 2) := by decide +kernel
theorem d_Dia_lightestDay_32 : decode b_Dia_lightestDay 32 = .ok (.iload_n 1, 1) := by decide +kernel
theorem d_Dia_lightestDay_33 : decode b_Dia_lightestDay 33 = .ok (.bipush (-9), 2) := by decide +kernel
theorem d_Dia_lightestDay_35 : decode b_Dia_lightestDay 35 = .ok (.if_icmp .eq 9, 3) := by decide +kernel
theorem d_Dia_lightestDay_38 : decode b_Dia_lightestDay 38 = .ok (.iload 4, 2) := by decide +kernel
theorem d_Dia_lightestDay_40 : decode b_Dia_lightestDay 40 = .ok (.iload_n 2, 1) := by decide +kernel
theorem d_Dia_lightestDay_41 : decode b_Dia_lightestDay 41 = .ok (.if_icmp .ge 8, 3) := by decide +kernel
theorem d_Dia_lightestDay_44 : decode b_Dia_lightestDay 44 = .ok (.iload_n 3, 1) := by decide +kernel
theorem d_Dia_lightestDay_45 : decode b_Dia_lightestDay 45 = .ok (.istore_n 1, 1) := by decide +kernel
theorem d_Dia_lightestDay_46 : decode b_Dia_lightestDay 46 = .ok (.iload 4, 2) := by decide +kernel
theorem d_Dia_lightestDay_48 : decode b_Dia_lightestDay 48 = .ok (.istore_n 2, 1) := by decide +kernel
theorem d_Dia_lightestDay_49 : decode b_Dia_lightestDay 49 = .ok (.iinc 3 1, 3) := by decide +kernel
theorem d_Dia_lightestDay_52 : decode b_Dia_lightestDay 52 = .ok (.goto (-45), 3) := by decide +kernel
theorem d_Dia_lightestDay_55 : decode b_Dia_lightestDay 55 = .ok (.iload_n 1, 1) := by decide +kernel
theorem d_Dia_lightestDay_56 : decode b_Dia_lightestDay 56 = .ok (.ireturn, 1) := by decide +kernel
theorem d_Dia_timesPacked_0 : decode b_Dia_timesPacked 0 = .ok (.iconst 0, 1) := by decide +kernel
theorem d_Dia_timesPacked_1 : decode b_Dia_timesPacked 1 = .ok (.istore_n 2, 1) := by decide +kernel
theorem d_Dia_timesPacked_2 : decode b_Dia_timesPacked 2 = .ok (.iconst 0, 1) := by decide +kernel
theorem d_Dia_timesPacked_3 : decode b_Dia_timesPacked 3 = .ok (.istore_n 3, 1) := by decide +kernel
theorem d_Dia_timesPacked_4 : decode b_Dia_timesPacked 4 = .ok (.iload_n 3, 1) := by decide +kernel
theorem d_Dia_timesPacked_5 : decode b_Dia_timesPacked 5 = .ok (.bipush 8, 2) := by decide +kernel
theorem d_Dia_timesPacked_7 : decode b_Dia_timesPacked 7 = .ok (.if_icmp .ge 24, 3) := by decide +kernel
theorem d_Dia_timesPacked_10 : decode b_Dia_timesPacked 10 = .ok (.aload_n 0, 1) := by decide +kernel
theorem d_Dia_timesPacked_11 : decode b_Dia_timesPacked 11 = .ok (.iload_n 3, 1) := by decide +kernel
theorem d_Dia_timesPacked_12 : decode b_Dia_timesPacked 12 = .ok (.invokevirtual 9, 3) := by decide +kernel
theorem d_Dia_timesPacked_15 : decode b_Dia_timesPacked 15 = .ok (.iload_n 1, 1) := by decide +kernel
theorem d_Dia_timesPacked_16 : decode b_Dia_timesPacked 16 = .ok (.invokestatic 15, 3) := by decide +kernel
theorem d_Dia_timesPacked_19 : decode b_Dia_timesPacked 19 = .ok (.ifCond .eq 6, 3) := by decide +kernel
theorem d_Dia_timesPacked_22 : decode b_Dia_timesPacked 22 = .ok (.iinc 2 1, 3) := by decide +kernel
theorem d_Dia_timesPacked_25 : decode b_Dia_timesPacked 25 = .ok (.iinc 3 1, 3) := by decide +kernel
theorem d_Dia_timesPacked_28 : decode b_Dia_timesPacked 28 = .ok (.goto (-24), 3) := by decide +kernel
theorem d_Dia_timesPacked_31 : decode b_Dia_timesPacked 31 = .ok (.iload_n 2, 1) := by decide +kernel
theorem d_Dia_timesPacked_32 : decode b_Dia_timesPacked 32 = .ok (.ireturn, 1) := by decide +kernel
theorem d_Dia_mostPacked_0 : decode b_Dia_mostPacked 0 = .ok (.bipush (-9), 2) := by decide +kernel
theorem d_Dia_mostPacked_2 : decode b_Dia_mostPacked 2 = .ok (.istore_n 1, 1) := by decide +kernel
theorem d_Dia_mostPacked_3 : decode b_Dia_mostPacked 3 = .ok (.iconst 0, 1) := by decide +kernel
theorem d_Dia_mostPacked_4 : decode b_Dia_mostPacked 4 = .ok (.istore_n 2, 1) := by decide +kernel
theorem d_Dia_mostPacked_5 : decode b_Dia_mostPacked 5 = .ok (.iconst 0, 1) := by decide +kernel
theorem d_Dia_mostPacked_6 : decode b_Dia_mostPacked 6 = .ok (.istore_n 3, 1) := by decide +kernel
theorem d_Dia_mostPacked_7 : decode b_Dia_mostPacked 7 = .ok (.iload_n 3, 1) := by decide +kernel
theorem d_Dia_mostPacked_8 : decode b_Dia_mostPacked 8 = .ok (.aload_n 0, 1) := by decide +kernel
theorem d_Dia_mostPacked_9 : decode b_Dia_mostPacked 9 = .ok (.getfield 42, 3) := by decide +kernel
theorem d_Dia_mostPacked_12 : decode b_Dia_mostPacked 12 = .ok (.if_icmp .ge 33, 3) := by decide +kernel
theorem d_Dia_mostPacked_15 : decode b_Dia_mostPacked 15 = .ok (.aload_n 0, 1) := by decide +kernel
theorem d_Dia_mostPacked_16 : decode b_Dia_mostPacked 16 = .ok (.iload_n 3, 1) := by decide +kernel
theorem d_Dia_mostPacked_17 : decode b_Dia_mostPacked 17 = .ok (.invokestatic 45, 3) := by decide +kernel
theorem d_Dia_mostPacked_20 : decode b_Dia_mostPacked 20 = .ok (.istore 4, 2) := by decide +kernel
theorem d_Dia_mostPacked_22 : decode b_Dia_mostPacked 22 = .ok (.iload_n 1, 1) := by decide +kernel
theorem d_Dia_mostPacked_23 : decode b_Dia_mostPacked 23 = .ok (.bipush (-9), 2) := by decide +kernel
theorem d_Dia_mostPacked_25 : decode b_Dia_mostPacked 25 = .ok (.if_icmp .eq 9, 3) := by decide +kernel
theorem d_Dia_mostPacked_28 : decode b_Dia_mostPacked 28 = .ok (.iload 4, 2) := by decide +kernel
theorem d_Dia_mostPacked_30 : decode b_Dia_mostPacked 30 = .ok (.iload_n 2, 1) := by decide +kernel
theorem d_Dia_mostPacked_31 : decode b_Dia_mostPacked 31 = .ok (.if_icmp .le 8, 3) := by decide +kernel
theorem d_Dia_mostPacked_34 : decode b_Dia_mostPacked 34 = .ok (.iload_n 3, 1) := by decide +kernel
theorem d_Dia_mostPacked_35 : decode b_Dia_mostPacked 35 = .ok (.istore_n 1, 1) := by decide +kernel
theorem d_Dia_mostPacked_36 : decode b_Dia_mostPacked 36 = .ok (.iload 4, 2) := by decide +kernel
theorem d_Dia_mostPacked_38 : decode b_Dia_mostPacked 38 = .ok (.istore_n 2, 1) := by decide +kernel
theorem d_Dia_mostPacked_39 : decode b_Dia_mostPacked 39 = .ok (.iinc 3 1, 3) := by decide +kernel
theorem d_Dia_mostPacked_42 : decode b_Dia_mostPacked 42 = .ok (.goto (-35), 3) := by decide +kernel
theorem d_Dia_mostPacked_45 : decode b_Dia_mostPacked 45 = .ok (.iload_n 1, 1) := by decide +kernel
theorem d_Dia_mostPacked_46 : decode b_Dia_mostPacked 46 = .ok (.ireturn, 1) := by decide +kernel
theorem d_Dia_twosApart_0 : decode b_Dia_twosApart 0 = .ok (.iconst 0, 1) := by decide +kernel
theorem d_Dia_twosApart_1 : decode b_Dia_twosApart 1 = .ok (.istore_n 1, 1) := by decide +kernel
theorem d_Dia_twosApart_2 : decode b_Dia_twosApart 2 = .ok (.iconst 0, 1) := by decide +kernel
theorem d_Dia_twosApart_3 : decode b_Dia_twosApart 3 = .ok (.istore_n 2, 1) := by decide +kernel
theorem d_Dia_twosApart_4 : decode b_Dia_twosApart 4 = .ok (.iload_n 2, 1) := by decide +kernel
theorem d_Dia_twosApart_5 : decode b_Dia_twosApart 5 = .ok (.bipush 8, 2) := by decide +kernel
theorem d_Dia_twosApart_7 : decode b_Dia_twosApart 7 = .ok (.if_icmp .ge 72, 3) := by decide +kernel
theorem d_Dia_twosApart_10 : decode b_Dia_twosApart 10 = .ok (.iload_n 2, 1) := by decide +kernel
theorem d_Dia_twosApart_11 : decode b_Dia_twosApart 11 = .ok (.aload_n 0, 1) := by decide +kernel
theorem d_Dia_twosApart_12 : decode b_Dia_twosApart 12 = .ok (.getfield 30, 3) := by decide +kernel
theorem d_Dia_twosApart_15 : decode b_Dia_twosApart 15 = .ok (.if_icmp .ge 64, 3) := by decide +kernel
theorem d_Dia_twosApart_18 : decode b_Dia_twosApart 18 = .ok (.aload_n 0, 1) := by decide +kernel
theorem d_Dia_twosApart_19 : decode b_Dia_twosApart 19 = .ok (.aload_n 0, 1) := by decide +kernel
theorem d_Dia_twosApart_20 : decode b_Dia_twosApart 20 = .ok (.iload_n 2, 1) := by decide +kernel
theorem d_Dia_twosApart_21 : decode b_Dia_twosApart 21 = .ok (.invokevirtual 9, 3) := by decide +kernel
theorem d_Dia_twosApart_24 : decode b_Dia_twosApart 24 = .ok (.invokevirtual 27, 3) := by decide +kernel
theorem d_Dia_twosApart_27 : decode b_Dia_twosApart 27 = .ok (.istore_n 3, 1) := by decide +kernel
theorem d_Dia_twosApart_28 : decode b_Dia_twosApart 28 = .ok (.iload_n 2, 1) := by decide +kernel
theorem d_Dia_twosApart_29 : decode b_Dia_twosApart 29 = .ok (.iconst 1, 1) := by decide +kernel
theorem d_Dia_twosApart_30 : decode b_Dia_twosApart 30 = .ok (.iadd, 1) := by decide +kernel
theorem d_Dia_twosApart_31 : decode b_Dia_twosApart 31 = .ok (.istore 4, 2) := by decide +kernel
theorem d_Dia_twosApart_33 : decode b_Dia_twosApart 33 = .ok (.iload 4, 2) := by decide +kernel
theorem d_Dia_twosApart_35 : decode b_Dia_twosApart 35 = .ok (.bipush 8, 2) := by decide +kernel
theorem d_Dia_twosApart_37 : decode b_Dia_twosApart 37 = .ok (.if_icmp .ge 36, 3) := by decide +kernel
theorem d_Dia_twosApart_40 : decode b_Dia_twosApart 40 = .ok (.iload 4, 2) := by decide +kernel
theorem d_Dia_twosApart_42 : decode b_Dia_twosApart 42 = .ok (.aload_n 0, 1) := by decide +kernel
theorem d_Dia_twosApart_43 : decode b_Dia_twosApart 43 = .ok (.getfield 30, 3) := by decide +kernel
theorem d_Dia_twosApart_46 : decode b_Dia_twosApart 46 = .ok (.if_icmp .ge 27, 3) := by decide +kernel
theorem d_Dia_twosApart_49 : decode b_Dia_twosApart 49 = .ok (.iload_n 3, 1) := by decide +kernel
theorem d_Dia_twosApart_50 : decode b_Dia_twosApart 50 = .ok (.aload_n 0, 1) := by decide +kernel
theorem d_Dia_twosApart_51 : decode b_Dia_twosApart 51 = .ok (.aload_n 0, 1) := by decide +kernel
theorem d_Dia_twosApart_52 : decode b_Dia_twosApart 52 = .ok (.iload 4, 2) := by decide +kernel
theorem d_Dia_twosApart_54 : decode b_Dia_twosApart 54 = .ok (.invokevirtual 9, 3) := by decide +kernel
theorem d_Dia_twosApart_57 : decode b_Dia_twosApart 57 = .ok (.invokevirtual 27, 3) := by decide +kernel
theorem d_Dia_twosApart_60 : decode b_Dia_twosApart 60 = .ok (.iand, 1) := by decide +kernel
theorem d_Dia_twosApart_61 : decode b_Dia_twosApart 61 = .ok (.ifCond .ne 6, 3) := by decide +kernel
theorem d_Dia_twosApart_64 : decode b_Dia_twosApart 64 = .ok (.iinc 1 1, 3) := by decide +kernel
theorem d_Dia_twosApart_67 : decode b_Dia_twosApart 67 = .ok (.iinc 4 1, 3) := by decide +kernel
theorem d_Dia_twosApart_70 : decode b_Dia_twosApart 70 = .ok (.goto (-37), 3) := by decide +kernel
theorem d_Dia_twosApart_73 : decode b_Dia_twosApart 73 = .ok (.iinc 2 1, 3) := by decide +kernel
theorem d_Dia_twosApart_76 : decode b_Dia_twosApart 76 = .ok (.goto (-72), 3) := by decide +kernel
theorem d_Dia_twosApart_79 : decode b_Dia_twosApart 79 = .ok (.iload_n 1, 1) := by decide +kernel
theorem d_Dia_twosApart_80 : decode b_Dia_twosApart 80 = .ok (.ireturn, 1) := by decide +kernel
theorem d_Dia_withNoneOf_0 : decode b_Dia_withNoneOf 0 = .ok (.iconst 0, 1) := by decide +kernel
theorem d_Dia_withNoneOf_1 : decode b_Dia_withNoneOf 1 = .ok (.istore_n 2, 1) := by decide +kernel
theorem d_Dia_withNoneOf_2 : decode b_Dia_withNoneOf 2 = .ok (.iconst 0, 1) := by decide +kernel
theorem d_Dia_withNoneOf_3 : decode b_Dia_withNoneOf 3 = .ok (.istore_n 3, 1) := by decide +kernel
theorem d_Dia_withNoneOf_4 : decode b_Dia_withNoneOf 4 = .ok (.iload_n 3, 1) := by decide +kernel
theorem d_Dia_withNoneOf_5 : decode b_Dia_withNoneOf 5 = .ok (.bipush 8, 2) := by decide +kernel
theorem d_Dia_withNoneOf_7 : decode b_Dia_withNoneOf 7 = .ok (.if_icmp .ge 37, 3) := by decide +kernel
theorem d_Dia_withNoneOf_10 : decode b_Dia_withNoneOf 10 = .ok (.aload_n 0, 1) := by decide +kernel
theorem d_Dia_withNoneOf_11 : decode b_Dia_withNoneOf 11 = .ok (.iload_n 3, 1) := by decide +kernel
theorem d_Dia_withNoneOf_12 : decode b_Dia_withNoneOf 12 = .ok (.invokevirtual 23, 3) := by decide +kernel
theorem d_Dia_withNoneOf_15 : decode b_Dia_withNoneOf 15 = .ok (.ifCond .eq 23, 3) := by decide +kernel
theorem d_Dia_withNoneOf_18 : decode b_Dia_withNoneOf 18 = .ok (.aload_n 0, 1) := by decide +kernel
theorem d_Dia_withNoneOf_19 : decode b_Dia_withNoneOf 19 = .ok (.aload_n 0, 1) := by decide +kernel
theorem d_Dia_withNoneOf_20 : decode b_Dia_withNoneOf 20 = .ok (.iload_n 3, 1) := by decide +kernel
theorem d_Dia_withNoneOf_21 : decode b_Dia_withNoneOf 21 = .ok (.invokevirtual 9, 3) := by decide +kernel
theorem d_Dia_withNoneOf_24 : decode b_Dia_withNoneOf 24 = .ok (.invokevirtual 27, 3) := by decide +kernel
theorem d_Dia_withNoneOf_27 : decode b_Dia_withNoneOf 27 = .ok (.iload_n 1, 1) := by decide +kernel
theorem d_Dia_withNoneOf_28 : decode b_Dia_withNoneOf 28 = .ok (.iand, 1) := by decide +kernel
theorem d_Dia_withNoneOf_29 : decode b_Dia_withNoneOf 29 = .ok (.ifCond .ne 9, 3) := by decide +kernel
theorem d_Dia_withNoneOf_32 : decode b_Dia_withNoneOf 32 = .ok (.iload_n 2, 1) := by decide +kernel
theorem d_Dia_withNoneOf_33 : decode b_Dia_withNoneOf 33 = .ok (.iconst 1, 1) := by decide +kernel
theorem d_Dia_withNoneOf_34 : decode b_Dia_withNoneOf 34 = .ok (.iload_n 3, 1) := by decide +kernel
theorem d_Dia_withNoneOf_35 : decode b_Dia_withNoneOf 35 = .ok (.ishl, 1) := by decide +kernel
theorem d_Dia_withNoneOf_36 : decode b_Dia_withNoneOf 36 = .ok (.ior, 1) := by decide +kernel
theorem d_Dia_withNoneOf_37 : decode b_Dia_withNoneOf 37 = .ok (.istore_n 2, 1) := by decide +kernel
theorem d_Dia_withNoneOf_38 : decode b_Dia_withNoneOf 38 = .ok (.iinc 3 1, 3) := by decide +kernel
theorem d_Dia_withNoneOf_41 : decode b_Dia_withNoneOf 41 = .ok (.goto (-37), 3) := by decide +kernel
theorem d_Dia_withNoneOf_44 : decode b_Dia_withNoneOf 44 = .ok (.iload_n 2, 1) := by decide +kernel
theorem d_Dia_withNoneOf_45 : decode b_Dia_withNoneOf 45 = .ok (.ireturn, 1) := by decide +kernel
theorem d_Dia_withSoMany_0 : decode b_Dia_withSoMany 0 = .ok (.iconst 0, 1) := by decide +kernel
theorem d_Dia_withSoMany_1 : decode b_Dia_withSoMany 1 = .ok (.istore_n 2, 1) := by decide +kernel
theorem d_Dia_withSoMany_2 : decode b_Dia_withSoMany 2 = .ok (.iconst 0, 1) := by decide +kernel
theorem d_Dia_withSoMany_3 : decode b_Dia_withSoMany 3 = .ok (.istore_n 3, 1) := by decide +kernel
theorem d_Dia_withSoMany_4 : decode b_Dia_withSoMany 4 = .ok (.iload_n 3, 1) := by decide +kernel
theorem d_Dia_withSoMany_5 : decode b_Dia_withSoMany 5 = .ok (.bipush 8, 2) := by decide +kernel
theorem d_Dia_withSoMany_7 : decode b_Dia_withSoMany 7 = .ok (.if_icmp .ge 39, 3) := by decide +kernel
theorem d_Dia_withSoMany_10 : decode b_Dia_withSoMany 10 = .ok (.aload_n 0, 1) := by decide +kernel
theorem d_Dia_withSoMany_11 : decode b_Dia_withSoMany 11 = .ok (.iload_n 3, 1) := by decide +kernel
theorem d_Dia_withSoMany_12 : decode b_Dia_withSoMany 12 = .ok (.invokevirtual 23, 3) := by decide +kernel
theorem d_Dia_withSoMany_15 : decode b_Dia_withSoMany 15 = .ok (.ifCond .eq 25, 3) := by decide +kernel
theorem d_Dia_withSoMany_18 : decode b_Dia_withSoMany 18 = .ok (.aload_n 0, 1) := by decide +kernel
theorem d_Dia_withSoMany_19 : decode b_Dia_withSoMany 19 = .ok (.aload_n 0, 1) := by decide +kernel
theorem d_Dia_withSoMany_20 : decode b_Dia_withSoMany 20 = .ok (.iload_n 3, 1) := by decide +kernel
theorem d_Dia_withSoMany_21 : decode b_Dia_withSoMany 21 = .ok (.invokevirtual 9, 3) := by decide +kernel
theorem d_Dia_withSoMany_24 : decode b_Dia_withSoMany 24 = .ok (.invokevirtual 27, 3) := by decide +kernel
theorem d_Dia_withSoMany_27 : decode b_Dia_withSoMany 27 = .ok (.invokestatic 34, 3) := by decide +kernel
theorem d_Dia_withSoMany_30 : decode b_Dia_withSoMany 30 = .ok (.iload_n 1, 1) := by decide +kernel
theorem d_Dia_withSoMany_31 : decode b_Dia_withSoMany 31 = .ok (.if_icmp .ne 9, 3) := by decide +kernel
theorem d_Dia_withSoMany_34 : decode b_Dia_withSoMany 34 = .ok (.iload_n 2, 1) := by decide +kernel
theorem d_Dia_withSoMany_35 : decode b_Dia_withSoMany 35 = .ok (.iconst 1, 1) := by decide +kernel
theorem d_Dia_withSoMany_36 : decode b_Dia_withSoMany 36 = .ok (.iload_n 3, 1) := by decide +kernel
theorem d_Dia_withSoMany_37 : decode b_Dia_withSoMany 37 = .ok (.ishl, 1) := by decide +kernel
theorem d_Dia_withSoMany_38 : decode b_Dia_withSoMany 38 = .ok (.ior, 1) := by decide +kernel
theorem d_Dia_withSoMany_39 : decode b_Dia_withSoMany 39 = .ok (.istore_n 2, 1) := by decide +kernel
theorem d_Dia_withSoMany_40 : decode b_Dia_withSoMany 40 = .ok (.iinc 3 1, 3) := by decide +kernel
theorem d_Dia_withSoMany_43 : decode b_Dia_withSoMany 43 = .ok (.goto (-39), 3) := by decide +kernel
theorem d_Dia_withSoMany_46 : decode b_Dia_withSoMany 46 = .ok (.iload_n 2, 1) := by decide +kernel
theorem d_Dia_withSoMany_47 : decode b_Dia_withSoMany 47 = .ok (.ireturn, 1) := by decide +kernel
theorem d_Fld_leftAmong_0 : decode b_Fld_leftAmong 0 = .ok (.iconst 0, 1) := by decide +kernel
theorem d_Fld_leftAmong_1 : decode b_Fld_leftAmong 1 = .ok (.istore_n 2, 1) := by decide +kernel
theorem d_Fld_leftAmong_2 : decode b_Fld_leftAmong 2 = .ok (.iconst 0, 1) := by decide +kernel
theorem d_Fld_leftAmong_3 : decode b_Fld_leftAmong 3 = .ok (.istore_n 3, 1) := by decide +kernel
theorem d_Fld_leftAmong_4 : decode b_Fld_leftAmong 4 = .ok (.iload_n 3, 1) := by decide +kernel
theorem d_Fld_leftAmong_5 : decode b_Fld_leftAmong 5 = .ok (.iconst 4, 1) := by decide +kernel
theorem d_Fld_leftAmong_6 : decode b_Fld_leftAmong 6 = .ok (.if_icmp .ge 26, 3) := by decide +kernel
theorem d_Fld_leftAmong_9 : decode b_Fld_leftAmong 9 = .ok (.iload_n 1, 1) := by decide +kernel
theorem d_Fld_leftAmong_10 : decode b_Fld_leftAmong 10 = .ok (.iload_n 3, 1) := by decide +kernel
theorem d_Fld_leftAmong_11 : decode b_Fld_leftAmong 11 = .ok (.invokestatic 22, 3) := by decide +kernel
theorem d_Fld_leftAmong_14 : decode b_Fld_leftAmong 14 = .ok (.ifCond .eq 12, 3) := by decide +kernel
theorem d_Fld_leftAmong_17 : decode b_Fld_leftAmong 17 = .ok (.iload_n 2, 1) := by decide +kernel
theorem d_Fld_leftAmong_18 : decode b_Fld_leftAmong 18 = .ok (.aload_n 0, 1) := by decide +kernel
theorem d_Fld_leftAmong_19 : decode b_Fld_leftAmong 19 = .ok (.getfield 15, 3) := by decide +kernel
theorem d_Fld_leftAmong_22 : decode b_Fld_leftAmong 22 = .ok (.iload_n 3, 1) := by decide +kernel
theorem d_Fld_leftAmong_23 : decode b_Fld_leftAmong 23 = .ok (.iaload, 1) := by decide +kernel
theorem d_Fld_leftAmong_24 : decode b_Fld_leftAmong 24 = .ok (.iadd, 1) := by decide +kernel
theorem d_Fld_leftAmong_25 : decode b_Fld_leftAmong 25 = .ok (.istore_n 2, 1) := by decide +kernel
theorem d_Fld_leftAmong_26 : decode b_Fld_leftAmong 26 = .ok (.iinc 3 1, 3) := by decide +kernel
theorem d_Fld_leftAmong_29 : decode b_Fld_leftAmong 29 = .ok (.goto (-25), 3) := by decide +kernel
theorem d_Fld_leftAmong_32 : decode b_Fld_leftAmong 32 = .ok (.iload_n 2, 1) := by decide +kernel
theorem d_Fld_leftAmong_33 : decode b_Fld_leftAmong 33 = .ok (.ireturn, 1) := by decide +kernel
theorem d_Fld_allLeft_0 : decode b_Fld_allLeft 0 = .ok (.aload_n 0, 1) := by decide +kernel
theorem d_Fld_allLeft_1 : decode b_Fld_allLeft 1 = .ok (.bipush 15, 2) := by decide +kernel
theorem d_Fld_allLeft_3 : decode b_Fld_allLeft 3 = .ok (.invokevirtual 30, 3) := by decide +kernel
theorem d_Fld_allLeft_6 : decode b_Fld_allLeft 6 = .ok (.ireturn, 1) := by decide +kernel
theorem d_H_isField_0 : decode b_H_isField 0 = .ok (.iload_n 0, 1) := by decide +kernel
theorem d_H_isField_1 : decode b_H_isField 1 = .ok (.ifCond .lt 12, 3) := by decide +kernel
theorem d_H_isField_4 : decode b_H_isField 4 = .ok (.iload_n 0, 1) := by decide +kernel
theorem d_H_isField_5 : decode b_H_isField 5 = .ok (.iconst 4, 1) := by decide +kernel
theorem d_H_isField_6 : decode b_H_isField 6 = .ok (.if_icmp .ge 7, 3) := by decide +kernel
theorem d_H_isField_9 : decode b_H_isField 9 = .ok (.iconst 1, 1) := by decide +kernel
theorem d_H_isField_10 : decode b_H_isField 10 = .ok (.goto 4, 3) := by decide +kernel
theorem d_H_isField_13 : decode b_H_isField 13 = .ok (.iconst 0, 1) := by decide +kernel
theorem d_H_isField_14 : decode b_H_isField 14 = .ok (.ireturn, 1) := by decide +kernel
theorem d_Fld_become_0 : decode b_Fld_become 0 = .ok (.iload_n 1, 1) := by decide +kernel
theorem d_Fld_become_1 : decode b_Fld_become 1 = .ok (.invokestatic 18, 3) := by decide +kernel
theorem d_Fld_become_4 : decode b_Fld_become 4 = .ok (.ifCond .eq 17, 3) := by decide +kernel
theorem d_Fld_become_7 : decode b_Fld_become 7 = .ok (.aload_n 0, 1) := by decide +kernel
theorem d_Fld_become_8 : decode b_Fld_become 8 = .ok (.getfield 9, 3) := by decide +kernel
theorem d_Fld_become_11 : decode b_Fld_become 11 = .ok (.iload_n 1, 1) := by decide +kernel
theorem d_Fld_become_12 : decode b_Fld_become 12 = .ok (.iload_n 2, 1) := by decide +kernel
theorem d_Fld_become_13 : decode b_Fld_become 13 = .ok (.iastore, 1) := by decide +kernel
theorem d_Fld_become_14 : decode b_Fld_become 14 = .ok (.aload_n 0, 1) := by decide +kernel
theorem d_Fld_become_15 : decode b_Fld_become 15 = .ok (.getfield 15, 3) := by decide +kernel
theorem d_Fld_become_18 : decode b_Fld_become 18 = .ok (.iload_n 1, 1) := by decide +kernel
theorem d_Fld_become_19 : decode b_Fld_become 19 = .ok (.iload_n 3, 1) := by decide +kernel
theorem d_Fld_become_20 : decode b_Fld_become 20 = .ok (.iastore, 1) := by decide +kernel
theorem d_Fld_become_21 : decode b_Fld_become 21 = .ok (.return_, 1) := by decide +kernel
theorem d_Fld_copyFrom_0 : decode b_Fld_copyFrom 0 = .ok (.iconst 0, 1) := by decide +kernel
theorem d_Fld_copyFrom_1 : decode b_Fld_copyFrom 1 = .ok (.istore_n 2, 1) := by decide +kernel
theorem d_Fld_copyFrom_2 : decode b_Fld_copyFrom 2 = .ok (.iload_n 2, 1) := by decide +kernel
theorem d_Fld_copyFrom_3 : decode b_Fld_copyFrom 3 = .ok (.iconst 4, 1) := by decide +kernel
theorem d_Fld_copyFrom_4 : decode b_Fld_copyFrom 4 = .ok (.if_icmp .ge 33, 3) := by decide +kernel
theorem d_Fld_copyFrom_7 : decode b_Fld_copyFrom 7 = .ok (.aload_n 0, 1) := by decide +kernel
theorem d_Fld_copyFrom_8 : decode b_Fld_copyFrom 8 = .ok (.getfield 9, 3) := by decide +kernel
theorem d_Fld_copyFrom_11 : decode b_Fld_copyFrom 11 = .ok (.iload_n 2, 1) := by decide +kernel
theorem d_Fld_copyFrom_12 : decode b_Fld_copyFrom 12 = .ok (.aload_n 1, 1) := by decide +kernel
theorem d_Fld_copyFrom_13 : decode b_Fld_copyFrom 13 = .ok (.getfield 9, 3) := by decide +kernel
theorem d_Fld_copyFrom_16 : decode b_Fld_copyFrom 16 = .ok (.iload_n 2, 1) := by decide +kernel
theorem d_Fld_copyFrom_17 : decode b_Fld_copyFrom 17 = .ok (.iaload, 1) := by decide +kernel
theorem d_Fld_copyFrom_18 : decode b_Fld_copyFrom 18 = .ok (.iastore, 1) := by decide +kernel
theorem d_Fld_copyFrom_19 : decode b_Fld_copyFrom 19 = .ok (.aload_n 0, 1) := by decide +kernel
theorem d_Fld_copyFrom_20 : decode b_Fld_copyFrom 20 = .ok (.getfield 15, 3) := by decide +kernel
theorem d_Fld_copyFrom_23 : decode b_Fld_copyFrom 23 = .ok (.iload_n 2, 1) := by decide +kernel
theorem d_Fld_copyFrom_24 : decode b_Fld_copyFrom 24 = .ok (.aload_n 1, 1) := by decide +kernel
theorem d_Fld_copyFrom_25 : decode b_Fld_copyFrom 25 = .ok (.getfield 15, 3) := by decide +kernel
theorem d_Fld_copyFrom_28 : decode b_Fld_copyFrom 28 = .ok (.iload_n 2, 1) := by decide +kernel
theorem d_Fld_copyFrom_29 : decode b_Fld_copyFrom 29 = .ok (.iaload, 1) := by decide +kernel
theorem d_Fld_copyFrom_30 : decode b_Fld_copyFrom 30 = .ok (.iastore, 1) := by decide +kernel
theorem d_Fld_copyFrom_31 : decode b_Fld_copyFrom 31 = .ok (.iinc 2 1, 3) := by decide +kernel
theorem d_Fld_copyFrom_34 : decode b_Fld_copyFrom 34 = .ok (.goto (-32), 3) := by decide +kernel
theorem d_Fld_copyFrom_37 : decode b_Fld_copyFrom 37 = .ok (.return_, 1) := by decide +kernel
theorem d_Fld_emptied_0 : decode b_Fld_emptied 0 = .ok (.iconst 0, 1) := by decide +kernel
theorem d_Fld_emptied_1 : decode b_Fld_emptied 1 = .ok (.istore_n 1, 1) := by decide +kernel
theorem d_Fld_emptied_2 : decode b_Fld_emptied 2 = .ok (.iconst 0, 1) := by decide +kernel
theorem d_Fld_emptied_3 : decode b_Fld_emptied 3 = .ok (.istore_n 2, 1) := by decide +kernel
theorem d_Fld_emptied_4 : decode b_Fld_emptied 4 = .ok (.iload_n 2, 1) := by decide +kernel
theorem d_Fld_emptied_5 : decode b_Fld_emptied 5 = .ok (.iconst 4, 1) := by decide +kernel
theorem d_Fld_emptied_6 : decode b_Fld_emptied 6 = .ok (.if_icmp .ge 24, 3) := by decide +kernel
theorem d_Fld_emptied_9 : decode b_Fld_emptied 9 = .ok (.aload_n 0, 1) := by decide +kernel
theorem d_Fld_emptied_10 : decode b_Fld_emptied 10 = .ok (.getfield 15, 3) := by decide +kernel
theorem d_Fld_emptied_13 : decode b_Fld_emptied 13 = .ok (.iload_n 2, 1) := by decide +kernel
theorem d_Fld_emptied_14 : decode b_Fld_emptied 14 = .ok (.iaload, 1) := by decide +kernel
theorem d_Fld_emptied_15 : decode b_Fld_emptied 15 = .ok (.ifCond .ne 9, 3) := by decide +kernel
theorem d_Fld_emptied_18 : decode b_Fld_emptied 18 = .ok (.iload_n 1, 1) := by decide +kernel
theorem d_Fld_emptied_19 : decode b_Fld_emptied 19 = .ok (.iconst 1, 1) := by decide +kernel
theorem d_Fld_emptied_20 : decode b_Fld_emptied 20 = .ok (.iload_n 2, 1) := by decide +kernel
theorem d_Fld_emptied_21 : decode b_Fld_emptied 21 = .ok (.ishl, 1) := by decide +kernel
theorem d_Fld_emptied_22 : decode b_Fld_emptied 22 = .ok (.ior, 1) := by decide +kernel
theorem d_Fld_emptied_23 : decode b_Fld_emptied 23 = .ok (.istore_n 1, 1) := by decide +kernel
theorem d_Fld_emptied_24 : decode b_Fld_emptied 24 = .ok (.iinc 2 1, 3) := by decide +kernel
theorem d_Fld_emptied_27 : decode b_Fld_emptied 27 = .ok (.goto (-23), 3) := by decide +kernel
theorem d_Fld_emptied_30 : decode b_Fld_emptied 30 = .ok (.iload_n 1, 1) := by decide +kernel
theorem d_Fld_emptied_31 : decode b_Fld_emptied 31 = .ok (.ireturn, 1) := by decide +kernel
theorem d_Fld_fieldFor_0 : decode b_Fld_fieldFor 0 = .ok (.iconst 0, 1) := by decide +kernel
theorem d_Fld_fieldFor_1 : decode b_Fld_fieldFor 1 = .ok (.istore_n 2, 1) := by decide +kernel
theorem d_Fld_fieldFor_2 : decode b_Fld_fieldFor 2 = .ok (.iload_n 2, 1) := by decide +kernel
theorem d_Fld_fieldFor_3 : decode b_Fld_fieldFor 3 = .ok (.iconst 4, 1) := by decide +kernel
theorem d_Fld_fieldFor_4 : decode b_Fld_fieldFor 4 = .ok (.if_icmp .ge 33, 3) := by decide +kernel
theorem d_Fld_fieldFor_7 : decode b_Fld_fieldFor 7 = .ok (.aload_n 0, 1) := by decide +kernel
theorem d_Fld_fieldFor_8 : decode b_Fld_fieldFor 8 = .ok (.getfield 15, 3) := by decide +kernel
theorem d_Fld_fieldFor_11 : decode b_Fld_fieldFor 11 = .ok (.iload_n 2, 1) := by decide +kernel
theorem d_Fld_fieldFor_12 : decode b_Fld_fieldFor 12 = .ok (.iaload, 1) := by decide +kernel
theorem d_Fld_fieldFor_13 : decode b_Fld_fieldFor 13 = .ok (.ifCond .le 18, 3) := by decide +kernel
theorem d_Fld_fieldFor_16 : decode b_Fld_fieldFor 16 = .ok (.aload_n 0, 1) := by decide +kernel
theorem d_Fld_fieldFor_17 : decode b_Fld_fieldFor 17 = .ok (.getfield 9, 3) := by decide +kernel
theorem d_Fld_fieldFor_20 : decode b_Fld_fieldFor 20 = .ok (.iload_n 2, 1) := by decide +kernel
theorem d_Fld_fieldFor_21 : decode b_Fld_fieldFor 21 = .ok (.iaload, 1) := by decide +kernel
theorem d_Fld_fieldFor_22 : decode b_Fld_fieldFor 22 = .ok (.iload_n 1, 1) := by decide +kernel
theorem d_Fld_fieldFor_23 : decode b_Fld_fieldFor 23 = .ok (.invokestatic 22, 3) := by decide +kernel
theorem d_Fld_fieldFor_26 : decode b_Fld_fieldFor 26 = .ok (.ifCond .eq 5, 3) := by decide +kernel
theorem d_Fld_fieldFor_29 : decode b_Fld_fieldFor 29 = .ok (.iload_n 2, 1) := by decide +kernel
theorem d_Fld_fieldFor_30 : decode b_Fld_fieldFor 30 = .ok (.ireturn, 1) := by decide +kernel
theorem d_Fld_fieldFor_31 : decode b_Fld_fieldFor 31 = .ok (.iinc 2 1, 3) := by decide +kernel
theorem d_Fld_fieldFor_34 : decode b_Fld_fieldFor 34 = .ok (.goto (-32), 3) := by decide +kernel
theorem d_Fld_fieldFor_37 : decode b_Fld_fieldFor 37 = .ok (.bipush (-9), 2) := by decide +kernel
theorem d_Fld_fieldFor_39 : decode b_Fld_fieldFor 39 = .ok (.ireturn, 1) := by decide +kernel
theorem d_Fld_leftOf_0 : decode b_Fld_leftOf 0 = .ok (.iload_n 1, 1) := by decide +kernel
theorem d_Fld_leftOf_1 : decode b_Fld_leftOf 1 = .ok (.invokestatic 18, 3) := by decide +kernel
theorem d_Fld_leftOf_4 : decode b_Fld_leftOf 4 = .ok (.ifCond .eq 12, 3) := by decide +kernel
theorem d_Fld_leftOf_7 : decode b_Fld_leftOf 7 = .ok (.aload_n 0, 1) := by decide +kernel
theorem d_Fld_leftOf_8 : decode b_Fld_leftOf 8 = .ok (.getfield 15, 3) := by decide +kernel
theorem d_Fld_leftOf_11 : decode b_Fld_leftOf 11 = .ok (.iload_n 1, 1) := by decide +kernel
theorem d_Fld_leftOf_12 : decode b_Fld_leftOf 12 = .ok (.iaload, 1) := by decide +kernel
theorem d_Fld_leftOf_13 : decode b_Fld_leftOf 13 = .ok (.goto 4, 3) := by decide +kernel
theorem d_Fld_leftOf_16 : decode b_Fld_leftOf 16 = .ok (.iconst 0, 1) := by decide +kernel
theorem d_Fld_leftOf_17 : decode b_Fld_leftOf 17 = .ok (.ireturn, 1) := by decide +kernel
theorem d_Fld_neediest_0 : decode b_Fld_neediest 0 = .ok (.iconst 0, 1) := by decide +kernel
theorem d_Fld_neediest_1 : decode b_Fld_neediest 1 = .ok (.istore_n 1, 1) := by decide +kernel
theorem d_Fld_neediest_2 : decode b_Fld_neediest 2 = .ok (.iconst 1, 1) := by decide +kernel
theorem d_Fld_neediest_3 : decode b_Fld_neediest 3 = .ok (.istore_n 2, 1) := by decide +kernel
theorem d_Fld_neediest_4 : decode b_Fld_neediest 4 = .ok (.iload_n 2, 1) := by decide +kernel
theorem d_Fld_neediest_5 : decode b_Fld_neediest 5 = .ok (.iconst 4, 1) := by decide +kernel
theorem d_Fld_neediest_6 : decode b_Fld_neediest 6 = .ok (.if_icmp .ge 25, 3) := by decide +kernel
theorem d_Fld_neediest_9 : decode b_Fld_neediest 9 = .ok (.aload_n 0, 1) := by decide +kernel
theorem d_Fld_neediest_10 : decode b_Fld_neediest 10 = .ok (.getfield 15, 3) := by decide +kernel
theorem d_Fld_neediest_13 : decode b_Fld_neediest 13 = .ok (.iload_n 2, 1) := by decide +kernel
theorem d_Fld_neediest_14 : decode b_Fld_neediest 14 = .ok (.iaload, 1) := by decide +kernel
theorem d_Fld_neediest_15 : decode b_Fld_neediest 15 = .ok (.aload_n 0, 1) := by decide +kernel
theorem d_Fld_neediest_16 : decode b_Fld_neediest 16 = .ok (.iload_n 1, 1) := by decide +kernel
theorem d_Fld_neediest_17 : decode b_Fld_neediest 17 = .ok (.invokevirtual 33, 3) := by decide +kernel
theorem d_Fld_neediest_20 : decode b_Fld_neediest 20 = .ok (.if_icmp .le 5, 3) := by decide +kernel
theorem d_Fld_neediest_23 : decode b_Fld_neediest 23 = .ok (.iload_n 2, 1) := by decide +kernel
theorem d_Fld_neediest_24 : decode b_Fld_neediest 24 = .ok (.istore_n 1, 1) := by decide +kernel
theorem d_Fld_neediest_25 : decode b_Fld_neediest 25 = .ok (.iinc 2 1, 3) := by decide +kernel
theorem d_Fld_neediest_28 : decode b_Fld_neediest 28 = .ok (.goto (-24), 3) := by decide +kernel
theorem d_Fld_neediest_31 : decode b_Fld_neediest 31 = .ok (.iload_n 1, 1) := by decide +kernel
theorem d_Fld_neediest_32 : decode b_Fld_neediest 32 = .ok (.ireturn, 1) := by decide +kernel
theorem d_Fld_undoWork_0 : decode b_Fld_undoWork 0 = .ok (.iload_n 1, 1) := by decide +kernel
theorem d_Fld_undoWork_1 : decode b_Fld_undoWork 1 = .ok (.invokestatic 18, 3) := by decide +kernel
theorem d_Fld_undoWork_4 : decode b_Fld_undoWork 4 = .ok (.ifCond .eq 13, 3) := by decide +kernel
theorem d_Fld_undoWork_7 : decode b_Fld_undoWork 7 = .ok (.aload_n 0, 1) := by decide +kernel
theorem d_Fld_undoWork_8 : decode b_Fld_undoWork 8 = .ok (.getfield 15, 3) := by decide +kernel
theorem d_Fld_undoWork_11 : decode b_Fld_undoWork 11 = .ok (.iload_n 1, 1) := by decide +kernel
theorem d_Fld_undoWork_12 : decode b_Fld_undoWork 12 = .ok (.dup2, 1) := by decide +kernel
theorem d_Fld_undoWork_13 : decode b_Fld_undoWork 13 = .ok (.iaload, 1) := by decide +kernel
theorem d_Fld_undoWork_14 : decode b_Fld_undoWork 14 = .ok (.iconst 1, 1) := by decide +kernel
theorem d_Fld_undoWork_15 : decode b_Fld_undoWork 15 = .ok (.iadd, 1) := by decide +kernel
theorem d_Fld_undoWork_16 : decode b_Fld_undoWork 16 = .ok (.iastore, 1) := by decide +kernel
theorem d_Fld_undoWork_17 : decode b_Fld_undoWork 17 = .ok (.return_, 1) := by decide +kernel
theorem d_Fld_wishRefusal_0 : decode b_Fld_wishRefusal 0 = .ok (.iload_n 0, 1) := by decide +kernel
theorem d_Fld_wishRefusal_1 : decode b_Fld_wishRefusal 1 = .ok (.invokestatic 18, 3) := by decide +kernel
theorem d_Fld_wishRefusal_4 : decode b_Fld_wishRefusal 4 = .ok (.ifCond .ne 5, 3) := by decide +kernel
theorem d_Fld_wishRefusal_7 : decode b_Fld_wishRefusal 7 = .ok (.iconst (-1), 1) := by decide +kernel
theorem d_Fld_wishRefusal_8 : decode b_Fld_wishRefusal 8 = .ok (.ireturn, 1) := by decide +kernel
theorem d_Fld_wishRefusal_9 : decode b_Fld_wishRefusal 9 = .ok (.iload_n 1, 1) := by decide +kernel
theorem d_Fld_wishRefusal_10 : decode b_Fld_wishRefusal 10 = .ok (.ifCond .lt 7, 3) := by decide +kernel
theorem d_Fld_wishRefusal_13 : decode b_Fld_wishRefusal 13 = .ok (.iload_n 2, 1) := by decide +kernel
theorem d_Fld_wishRefusal_14 : decode b_Fld_wishRefusal 14 = .ok (.ifCond .ge 6, 3) := by decide +kernel
theorem d_Fld_wishRefusal_17 : decode b_Fld_wishRefusal 17 = .ok (.bipush (-4), 2) := by decide +kernel
theorem d_Fld_wishRefusal_19 : decode b_Fld_wishRefusal 19 = .ok (.ireturn, 1) := by decide +kernel
theorem d_Fld_wishRefusal_20 : decode b_Fld_wishRefusal 20 = .ok (.iload_n 1, 1) := by decide +kernel
theorem d_Fld_wishRefusal_21 : decode b_Fld_wishRefusal 21 = .ok (.bipush 63, 2) := by decide +kernel
theorem d_Fld_wishRefusal_23 : decode b_Fld_wishRefusal 23 = .ok (.if_icmp .gt 9, 3) := by decide +kernel
theorem d_Fld_wishRefusal_26 : decode b_Fld_wishRefusal 26 = .ok (.iload_n 2, 1) := by decide +kernel
theorem d_Fld_wishRefusal_27 : decode b_Fld_wishRefusal 27 = .ok (.bipush 9, 2) := by decide +kernel
theorem d_Fld_wishRefusal_29 : decode b_Fld_wishRefusal 29 = .ok (.if_icmp .le 8, 3) := by decide +kernel
theorem d_Fld_wishRefusal_32 : decode b_Fld_wishRefusal 32 = .ok (.bipush (-6), 2) := by decide +kernel
theorem d_Fld_wishRefusal_34 : decode b_Fld_wishRefusal 34 = .ok (.goto 4, 3) := by decide +kernel
theorem d_Fld_wishRefusal_37 : decode b_Fld_wishRefusal 37 = .ok (.iconst 0, 1) := by decide +kernel
theorem d_Fld_wishRefusal_38 : decode b_Fld_wishRefusal 38 = .ok (.ireturn, 1) := by decide +kernel
theorem d_Fld_wishersOf_0 : decode b_Fld_wishersOf 0 = .ok (.iconst 0, 1) := by decide +kernel
theorem d_Fld_wishersOf_1 : decode b_Fld_wishersOf 1 = .ok (.istore_n 2, 1) := by decide +kernel
theorem d_Fld_wishersOf_2 : decode b_Fld_wishersOf 2 = .ok (.iconst 0, 1) := by decide +kernel
theorem d_Fld_wishersOf_3 : decode b_Fld_wishersOf 3 = .ok (.istore_n 3, 1) := by decide +kernel
theorem d_Fld_wishersOf_4 : decode b_Fld_wishersOf 4 = .ok (.iload_n 3, 1) := by decide +kernel
theorem d_Fld_wishersOf_5 : decode b_Fld_wishersOf 5 = .ok (.iconst 4, 1) := by decide +kernel
theorem d_Fld_wishersOf_6 : decode b_Fld_wishersOf 6 = .ok (.if_icmp .ge 28, 3) := by decide +kernel
theorem d_Fld_wishersOf_9 : decode b_Fld_wishersOf 9 = .ok (.aload_n 0, 1) := by decide +kernel
theorem d_Fld_wishersOf_10 : decode b_Fld_wishersOf 10 = .ok (.getfield 9, 3) := by decide +kernel
theorem d_Fld_wishersOf_13 : decode b_Fld_wishersOf 13 = .ok (.iload_n 3, 1) := by decide +kernel
theorem d_Fld_wishersOf_14 : decode b_Fld_wishersOf 14 = .ok (.iaload, 1) := by decide +kernel
theorem d_Fld_wishersOf_15 : decode b_Fld_wishersOf 15 = .ok (.iload_n 1, 1) := by decide +kernel
theorem d_Fld_wishersOf_16 : decode b_Fld_wishersOf 16 = .ok (.invokestatic 22, 3) := by decide +kernel
theorem d_Fld_wishersOf_19 : decode b_Fld_wishersOf 19 = .ok (.ifCond .eq 9, 3) := by decide +kernel
theorem d_Fld_wishersOf_22 : decode b_Fld_wishersOf 22 = .ok (.iload_n 2, 1) := by decide +kernel
theorem d_Fld_wishersOf_23 : decode b_Fld_wishersOf 23 = .ok (.iconst 1, 1) := by decide +kernel
theorem d_Fld_wishersOf_24 : decode b_Fld_wishersOf 24 = .ok (.iload_n 3, 1) := by decide +kernel
theorem d_Fld_wishersOf_25 : decode b_Fld_wishersOf 25 = .ok (.ishl, 1) := by decide +kernel
theorem d_Fld_wishersOf_26 : decode b_Fld_wishersOf 26 = .ok (.ior, 1) := by decide +kernel
theorem d_Fld_wishersOf_27 : decode b_Fld_wishersOf 27 = .ok (.istore_n 2, 1) := by decide +kernel
theorem d_Fld_wishersOf_28 : decode b_Fld_wishersOf 28 = .ok (.iinc 3 1, 3) := by decide +kernel
theorem d_Fld_wishersOf_31 : decode b_Fld_wishersOf 31 = .ok (.goto (-27), 3) := by decide +kernel
theorem d_Fld_wishersOf_34 : decode b_Fld_wishersOf 34 = .ok (.iload_n 2, 1) := by decide +kernel
theorem d_Fld_wishersOf_35 : decode b_Fld_wishersOf 35 = .ok (.ireturn, 1) := by decide +kernel
theorem d_Fld_work_0 : decode b_Fld_work 0 = .ok (.aload_n 0, 1) := by decide +kernel
theorem d_Fld_work_1 : decode b_Fld_work 1 = .ok (.iload_n 1, 1) := by decide +kernel
theorem d_Fld_work_2 : decode b_Fld_work 2 = .ok (.invokevirtual 26, 3) := by decide +kernel
theorem d_Fld_work_5 : decode b_Fld_work 5 = .ok (.istore_n 2, 1) := by decide +kernel
theorem d_Fld_work_6 : decode b_Fld_work 6 = .ok (.iload_n 2, 1) := by decide +kernel
theorem d_Fld_work_7 : decode b_Fld_work 7 = .ok (.invokestatic 18, 3) := by decide +kernel
theorem d_Fld_work_10 : decode b_Fld_work 10 = .ok (.ifCond .eq 13, 3) := by decide +kernel
theorem d_Fld_work_13 : decode b_Fld_work 13 = .ok (.aload_n 0, 1) := by decide +kernel
theorem d_Fld_work_14 : decode b_Fld_work 14 = .ok (.getfield 15, 3) := by decide +kernel
theorem d_Fld_work_17 : decode b_Fld_work 17 = .ok (.iload_n 2, 1) := by decide +kernel
theorem d_Fld_work_18 : decode b_Fld_work 18 = .ok (.dup2, 1) := by decide +kernel
theorem d_Fld_work_19 : decode b_Fld_work 19 = .ok (.iaload, 1) := by decide +kernel
theorem d_Fld_work_20 : decode b_Fld_work 20 = .ok (.iconst 1, 1) := by decide +kernel
theorem d_Fld_work_21 : decode b_Fld_work 21 = .ok (.isub, 1) := by decide +kernel
theorem d_Fld_work_22 : decode b_Fld_work 22 = .ok (.iastore, 1) := by decide +kernel
theorem d_Fld_work_23 : decode b_Fld_work 23 = .ok (.iload_n 2, 1) := by decide +kernel
theorem d_Fld_work_24 : decode b_Fld_work 24 = .ok (.ireturn, 1) := by decide +kernel
theorem d_Frc_greatestShared_0 : decode b_Frc_greatestShared 0 = .ok (.lload_n 0, 1) := by decide +kernel
theorem d_Frc_greatestShared_1 : decode b_Frc_greatestShared 1 = .ok (.lstore 4, 2) := by decide +kernel
theorem d_Frc_greatestShared_3 : decode b_Frc_greatestShared 3 = .ok (.lload_n 2, 1) := by decide +kernel
theorem d_Frc_greatestShared_4 : decode b_Frc_greatestShared 4 = .ok (.lstore 6, 2) := by decide +kernel
theorem d_Frc_greatestShared_6 : decode b_Frc_greatestShared 6 = .ok (.iconst 0, 1) := by decide +kernel
theorem d_Frc_greatestShared_7 : decode b_Frc_greatestShared 7 = .ok (.istore 8, 2) := by decide +kernel
theorem d_Frc_greatestShared_9 : decode b_Frc_greatestShared 9 = .ok (.iload 8, 2) := by decide +kernel
theorem d_Frc_greatestShared_11 : decode b_Frc_greatestShared 11 = .ok (.sipush 200, 3) := by decide +kernel
theorem d_Frc_greatestShared_14 : decode b_Frc_greatestShared 14 = .ok (.if_icmp .ge 31, 3) := by decide +kernel
theorem d_Frc_greatestShared_17 : decode b_Frc_greatestShared 17 = .ok (.lload 6, 2) := by decide +kernel
theorem d_Frc_greatestShared_19 : decode b_Frc_greatestShared 19 = .ok (.lconst 0, 1) := by decide +kernel
theorem d_Frc_greatestShared_20 : decode b_Frc_greatestShared 20 = .ok (.lcmp, 1) := by decide +kernel
theorem d_Frc_greatestShared_21 : decode b_Frc_greatestShared 21 = .ok (.ifCond .eq 24, 3) := by decide +kernel
theorem d_Frc_greatestShared_24 : decode b_Frc_greatestShared 24 = .ok (.lload 4, 2) := by decide +kernel
theorem d_Frc_greatestShared_26 : decode b_Frc_greatestShared 26 = .ok (.lload 6, 2) := by decide +kernel
theorem d_Frc_greatestShared_28 : decode b_Frc_greatestShared 28 = .ok (.lrem, 1) := by decide +kernel
theorem d_Frc_greatestShared_29 : decode b_Frc_greatestShared 29 = .ok (.lstore 9, 2) := by decide +kernel
theorem d_Frc_greatestShared_31 : decode b_Frc_greatestShared 31 = .ok (.lload 6, 2) := by decide +kernel
theorem d_Frc_greatestShared_33 : decode b_Frc_greatestShared 33 = .ok (.lstore 4, 2) := by decide +kernel
theorem d_Frc_greatestShared_35 : decode b_Frc_greatestShared 35 = .ok (.lload 9, 2) := by decide +kernel
theorem d_Frc_greatestShared_37 : decode b_Frc_greatestShared 37 = .ok (.lstore 6, 2) := by decide +kernel
theorem d_Frc_greatestShared_39 : decode b_Frc_greatestShared 39 = .ok (.iinc 8 1, 3) := by decide +kernel
theorem d_Frc_greatestShared_42 : decode b_Frc_greatestShared 42 = .ok (.goto (-33), 3) := by decide +kernel
theorem d_Frc_greatestShared_45 : decode b_Frc_greatestShared 45 = .ok (.lload 4, 2) := by decide +kernel
theorem d_Frc_greatestShared_47 : decode b_Frc_greatestShared 47 = .ok (.lreturn, 1) := by decide +kernel
theorem d_Frc_become_0 : decode b_Frc_become 0 = .ok (.aload_n 0, 1) := by decide +kernel
theorem d_Frc_become_1 : decode b_Frc_become 1 = .ok (.lconst 0, 1) := by decide +kernel
theorem d_Frc_become_2 : decode b_Frc_become 2 = .ok (.putfield 7, 3) := by decide +kernel
theorem d_Frc_become_5 : decode b_Frc_become 5 = .ok (.aload_n 0, 1) := by decide +kernel
theorem d_Frc_become_6 : decode b_Frc_become 6 = .ok (.lconst 1, 1) := by decide +kernel
theorem d_Frc_become_7 : decode b_Frc_become 7 = .ok (.putfield 13, 3) := by decide +kernel
theorem d_Frc_become_10 : decode b_Frc_become 10 = .ok (.lload_n 1, 1) := by decide +kernel
theorem d_Frc_become_11 : decode b_Frc_become 11 = .ok (.lconst 0, 1) := by decide +kernel
theorem d_Frc_become_12 : decode b_Frc_become 12 = .ok (.lcmp, 1) := by decide +kernel
theorem d_Frc_become_13 : decode b_Frc_become 13 = .ok (.ifCond .le 39, 3) := by decide +kernel
theorem d_Frc_become_16 : decode b_Frc_become 16 = .ok (.lload_n 3, 1) := by decide +kernel
theorem d_Frc_become_17 : decode b_Frc_become 17 = .ok (.lconst 0, 1) := by decide +kernel
theorem d_Frc_become_18 : decode b_Frc_become 18 = .ok (.lcmp, 1) := by decide +kernel
theorem d_Frc_become_19 : decode b_Frc_become 19 = .ok (.ifCond .le 33, 3) := by decide +kernel
theorem d_Frc_become_22 : decode b_Frc_become 22 = .ok (.lload_n 1, 1) := by decide +kernel
theorem d_Frc_become_23 : decode b_Frc_become 23 = .ok (.lload_n 3, 1) := by decide +kernel
theorem d_Frc_become_24 : decode b_Frc_become 24 = .ok (.invokestatic 16, 3) := by decide +kernel
theorem d_Frc_become_27 : decode b_Frc_become 27 = .ok (.lstore 5, 2) := by decide +kernel
theorem d_Frc_become_29 : decode b_Frc_become 29 = .ok (.lload 5, 2) := by decide +kernel
theorem d_Frc_become_31 : decode b_Frc_become 31 = .ok (.lconst 0, 1) := by decide +kernel
theorem d_Frc_become_32 : decode b_Frc_become 32 = .ok (.lcmp, 1) := by decide +kernel
theorem d_Frc_become_33 : decode b_Frc_become 33 = .ok (.ifCond .le 19, 3) := by decide +kernel
theorem d_Frc_become_36 : decode b_Frc_become 36 = .ok (.aload_n 0, 1) := by decide +kernel
theorem d_Frc_become_37 : decode b_Frc_become 37 = .ok (.lload_n 1, 1) := by decide +kernel
theorem d_Frc_become_38 : decode b_Frc_become 38 = .ok (.lload 5, 2) := by decide +kernel
theorem d_Frc_become_40 : decode b_Frc_become 40 = .ok (.ldiv, 1) := by decide +kernel
theorem d_Frc_become_41 : decode b_Frc_become 41 = .ok (.putfield 7, 3) := by decide +kernel
theorem d_Frc_become_44 : decode b_Frc_become 44 = .ok (.aload_n 0, 1) := by decide +kernel
theorem d_Frc_become_45 : decode b_Frc_become 45 = .ok (.lload_n 3, 1) := by decide +kernel
theorem d_Frc_become_46 : decode b_Frc_become 46 = .ok (.lload 5, 2) := by decide +kernel
theorem d_Frc_become_48 : decode b_Frc_become 48 = .ok (.ldiv, 1) := by decide +kernel
theorem d_Frc_become_49 : decode b_Frc_become 49 = .ok (.putfield 13, 3) := by decide +kernel
theorem d_Frc_become_52 : decode b_Frc_become 52 = .ok (.return_, 1) := by decide +kernel
theorem d_Frc_told_0 : decode b_Frc_told 0 = .ok (.iload_n 1, 1) := by decide +kernel
theorem d_Frc_told_1 : decode b_Frc_told 1 = .ok (.ifCond .ne 10, 3) := by decide +kernel
theorem d_Frc_told_4 : decode b_Frc_told 4 = .ok (.aload_n 0, 1) := by decide +kernel
theorem d_Frc_told_5 : decode b_Frc_told 5 = .ok (.getfield 7, 3) := by decide +kernel
theorem d_Frc_told_8 : decode b_Frc_told 8 = .ok (.goto 7, 3) := by decide +kernel
theorem d_Frc_told_11 : decode b_Frc_told 11 = .ok (.aload_n 0, 1) := by decide +kernel
theorem d_Frc_told_12 : decode b_Frc_told 12 = .ok (.getfield 13, 3) := by decide +kernel
theorem d_Frc_told_15 : decode b_Frc_told 15 = .ok (.lreturn, 1) := by decide +kernel
theorem d_Har_ableWithout_0 : decode b_Har_ableWithout 0 = .ok (.iconst 0, 1) := by decide +kernel
theorem d_Har_ableWithout_1 : decode b_Har_ableWithout 1 = .ok (.istore_n 2, 1) := by decide +kernel
theorem d_Har_ableWithout_2 : decode b_Har_ableWithout 2 = .ok (.iconst 0, 1) := by decide +kernel
theorem d_Har_ableWithout_3 : decode b_Har_ableWithout 3 = .ok (.istore_n 3, 1) := by decide +kernel
theorem d_Har_ableWithout_4 : decode b_Har_ableWithout 4 = .ok (.iload_n 3, 1) := by decide +kernel
theorem d_Har_ableWithout_5 : decode b_Har_ableWithout 5 = .ok (.aload_n 0, 1) := by decide +kernel
theorem d_Har_ableWithout_6 : decode b_Har_ableWithout 6 = .ok (.getfield 48, 3) := by decide +kernel
theorem d_Har_ableWithout_9 : decode b_Har_ableWithout 9 = .ok (.if_icmp .ge 36, 3) := by decide +kernel
theorem d_Har_ableWithout_12 : decode b_Har_ableWithout 12 = .ok (.iload_n 1, 1) := by decide +kernel
theorem d_Har_ableWithout_13 : decode b_Har_ableWithout 13 = .ok (.iload_n 3, 1) := by decide +kernel
theorem d_Har_ableWithout_14 : decode b_Har_ableWithout 14 = .ok (.invokestatic 64, 3) := by decide +kernel
theorem d_Har_ableWithout_17 : decode b_Har_ableWithout 17 = .ok (.ifCond .ne 22, 3) := by decide +kernel
theorem d_Har_ableWithout_20 : decode b_Har_ableWithout 20 = .ok (.aload_n 0, 1) := by decide +kernel
theorem d_Har_ableWithout_21 : decode b_Har_ableWithout 21 = .ok (.getfield 12, 3) := by decide +kernel
theorem d_Har_ableWithout_24 : decode b_Har_ableWithout 24 = .ok (.aload_n 0, 1) := by decide +kernel
theorem d_Har_ableWithout_25 : decode b_Har_ableWithout 25 = .ok (.getfield 18, 3) := by decide +kernel
theorem d_Har_ableWithout_28 : decode b_Har_ableWithout 28 = .ok (.iload_n 3, 1) := by decide +kernel
theorem d_Har_ableWithout_29 : decode b_Har_ableWithout 29 = .ok (.iaload, 1) := by decide +kernel
theorem d_Har_ableWithout_30 : decode b_Har_ableWithout 30 = .ok (.invokevirtual 108, 3) := by decide +kernel
theorem d_Har_ableWithout_33 : decode b_Har_ableWithout 33 = .ok (.ifCond .lt 6, 3) := by decide +kernel
theorem d_Har_ableWithout_36 : decode b_Har_ableWithout 36 = .ok (.iinc 2 1, 3) := by decide +kernel
theorem d_Har_ableWithout_39 : decode b_Har_ableWithout 39 = .ok (.iinc 3 1, 3) := by decide +kernel
theorem d_Har_ableWithout_42 : decode b_Har_ableWithout 42 = .ok (.goto (-38), 3) := by decide +kernel
theorem d_Har_ableWithout_45 : decode b_Har_ableWithout 45 = .ok (.iload_n 2, 1) := by decide +kernel
theorem d_Har_ableWithout_46 : decode b_Har_ableWithout 46 = .ok (.ireturn, 1) := by decide +kernel
theorem d_Har_begin_0 : decode b_Har_begin 0 = .ok (.aload_n 0, 1) := by decide +kernel
theorem d_Har_begin_1 : decode b_Har_begin 1 = .ok (.getfield 12, 3) := by decide +kernel
theorem d_Har_begin_4 : decode b_Har_begin 4 = .ok (.aload_n 1, 1) := by decide +kernel
theorem d_Har_begin_5 : decode b_Har_begin 5 = .ok (.getfield 28, 3) := by decide +kernel
theorem d_Har_begin_8 : decode b_Har_begin 8 = .ok (.invokevirtual 31, 3) := by decide +kernel
theorem d_Har_begin_11 : decode b_Har_begin 11 = .ok (.aload_n 0, 1) := by decide +kernel
theorem d_Har_begin_12 : decode b_Har_begin 12 = .ok (.iconst 0, 1) := by decide +kernel
theorem d_Har_begin_13 : decode b_Har_begin 13 = .ok (.aload_n 1, 1) := by decide +kernel
theorem d_Har_begin_14 : decode b_Har_begin 14 = .ok (.getfield 35, 3) := by decide +kernel
theorem d_Har_begin_17 : decode b_Har_begin 17 = .ok (.bipush 8, 2) := by decide +kernel
theorem d_Har_begin_19 : decode b_Har_begin 19 = .ok (.invokestatic 39, 3) := by decide +kernel
theorem d_Har_begin_22 : decode b_Har_begin 22 = .ok (.invokestatic 45, 3) := by decide +kernel
theorem d_Har_begin_25 : decode b_Har_begin 25 = .ok (.putfield 48, 3) := by decide +kernel
theorem d_Har_begin_28 : decode b_Har_begin 28 = .ok (.iconst 0, 1) := by decide +kernel
theorem d_Har_begin_29 : decode b_Har_begin 29 = .ok (.istore_n 2, 1) := by decide +kernel
theorem d_Har_begin_30 : decode b_Har_begin 30 = .ok (.iload_n 2, 1) := by decide +kernel
theorem d_Har_begin_31 : decode b_Har_begin 31 = .ok (.bipush 8, 2) := by decide +kernel
theorem d_Har_begin_33 : decode b_Har_begin 33 = .ok (.if_icmp .ge 37, 3) := by decide +kernel
theorem d_Har_begin_36 : decode b_Har_begin 36 = .ok (.aload_n 0, 1) := by decide +kernel
theorem d_Har_begin_37 : decode b_Har_begin 37 = .ok (.getfield 18, 3) := by decide +kernel
theorem d_Har_begin_40 : decode b_Har_begin 40 = .ok (.iload_n 2, 1) := by decide +kernel
theorem d_Har_begin_41 : decode b_Har_begin 41 = .ok (.aload_n 1, 1) := by decide +kernel
theorem d_Har_begin_42 : decode b_Har_begin 42 = .ok (.iload_n 2, 1) := by decide +kernel
theorem d_Har_begin_43 : decode b_Har_begin 43 = .ok (.invokevirtual 49, 3) := by decide +kernel
theorem d_Har_begin_46 : decode b_Har_begin 46 = .ok (.ifCond .eq 15, 3) := by decide +kernel
theorem d_Har_begin_49 : decode b_Har_begin 49 = .ok (.aload_n 1, 1) := by decide +kernel
theorem d_Har_begin_50 : decode b_Har_begin 50 = .ok (.aload_n 1, 1) := by decide +kernel
theorem d_Har_begin_51 : decode b_Har_begin 51 = .ok (.iload_n 2, 1) := by decide +kernel
theorem d_Har_begin_52 : decode b_Har_begin 52 = .ok (.invokevirtual 53, 3) := by decide +kernel
theorem d_Har_begin_55 : decode b_Har_begin 55 = .ok (.invokevirtual 57, 3) := by decide +kernel
theorem d_Har_begin_58 : decode b_Har_begin 58 = .ok (.goto 5, 3) := by decide +kernel
theorem d_Har_begin_61 : decode b_Har_begin 61 = .ok (.bipush (-9), 2) := by decide +kernel
theorem d_Har_begin_63 : decode b_Har_begin 63 = .ok (.iastore, 1) := by decide +kernel
theorem d_Har_begin_64 : decode b_Har_begin 64 = .ok (.iinc 2 1, 3) := by decide +kernel
theorem d_Har_begin_67 : decode b_Har_begin 67 = .ok (.goto (-37), 3) := by decide +kernel
theorem d_Har_begin_70 : decode b_Har_begin 70 = .ok (.return_, 1) := by decide +kernel
theorem d_Har_drawn_0 : decode b_Har_drawn 0 = .ok (.iload_n 1, 1) := by decide +kernel
theorem d_Har_drawn_1 : decode b_Har_drawn 1 = .ok (.ifCond .le 15, 3) := by decide +kernel
theorem d_Har_drawn_4 : decode b_Har_drawn 4 = .ok (.iload_n 0, 1) := by decide +kernel
theorem d_Har_drawn_5 : decode b_Har_drawn 5 = .ok (.ldc 134, 2) := by decide +kernel
theorem d_Har_drawn_7 : decode b_Har_drawn 7 = .ok (.iand, 1) := by decide +kernel
theorem d_Har_drawn_8 : decode b_Har_drawn 8 = .ok (.ldc 135, 2) := by decide +kernel
theorem d_Har_drawn_10 : decode b_Har_drawn 10 = .ok (.idiv, 1) := by decide +kernel
theorem d_Har_drawn_11 : decode b_Har_drawn 11 = .ok (.iload_n 1, 1) := by decide +kernel
theorem d_Har_drawn_12 : decode b_Har_drawn 12 = .ok (.irem, 1) := by decide +kernel
theorem d_Har_drawn_13 : decode b_Har_drawn 13 = .ok (.goto 4, 3) := by decide +kernel
theorem d_Har_drawn_16 : decode b_Har_drawn 16 = .ok (.iconst 0, 1) := by decide +kernel
theorem d_Har_drawn_17 : decode b_Har_drawn 17 = .ok (.ireturn, 1) := by decide +kernel
theorem d_Har_keepPath_0 : decode b_Har_keepPath 0 = .ok (.iconst 0, 1) := by decide +kernel
theorem d_Har_keepPath_1 : decode b_Har_keepPath 1 = .ok (.istore_n 2, 1) := by decide +kernel
theorem d_Har_keepPath_2 : decode b_Har_keepPath 2 = .ok (.iload_n 2, 1) := by decide +kernel
theorem d_Har_keepPath_3 : decode b_Har_keepPath 3 = .ok (.aload_n 0, 1) := by decide +kernel
theorem d_Har_keepPath_4 : decode b_Har_keepPath 4 = .ok (.getfield 85, 3) := by decide +kernel
theorem d_Har_keepPath_7 : decode b_Har_keepPath 7 = .ok (.if_icmp .ge 27, 3) := by decide +kernel
theorem d_Har_keepPath_10 : decode b_Har_keepPath 10 = .ok (.iload_n 2, 1) := by decide +kernel
theorem d_Har_keepPath_11 : decode b_Har_keepPath 11 = .ok (.bipush 8, 2) := by decide +kernel
theorem d_Har_keepPath_13 : decode b_Har_keepPath 13 = .ok (.if_icmp .ge 21, 3) := by decide +kernel
theorem d_Har_keepPath_16 : decode b_Har_keepPath 16 = .ok (.aload_n 0, 1) := by decide +kernel
theorem d_Har_keepPath_17 : decode b_Har_keepPath 17 = .ok (.getfield 25, 3) := by decide +kernel
theorem d_Har_keepPath_20 : decode b_Har_keepPath 20 = .ok (.iload_n 2, 1) := by decide +kernel
theorem d_Har_keepPath_21 : decode b_Har_keepPath 21 = .ok (.aload_n 0, 1) := by decide +kernel
theorem d_Har_keepPath_22 : decode b_Har_keepPath 22 = .ok (.getfield 22, 3) := by decide +kernel
theorem d_Har_keepPath_25 : decode b_Har_keepPath 25 = .ok (.iload_n 2, 1) := by decide +kernel
theorem d_Har_keepPath_26 : decode b_Har_keepPath 26 = .ok (.iaload, 1) := by decide +kernel
theorem d_Har_keepPath_27 : decode b_Har_keepPath 27 = .ok (.iastore, 1) := by decide +kernel
theorem d_Har_keepPath_28 : decode b_Har_keepPath 28 = .ok (.iinc 2 1, 3) := by decide +kernel
theorem d_Har_keepPath_31 : decode b_Har_keepPath 31 = .ok (.goto (-29), 3) := by decide +kernel
theorem d_Har_keepPath_34 : decode b_Har_keepPath 34 = .ok (.iconst 0, 1) := by decide +kernel
theorem d_Har_keepPath_35 : decode b_Har_keepPath 35 = .ok (.istore_n 3, 1) := by decide +kernel
theorem d_Har_keepPath_36 : decode b_Har_keepPath 36 = .ok (.iload_n 3, 1) := by decide +kernel
theorem d_Har_keepPath_37 : decode b_Har_keepPath 37 = .ok (.aload_n 0, 1) := by decide +kernel
theorem d_Har_keepPath_38 : decode b_Har_keepPath 38 = .ok (.getfield 48, 3) := by decide +kernel
theorem d_Har_keepPath_41 : decode b_Har_keepPath 41 = .ok (.if_icmp .ge 33, 3) := by decide +kernel
theorem d_Har_keepPath_44 : decode b_Har_keepPath 44 = .ok (.iload_n 1, 1) := by decide +kernel
theorem d_Har_keepPath_45 : decode b_Har_keepPath 45 = .ok (.iload_n 3, 1) := by decide +kernel
theorem d_Har_keepPath_46 : decode b_Har_keepPath 46 = .ok (.invokestatic 64, 3) := by decide +kernel
theorem d_Har_keepPath_49 : decode b_Har_keepPath 49 = .ok (.ifCond .ne 19, 3) := by decide +kernel
theorem d_Har_keepPath_52 : decode b_Har_keepPath 52 = .ok (.iload_n 2, 1) := by decide +kernel
theorem d_Har_keepPath_53 : decode b_Har_keepPath 53 = .ok (.bipush 8, 2) := by decide +kernel
theorem d_Har_keepPath_55 : decode b_Har_keepPath 55 = .ok (.if_icmp .ge 13, 3) := by decide +kernel
theorem d_Har_keepPath_58 : decode b_Har_keepPath 58 = .ok (.aload_n 0, 1) := by decide +kernel
theorem d_Har_keepPath_59 : decode b_Har_keepPath 59 = .ok (.getfield 25, 3) := by decide +kernel
theorem d_Har_keepPath_62 : decode b_Har_keepPath 62 = .ok (.iload_n 2, 1) := by decide +kernel
theorem d_Har_keepPath_63 : decode b_Har_keepPath 63 = .ok (.iload_n 3, 1) := by decide +kernel
theorem d_Har_keepPath_64 : decode b_Har_keepPath 64 = .ok (.iastore, 1) := by decide +kernel
theorem d_Har_keepPath_65 : decode b_Har_keepPath 65 = .ok (.iinc 2 1, 3) := by decide +kernel
theorem d_Har_keepPath_68 : decode b_Har_keepPath 68 = .ok (.iinc 3 1, 3) := by decide +kernel
theorem d_Har_keepPath_71 : decode b_Har_keepPath 71 = .ok (.goto (-35), 3) := by decide +kernel
theorem d_Har_keepPath_74 : decode b_Har_keepPath 74 = .ok (.return_, 1) := by decide +kernel
theorem d_Har_extendPath_0 : decode b_Har_extendPath 0 = .ok (.iload_n 1, 1) := by decide +kernel
theorem d_Har_extendPath_1 : decode b_Har_extendPath 1 = .ok (.aload_n 0, 1) := by decide +kernel
theorem d_Har_extendPath_2 : decode b_Har_extendPath 2 = .ok (.getfield 85, 3) := by decide +kernel
theorem d_Har_extendPath_5 : decode b_Har_extendPath 5 = .ok (.if_icmp .ge 9, 3) := by decide +kernel
theorem d_Har_extendPath_8 : decode b_Har_extendPath 8 = .ok (.iload_n 1, 1) := by decide +kernel
theorem d_Har_extendPath_9 : decode b_Har_extendPath 9 = .ok (.bipush 8, 2) := by decide +kernel
theorem d_Har_extendPath_11 : decode b_Har_extendPath 11 = .ok (.if_icmp .lt 22, 3) := by decide +kernel
theorem d_Har_extendPath_14 : decode b_Har_extendPath 14 = .ok (.iload_n 3, 1) := by decide +kernel
theorem d_Har_extendPath_15 : decode b_Har_extendPath 15 = .ok (.aload_n 0, 1) := by decide +kernel
theorem d_Har_extendPath_16 : decode b_Har_extendPath 16 = .ok (.getfield 91, 3) := by decide +kernel
theorem d_Har_extendPath_19 : decode b_Har_extendPath 19 = .ok (.if_icmp .le 13, 3) := by decide +kernel
theorem d_Har_extendPath_22 : decode b_Har_extendPath 22 = .ok (.aload_n 0, 1) := by decide +kernel
theorem d_Har_extendPath_23 : decode b_Har_extendPath 23 = .ok (.iload_n 3, 1) := by decide +kernel
theorem d_Har_extendPath_24 : decode b_Har_extendPath 24 = .ok (.putfield 91, 3) := by decide +kernel
theorem d_Har_extendPath_27 : decode b_Har_extendPath 27 = .ok (.aload_n 0, 1) := by decide +kernel
theorem d_Har_extendPath_28 : decode b_Har_extendPath 28 = .ok (.iload_n 2, 1) := by decide +kernel
theorem d_Har_extendPath_29 : decode b_Har_extendPath 29 = .ok (.invokevirtual 98, 3) := by decide +kernel
theorem d_Har_extendPath_32 : decode b_Har_extendPath 32 = .ok (.return_, 1) := by decide +kernel
theorem d_Har_extendPath_33 : decode b_Har_extendPath 33 = .ok (.aload_n 0, 1) := by decide +kernel
theorem d_Har_extendPath_34 : decode b_Har_extendPath 34 = .ok (.getfield 85, 3) := by decide +kernel
theorem d_Har_extendPath_37 : decode b_Har_extendPath 37 = .ok (.iload_n 1, 1) := by decide +kernel
theorem d_Har_extendPath_38 : decode b_Har_extendPath 38 = .ok (.isub, 1) := by decide +kernel
theorem d_Har_extendPath_39 : decode b_Har_extendPath 39 = .ok (.aload_n 0, 1) := by decide +kernel
theorem d_Har_extendPath_40 : decode b_Har_extendPath 40 = .ok (.iload_n 2, 1) := by decide +kernel
theorem d_Har_extendPath_41 : decode b_Har_extendPath 41 = .ok (.invokevirtual 102, 3) := by decide +kernel
theorem d_Har_extendPath_44 : decode b_Har_extendPath 44 = .ok (.invokestatic 39, 3) := by decide +kernel
theorem d_Har_extendPath_47 : decode b_Har_extendPath 47 = .ok (.istore 4, 2) := by decide +kernel
theorem d_Har_extendPath_49 : decode b_Har_extendPath 49 = .ok (.iload_n 3, 1) := by decide +kernel
theorem d_Har_extendPath_50 : decode b_Har_extendPath 50 = .ok (.iload 4, 2) := by decide +kernel
theorem d_Har_extendPath_52 : decode b_Har_extendPath 52 = .ok (.iadd, 1) := by decide +kernel
theorem d_Har_extendPath_53 : decode b_Har_extendPath 53 = .ok (.aload_n 0, 1) := by decide +kernel
theorem d_Har_extendPath_54 : decode b_Har_extendPath 54 = .ok (.getfield 88, 3) := by decide +kernel
theorem d_Har_extendPath_57 : decode b_Har_extendPath 57 = .ok (.invokestatic 39, 3) := by decide +kernel
theorem d_Har_extendPath_60 : decode b_Har_extendPath 60 = .ok (.istore 5, 2) := by decide +kernel
theorem d_Har_extendPath_62 : decode b_Har_extendPath 62 = .ok (.iconst 0, 1) := by decide +kernel
theorem d_Har_extendPath_63 : decode b_Har_extendPath 63 = .ok (.istore 6, 2) := by decide +kernel
theorem d_Har_extendPath_65 : decode b_Har_extendPath 65 = .ok (.iload 6, 2) := by decide +kernel
theorem d_Har_extendPath_67 : decode b_Har_extendPath 67 = .ok (.aload_n 0, 1) := by decide +kernel
theorem d_Har_extendPath_68 : decode b_Har_extendPath 68 = .ok (.getfield 48, 3) := by decide +kernel
theorem d_Har_extendPath_71 : decode b_Har_extendPath 71 = .ok (.if_icmp .ge 85, 3) := by decide +kernel
theorem d_Har_extendPath_74 : decode b_Har_extendPath 74 = .ok (.iload_n 2, 1) := by decide +kernel
theorem d_Har_extendPath_75 : decode b_Har_extendPath 75 = .ok (.iload 6, 2) := by decide +kernel
theorem d_Har_extendPath_77 : decode b_Har_extendPath 77 = .ok (.invokestatic 64, 3) := by decide +kernel
theorem d_Har_extendPath_80 : decode b_Har_extendPath 80 = .ok (.ifCond .ne 70, 3) := by decide +kernel
theorem d_Har_extendPath_83 : decode b_Har_extendPath 83 = .ok (.iload 5, 2) := by decide +kernel
theorem d_Har_extendPath_85 : decode b_Har_extendPath 85 = .ok (.aload_n 0, 1) := by decide +kernel
theorem d_Har_extendPath_86 : decode b_Har_extendPath 86 = .ok (.getfield 91, 3) := by decide +kernel
theorem d_Har_extendPath_89 : decode b_Har_extendPath 89 = .ok (.if_icmp .le 61, 3) := by decide +kernel
theorem d_Har_extendPath_92 : decode b_Har_extendPath 92 = .ok (.aload_n 0, 1) := by decide +kernel
theorem d_Har_extendPath_93 : decode b_Har_extendPath 93 = .ok (.getfield 12, 3) := by decide +kernel
theorem d_Har_extendPath_96 : decode b_Har_extendPath 96 = .ok (.aload_n 0, 1) := by decide +kernel
theorem d_Har_extendPath_97 : decode b_Har_extendPath 97 = .ok (.getfield 18, 3) := by decide +kernel
theorem d_Har_extendPath_100 : decode b_Har_extendPath 100 = .ok (.iload 6, 2) := by decide +kernel
theorem d_Har_extendPath_102 : decode b_Har_extendPath 102 = .ok (.iaload, 1) := by decide +kernel
theorem d_Har_extendPath_103 : decode b_Har_extendPath 103 = .ok (.invokevirtual 68, 3) := by decide +kernel
theorem d_Har_extendPath_106 : decode b_Har_extendPath 106 = .ok (.istore 7, 2) := by decide +kernel
theorem d_Har_extendPath_108 : decode b_Har_extendPath 108 = .ok (.aload_n 0, 1) := by decide +kernel
theorem d_Har_extendPath_109 : decode b_Har_extendPath 109 = .ok (.getfield 22, 3) := by decide +kernel
theorem d_Har_extendPath_112 : decode b_Har_extendPath 112 = .ok (.iload_n 1, 1) := by decide +kernel
theorem d_Har_extendPath_113 : decode b_Har_extendPath 113 = .ok (.iload 6, 2) := by decide +kernel
theorem d_Har_extendPath_115 : decode b_Har_extendPath 115 = .ok (.iastore, 1) := by decide +kernel
theorem d_Har_extendPath_116 : decode b_Har_extendPath 116 = .ok (.aload_n 0, 1) := by decide +kernel
theorem d_Har_extendPath_117 : decode b_Har_extendPath 117 = .ok (.iload_n 1, 1) := by decide +kernel
theorem d_Har_extendPath_118 : decode b_Har_extendPath 118 = .ok (.iconst 1, 1) := by decide +kernel
theorem d_Har_extendPath_119 : decode b_Har_extendPath 119 = .ok (.iadd, 1) := by decide +kernel
theorem d_Har_extendPath_120 : decode b_Har_extendPath 120 = .ok (.iload_n 2, 1) := by decide +kernel
theorem d_Har_extendPath_121 : decode b_Har_extendPath 121 = .ok (.iconst 1, 1) := by decide +kernel
theorem d_Har_extendPath_122 : decode b_Har_extendPath 122 = .ok (.iload 6, 2) := by decide +kernel
theorem d_Har_extendPath_124 : decode b_Har_extendPath 124 = .ok (.ishl, 1) := by decide +kernel
theorem d_Har_extendPath_125 : decode b_Har_extendPath 125 = .ok (.ior, 1) := by decide +kernel
theorem d_Har_extendPath_126 : decode b_Har_extendPath 126 = .ok (.iload 7, 2) := by decide +kernel
theorem d_Har_extendPath_128 : decode b_Har_extendPath 128 = .ok (.ifCond .lt 9, 3) := by decide +kernel
theorem d_Har_extendPath_131 : decode b_Har_extendPath 131 = .ok (.iload_n 3, 1) := by decide +kernel
theorem d_Har_extendPath_132 : decode b_Har_extendPath 132 = .ok (.iconst 1, 1) := by decide +kernel
theorem d_Har_extendPath_133 : decode b_Har_extendPath 133 = .ok (.iadd, 1) := by decide +kernel
theorem d_Har_extendPath_134 : decode b_Har_extendPath 134 = .ok (.goto 4, 3) := by decide +kernel
theorem d_Har_extendPath_137 : decode b_Har_extendPath 137 = .ok (.iload_n 3, 1) := by decide +kernel
theorem d_Har_extendPath_138 : decode b_Har_extendPath 138 = .ok (.invokestatic 94, 3) := by decide +kernel
theorem d_Har_extendPath_141 : decode b_Har_extendPath 141 = .ok (.aload_n 0, 1) := by decide +kernel
theorem d_Har_extendPath_142 : decode b_Har_extendPath 142 = .ok (.getfield 12, 3) := by decide +kernel
theorem d_Har_extendPath_145 : decode b_Har_extendPath 145 = .ok (.iload 7, 2) := by decide +kernel
theorem d_Har_extendPath_147 : decode b_Har_extendPath 147 = .ok (.invokevirtual 105, 3) := by decide +kernel
theorem d_Har_extendPath_150 : decode b_Har_extendPath 150 = .ok (.iinc 6 1, 3) := by decide +kernel
theorem d_Har_extendPath_153 : decode b_Har_extendPath 153 = .ok (.goto (-88), 3) := by decide +kernel
theorem d_Har_extendPath_156 : decode b_Har_extendPath 156 = .ok (.return_, 1) := by decide +kernel
theorem d_Har_leastCut_0 : decode b_Har_leastCut 0 = .ok (.aload_n 0, 1) := by decide +kernel
theorem d_Har_leastCut_1 : decode b_Har_leastCut 1 = .ok (.getfield 48, 3) := by decide +kernel
theorem d_Har_leastCut_4 : decode b_Har_leastCut 4 = .ok (.istore_n 1, 1) := by decide +kernel
theorem d_Har_leastCut_5 : decode b_Har_leastCut 5 = .ok (.iconst 0, 1) := by decide +kernel
theorem d_Har_leastCut_6 : decode b_Har_leastCut 6 = .ok (.istore_n 2, 1) := by decide +kernel
theorem d_Har_leastCut_7 : decode b_Har_leastCut 7 = .ok (.iload_n 2, 1) := by decide +kernel
theorem d_Har_leastCut_8 : decode b_Har_leastCut 8 = .ok (.bipush 16, 2) := by decide +kernel
theorem d_Har_leastCut_10 : decode b_Har_leastCut 10 = .ok (.if_icmp .ge 66, 3) := by decide +kernel
theorem d_Har_leastCut_13 : decode b_Har_leastCut 13 = .ok (.aload_n 0, 1) := by decide +kernel
theorem d_Har_leastCut_14 : decode b_Har_leastCut 14 = .ok (.getfield 12, 3) := by decide +kernel
theorem d_Har_leastCut_17 : decode b_Har_leastCut 17 = .ok (.iload_n 2, 1) := by decide +kernel
theorem d_Har_leastCut_18 : decode b_Har_leastCut 18 = .ok (.invokevirtual 79, 3) := by decide +kernel
theorem d_Har_leastCut_21 : decode b_Har_leastCut 21 = .ok (.istore_n 3, 1) := by decide +kernel
theorem d_Har_leastCut_22 : decode b_Har_leastCut 22 = .ok (.iconst 0, 1) := by decide +kernel
theorem d_Har_leastCut_23 : decode b_Har_leastCut 23 = .ok (.istore 4, 2) := by decide +kernel
theorem d_Har_leastCut_25 : decode b_Har_leastCut 25 = .ok (.iload 4, 2) := by decide +kernel
theorem d_Har_leastCut_27 : decode b_Har_leastCut 27 = .ok (.aload_n 0, 1) := by decide +kernel
theorem d_Har_leastCut_28 : decode b_Har_leastCut 28 = .ok (.getfield 48, 3) := by decide +kernel
theorem d_Har_leastCut_31 : decode b_Har_leastCut 31 = .ok (.if_icmp .ge 33, 3) := by decide +kernel
theorem d_Har_leastCut_34 : decode b_Har_leastCut 34 = .ok (.aload_n 0, 1) := by decide +kernel
theorem d_Har_leastCut_35 : decode b_Har_leastCut 35 = .ok (.getfield 12, 3) := by decide +kernel
theorem d_Har_leastCut_38 : decode b_Har_leastCut 38 = .ok (.aload_n 0, 1) := by decide +kernel
theorem d_Har_leastCut_39 : decode b_Har_leastCut 39 = .ok (.getfield 18, 3) := by decide +kernel
theorem d_Har_leastCut_42 : decode b_Har_leastCut 42 = .ok (.iload 4, 2) := by decide +kernel
theorem d_Har_leastCut_44 : decode b_Har_leastCut 44 = .ok (.iaload, 1) := by decide +kernel
theorem d_Har_leastCut_45 : decode b_Har_leastCut 45 = .ok (.invokevirtual 82, 3) := by decide +kernel
theorem d_Har_leastCut_48 : decode b_Har_leastCut 48 = .ok (.iload_n 2, 1) := by decide +kernel
theorem d_Har_leastCut_49 : decode b_Har_leastCut 49 = .ok (.iconst (-1), 1) := by decide +kernel
theorem d_Har_leastCut_50 : decode b_Har_leastCut 50 = .ok (.ixor, 1) := by decide +kernel
theorem d_Har_leastCut_51 : decode b_Har_leastCut 51 = .ok (.iand, 1) := by decide +kernel
theorem d_Har_leastCut_52 : decode b_Har_leastCut 52 = .ok (.ifCond .eq 6, 3) := by decide +kernel
theorem d_Har_leastCut_55 : decode b_Har_leastCut 55 = .ok (.iinc 3 1, 3) := by decide +kernel
theorem d_Har_leastCut_58 : decode b_Har_leastCut 58 = .ok (.iinc 4 1, 3) := by decide +kernel
theorem d_Har_leastCut_61 : decode b_Har_leastCut 61 = .ok (.goto (-36), 3) := by decide +kernel
theorem d_Har_leastCut_64 : decode b_Har_leastCut 64 = .ok (.iload_n 1, 1) := by decide +kernel
theorem d_Har_leastCut_65 : decode b_Har_leastCut 65 = .ok (.iload_n 3, 1) := by decide +kernel
theorem d_Har_leastCut_66 : decode b_Har_leastCut 66 = .ok (.invokestatic 39, 3) := by decide +kernel
theorem d_Har_leastCut_69 : decode b_Har_leastCut 69 = .ok (.istore_n 1, 1) := by decide +kernel
theorem d_Har_leastCut_70 : decode b_Har_leastCut 70 = .ok (.iinc 2 1, 3) := by decide +kernel
theorem d_Har_leastCut_73 : decode b_Har_leastCut 73 = .ok (.goto (-66), 3) := by decide +kernel
theorem d_Har_leastCut_76 : decode b_Har_leastCut 76 = .ok (.iload_n 1, 1) := by decide +kernel
theorem d_Har_leastCut_77 : decode b_Har_leastCut 77 = .ok (.ireturn, 1) := by decide +kernel
theorem d_Har_findOrder_0 : decode b_Har_findOrder 0 = .ok (.aload_n 0, 1) := by decide +kernel
theorem d_Har_findOrder_1 : decode b_Har_findOrder 1 = .ok (.aload_n 1, 1) := by decide +kernel
theorem d_Har_findOrder_2 : decode b_Har_findOrder 2 = .ok (.invokevirtual 60, 3) := by decide +kernel
theorem d_Har_findOrder_5 : decode b_Har_findOrder 5 = .ok (.aload_n 0, 1) := by decide +kernel
theorem d_Har_findOrder_6 : decode b_Har_findOrder 6 = .ok (.iload_n 2, 1) := by decide +kernel
theorem d_Har_findOrder_7 : decode b_Har_findOrder 7 = .ok (.aload_n 0, 1) := by decide +kernel
theorem d_Har_findOrder_8 : decode b_Har_findOrder 8 = .ok (.getfield 48, 3) := by decide +kernel
theorem d_Har_findOrder_11 : decode b_Har_findOrder 11 = .ok (.invokestatic 39, 3) := by decide +kernel
theorem d_Har_findOrder_14 : decode b_Har_findOrder 14 = .ok (.putfield 85, 3) := by decide +kernel
theorem d_Har_findOrder_17 : decode b_Har_findOrder 17 = .ok (.aload_n 0, 1) := by decide +kernel
theorem d_Har_findOrder_18 : decode b_Har_findOrder 18 = .ok (.aload_n 0, 1) := by decide +kernel
theorem d_Har_findOrder_19 : decode b_Har_findOrder 19 = .ok (.invokevirtual 75, 3) := by decide +kernel
theorem d_Har_findOrder_22 : decode b_Har_findOrder 22 = .ok (.putfield 88, 3) := by decide +kernel
theorem d_Har_findOrder_25 : decode b_Har_findOrder 25 = .ok (.aload_n 0, 1) := by decide +kernel
theorem d_Har_findOrder_26 : decode b_Har_findOrder 26 = .ok (.iconst (-1), 1) := by decide +kernel
theorem d_Har_findOrder_27 : decode b_Har_findOrder 27 = .ok (.putfield 91, 3) := by decide +kernel
theorem d_Har_findOrder_30 : decode b_Har_findOrder 30 = .ok (.aload_n 0, 1) := by decide +kernel
theorem d_Har_findOrder_31 : decode b_Har_findOrder 31 = .ok (.iconst 0, 1) := by decide +kernel
theorem d_Har_findOrder_32 : decode b_Har_findOrder 32 = .ok (.iconst 0, 1) := by decide +kernel
theorem d_Har_findOrder_33 : decode b_Har_findOrder 33 = .ok (.iconst 0, 1) := by decide +kernel
theorem d_Har_findOrder_34 : decode b_Har_findOrder 34 = .ok (.invokestatic 94, 3) := by decide +kernel
theorem d_Har_findOrder_37 : decode b_Har_findOrder 37 = .ok (.return_, 1) := by decide +kernel
theorem d_Har_gather_0 : decode b_Har_gather 0 = .ok (.aload_n 0, 1) := by decide +kernel
theorem d_Har_gather_1 : decode b_Har_gather 1 = .ok (.aload_n 1, 1) := by decide +kernel
theorem d_Har_gather_2 : decode b_Har_gather 2 = .ok (.invokevirtual 60, 3) := by decide +kernel
theorem d_Har_gather_5 : decode b_Har_gather 5 = .ok (.iconst 0, 1) := by decide +kernel
theorem d_Har_gather_6 : decode b_Har_gather 6 = .ok (.istore_n 3, 1) := by decide +kernel
theorem d_Har_gather_7 : decode b_Har_gather 7 = .ok (.iconst 0, 1) := by decide +kernel
theorem d_Har_gather_8 : decode b_Har_gather 8 = .ok (.istore 4, 2) := by decide +kernel
theorem d_Har_gather_10 : decode b_Har_gather 10 = .ok (.iload 4, 2) := by decide +kernel
theorem d_Har_gather_12 : decode b_Har_gather 12 = .ok (.aload_n 0, 1) := by decide +kernel
theorem d_Har_gather_13 : decode b_Har_gather 13 = .ok (.getfield 48, 3) := by decide +kernel
theorem d_Har_gather_16 : decode b_Har_gather 16 = .ok (.if_icmp .ge 38, 3) := by decide +kernel
theorem d_Har_gather_19 : decode b_Har_gather 19 = .ok (.iload_n 2, 1) := by decide +kernel
theorem d_Har_gather_20 : decode b_Har_gather 20 = .ok (.iload 4, 2) := by decide +kernel
theorem d_Har_gather_22 : decode b_Har_gather 22 = .ok (.invokestatic 64, 3) := by decide +kernel
theorem d_Har_gather_25 : decode b_Har_gather 25 = .ok (.ifCond .ne 23, 3) := by decide +kernel
theorem d_Har_gather_28 : decode b_Har_gather 28 = .ok (.aload_n 0, 1) := by decide +kernel
theorem d_Har_gather_29 : decode b_Har_gather 29 = .ok (.getfield 12, 3) := by decide +kernel
theorem d_Har_gather_32 : decode b_Har_gather 32 = .ok (.aload_n 0, 1) := by decide +kernel
theorem d_Har_gather_33 : decode b_Har_gather 33 = .ok (.getfield 18, 3) := by decide +kernel
theorem d_Har_gather_36 : decode b_Har_gather 36 = .ok (.iload 4, 2) := by decide +kernel
theorem d_Har_gather_38 : decode b_Har_gather 38 = .ok (.iaload, 1) := by decide +kernel
theorem d_Har_gather_39 : decode b_Har_gather 39 = .ok (.invokevirtual 68, 3) := by decide +kernel
theorem d_Har_gather_42 : decode b_Har_gather 42 = .ok (.ifCond .lt 6, 3) := by decide +kernel
theorem d_Har_gather_45 : decode b_Har_gather 45 = .ok (.iinc 3 1, 3) := by decide +kernel
theorem d_Har_gather_48 : decode b_Har_gather 48 = .ok (.iinc 4 1, 3) := by decide +kernel
theorem d_Har_gather_51 : decode b_Har_gather 51 = .ok (.goto (-41), 3) := by decide +kernel
theorem d_Har_gather_54 : decode b_Har_gather 54 = .ok (.iload_n 3, 1) := by decide +kernel
theorem d_Har_gather_55 : decode b_Har_gather 55 = .ok (.ireturn, 1) := by decide +kernel
theorem d_Har_mostByPlan_0 : decode b_Har_mostByPlan 0 = .ok (.aload_n 0, 1) := by decide +kernel
theorem d_Har_mostByPlan_1 : decode b_Har_mostByPlan 1 = .ok (.aload_n 1, 1) := by decide +kernel
theorem d_Har_mostByPlan_2 : decode b_Har_mostByPlan 2 = .ok (.invokevirtual 60, 3) := by decide +kernel
theorem d_Har_mostByPlan_5 : decode b_Har_mostByPlan 5 = .ok (.aload_n 0, 1) := by decide +kernel
theorem d_Har_mostByPlan_6 : decode b_Har_mostByPlan 6 = .ok (.invokevirtual 75, 3) := by decide +kernel
theorem d_Har_mostByPlan_9 : decode b_Har_mostByPlan 9 = .ok (.ireturn, 1) := by decide +kernel
theorem d_Har_orderedDay_0 : decode b_Har_orderedDay 0 = .ok (.iload_n 1, 1) := by decide +kernel
theorem d_Har_orderedDay_1 : decode b_Har_orderedDay 1 = .ok (.ifCond .lt 26, 3) := by decide +kernel
theorem d_Har_orderedDay_4 : decode b_Har_orderedDay 4 = .ok (.iload_n 1, 1) := by decide +kernel
theorem d_Har_orderedDay_5 : decode b_Har_orderedDay 5 = .ok (.aload_n 0, 1) := by decide +kernel
theorem d_Har_orderedDay_6 : decode b_Har_orderedDay 6 = .ok (.getfield 48, 3) := by decide +kernel
theorem d_Har_orderedDay_9 : decode b_Har_orderedDay 9 = .ok (.if_icmp .ge 18, 3) := by decide +kernel
theorem d_Har_orderedDay_12 : decode b_Har_orderedDay 12 = .ok (.iload_n 1, 1) := by decide +kernel
theorem d_Har_orderedDay_13 : decode b_Har_orderedDay 13 = .ok (.bipush 8, 2) := by decide +kernel
theorem d_Har_orderedDay_15 : decode b_Har_orderedDay 15 = .ok (.if_icmp .ge 12, 3) := by decide +kernel
theorem d_Har_orderedDay_18 : decode b_Har_orderedDay 18 = .ok (.aload_n 0, 1) := by decide +kernel
theorem d_Har_orderedDay_19 : decode b_Har_orderedDay 19 = .ok (.getfield 25, 3) := by decide +kernel
theorem d_Har_orderedDay_22 : decode b_Har_orderedDay 22 = .ok (.iload_n 1, 1) := by decide +kernel
theorem d_Har_orderedDay_23 : decode b_Har_orderedDay 23 = .ok (.iaload, 1) := by decide +kernel
theorem d_Har_orderedDay_24 : decode b_Har_orderedDay 24 = .ok (.goto 5, 3) := by decide +kernel
theorem d_Har_orderedDay_27 : decode b_Har_orderedDay 27 = .ok (.bipush (-9), 2) := by decide +kernel
theorem d_Har_orderedDay_29 : decode b_Har_orderedDay 29 = .ok (.ireturn, 1) := by decide +kernel
theorem d_Har_spareDays_0 : decode b_Har_spareDays 0 = .ok (.aload_n 0, 1) := by decide +kernel
theorem d_Har_spareDays_1 : decode b_Har_spareDays 1 = .ok (.aload_n 1, 1) := by decide +kernel
theorem d_Har_spareDays_2 : decode b_Har_spareDays 2 = .ok (.iconst 0, 1) := by decide +kernel
theorem d_Har_spareDays_3 : decode b_Har_spareDays 3 = .ok (.invokevirtual 71, 3) := by decide +kernel
theorem d_Har_spareDays_6 : decode b_Har_spareDays 6 = .ok (.istore_n 2, 1) := by decide +kernel
theorem d_Har_spareDays_7 : decode b_Har_spareDays 7 = .ok (.iconst 0, 1) := by decide +kernel
theorem d_Har_spareDays_8 : decode b_Har_spareDays 8 = .ok (.istore_n 3, 1) := by decide +kernel
theorem d_Har_spareDays_9 : decode b_Har_spareDays 9 = .ok (.iconst 0, 1) := by decide +kernel
theorem d_Har_spareDays_10 : decode b_Har_spareDays 10 = .ok (.istore 4, 2) := by decide +kernel
theorem d_Har_spareDays_12 : decode b_Har_spareDays 12 = .ok (.iload 4, 2) := by decide +kernel
theorem d_Har_spareDays_14 : decode b_Har_spareDays 14 = .ok (.aload_n 1, 1) := by decide +kernel
theorem d_Har_spareDays_15 : decode b_Har_spareDays 15 = .ok (.getfield 35, 3) := by decide +kernel
theorem d_Har_spareDays_18 : decode b_Har_spareDays 18 = .ok (.if_icmp .ge 29, 3) := by decide +kernel
theorem d_Har_spareDays_21 : decode b_Har_spareDays 21 = .ok (.aload_n 0, 1) := by decide +kernel
theorem d_Har_spareDays_22 : decode b_Har_spareDays 22 = .ok (.aload_n 1, 1) := by decide +kernel
theorem d_Har_spareDays_23 : decode b_Har_spareDays 23 = .ok (.iconst 1, 1) := by decide +kernel
theorem d_Har_spareDays_24 : decode b_Har_spareDays 24 = .ok (.iload 4, 2) := by decide +kernel
theorem d_Har_spareDays_26 : decode b_Har_spareDays 26 = .ok (.ishl, 1) := by decide +kernel
theorem d_Har_spareDays_27 : decode b_Har_spareDays 27 = .ok (.invokevirtual 71, 3) := by decide +kernel
theorem d_Har_spareDays_30 : decode b_Har_spareDays 30 = .ok (.iload_n 2, 1) := by decide +kernel
theorem d_Har_spareDays_31 : decode b_Har_spareDays 31 = .ok (.if_icmp .ne 10, 3) := by decide +kernel
theorem d_Har_spareDays_34 : decode b_Har_spareDays 34 = .ok (.iload_n 3, 1) := by decide +kernel
theorem d_Har_spareDays_35 : decode b_Har_spareDays 35 = .ok (.iconst 1, 1) := by decide +kernel
theorem d_Har_spareDays_36 : decode b_Har_spareDays 36 = .ok (.iload 4, 2) := by decide +kernel
theorem d_Har_spareDays_38 : decode b_Har_spareDays 38 = .ok (.ishl, 1) := by decide +kernel
theorem d_Har_spareDays_39 : decode b_Har_spareDays 39 = .ok (.ior, 1) := by decide +kernel
theorem d_Har_spareDays_40 : decode b_Har_spareDays 40 = .ok (.istore_n 3, 1) := by decide +kernel
theorem d_Har_spareDays_41 : decode b_Har_spareDays 41 = .ok (.iinc 4 1, 3) := by decide +kernel
theorem d_Har_spareDays_44 : decode b_Har_spareDays 44 = .ok (.goto (-32), 3) := by decide +kernel
theorem d_Har_spareDays_47 : decode b_Har_spareDays 47 = .ok (.iload_n 3, 1) := by decide +kernel
theorem d_Har_spareDays_48 : decode b_Har_spareDays 48 = .ok (.ireturn, 1) := by decide +kernel
theorem d_Sta_allThings_0 : decode b_Sta_allThings 0 = .ok (.iconst 1, 1) := by decide +kernel
theorem d_Sta_allThings_1 : decode b_Sta_allThings 1 = .ok (.aload_n 0, 1) := by decide +kernel
theorem d_Sta_allThings_2 : decode b_Sta_allThings 2 = .ok (.getfield 43, 3) := by decide +kernel
theorem d_Sta_allThings_5 : decode b_Sta_allThings 5 = .ok (.ishl, 1) := by decide +kernel
theorem d_Sta_allThings_6 : decode b_Sta_allThings 6 = .ok (.iconst 1, 1) := by decide +kernel
theorem d_Sta_allThings_7 : decode b_Sta_allThings 7 = .ok (.isub, 1) := by decide +kernel
theorem d_Sta_allThings_8 : decode b_Sta_allThings 8 = .ok (.ireturn, 1) := by decide +kernel
theorem d_Har_summersByLot_0 : decode b_Har_summersByLot 0 = .ok (.iload_n 3, 1) := by decide +kernel
theorem d_Har_summersByLot_1 : decode b_Har_summersByLot 1 = .ok (.istore 4, 2) := by decide +kernel
theorem d_Har_summersByLot_3 : decode b_Har_summersByLot 3 = .ok (.aload_n 0, 1) := by decide +kernel
theorem d_Har_summersByLot_4 : decode b_Har_summersByLot 4 = .ok (.iconst 0, 1) := by decide +kernel
theorem d_Har_summersByLot_5 : decode b_Har_summersByLot 5 = .ok (.putfield 121, 3) := by decide +kernel
theorem d_Har_summersByLot_8 : decode b_Har_summersByLot 8 = .ok (.aload_n 0, 1) := by decide +kernel
theorem d_Har_summersByLot_9 : decode b_Har_summersByLot 9 = .ok (.iconst 0, 1) := by decide +kernel
theorem d_Har_summersByLot_10 : decode b_Har_summersByLot 10 = .ok (.putfield 124, 3) := by decide +kernel
theorem d_Har_summersByLot_13 : decode b_Har_summersByLot 13 = .ok (.iconst 0, 1) := by decide +kernel
theorem d_Har_summersByLot_14 : decode b_Har_summersByLot 14 = .ok (.istore 5, 2) := by decide +kernel
theorem d_Har_summersByLot_16 : decode b_Har_summersByLot 16 = .ok (.iload 5, 2) := by decide +kernel
theorem d_Har_summersByLot_18 : decode b_Har_summersByLot 18 = .ok (.iload_n 2, 1) := by decide +kernel
theorem d_Har_summersByLot_19 : decode b_Har_summersByLot 19 = .ok (.if_icmp .ge 106, 3) := by decide +kernel
theorem d_Har_summersByLot_22 : decode b_Har_summersByLot 22 = .ok (.aload_n 0, 1) := by decide +kernel
theorem d_Har_summersByLot_23 : decode b_Har_summersByLot 23 = .ok (.getfield 12, 3) := by decide +kernel
theorem d_Har_summersByLot_26 : decode b_Har_summersByLot 26 = .ok (.aload_n 1, 1) := by decide +kernel
theorem d_Har_summersByLot_27 : decode b_Har_summersByLot 27 = .ok (.getfield 28, 3) := by decide +kernel
theorem d_Har_summersByLot_30 : decode b_Har_summersByLot 30 = .ok (.invokevirtual 31, 3) := by decide +kernel
theorem d_Har_summersByLot_33 : decode b_Har_summersByLot 33 = .ok (.iconst 0, 1) := by decide +kernel
theorem d_Har_summersByLot_34 : decode b_Har_summersByLot 34 = .ok (.istore 6, 2) := by decide +kernel
theorem d_Har_summersByLot_36 : decode b_Har_summersByLot 36 = .ok (.iload 6, 2) := by decide +kernel
theorem d_Har_summersByLot_38 : decode b_Har_summersByLot 38 = .ok (.bipush 10, 2) := by decide +kernel
theorem d_Har_summersByLot_40 : decode b_Har_summersByLot 40 = .ok (.if_icmp .ge 79, 3) := by decide +kernel
theorem d_Har_summersByLot_43 : decode b_Har_summersByLot 43 = .ok (.iload 4, 2) := by decide +kernel
theorem d_Har_summersByLot_45 : decode b_Har_summersByLot 45 = .ok (.ldc 127, 2) := by decide +kernel
theorem d_Har_summersByLot_47 : decode b_Har_summersByLot 47 = .ok (.imul, 1) := by decide +kernel
theorem d_Har_summersByLot_48 : decode b_Har_summersByLot 48 = .ok (.sipush 12345, 3) := by decide +kernel
theorem d_Har_summersByLot_51 : decode b_Har_summersByLot 51 = .ok (.iadd, 1) := by decide +kernel
theorem d_Har_summersByLot_52 : decode b_Har_summersByLot 52 = .ok (.istore 4, 2) := by decide +kernel
theorem d_Har_summersByLot_54 : decode b_Har_summersByLot 54 = .ok (.aload_n 1, 1) := by decide +kernel
theorem d_Har_summersByLot_55 : decode b_Har_summersByLot 55 = .ok (.iload 4, 2) := by decide +kernel
theorem d_Har_summersByLot_57 : decode b_Har_summersByLot 57 = .ok (.aload_n 1, 1) := by decide +kernel
theorem d_Har_summersByLot_58 : decode b_Har_summersByLot 58 = .ok (.invokevirtual 128, 3) := by decide +kernel
theorem d_Har_summersByLot_61 : decode b_Har_summersByLot 61 = .ok (.iconst 1, 1) := by decide +kernel
theorem d_Har_summersByLot_62 : decode b_Har_summersByLot 62 = .ok (.iadd, 1) := by decide +kernel
theorem d_Har_summersByLot_63 : decode b_Har_summersByLot 63 = .ok (.invokestatic 131, 3) := by decide +kernel
theorem d_Har_summersByLot_66 : decode b_Har_summersByLot 66 = .ok (.invokevirtual 57, 3) := by decide +kernel
theorem d_Har_summersByLot_69 : decode b_Har_summersByLot 69 = .ok (.istore 7, 2) := by decide +kernel
theorem d_Har_summersByLot_71 : decode b_Har_summersByLot 71 = .ok (.iload 7, 2) := by decide +kernel
theorem d_Har_summersByLot_73 : decode b_Har_summersByLot 73 = .ok (.bipush (-9), 2) := by decide +kernel
theorem d_Har_summersByLot_75 : decode b_Har_summersByLot 75 = .ok (.if_icmp .ne 16, 3) := by decide +kernel
theorem d_Har_summersByLot_78 : decode b_Har_summersByLot 78 = .ok (.aload_n 0, 1) := by decide +kernel
theorem d_Har_summersByLot_79 : decode b_Har_summersByLot 79 = .ok (.dup, 1) := by decide +kernel
theorem d_Har_summersByLot_80 : decode b_Har_summersByLot 80 = .ok (.getfield 124, 3) := by decide +kernel
theorem d_Har_summersByLot_83 : decode b_Har_summersByLot 83 = .ok (.iconst 1, 1) := by decide +kernel
theorem d_Har_summersByLot_84 : decode b_Har_summersByLot 84 = .ok (.iadd, 1) := by decide +kernel
theorem d_Har_summersByLot_85 : decode b_Har_summersByLot 85 = .ok (.putfield 124, 3) := by decide +kernel
theorem d_Har_summersByLot_88 : decode b_Har_summersByLot 88 = .ok (.goto 25, 3) := by decide +kernel
theorem d_Har_summersByLot_91 : decode b_Har_summersByLot 91 = .ok (.aload_n 0, 1) := by decide +kernel
theorem d_Har_summersByLot_92 : decode b_Har_summersByLot 92 = .ok (.getfield 12, 3) := by decide +kernel
theorem d_Har_summersByLot_95 : decode b_Har_summersByLot 95 = .ok (.iload 7, 2) := by decide +kernel
theorem d_Har_summersByLot_97 : decode b_Har_summersByLot 97 = .ok (.invokevirtual 68, 3) := by decide +kernel
theorem d_Har_summersByLot_100 : decode b_Har_summersByLot 100 = .ok (.ifCond .lt 13, 3) := by decide +kernel
theorem d_Har_summersByLot_103 : decode b_Har_summersByLot 103 = .ok (.aload_n 0, 1) := by decide +kernel
theorem d_Har_summersByLot_104 : decode b_Har_summersByLot 104 = .ok (.dup, 1) := by decide +kernel
theorem d_Har_summersByLot_105 : decode b_Har_summersByLot 105 = .ok (.getfield 121, 3) := by decide +kernel
theorem d_Har_summersByLot_108 : decode b_Har_summersByLot 108 = .ok (.iconst 1, 1) := by decide +kernel
theorem d_Har_summersByLot_109 : decode b_Har_summersByLot 109 = .ok (.iadd, 1) := by decide +kernel
theorem d_Har_summersByLot_110 : decode b_Har_summersByLot 110 = .ok (.putfield 121, 3) := by decide +kernel
theorem d_Har_summersByLot_113 : decode b_Har_summersByLot 113 = .ok (.iinc 6 1, 3) := by decide +kernel
theorem d_Har_summersByLot_116 : decode b_Har_summersByLot 116 = .ok (.goto (-80), 3) := by decide +kernel
theorem d_Har_summersByLot_119 : decode b_Har_summersByLot 119 = .ok (.iinc 5 1, 3) := by decide +kernel
theorem d_Har_summersByLot_122 : decode b_Har_summersByLot 122 = .ok (.goto (-106), 3) := by decide +kernel
theorem d_Har_summersByLot_125 : decode b_Har_summersByLot 125 = .ok (.return_, 1) := by decide +kernel
theorem d_Har_waysFrom_0 : decode b_Har_waysFrom 0 = .ok (.iload_n 1, 1) := by decide +kernel
theorem d_Har_waysFrom_1 : decode b_Har_waysFrom 1 = .ok (.aload_n 0, 1) := by decide +kernel
theorem d_Har_waysFrom_2 : decode b_Har_waysFrom 2 = .ok (.getfield 48, 3) := by decide +kernel
theorem d_Har_waysFrom_5 : decode b_Har_waysFrom 5 = .ok (.if_icmp .ge 9, 3) := by decide +kernel
theorem d_Har_waysFrom_8 : decode b_Har_waysFrom 8 = .ok (.iload_n 1, 1) := by decide +kernel
theorem d_Har_waysFrom_9 : decode b_Har_waysFrom 9 = .ok (.bipush 8, 2) := by decide +kernel
theorem d_Har_waysFrom_11 : decode b_Har_waysFrom 11 = .ok (.if_icmp .lt 19, 3) := by decide +kernel
theorem d_Har_waysFrom_14 : decode b_Har_waysFrom 14 = .ok (.aload_n 0, 1) := by decide +kernel
theorem d_Har_waysFrom_15 : decode b_Har_waysFrom 15 = .ok (.getfield 12, 3) := by decide +kernel
theorem d_Har_waysFrom_18 : decode b_Har_waysFrom 18 = .ok (.invokevirtual 118, 3) := by decide +kernel
theorem d_Har_waysFrom_21 : decode b_Har_waysFrom 21 = .ok (.ifCond .ne 7, 3) := by decide +kernel
theorem d_Har_waysFrom_24 : decode b_Har_waysFrom 24 = .ok (.lconst 1, 1) := by decide +kernel
theorem d_Har_waysFrom_25 : decode b_Har_waysFrom 25 = .ok (.goto 4, 3) := by decide +kernel
theorem d_Har_waysFrom_28 : decode b_Har_waysFrom 28 = .ok (.lconst 0, 1) := by decide +kernel
theorem d_Har_waysFrom_29 : decode b_Har_waysFrom 29 = .ok (.lreturn, 1) := by decide +kernel
theorem d_Har_waysFrom_30 : decode b_Har_waysFrom 30 = .ok (.aload_n 0, 1) := by decide +kernel
theorem d_Har_waysFrom_31 : decode b_Har_waysFrom 31 = .ok (.getfield 12, 3) := by decide +kernel
theorem d_Har_waysFrom_34 : decode b_Har_waysFrom 34 = .ok (.aload_n 0, 1) := by decide +kernel
theorem d_Har_waysFrom_35 : decode b_Har_waysFrom 35 = .ok (.getfield 18, 3) := by decide +kernel
theorem d_Har_waysFrom_38 : decode b_Har_waysFrom 38 = .ok (.iload_n 1, 1) := by decide +kernel
theorem d_Har_waysFrom_39 : decode b_Har_waysFrom 39 = .ok (.iaload, 1) := by decide +kernel
theorem d_Har_waysFrom_40 : decode b_Har_waysFrom 40 = .ok (.invokevirtual 68, 3) := by decide +kernel
theorem d_Har_waysFrom_43 : decode b_Har_waysFrom 43 = .ok (.istore_n 2, 1) := by decide +kernel
theorem d_Har_waysFrom_44 : decode b_Har_waysFrom 44 = .ok (.aload_n 0, 1) := by decide +kernel
theorem d_Har_waysFrom_45 : decode b_Har_waysFrom 45 = .ok (.iload_n 1, 1) := by decide +kernel
theorem d_Har_waysFrom_46 : decode b_Har_waysFrom 46 = .ok (.iconst 1, 1) := by decide +kernel
theorem d_Har_waysFrom_47 : decode b_Har_waysFrom 47 = .ok (.iadd, 1) := by decide +kernel
theorem d_Har_waysFrom_48 : decode b_Har_waysFrom 48 = .ok (.invokestatic 114, 3) := by decide +kernel
theorem d_Har_waysFrom_51 : decode b_Har_waysFrom 51 = .ok (.lstore_n 3, 1) := by decide +kernel
theorem d_Har_waysFrom_52 : decode b_Har_waysFrom 52 = .ok (.aload_n 0, 1) := by decide +kernel
theorem d_Har_waysFrom_53 : decode b_Har_waysFrom 53 = .ok (.getfield 12, 3) := by decide +kernel
theorem d_Har_waysFrom_56 : decode b_Har_waysFrom 56 = .ok (.iload_n 2, 1) := by decide +kernel
theorem d_Har_waysFrom_57 : decode b_Har_waysFrom 57 = .ok (.invokevirtual 105, 3) := by decide +kernel
theorem d_Har_waysFrom_60 : decode b_Har_waysFrom 60 = .ok (.aload_n 0, 1) := by decide +kernel
theorem d_Har_waysFrom_61 : decode b_Har_waysFrom 61 = .ok (.getfield 12, 3) := by decide +kernel
theorem d_Har_waysFrom_64 : decode b_Har_waysFrom 64 = .ok (.iconst 1, 1) := by decide +kernel
theorem d_Har_waysFrom_65 : decode b_Har_waysFrom 65 = .ok (.invokevirtual 68, 3) := by decide +kernel
theorem d_Har_waysFrom_68 : decode b_Har_waysFrom 68 = .ok (.istore_n 2, 1) := by decide +kernel
theorem d_Har_waysFrom_69 : decode b_Har_waysFrom 69 = .ok (.aload_n 0, 1) := by decide +kernel
theorem d_Har_waysFrom_70 : decode b_Har_waysFrom 70 = .ok (.iload_n 1, 1) := by decide +kernel
theorem d_Har_waysFrom_71 : decode b_Har_waysFrom 71 = .ok (.iconst 1, 1) := by decide +kernel
theorem d_Har_waysFrom_72 : decode b_Har_waysFrom 72 = .ok (.iadd, 1) := by decide +kernel
theorem d_Har_waysFrom_73 : decode b_Har_waysFrom 73 = .ok (.invokestatic 114, 3) := by decide +kernel
theorem d_Har_waysFrom_76 : decode b_Har_waysFrom 76 = .ok (.lstore 5, 2) := by decide +kernel
theorem d_Har_waysFrom_78 : decode b_Har_waysFrom 78 = .ok (.aload_n 0, 1) := by decide +kernel
theorem d_Har_waysFrom_79 : decode b_Har_waysFrom 79 = .ok (.getfield 12, 3) := by decide +kernel
theorem d_Har_waysFrom_82 : decode b_Har_waysFrom 82 = .ok (.iload_n 2, 1) := by decide +kernel
theorem d_Har_waysFrom_83 : decode b_Har_waysFrom 83 = .ok (.invokevirtual 105, 3) := by decide +kernel
theorem d_Har_waysFrom_86 : decode b_Har_waysFrom 86 = .ok (.lload_n 3, 1) := by decide +kernel
theorem d_Har_waysFrom_87 : decode b_Har_waysFrom 87 = .ok (.aload_n 0, 1) := by decide +kernel
theorem d_Har_waysFrom_88 : decode b_Har_waysFrom 88 = .ok (.getfield 111, 3) := by decide +kernel
theorem d_Har_waysFrom_91 : decode b_Har_waysFrom 91 = .ok (.iconst 1, 1) := by decide +kernel
theorem d_Har_waysFrom_92 : decode b_Har_waysFrom 92 = .ok (.isub, 1) := by decide +kernel
theorem d_Har_waysFrom_93 : decode b_Har_waysFrom 93 = .ok (.i2l, 1) := by decide +kernel
theorem d_Har_waysFrom_94 : decode b_Har_waysFrom 94 = .ok (.lmul, 1) := by decide +kernel
theorem d_Har_waysFrom_95 : decode b_Har_waysFrom 95 = .ok (.lload 5, 2) := by decide +kernel
theorem d_Har_waysFrom_97 : decode b_Har_waysFrom 97 = .ok (.ladd, 1) := by decide +kernel
theorem d_Har_waysFrom_98 : decode b_Har_waysFrom 98 = .ok (.lreturn, 1) := by decide +kernel
theorem d_Har_waysAllIn_0 : decode b_Har_waysAllIn 0 = .ok (.aload_n 0, 1) := by decide +kernel
theorem d_Har_waysAllIn_1 : decode b_Har_waysAllIn 1 = .ok (.aload_n 1, 1) := by decide +kernel
theorem d_Har_waysAllIn_2 : decode b_Har_waysAllIn 2 = .ok (.invokevirtual 60, 3) := by decide +kernel
theorem d_Har_waysAllIn_5 : decode b_Har_waysAllIn 5 = .ok (.aload_n 0, 1) := by decide +kernel
theorem d_Har_waysAllIn_6 : decode b_Har_waysAllIn 6 = .ok (.iload_n 2, 1) := by decide +kernel
theorem d_Har_waysAllIn_7 : decode b_Har_waysAllIn 7 = .ok (.aload_n 0, 1) := by decide +kernel
theorem d_Har_waysAllIn_8 : decode b_Har_waysAllIn 8 = .ok (.getfield 48, 3) := by decide +kernel
theorem d_Har_waysAllIn_11 : decode b_Har_waysAllIn 11 = .ok (.invokestatic 39, 3) := by decide +kernel
theorem d_Har_waysAllIn_14 : decode b_Har_waysAllIn 14 = .ok (.putfield 48, 3) := by decide +kernel
theorem d_Har_waysAllIn_17 : decode b_Har_waysAllIn 17 = .ok (.aload_n 0, 1) := by decide +kernel
theorem d_Har_waysAllIn_18 : decode b_Har_waysAllIn 18 = .ok (.iload_n 3, 1) := by decide +kernel
theorem d_Har_waysAllIn_19 : decode b_Har_waysAllIn 19 = .ok (.putfield 111, 3) := by decide +kernel
theorem d_Har_waysAllIn_22 : decode b_Har_waysAllIn 22 = .ok (.aload_n 0, 1) := by decide +kernel
theorem d_Har_waysAllIn_23 : decode b_Har_waysAllIn 23 = .ok (.iconst 0, 1) := by decide +kernel
theorem d_Har_waysAllIn_24 : decode b_Har_waysAllIn 24 = .ok (.invokestatic 114, 3) := by decide +kernel
theorem d_Har_waysAllIn_27 : decode b_Har_waysAllIn 27 = .ok (.lreturn, 1) := by decide +kernel
theorem d_Kin_dear_0 : decode b_Kin_dear 0 = .ok (.iconst 4, 1) := by decide +kernel
theorem d_Kin_dear_1 : decode b_Kin_dear 1 = .ok (.istore_n 2, 1) := by decide +kernel
theorem d_Kin_dear_2 : decode b_Kin_dear 2 = .ok (.iload_n 0, 1) := by decide +kernel
theorem d_Kin_dear_3 : decode b_Kin_dear 3 = .ok (.tableswitch 54 1 5 #[33, 35, 37, 47, 51], 33) := by decide +kernel
theorem d_Kin_dear_36 : decode b_Kin_dear 36 = .ok (.iload_n 1, 1) := by decide +kernel
theorem d_Kin_dear_37 : decode b_Kin_dear 37 = .ok (.ireturn, 1) := by decide +kernel
theorem d_Kin_dear_38 : decode b_Kin_dear 38 = .ok (.iload_n 2, 1) := by decide +kernel
theorem d_Kin_dear_39 : decode b_Kin_dear 39 = .ok (.ireturn, 1) := by decide +kernel
theorem d_Kin_dear_40 : decode b_Kin_dear 40 = .ok (.iconst 0, 1) := by decide +kernel
theorem d_Kin_dear_41 : decode b_Kin_dear 41 = .ok (.iload_n 2, 1) := by decide +kernel
theorem d_Kin_dear_42 : decode b_Kin_dear 42 = .ok (.iload_n 1, 1) := by decide +kernel
theorem d_Kin_dear_43 : decode b_Kin_dear 43 = .ok (.iconst 3, 1) := by decide +kernel
theorem d_Kin_dear_44 : decode b_Kin_dear 44 = .ok (.idiv, 1) := by decide +kernel
theorem d_Kin_dear_45 : decode b_Kin_dear 45 = .ok (.isub, 1) := by decide +kernel
theorem d_Kin_dear_46 : decode b_Kin_dear 46 = .ok (.invokestatic 23, 3) := by decide +kernel
theorem d_Kin_dear_49 : decode b_Kin_dear 49 = .ok (.ireturn, 1) := by decide +kernel
theorem d_Kin_dear_50 : decode b_Kin_dear 50 = .ok (.iload_n 1, 1) := by decide +kernel
theorem d_Kin_dear_51 : decode b_Kin_dear 51 = .ok (.iconst 5, 1) := by decide +kernel
theorem d_Kin_dear_52 : decode b_Kin_dear 52 = .ok (.iadd, 1) := by decide +kernel
theorem d_Kin_dear_53 : decode b_Kin_dear 53 = .ok (.ireturn, 1) := by decide +kernel
theorem d_Kin_dear_54 : decode b_Kin_dear 54 = .ok (.bipush 9, 2) := by decide +kernel
theorem d_Kin_dear_56 : decode b_Kin_dear 56 = .ok (.ireturn, 1) := by decide +kernel
theorem d_Kin_dear_57 : decode b_Kin_dear 57 = .ok (.iconst 1, 1) := by decide +kernel
theorem d_Kin_dear_58 : decode b_Kin_dear 58 = .ok (.ireturn, 1) := by decide +kernel
theorem d_Kin_suitsCoat_0 : decode b_Kin_suitsCoat 0 = .ok (.iload_n 0, 1) := by decide +kernel
theorem d_Kin_suitsCoat_1 : decode b_Kin_suitsCoat 1 = .ok (.iconst 1, 1) := by decide +kernel
theorem d_Kin_suitsCoat_2 : decode b_Kin_suitsCoat 2 = .ok (.if_icmp .eq 13, 3) := by decide +kernel
theorem d_Kin_suitsCoat_5 : decode b_Kin_suitsCoat 5 = .ok (.iload_n 0, 1) := by decide +kernel
theorem d_Kin_suitsCoat_6 : decode b_Kin_suitsCoat 6 = .ok (.iconst 2, 1) := by decide +kernel
theorem d_Kin_suitsCoat_7 : decode b_Kin_suitsCoat 7 = .ok (.if_icmp .eq 8, 3) := by decide +kernel
theorem d_Kin_suitsCoat_10 : decode b_Kin_suitsCoat 10 = .ok (.iload_n 0, 1) := by decide +kernel
theorem d_Kin_suitsCoat_11 : decode b_Kin_suitsCoat 11 = .ok (.iconst 5, 1) := by decide +kernel
theorem d_Kin_suitsCoat_12 : decode b_Kin_suitsCoat 12 = .ok (.if_icmp .ne 7, 3) := by decide +kernel
theorem d_Kin_suitsCoat_15 : decode b_Kin_suitsCoat 15 = .ok (.iconst 1, 1) := by decide +kernel
theorem d_Kin_suitsCoat_16 : decode b_Kin_suitsCoat 16 = .ok (.goto 4, 3) := by decide +kernel
theorem d_Kin_suitsCoat_19 : decode b_Kin_suitsCoat 19 = .ok (.iconst 0, 1) := by decide +kernel
theorem d_Kin_suitsCoat_20 : decode b_Kin_suitsCoat 20 = .ok (.ireturn, 1) := by decide +kernel
theorem d_Kin_suitsDish_0 : decode b_Kin_suitsDish 0 = .ok (.iload_n 1, 1) := by decide +kernel
theorem d_Kin_suitsDish_1 : decode b_Kin_suitsDish 1 = .ok (.iload_n 0, 1) := by decide +kernel
theorem d_Kin_suitsDish_2 : decode b_Kin_suitsDish 2 = .ok (.iadd, 1) := by decide +kernel
theorem d_Kin_suitsDish_3 : decode b_Kin_suitsDish 3 = .ok (.iconst 2, 1) := by decide +kernel
theorem d_Kin_suitsDish_4 : decode b_Kin_suitsDish 4 = .ok (.irem, 1) := by decide +kernel
theorem d_Kin_suitsDish_5 : decode b_Kin_suitsDish 5 = .ok (.ifCond .ne 7, 3) := by decide +kernel
theorem d_Kin_suitsDish_8 : decode b_Kin_suitsDish 8 = .ok (.iconst 1, 1) := by decide +kernel
theorem d_Kin_suitsDish_9 : decode b_Kin_suitsDish 9 = .ok (.goto 4, 3) := by decide +kernel
theorem d_Kin_suitsDish_12 : decode b_Kin_suitsDish 12 = .ok (.iconst 0, 1) := by decide +kernel
theorem d_Kin_suitsDish_13 : decode b_Kin_suitsDish 13 = .ok (.ireturn, 1) := by decide +kernel
theorem d_Kin_goesWith_0 : decode b_Kin_goesWith 0 = .ok (.iload_n 0, 1) := by decide +kernel
theorem d_Kin_goesWith_1 : decode b_Kin_goesWith 1 = .ok (.tableswitch 88 1 5 #[35, 41, 46, 67, 86], 35) := by decide +kernel
theorem d_Kin_goesWith_36 : decode b_Kin_goesWith 36 = .ok (.iload_n 1, 1) := by decide +kernel
theorem d_Kin_goesWith_37 : decode b_Kin_goesWith 37 = .ok (.iload_n 2, 1) := by decide +kernel
theorem d_Kin_goesWith_38 : decode b_Kin_goesWith 38 = .ok (.invokestatic 9, 3) := by decide +kernel
theorem d_Kin_goesWith_41 : decode b_Kin_goesWith 41 = .ok (.ireturn, 1) := by decide +kernel
theorem d_Kin_goesWith_42 : decode b_Kin_goesWith 42 = .ok (.iload_n 2, 1) := by decide +kernel
theorem d_Kin_goesWith_43 : decode b_Kin_goesWith 43 = .ok (.invokestatic 15, 3) := by decide +kernel
theorem d_Kin_goesWith_46 : decode b_Kin_goesWith 46 = .ok (.ireturn, 1) := by decide +kernel
theorem d_Kin_goesWith_47 : decode b_Kin_goesWith 47 = .ok (.iload_n 2, 1) := by decide +kernel
theorem d_Kin_goesWith_48 : decode b_Kin_goesWith 48 = .ok (.invokestatic 15, 3) := by decide +kernel
theorem d_Kin_goesWith_51 : decode b_Kin_goesWith 51 = .ok (.ifCond .ne 11, 3) := by decide +kernel
theorem d_Kin_goesWith_54 : decode b_Kin_goesWith 54 = .ok (.iload_n 2, 1) := by decide +kernel
theorem d_Kin_goesWith_55 : decode b_Kin_goesWith 55 = .ok (.iload_n 1, 1) := by decide +kernel
theorem d_Kin_goesWith_56 : decode b_Kin_goesWith 56 = .ok (.bipush 6, 2) := by decide +kernel
theorem d_Kin_goesWith_58 : decode b_Kin_goesWith 58 = .ok (.irem, 1) := by decide +kernel
theorem d_Kin_goesWith_59 : decode b_Kin_goesWith 59 = .ok (.if_icmp .ne 7, 3) := by decide +kernel
theorem d_Kin_goesWith_62 : decode b_Kin_goesWith 62 = .ok (.iconst 1, 1) := by decide +kernel
theorem d_Kin_goesWith_63 : decode b_Kin_goesWith 63 = .ok (.goto 4, 3) := by decide +kernel
theorem d_Kin_goesWith_66 : decode b_Kin_goesWith 66 = .ok (.iconst 0, 1) := by decide +kernel
theorem d_Kin_goesWith_67 : decode b_Kin_goesWith 67 = .ok (.ireturn, 1) := by decide +kernel
theorem d_Kin_goesWith_68 : decode b_Kin_goesWith 68 = .ok (.iload_n 1, 1) := by decide +kernel
theorem d_Kin_goesWith_69 : decode b_Kin_goesWith 69 = .ok (.iload_n 2, 1) := by decide +kernel
theorem d_Kin_goesWith_70 : decode b_Kin_goesWith 70 = .ok (.invokestatic 9, 3) := by decide +kernel
theorem d_Kin_goesWith_73 : decode b_Kin_goesWith 73 = .ok (.ifCond .eq 12, 3) := by decide +kernel
theorem d_Kin_goesWith_76 : decode b_Kin_goesWith 76 = .ok (.iload_n 2, 1) := by decide +kernel
theorem d_Kin_goesWith_77 : decode b_Kin_goesWith 77 = .ok (.iconst 1, 1) := by decide +kernel
theorem d_Kin_goesWith_78 : decode b_Kin_goesWith 78 = .ok (.if_icmp .eq 7, 3) := by decide +kernel
theorem d_Kin_goesWith_81 : decode b_Kin_goesWith 81 = .ok (.iconst 1, 1) := by decide +kernel
theorem d_Kin_goesWith_82 : decode b_Kin_goesWith 82 = .ok (.goto 4, 3) := by decide +kernel
theorem d_Kin_goesWith_85 : decode b_Kin_goesWith 85 = .ok (.iconst 0, 1) := by decide +kernel
theorem d_Kin_goesWith_86 : decode b_Kin_goesWith 86 = .ok (.ireturn, 1) := by decide +kernel
theorem d_Kin_goesWith_87 : decode b_Kin_goesWith 87 = .ok (.iconst 1, 1) := by decide +kernel
theorem d_Kin_goesWith_88 : decode b_Kin_goesWith 88 = .ok (.ireturn, 1) := by decide +kernel
theorem d_Kin_goesWith_89 : decode b_Kin_goesWith 89 = .ok (.iload_n 2, 1) := by decide +kernel
theorem d_Kin_goesWith_90 : decode b_Kin_goesWith 90 = .ok (.iload_n 1, 1) := by decide +kernel
theorem d_Kin_goesWith_91 : decode b_Kin_goesWith 91 = .ok (.bipush 6, 2) := by decide +kernel
theorem d_Kin_goesWith_93 : decode b_Kin_goesWith 93 = .ok (.irem, 1) := by decide +kernel
theorem d_Kin_goesWith_94 : decode b_Kin_goesWith 94 = .ok (.if_icmp .eq 7, 3) := by decide +kernel
theorem d_Kin_goesWith_97 : decode b_Kin_goesWith 97 = .ok (.iconst 1, 1) := by decide +kernel
theorem d_Kin_goesWith_98 : decode b_Kin_goesWith 98 = .ok (.goto 4, 3) := by decide +kernel
theorem d_Kin_goesWith_101 : decode b_Kin_goesWith 101 = .ok (.iconst 0, 1) := by decide +kernel
theorem d_Kin_goesWith_102 : decode b_Kin_goesWith 102 = .ok (.ireturn, 1) := by decide +kernel
theorem d_Kin_goesWithAll_0 : decode b_Kin_goesWithAll 0 = .ok (.iconst 0, 1) := by decide +kernel
theorem d_Kin_goesWithAll_1 : decode b_Kin_goesWithAll 1 = .ok (.istore_n 2, 1) := by decide +kernel
theorem d_Kin_goesWithAll_2 : decode b_Kin_goesWithAll 2 = .ok (.iconst 0, 1) := by decide +kernel
theorem d_Kin_goesWithAll_3 : decode b_Kin_goesWithAll 3 = .ok (.istore_n 3, 1) := by decide +kernel
theorem d_Kin_goesWithAll_4 : decode b_Kin_goesWithAll 4 = .ok (.iload_n 3, 1) := by decide +kernel
theorem d_Kin_goesWithAll_5 : decode b_Kin_goesWithAll 5 = .ok (.bipush 6, 2) := by decide +kernel
theorem d_Kin_goesWithAll_7 : decode b_Kin_goesWithAll 7 = .ok (.if_icmp .ge 24, 3) := by decide +kernel
theorem d_Kin_goesWithAll_10 : decode b_Kin_goesWithAll 10 = .ok (.iload_n 0, 1) := by decide +kernel
theorem d_Kin_goesWithAll_11 : decode b_Kin_goesWithAll 11 = .ok (.iload_n 1, 1) := by decide +kernel
theorem d_Kin_goesWithAll_12 : decode b_Kin_goesWithAll 12 = .ok (.iload_n 3, 1) := by decide +kernel
theorem d_Kin_goesWithAll_13 : decode b_Kin_goesWithAll 13 = .ok (.invokestatic 19, 3) := by decide +kernel
theorem d_Kin_goesWithAll_16 : decode b_Kin_goesWithAll 16 = .ok (.ifCond .eq 9, 3) := by decide +kernel
theorem d_Kin_goesWithAll_19 : decode b_Kin_goesWithAll 19 = .ok (.iload_n 2, 1) := by decide +kernel
theorem d_Kin_goesWithAll_20 : decode b_Kin_goesWithAll 20 = .ok (.iconst 1, 1) := by decide +kernel
theorem d_Kin_goesWithAll_21 : decode b_Kin_goesWithAll 21 = .ok (.iload_n 3, 1) := by decide +kernel
theorem d_Kin_goesWithAll_22 : decode b_Kin_goesWithAll 22 = .ok (.ishl, 1) := by decide +kernel
theorem d_Kin_goesWithAll_23 : decode b_Kin_goesWithAll 23 = .ok (.ior, 1) := by decide +kernel
theorem d_Kin_goesWithAll_24 : decode b_Kin_goesWithAll 24 = .ok (.istore_n 2, 1) := by decide +kernel
theorem d_Kin_goesWithAll_25 : decode b_Kin_goesWithAll 25 = .ok (.iinc 3 1, 3) := by decide +kernel
theorem d_Kin_goesWithAll_28 : decode b_Kin_goesWithAll 28 = .ok (.goto (-24), 3) := by decide +kernel
theorem d_Kin_goesWithAll_31 : decode b_Kin_goesWithAll 31 = .ok (.iload_n 2, 1) := by decide +kernel
theorem d_Kin_goesWithAll_32 : decode b_Kin_goesWithAll 32 = .ok (.ireturn, 1) := by decide +kernel
theorem d_Let_append_0 : decode b_Let_append 0 = .ok (.aload_n 0, 1) := by decide +kernel
theorem d_Let_append_1 : decode b_Let_append 1 = .ok (.getfield 15, 3) := by decide +kernel
theorem d_Let_append_4 : decode b_Let_append 4 = .ok (.bipush 96, 2) := by decide +kernel
theorem d_Let_append_6 : decode b_Let_append 6 = .ok (.if_icmp .ge 23, 3) := by decide +kernel
theorem d_Let_append_9 : decode b_Let_append 9 = .ok (.aload_n 0, 1) := by decide +kernel
theorem d_Let_append_10 : decode b_Let_append 10 = .ok (.getfield 9, 3) := by decide +kernel
theorem d_Let_append_13 : decode b_Let_append 13 = .ok (.aload_n 0, 1) := by decide +kernel
theorem d_Let_append_14 : decode b_Let_append 14 = .ok (.getfield 15, 3) := by decide +kernel
theorem d_Let_append_17 : decode b_Let_append 17 = .ok (.iload_n 1, 1) := by decide +kernel
theorem d_Let_append_18 : decode b_Let_append 18 = .ok (.iastore, 1) := by decide +kernel
theorem d_Let_append_19 : decode b_Let_append 19 = .ok (.aload_n 0, 1) := by decide +kernel
theorem d_Let_append_20 : decode b_Let_append 20 = .ok (.dup, 1) := by decide +kernel
theorem d_Let_append_21 : decode b_Let_append 21 = .ok (.getfield 15, 3) := by decide +kernel
theorem d_Let_append_24 : decode b_Let_append 24 = .ok (.iconst 1, 1) := by decide +kernel
theorem d_Let_append_25 : decode b_Let_append 25 = .ok (.iadd, 1) := by decide +kernel
theorem d_Let_append_26 : decode b_Let_append 26 = .ok (.putfield 15, 3) := by decide +kernel
theorem d_Let_append_29 : decode b_Let_append 29 = .ok (.aload_n 0, 1) := by decide +kernel
theorem d_Let_append_30 : decode b_Let_append 30 = .ok (.getfield 15, 3) := by decide +kernel
theorem d_Let_append_33 : decode b_Let_append 33 = .ok (.ireturn, 1) := by decide +kernel
theorem d_Let_letterAt_0 : decode b_Let_letterAt 0 = .ok (.iload_n 1, 1) := by decide +kernel
theorem d_Let_letterAt_1 : decode b_Let_letterAt 1 = .ok (.ifCond .lt 26, 3) := by decide +kernel
theorem d_Let_letterAt_4 : decode b_Let_letterAt 4 = .ok (.iload_n 1, 1) := by decide +kernel
theorem d_Let_letterAt_5 : decode b_Let_letterAt 5 = .ok (.aload_n 0, 1) := by decide +kernel
theorem d_Let_letterAt_6 : decode b_Let_letterAt 6 = .ok (.getfield 15, 3) := by decide +kernel
theorem d_Let_letterAt_9 : decode b_Let_letterAt 9 = .ok (.if_icmp .ge 18, 3) := by decide +kernel
theorem d_Let_letterAt_12 : decode b_Let_letterAt 12 = .ok (.iload_n 1, 1) := by decide +kernel
theorem d_Let_letterAt_13 : decode b_Let_letterAt 13 = .ok (.bipush 96, 2) := by decide +kernel
theorem d_Let_letterAt_15 : decode b_Let_letterAt 15 = .ok (.if_icmp .ge 12, 3) := by decide +kernel
theorem d_Let_letterAt_18 : decode b_Let_letterAt 18 = .ok (.aload_n 0, 1) := by decide +kernel
theorem d_Let_letterAt_19 : decode b_Let_letterAt 19 = .ok (.getfield 9, 3) := by decide +kernel
theorem d_Let_letterAt_22 : decode b_Let_letterAt 22 = .ok (.iload_n 1, 1) := by decide +kernel
theorem d_Let_letterAt_23 : decode b_Let_letterAt 23 = .ok (.iaload, 1) := by decide +kernel
theorem d_Let_letterAt_24 : decode b_Let_letterAt 24 = .ok (.goto 4, 3) := by decide +kernel
theorem d_Let_letterAt_27 : decode b_Let_letterAt 27 = .ok (.iconst 0, 1) := by decide +kernel
theorem d_Let_letterAt_28 : decode b_Let_letterAt 28 = .ok (.ireturn, 1) := by decide +kernel
theorem d_Let_number_0 : decode b_Let_number 0 = .ok (.iconst 0, 1) := by decide +kernel
theorem d_Let_number_1 : decode b_Let_number 1 = .ok (.istore_n 3, 1) := by decide +kernel
theorem d_Let_number_2 : decode b_Let_number 2 = .ok (.iconst 0, 1) := by decide +kernel
theorem d_Let_number_3 : decode b_Let_number 3 = .ok (.istore 4, 2) := by decide +kernel
theorem d_Let_number_5 : decode b_Let_number 5 = .ok (.iload 4, 2) := by decide +kernel
theorem d_Let_number_7 : decode b_Let_number 7 = .ok (.iload_n 2, 1) := by decide +kernel
theorem d_Let_number_8 : decode b_Let_number 8 = .ok (.if_icmp .ge 26, 3) := by decide +kernel
theorem d_Let_number_11 : decode b_Let_number 11 = .ok (.iload_n 3, 1) := by decide +kernel
theorem d_Let_number_12 : decode b_Let_number 12 = .ok (.bipush 10, 2) := by decide +kernel
theorem d_Let_number_14 : decode b_Let_number 14 = .ok (.imul, 1) := by decide +kernel
theorem d_Let_number_15 : decode b_Let_number 15 = .ok (.aload_n 0, 1) := by decide +kernel
theorem d_Let_number_16 : decode b_Let_number 16 = .ok (.iload_n 1, 1) := by decide +kernel
theorem d_Let_number_17 : decode b_Let_number 17 = .ok (.iload 4, 2) := by decide +kernel
theorem d_Let_number_19 : decode b_Let_number 19 = .ok (.iadd, 1) := by decide +kernel
theorem d_Let_number_20 : decode b_Let_number 20 = .ok (.invokevirtual 29, 3) := by decide +kernel
theorem d_Let_number_23 : decode b_Let_number 23 = .ok (.iadd, 1) := by decide +kernel
theorem d_Let_number_24 : decode b_Let_number 24 = .ok (.bipush 48, 2) := by decide +kernel
theorem d_Let_number_26 : decode b_Let_number 26 = .ok (.isub, 1) := by decide +kernel
theorem d_Let_number_27 : decode b_Let_number 27 = .ok (.istore_n 3, 1) := by decide +kernel
theorem d_Let_number_28 : decode b_Let_number 28 = .ok (.iinc 4 1, 3) := by decide +kernel
theorem d_Let_number_31 : decode b_Let_number 31 = .ok (.goto (-26), 3) := by decide +kernel
theorem d_Let_number_34 : decode b_Let_number 34 = .ok (.iload_n 3, 1) := by decide +kernel
theorem d_Let_number_35 : decode b_Let_number 35 = .ok (.ireturn, 1) := by decide +kernel
theorem d_Sta_addDay_0 : decode b_Sta_addDay 0 = .ok (.aload_n 0, 1) := by decide +kernel
theorem d_Sta_addDay_1 : decode b_Sta_addDay 1 = .ok (.getfield 47, 3) := by decide +kernel
theorem d_Sta_addDay_4 : decode b_Sta_addDay 4 = .ok (.istore_n 2, 1) := by decide +kernel
theorem d_Sta_addDay_5 : decode b_Sta_addDay 5 = .ok (.iload_n 2, 1) := by decide +kernel
theorem d_Sta_addDay_6 : decode b_Sta_addDay 6 = .ok (.bipush 8, 2) := by decide +kernel
theorem d_Sta_addDay_8 : decode b_Sta_addDay 8 = .ok (.if_icmp .ge 20, 3) := by decide +kernel
theorem d_Sta_addDay_11 : decode b_Sta_addDay 11 = .ok (.aload_n 0, 1) := by decide +kernel
theorem d_Sta_addDay_12 : decode b_Sta_addDay 12 = .ok (.getfield 24, 3) := by decide +kernel
theorem d_Sta_addDay_15 : decode b_Sta_addDay 15 = .ok (.iload_n 2, 1) := by decide +kernel
theorem d_Sta_addDay_16 : decode b_Sta_addDay 16 = .ok (.iload_n 1, 1) := by decide +kernel
theorem d_Sta_addDay_17 : decode b_Sta_addDay 17 = .ok (.iastore, 1) := by decide +kernel
theorem d_Sta_addDay_18 : decode b_Sta_addDay 18 = .ok (.aload_n 0, 1) := by decide +kernel
theorem d_Sta_addDay_19 : decode b_Sta_addDay 19 = .ok (.dup, 1) := by decide +kernel
theorem d_Sta_addDay_20 : decode b_Sta_addDay 20 = .ok (.getfield 47, 3) := by decide +kernel
theorem d_Sta_addDay_23 : decode b_Sta_addDay 23 = .ok (.iconst 1, 1) := by decide +kernel
theorem d_Sta_addDay_24 : decode b_Sta_addDay 24 = .ok (.iadd, 1) := by decide +kernel
theorem d_Sta_addDay_25 : decode b_Sta_addDay 25 = .ok (.putfield 47, 3) := by decide +kernel
theorem d_Sta_addDay_28 : decode b_Sta_addDay 28 = .ok (.iload_n 2, 1) := by decide +kernel
theorem d_Sta_addDay_29 : decode b_Sta_addDay 29 = .ok (.ireturn, 1) := by decide +kernel
theorem d_Sta_addThing_0 : decode b_Sta_addThing 0 = .ok (.aload_n 0, 1) := by decide +kernel
theorem d_Sta_addThing_1 : decode b_Sta_addThing 1 = .ok (.getfield 43, 3) := by decide +kernel
theorem d_Sta_addThing_4 : decode b_Sta_addThing 4 = .ok (.istore_n 3, 1) := by decide +kernel
theorem d_Sta_addThing_5 : decode b_Sta_addThing 5 = .ok (.iload_n 3, 1) := by decide +kernel
theorem d_Sta_addThing_6 : decode b_Sta_addThing 6 = .ok (.bipush 8, 2) := by decide +kernel
theorem d_Sta_addThing_8 : decode b_Sta_addThing 8 = .ok (.if_icmp .ge 38, 3) := by decide +kernel
theorem d_Sta_addThing_11 : decode b_Sta_addThing 11 = .ok (.aload_n 0, 1) := by decide +kernel
theorem d_Sta_addThing_12 : decode b_Sta_addThing 12 = .ok (.getfield 15, 3) := by decide +kernel
theorem d_Sta_addThing_15 : decode b_Sta_addThing 15 = .ok (.iload_n 3, 1) := by decide +kernel
theorem d_Sta_addThing_16 : decode b_Sta_addThing 16 = .ok (.iload_n 1, 1) := by decide +kernel
theorem d_Sta_addThing_17 : decode b_Sta_addThing 17 = .ok (.iastore, 1) := by decide +kernel
theorem d_Sta_addThing_18 : decode b_Sta_addThing 18 = .ok (.aload_n 0, 1) := by decide +kernel
theorem d_Sta_addThing_19 : decode b_Sta_addThing 19 = .ok (.getfield 18, 3) := by decide +kernel
theorem d_Sta_addThing_22 : decode b_Sta_addThing 22 = .ok (.iload_n 3, 1) := by decide +kernel
theorem d_Sta_addThing_23 : decode b_Sta_addThing 23 = .ok (.iload_n 2, 1) := by decide +kernel
theorem d_Sta_addThing_24 : decode b_Sta_addThing 24 = .ok (.iastore, 1) := by decide +kernel
theorem d_Sta_addThing_25 : decode b_Sta_addThing 25 = .ok (.aload_n 0, 1) := by decide +kernel
theorem d_Sta_addThing_26 : decode b_Sta_addThing 26 = .ok (.getfield 21, 3) := by decide +kernel
theorem d_Sta_addThing_29 : decode b_Sta_addThing 29 = .ok (.iload_n 3, 1) := by decide +kernel
theorem d_Sta_addThing_30 : decode b_Sta_addThing 30 = .ok (.iload_n 1, 1) := by decide +kernel
theorem d_Sta_addThing_31 : decode b_Sta_addThing 31 = .ok (.iload_n 2, 1) := by decide +kernel
theorem d_Sta_addThing_32 : decode b_Sta_addThing 32 = .ok (.invokestatic 71, 3) := by decide +kernel
theorem d_Sta_addThing_35 : decode b_Sta_addThing 35 = .ok (.iastore, 1) := by decide +kernel
theorem d_Sta_addThing_36 : decode b_Sta_addThing 36 = .ok (.aload_n 0, 1) := by decide +kernel
theorem d_Sta_addThing_37 : decode b_Sta_addThing 37 = .ok (.dup, 1) := by decide +kernel
theorem d_Sta_addThing_38 : decode b_Sta_addThing 38 = .ok (.getfield 43, 3) := by decide +kernel
theorem d_Sta_addThing_41 : decode b_Sta_addThing 41 = .ok (.iconst 1, 1) := by decide +kernel
theorem d_Sta_addThing_42 : decode b_Sta_addThing 42 = .ok (.iadd, 1) := by decide +kernel
theorem d_Sta_addThing_43 : decode b_Sta_addThing 43 = .ok (.putfield 43, 3) := by decide +kernel
theorem d_Sta_addThing_46 : decode b_Sta_addThing 46 = .ok (.iload_n 3, 1) := by decide +kernel
theorem d_Sta_addThing_47 : decode b_Sta_addThing 47 = .ok (.ireturn, 1) := by decide +kernel
theorem d_Sta_likeliestOn_0 : decode b_Sta_likeliestOn 0 = .ok (.aload_n 0, 1) := by decide +kernel
theorem d_Sta_likeliestOn_1 : decode b_Sta_likeliestOn 1 = .ok (.aload_n 0, 1) := by decide +kernel
theorem d_Sta_likeliestOn_2 : decode b_Sta_likeliestOn 2 = .ok (.iload_n 1, 1) := by decide +kernel
theorem d_Sta_likeliestOn_3 : decode b_Sta_likeliestOn 3 = .ok (.invokevirtual 97, 3) := by decide +kernel
theorem d_Sta_likeliestOn_6 : decode b_Sta_likeliestOn 6 = .ok (.invokevirtual 100, 3) := by decide +kernel
theorem d_Sta_likeliestOn_9 : decode b_Sta_likeliestOn 9 = .ok (.ireturn, 1) := by decide +kernel
theorem d_Sta_packOrUnpack_0 : decode b_Sta_packOrUnpack 0 = .ok (.aload_n 0, 1) := by decide +kernel
theorem d_Sta_packOrUnpack_1 : decode b_Sta_packOrUnpack 1 = .ok (.iload_n 1, 1) := by decide +kernel
theorem d_Sta_packOrUnpack_2 : decode b_Sta_packOrUnpack 2 = .ok (.invokevirtual 65, 3) := by decide +kernel
theorem d_Sta_packOrUnpack_5 : decode b_Sta_packOrUnpack 5 = .ok (.ifCond .ne 5, 3) := by decide +kernel
theorem d_Sta_packOrUnpack_8 : decode b_Sta_packOrUnpack 8 = .ok (.iconst 0, 1) := by decide +kernel
theorem d_Sta_packOrUnpack_9 : decode b_Sta_packOrUnpack 9 = .ok (.ireturn, 1) := by decide +kernel
theorem d_Sta_packOrUnpack_10 : decode b_Sta_packOrUnpack 10 = .ok (.aload_n 0, 1) := by decide +kernel
theorem d_Sta_packOrUnpack_11 : decode b_Sta_packOrUnpack 11 = .ok (.getfield 24, 3) := by decide +kernel
theorem d_Sta_packOrUnpack_14 : decode b_Sta_packOrUnpack 14 = .ok (.iload_n 1, 1) := by decide +kernel
theorem d_Sta_packOrUnpack_15 : decode b_Sta_packOrUnpack 15 = .ok (.dup2, 1) := by decide +kernel
theorem d_Sta_packOrUnpack_16 : decode b_Sta_packOrUnpack 16 = .ok (.iaload, 1) := by decide +kernel
theorem d_Sta_packOrUnpack_17 : decode b_Sta_packOrUnpack 17 = .ok (.iconst 1, 1) := by decide +kernel
theorem d_Sta_packOrUnpack_18 : decode b_Sta_packOrUnpack 18 = .ok (.iload_n 2, 1) := by decide +kernel
theorem d_Sta_packOrUnpack_19 : decode b_Sta_packOrUnpack 19 = .ok (.ishl, 1) := by decide +kernel
theorem d_Sta_packOrUnpack_20 : decode b_Sta_packOrUnpack 20 = .ok (.ixor, 1) := by decide +kernel
theorem d_Sta_packOrUnpack_21 : decode b_Sta_packOrUnpack 21 = .ok (.iastore, 1) := by decide +kernel
theorem d_Sta_packOrUnpack_22 : decode b_Sta_packOrUnpack 22 = .ok (.aload_n 0, 1) := by decide +kernel
theorem d_Sta_packOrUnpack_23 : decode b_Sta_packOrUnpack 23 = .ok (.getfield 24, 3) := by decide +kernel
theorem d_Sta_packOrUnpack_26 : decode b_Sta_packOrUnpack 26 = .ok (.iload_n 1, 1) := by decide +kernel
theorem d_Sta_packOrUnpack_27 : decode b_Sta_packOrUnpack 27 = .ok (.iaload, 1) := by decide +kernel
theorem d_Sta_packOrUnpack_28 : decode b_Sta_packOrUnpack 28 = .ok (.iload_n 2, 1) := by decide +kernel
theorem d_Sta_packOrUnpack_29 : decode b_Sta_packOrUnpack 29 = .ok (.invokestatic 77, 3) := by decide +kernel
theorem d_Sta_packOrUnpack_32 : decode b_Sta_packOrUnpack 32 = .ok (.ifCond .eq 7, 3) := by decide +kernel
theorem d_Sta_packOrUnpack_35 : decode b_Sta_packOrUnpack 35 = .ok (.iconst 1, 1) := by decide +kernel
theorem d_Sta_packOrUnpack_36 : decode b_Sta_packOrUnpack 36 = .ok (.goto 4, 3) := by decide +kernel
theorem d_Sta_packOrUnpack_39 : decode b_Sta_packOrUnpack 39 = .ok (.iconst 0, 1) := by decide +kernel
theorem d_Sta_packOrUnpack_40 : decode b_Sta_packOrUnpack 40 = .ok (.ireturn, 1) := by decide +kernel
theorem d_H_isWeather_0 : decode b_H_isWeather 0 = .ok (.iload_n 0, 1) := by decide +kernel
theorem d_H_isWeather_1 : decode b_H_isWeather 1 = .ok (.ifCond .lt 13, 3) := by decide +kernel
theorem d_H_isWeather_4 : decode b_H_isWeather 4 = .ok (.iload_n 0, 1) := by decide +kernel
theorem d_H_isWeather_5 : decode b_H_isWeather 5 = .ok (.bipush 6, 2) := by decide +kernel
theorem d_H_isWeather_7 : decode b_H_isWeather 7 = .ok (.if_icmp .ge 7, 3) := by decide +kernel
theorem d_H_isWeather_10 : decode b_H_isWeather 10 = .ok (.iconst 1, 1) := by decide +kernel
theorem d_H_isWeather_11 : decode b_H_isWeather 11 = .ok (.goto 4, 3) := by decide +kernel
theorem d_H_isWeather_14 : decode b_H_isWeather 14 = .ok (.iconst 0, 1) := by decide +kernel
theorem d_H_isWeather_15 : decode b_H_isWeather 15 = .ok (.ireturn, 1) := by decide +kernel
theorem d_Sta_reweigh_0 : decode b_Sta_reweigh 0 = .ok (.iload_n 1, 1) := by decide +kernel
theorem d_Sta_reweigh_1 : decode b_Sta_reweigh 1 = .ok (.invokestatic 61, 3) := by decide +kernel
theorem d_Sta_reweigh_4 : decode b_Sta_reweigh 4 = .ok (.ifCond .eq 10, 3) := by decide +kernel
theorem d_Sta_reweigh_7 : decode b_Sta_reweigh 7 = .ok (.aload_n 0, 1) := by decide +kernel
theorem d_Sta_reweigh_8 : decode b_Sta_reweigh 8 = .ok (.getfield 9, 3) := by decide +kernel
theorem d_Sta_reweigh_11 : decode b_Sta_reweigh 11 = .ok (.iload_n 1, 1) := by decide +kernel
theorem d_Sta_reweigh_12 : decode b_Sta_reweigh 12 = .ok (.iload_n 2, 1) := by decide +kernel
theorem d_Sta_reweigh_13 : decode b_Sta_reweigh 13 = .ok (.iastore, 1) := by decide +kernel
theorem d_Sta_reweigh_14 : decode b_Sta_reweigh 14 = .ok (.return_, 1) := by decide +kernel
theorem d_Sta_spend_0 : decode b_Sta_spend 0 = .ok (.aload_n 0, 1) := by decide +kernel
theorem d_Sta_spend_1 : decode b_Sta_spend 1 = .ok (.getfield 30, 3) := by decide +kernel
theorem d_Sta_spend_4 : decode b_Sta_spend 4 = .ok (.iload_n 1, 1) := by decide +kernel
theorem d_Sta_spend_5 : decode b_Sta_spend 5 = .ok (.invokevirtual 81, 3) := by decide +kernel
theorem d_Sta_spend_8 : decode b_Sta_spend 8 = .ok (.istore_n 2, 1) := by decide +kernel
theorem d_Sta_spend_9 : decode b_Sta_spend 9 = .ok (.iload_n 2, 1) := by decide +kernel
theorem d_Sta_spend_10 : decode b_Sta_spend 10 = .ok (.ifCond .lt 23, 3) := by decide +kernel
theorem d_Sta_spend_13 : decode b_Sta_spend 13 = .ok (.aload_n 0, 1) := by decide +kernel
theorem d_Sta_spend_14 : decode b_Sta_spend 14 = .ok (.getfield 54, 3) := by decide +kernel
theorem d_Sta_spend_17 : decode b_Sta_spend 17 = .ok (.sipush 999, 3) := by decide +kernel
theorem d_Sta_spend_20 : decode b_Sta_spend 20 = .ok (.if_icmp .ge 13, 3) := by decide +kernel
theorem d_Sta_spend_23 : decode b_Sta_spend 23 = .ok (.aload_n 0, 1) := by decide +kernel
theorem d_Sta_spend_24 : decode b_Sta_spend 24 = .ok (.dup, 1) := by decide +kernel
theorem d_Sta_spend_25 : decode b_Sta_spend 25 = .ok (.getfield 54, 3) := by decide +kernel
theorem d_Sta_spend_28 : decode b_Sta_spend 28 = .ok (.iconst 1, 1) := by decide +kernel
theorem d_Sta_spend_29 : decode b_Sta_spend 29 = .ok (.iadd, 1) := by decide +kernel
theorem d_Sta_spend_30 : decode b_Sta_spend 30 = .ok (.putfield 54, 3) := by decide +kernel
theorem d_Sta_spend_33 : decode b_Sta_spend 33 = .ok (.iload_n 2, 1) := by decide +kernel
theorem d_Sta_spend_34 : decode b_Sta_spend 34 = .ok (.ireturn, 1) := by decide +kernel
theorem d_Let_bring_0 : decode b_Let_bring 0 = .ok (.aload_n 0, 1) := by decide +kernel
theorem d_Let_bring_1 : decode b_Let_bring 1 = .ok (.iload_n 2, 1) := by decide +kernel
theorem d_Let_bring_2 : decode b_Let_bring 2 = .ok (.iconst 1, 1) := by decide +kernel
theorem d_Let_bring_3 : decode b_Let_bring 3 = .ok (.iadd, 1) := by decide +kernel
theorem d_Let_bring_4 : decode b_Let_bring 4 = .ok (.iconst 1, 1) := by decide +kernel
theorem d_Let_bring_5 : decode b_Let_bring 5 = .ok (.invokevirtual 44, 3) := by decide +kernel
theorem d_Let_bring_8 : decode b_Let_bring 8 = .ok (.istore_n 3, 1) := by decide +kernel
theorem d_Let_bring_9 : decode b_Let_bring 9 = .ok (.aload_n 0, 1) := by decide +kernel
theorem d_Let_bring_10 : decode b_Let_bring 10 = .ok (.iload_n 2, 1) := by decide +kernel
theorem d_Let_bring_11 : decode b_Let_bring 11 = .ok (.iconst 2, 1) := by decide +kernel
theorem d_Let_bring_12 : decode b_Let_bring 12 = .ok (.iadd, 1) := by decide +kernel
theorem d_Let_bring_13 : decode b_Let_bring 13 = .ok (.iconst 1, 1) := by decide +kernel
theorem d_Let_bring_14 : decode b_Let_bring 14 = .ok (.invokevirtual 44, 3) := by decide +kernel
theorem d_Let_bring_17 : decode b_Let_bring 17 = .ok (.istore 4, 2) := by decide +kernel
theorem d_Let_bring_19 : decode b_Let_bring 19 = .ok (.aload_n 0, 1) := by decide +kernel
theorem d_Let_bring_20 : decode b_Let_bring 20 = .ok (.iload_n 2, 1) := by decide +kernel
theorem d_Let_bring_21 : decode b_Let_bring 21 = .ok (.invokevirtual 29, 3) := by decide +kernel
theorem d_Let_bring_24 : decode b_Let_bring 24 = .ok (.tableswitch 184 100 119 #[107, 184, 133, 184, 184, 184, 184, 184, 184, 184, 184, 184, 173, 184, 184, 160, 96, 184, 184, 123], 96) := by decide +kernel
theorem d_Let_bring_120 : decode b_Let_bring 120 = .ok (.aload_n 1, 1) := by decide +kernel
theorem d_Let_bring_121 : decode b_Let_bring 121 = .ok (.iload_n 3, 1) := by decide +kernel
theorem d_Let_bring_122 : decode b_Let_bring 122 = .ok (.iload 4, 2) := by decide +kernel
theorem d_Let_bring_124 : decode b_Let_bring 124 = .ok (.invokevirtual 69, 3) := by decide +kernel
theorem d_Let_bring_127 : decode b_Let_bring 127 = .ok (.pop, 1) := by decide +kernel
theorem d_Let_bring_128 : decode b_Let_bring 128 = .ok (.goto 80, 3) := by decide +kernel
theorem d_Let_bring_131 : decode b_Let_bring 131 = .ok (.aload_n 1, 1) := by decide +kernel
theorem d_Let_bring_132 : decode b_Let_bring 132 = .ok (.aload_n 0, 1) := by decide +kernel
theorem d_Let_bring_133 : decode b_Let_bring 133 = .ok (.iload_n 2, 1) := by decide +kernel
theorem d_Let_bring_134 : decode b_Let_bring 134 = .ok (.iconst 1, 1) := by decide +kernel
theorem d_Let_bring_135 : decode b_Let_bring 135 = .ok (.iadd, 1) := by decide +kernel
theorem d_Let_bring_136 : decode b_Let_bring 136 = .ok (.iconst 3, 1) := by decide +kernel
theorem d_Let_bring_137 : decode b_Let_bring 137 = .ok (.invokevirtual 44, 3) := by decide +kernel
theorem d_Let_bring_140 : decode b_Let_bring 140 = .ok (.invokevirtual 72, 3) := by decide +kernel
theorem d_Let_bring_143 : decode b_Let_bring 143 = .ok (.pop, 1) := by decide +kernel
theorem d_Let_bring_144 : decode b_Let_bring 144 = .ok (.goto 64, 3) := by decide +kernel
theorem d_Let_bring_147 : decode b_Let_bring 147 = .ok (.aload_n 1, 1) := by decide +kernel
theorem d_Let_bring_148 : decode b_Let_bring 148 = .ok (.iload_n 3, 1) := by decide +kernel
theorem d_Let_bring_149 : decode b_Let_bring 149 = .ok (.iload 4, 2) := by decide +kernel
theorem d_Let_bring_151 : decode b_Let_bring 151 = .ok (.invokevirtual 75, 3) := by decide +kernel
theorem d_Let_bring_154 : decode b_Let_bring 154 = .ok (.goto 54, 3) := by decide +kernel
theorem d_Let_bring_157 : decode b_Let_bring 157 = .ok (.aload_n 1, 1) := by decide +kernel
theorem d_Let_bring_158 : decode b_Let_bring 158 = .ok (.getfield 79, 3) := by decide +kernel
theorem d_Let_bring_161 : decode b_Let_bring 161 = .ok (.iload_n 3, 1) := by decide +kernel
theorem d_Let_bring_162 : decode b_Let_bring 162 = .ok (.aload_n 0, 1) := by decide +kernel
theorem d_Let_bring_163 : decode b_Let_bring 163 = .ok (.iload_n 2, 1) := by decide +kernel
theorem d_Let_bring_164 : decode b_Let_bring 164 = .ok (.iconst 2, 1) := by decide +kernel
theorem d_Let_bring_165 : decode b_Let_bring 165 = .ok (.iadd, 1) := by decide +kernel
theorem d_Let_bring_166 : decode b_Let_bring 166 = .ok (.iconst 2, 1) := by decide +kernel
theorem d_Let_bring_167 : decode b_Let_bring 167 = .ok (.invokevirtual 44, 3) := by decide +kernel
theorem d_Let_bring_170 : decode b_Let_bring 170 = .ok (.aload_n 0, 1) := by decide +kernel
theorem d_Let_bring_171 : decode b_Let_bring 171 = .ok (.iload_n 2, 1) := by decide +kernel
theorem d_Let_bring_172 : decode b_Let_bring 172 = .ok (.iconst 4, 1) := by decide +kernel
theorem d_Let_bring_173 : decode b_Let_bring 173 = .ok (.iadd, 1) := by decide +kernel
theorem d_Let_bring_174 : decode b_Let_bring 174 = .ok (.iconst 1, 1) := by decide +kernel
theorem d_Let_bring_175 : decode b_Let_bring 175 = .ok (.invokevirtual 44, 3) := by decide +kernel
theorem d_Let_bring_178 : decode b_Let_bring 178 = .ok (.invokevirtual 83, 3) := by decide +kernel
theorem d_Let_bring_181 : decode b_Let_bring 181 = .ok (.goto 27, 3) := by decide +kernel
theorem d_Let_bring_184 : decode b_Let_bring 184 = .ok (.aload_n 1, 1) := by decide +kernel
theorem d_Let_bring_185 : decode b_Let_bring 185 = .ok (.aload_n 1, 1) := by decide +kernel
theorem d_Let_bring_186 : decode b_Let_bring 186 = .ok (.iload_n 3, 1) := by decide +kernel
theorem d_Let_bring_187 : decode b_Let_bring 187 = .ok (.invokevirtual 87, 3) := by decide +kernel
theorem d_Let_bring_190 : decode b_Let_bring 190 = .ok (.invokevirtual 90, 3) := by decide +kernel
theorem d_Let_bring_193 : decode b_Let_bring 193 = .ok (.pop, 1) := by decide +kernel
theorem d_Let_bring_194 : decode b_Let_bring 194 = .ok (.goto 14, 3) := by decide +kernel
theorem d_Let_bring_197 : decode b_Let_bring 197 = .ok (.aload_n 1, 1) := by decide +kernel
theorem d_Let_bring_198 : decode b_Let_bring 198 = .ok (.iload_n 3, 1) := by decide +kernel
theorem d_Let_bring_199 : decode b_Let_bring 199 = .ok (.iload 4, 2) := by decide +kernel
theorem d_Let_bring_201 : decode b_Let_bring 201 = .ok (.invokevirtual 93, 3) := by decide +kernel
theorem d_Let_bring_204 : decode b_Let_bring 204 = .ok (.pop, 1) := by decide +kernel
theorem d_Let_bring_205 : decode b_Let_bring 205 = .ok (.goto 3, 3) := by decide +kernel
theorem d_Let_bring_208 : decode b_Let_bring 208 = .ok (.return_, 1) := by decide +kernel
theorem d_Let_digitsBehind_0 : decode b_Let_digitsBehind 0 = .ok (.iload_n 0, 1) := by decide +kernel
theorem d_Let_digitsBehind_1 : decode b_Let_digitsBehind 1 = .ok (.tableswitch 103 100 119 #[99, 103, 101, 103, 103, 103, 103, 103, 103, 103, 103, 103, 97, 103, 103, 95, 97, 103, 103, 97], 95) := by decide +kernel
theorem d_Let_digitsBehind_96 : decode b_Let_digitsBehind 96 = .ok (.iconst 1, 1) := by decide +kernel
theorem d_Let_digitsBehind_97 : decode b_Let_digitsBehind 97 = .ok (.ireturn, 1) := by decide +kernel
theorem d_Let_digitsBehind_98 : decode b_Let_digitsBehind 98 = .ok (.iconst 2, 1) := by decide +kernel
theorem d_Let_digitsBehind_99 : decode b_Let_digitsBehind 99 = .ok (.ireturn, 1) := by decide +kernel
theorem d_Let_digitsBehind_100 : decode b_Let_digitsBehind 100 = .ok (.iconst 3, 1) := by decide +kernel
theorem d_Let_digitsBehind_101 : decode b_Let_digitsBehind 101 = .ok (.ireturn, 1) := by decide +kernel
theorem d_Let_digitsBehind_102 : decode b_Let_digitsBehind 102 = .ok (.iconst 4, 1) := by decide +kernel
theorem d_Let_digitsBehind_103 : decode b_Let_digitsBehind 103 = .ok (.ireturn, 1) := by decide +kernel
theorem d_Let_digitsBehind_104 : decode b_Let_digitsBehind 104 = .ok (.iconst (-1), 1) := by decide +kernel
theorem d_Let_digitsBehind_105 : decode b_Let_digitsBehind 105 = .ok (.ireturn, 1) := by decide +kernel
theorem d_Let_firstUnfit_0 : decode b_Let_firstUnfit 0 = .ok (.iconst (-1), 1) := by decide +kernel
theorem d_Let_firstUnfit_1 : decode b_Let_firstUnfit 1 = .ok (.istore_n 1, 1) := by decide +kernel
theorem d_Let_firstUnfit_2 : decode b_Let_firstUnfit 2 = .ok (.iconst 0, 1) := by decide +kernel
theorem d_Let_firstUnfit_3 : decode b_Let_firstUnfit 3 = .ok (.istore_n 2, 1) := by decide +kernel
theorem d_Let_firstUnfit_4 : decode b_Let_firstUnfit 4 = .ok (.iload_n 2, 1) := by decide +kernel
theorem d_Let_firstUnfit_5 : decode b_Let_firstUnfit 5 = .ok (.aload_n 0, 1) := by decide +kernel
theorem d_Let_firstUnfit_6 : decode b_Let_firstUnfit 6 = .ok (.getfield 15, 3) := by decide +kernel
theorem d_Let_firstUnfit_9 : decode b_Let_firstUnfit 9 = .ok (.if_icmp .ge 66, 3) := by decide +kernel
theorem d_Let_firstUnfit_12 : decode b_Let_firstUnfit 12 = .ok (.aload_n 0, 1) := by decide +kernel
theorem d_Let_firstUnfit_13 : decode b_Let_firstUnfit 13 = .ok (.iload_n 2, 1) := by decide +kernel
theorem d_Let_firstUnfit_14 : decode b_Let_firstUnfit 14 = .ok (.invokevirtual 29, 3) := by decide +kernel
theorem d_Let_firstUnfit_17 : decode b_Let_firstUnfit 17 = .ok (.istore_n 3, 1) := by decide +kernel
theorem d_Let_firstUnfit_18 : decode b_Let_firstUnfit 18 = .ok (.iload_n 1, 1) := by decide +kernel
theorem d_Let_firstUnfit_19 : decode b_Let_firstUnfit 19 = .ok (.iconst (-1), 1) := by decide +kernel
theorem d_Let_firstUnfit_20 : decode b_Let_firstUnfit 20 = .ok (.if_icmp .ne 15, 3) := by decide +kernel
theorem d_Let_firstUnfit_23 : decode b_Let_firstUnfit 23 = .ok (.iload_n 3, 1) := by decide +kernel
theorem d_Let_firstUnfit_24 : decode b_Let_firstUnfit 24 = .ok (.invokestatic 41, 3) := by decide +kernel
theorem d_Let_firstUnfit_27 : decode b_Let_firstUnfit 27 = .ok (.istore_n 1, 1) := by decide +kernel
theorem d_Let_firstUnfit_28 : decode b_Let_firstUnfit 28 = .ok (.iload_n 1, 1) := by decide +kernel
theorem d_Let_firstUnfit_29 : decode b_Let_firstUnfit 29 = .ok (.iconst (-1), 1) := by decide +kernel
theorem d_Let_firstUnfit_30 : decode b_Let_firstUnfit 30 = .ok (.if_icmp .ne 39, 3) := by decide +kernel
theorem d_Let_firstUnfit_33 : decode b_Let_firstUnfit 33 = .ok (.iload_n 2, 1) := by decide +kernel
theorem d_Let_firstUnfit_34 : decode b_Let_firstUnfit 34 = .ok (.ireturn, 1) := by decide +kernel
theorem d_Let_firstUnfit_35 : decode b_Let_firstUnfit 35 = .ok (.iload_n 1, 1) := by decide +kernel
theorem d_Let_firstUnfit_36 : decode b_Let_firstUnfit 36 = .ok (.ifCond .ne 16, 3) := by decide +kernel
theorem d_Let_firstUnfit_39 : decode b_Let_firstUnfit 39 = .ok (.iload_n 3, 1) := by decide +kernel
theorem d_Let_firstUnfit_40 : decode b_Let_firstUnfit 40 = .ok (.bipush 59, 2) := by decide +kernel
theorem d_Let_firstUnfit_42 : decode b_Let_firstUnfit 42 = .ok (.if_icmp .eq 5, 3) := by decide +kernel
theorem d_Let_firstUnfit_45 : decode b_Let_firstUnfit 45 = .ok (.iload_n 2, 1) := by decide +kernel
theorem d_Let_firstUnfit_46 : decode b_Let_firstUnfit 46 = .ok (.ireturn, 1) := by decide +kernel
theorem d_Let_firstUnfit_47 : decode b_Let_firstUnfit 47 = .ok (.iconst (-1), 1) := by decide +kernel
theorem d_Let_firstUnfit_48 : decode b_Let_firstUnfit 48 = .ok (.istore_n 1, 1) := by decide +kernel
theorem d_Let_firstUnfit_49 : decode b_Let_firstUnfit 49 = .ok (.goto 20, 3) := by decide +kernel
theorem d_Let_firstUnfit_52 : decode b_Let_firstUnfit 52 = .ok (.iload_n 3, 1) := by decide +kernel
theorem d_Let_firstUnfit_53 : decode b_Let_firstUnfit 53 = .ok (.bipush 48, 2) := by decide +kernel
theorem d_Let_firstUnfit_55 : decode b_Let_firstUnfit 55 = .ok (.if_icmp .lt 9, 3) := by decide +kernel
theorem d_Let_firstUnfit_58 : decode b_Let_firstUnfit 58 = .ok (.iload_n 3, 1) := by decide +kernel
theorem d_Let_firstUnfit_59 : decode b_Let_firstUnfit 59 = .ok (.bipush 57, 2) := by decide +kernel
theorem d_Let_firstUnfit_61 : decode b_Let_firstUnfit 61 = .ok (.if_icmp .le 5, 3) := by decide +kernel
theorem d_Let_firstUnfit_64 : decode b_Let_firstUnfit 64 = .ok (.iload_n 2, 1) := by decide +kernel
theorem d_Let_firstUnfit_65 : decode b_Let_firstUnfit 65 = .ok (.ireturn, 1) := by decide +kernel
theorem d_Let_firstUnfit_66 : decode b_Let_firstUnfit 66 = .ok (.iinc 1 (-1), 3) := by decide +kernel
theorem d_Let_firstUnfit_69 : decode b_Let_firstUnfit 69 = .ok (.iinc 2 1, 3) := by decide +kernel
theorem d_Let_firstUnfit_72 : decode b_Let_firstUnfit 72 = .ok (.goto (-68), 3) := by decide +kernel
theorem d_Let_firstUnfit_75 : decode b_Let_firstUnfit 75 = .ok (.iload_n 1, 1) := by decide +kernel
theorem d_Let_firstUnfit_76 : decode b_Let_firstUnfit 76 = .ok (.iconst (-1), 1) := by decide +kernel
theorem d_Let_firstUnfit_77 : decode b_Let_firstUnfit 77 = .ok (.if_icmp .ne 14, 3) := by decide +kernel
theorem d_Let_firstUnfit_80 : decode b_Let_firstUnfit 80 = .ok (.aload_n 0, 1) := by decide +kernel
theorem d_Let_firstUnfit_81 : decode b_Let_firstUnfit 81 = .ok (.getfield 15, 3) := by decide +kernel
theorem d_Let_firstUnfit_84 : decode b_Let_firstUnfit 84 = .ok (.ifCond .le 7, 3) := by decide +kernel
theorem d_Let_firstUnfit_87 : decode b_Let_firstUnfit 87 = .ok (.iconst (-1), 1) := by decide +kernel
theorem d_Let_firstUnfit_88 : decode b_Let_firstUnfit 88 = .ok (.goto 7, 3) := by decide +kernel
theorem d_Let_firstUnfit_91 : decode b_Let_firstUnfit 91 = .ok (.aload_n 0, 1) := by decide +kernel
theorem d_Let_firstUnfit_92 : decode b_Let_firstUnfit 92 = .ok (.getfield 15, 3) := by decide +kernel
theorem d_Let_firstUnfit_95 : decode b_Let_firstUnfit 95 = .ok (.ireturn, 1) := by decide +kernel
theorem d_Sta_dayRefusal_0 : decode b_Sta_dayRefusal 0 = .ok (.iload_n 1, 1) := by decide +kernel
theorem d_Sta_dayRefusal_1 : decode b_Sta_dayRefusal 1 = .ok (.ifCond .ge 6, 3) := by decide +kernel
theorem d_Sta_dayRefusal_4 : decode b_Sta_dayRefusal 4 = .ok (.bipush (-4), 2) := by decide +kernel
theorem d_Sta_dayRefusal_6 : decode b_Sta_dayRefusal 6 = .ok (.ireturn, 1) := by decide +kernel
theorem d_Sta_dayRefusal_7 : decode b_Sta_dayRefusal 7 = .ok (.iload_n 1, 1) := by decide +kernel
theorem d_Sta_dayRefusal_8 : decode b_Sta_dayRefusal 8 = .ok (.aload_n 0, 1) := by decide +kernel
theorem d_Sta_dayRefusal_9 : decode b_Sta_dayRefusal 9 = .ok (.invokevirtual 57, 3) := by decide +kernel
theorem d_Sta_dayRefusal_12 : decode b_Sta_dayRefusal 12 = .ok (.if_icmp .gt 12, 3) := by decide +kernel
theorem d_Sta_dayRefusal_15 : decode b_Sta_dayRefusal 15 = .ok (.aload_n 0, 1) := by decide +kernel
theorem d_Sta_dayRefusal_16 : decode b_Sta_dayRefusal 16 = .ok (.getfield 47, 3) := by decide +kernel
theorem d_Sta_dayRefusal_19 : decode b_Sta_dayRefusal 19 = .ok (.bipush 8, 2) := by decide +kernel
theorem d_Sta_dayRefusal_21 : decode b_Sta_dayRefusal 21 = .ok (.if_icmp .lt 8, 3) := by decide +kernel
theorem d_Sta_dayRefusal_24 : decode b_Sta_dayRefusal 24 = .ok (.bipush (-6), 2) := by decide +kernel
theorem d_Sta_dayRefusal_26 : decode b_Sta_dayRefusal 26 = .ok (.goto 4, 3) := by decide +kernel
theorem d_Sta_dayRefusal_29 : decode b_Sta_dayRefusal 29 = .ok (.iconst 0, 1) := by decide +kernel
theorem d_Sta_dayRefusal_30 : decode b_Sta_dayRefusal 30 = .ok (.ireturn, 1) := by decide +kernel
theorem d_Sta_hasThing_0 : decode b_Sta_hasThing 0 = .ok (.iload_n 1, 1) := by decide +kernel
theorem d_Sta_hasThing_1 : decode b_Sta_hasThing 1 = .ok (.ifCond .lt 21, 3) := by decide +kernel
theorem d_Sta_hasThing_4 : decode b_Sta_hasThing 4 = .ok (.iload_n 1, 1) := by decide +kernel
theorem d_Sta_hasThing_5 : decode b_Sta_hasThing 5 = .ok (.aload_n 0, 1) := by decide +kernel
theorem d_Sta_hasThing_6 : decode b_Sta_hasThing 6 = .ok (.getfield 43, 3) := by decide +kernel
theorem d_Sta_hasThing_9 : decode b_Sta_hasThing 9 = .ok (.if_icmp .ge 13, 3) := by decide +kernel
theorem d_Sta_hasThing_12 : decode b_Sta_hasThing 12 = .ok (.iload_n 1, 1) := by decide +kernel
theorem d_Sta_hasThing_13 : decode b_Sta_hasThing 13 = .ok (.bipush 8, 2) := by decide +kernel
theorem d_Sta_hasThing_15 : decode b_Sta_hasThing 15 = .ok (.if_icmp .ge 7, 3) := by decide +kernel
theorem d_Sta_hasThing_18 : decode b_Sta_hasThing 18 = .ok (.iconst 1, 1) := by decide +kernel
theorem d_Sta_hasThing_19 : decode b_Sta_hasThing 19 = .ok (.goto 4, 3) := by decide +kernel
theorem d_Sta_hasThing_22 : decode b_Sta_hasThing 22 = .ok (.iconst 0, 1) := by decide +kernel
theorem d_Sta_hasThing_23 : decode b_Sta_hasThing 23 = .ok (.ireturn, 1) := by decide +kernel
theorem d_Sta_packRefusal_0 : decode b_Sta_packRefusal 0 = .ok (.aload_n 0, 1) := by decide +kernel
theorem d_Sta_packRefusal_1 : decode b_Sta_packRefusal 1 = .ok (.iload_n 1, 1) := by decide +kernel
theorem d_Sta_packRefusal_2 : decode b_Sta_packRefusal 2 = .ok (.invokevirtual 65, 3) := by decide +kernel
theorem d_Sta_packRefusal_5 : decode b_Sta_packRefusal 5 = .ok (.ifCond .eq 15, 3) := by decide +kernel
theorem d_Sta_packRefusal_8 : decode b_Sta_packRefusal 8 = .ok (.aload_n 0, 1) := by decide +kernel
theorem d_Sta_packRefusal_9 : decode b_Sta_packRefusal 9 = .ok (.iload_n 2, 1) := by decide +kernel
theorem d_Sta_packRefusal_10 : decode b_Sta_packRefusal 10 = .ok (.invokevirtual 68, 3) := by decide +kernel
theorem d_Sta_packRefusal_13 : decode b_Sta_packRefusal 13 = .ok (.ifCond .eq 7, 3) := by decide +kernel
theorem d_Sta_packRefusal_16 : decode b_Sta_packRefusal 16 = .ok (.iconst 0, 1) := by decide +kernel
theorem d_Sta_packRefusal_17 : decode b_Sta_packRefusal 17 = .ok (.goto 4, 3) := by decide +kernel
theorem d_Sta_packRefusal_20 : decode b_Sta_packRefusal 20 = .ok (.iconst (-1), 1) := by decide +kernel
theorem d_Sta_packRefusal_21 : decode b_Sta_packRefusal 21 = .ok (.ireturn, 1) := by decide +kernel
theorem d_Sta_spendRefusal_0 : decode b_Sta_spendRefusal 0 = .ok (.aload_n 0, 1) := by decide +kernel
theorem d_Sta_spendRefusal_1 : decode b_Sta_spendRefusal 1 = .ok (.iload_n 1, 1) := by decide +kernel
theorem d_Sta_spendRefusal_2 : decode b_Sta_spendRefusal 2 = .ok (.invokevirtual 65, 3) := by decide +kernel
theorem d_Sta_spendRefusal_5 : decode b_Sta_spendRefusal 5 = .ok (.ifCond .eq 20, 3) := by decide +kernel
theorem d_Sta_spendRefusal_8 : decode b_Sta_spendRefusal 8 = .ok (.iload_n 2, 1) := by decide +kernel
theorem d_Sta_spendRefusal_9 : decode b_Sta_spendRefusal 9 = .ok (.invokestatic 61, 3) := by decide +kernel
theorem d_Sta_spendRefusal_12 : decode b_Sta_spendRefusal 12 = .ok (.ifCond .ne 9, 3) := by decide +kernel
theorem d_Sta_spendRefusal_15 : decode b_Sta_spendRefusal 15 = .ok (.iload_n 2, 1) := by decide +kernel
theorem d_Sta_spendRefusal_16 : decode b_Sta_spendRefusal 16 = .ok (.bipush 9, 2) := by decide +kernel
theorem d_Sta_spendRefusal_18 : decode b_Sta_spendRefusal 18 = .ok (.if_icmp .ne 7, 3) := by decide +kernel
theorem d_Sta_spendRefusal_21 : decode b_Sta_spendRefusal 21 = .ok (.iconst 0, 1) := by decide +kernel
theorem d_Sta_spendRefusal_22 : decode b_Sta_spendRefusal 22 = .ok (.goto 4, 3) := by decide +kernel
theorem d_Sta_spendRefusal_25 : decode b_Sta_spendRefusal 25 = .ok (.iconst (-1), 1) := by decide +kernel
theorem d_Sta_spendRefusal_26 : decode b_Sta_spendRefusal 26 = .ok (.ireturn, 1) := by decide +kernel
theorem d_Sta_thingRefusal_0 : decode b_Sta_thingRefusal 0 = .ok (.iload_n 1, 1) := by decide +kernel
theorem d_Sta_thingRefusal_1 : decode b_Sta_thingRefusal 1 = .ok (.ifCond .lt 9, 3) := by decide +kernel
theorem d_Sta_thingRefusal_4 : decode b_Sta_thingRefusal 4 = .ok (.iload_n 1, 1) := by decide +kernel
theorem d_Sta_thingRefusal_5 : decode b_Sta_thingRefusal 5 = .ok (.bipush 6, 2) := by decide +kernel
theorem d_Sta_thingRefusal_7 : decode b_Sta_thingRefusal 7 = .ok (.if_icmp .lt 6, 3) := by decide +kernel
theorem d_Sta_thingRefusal_10 : decode b_Sta_thingRefusal 10 = .ok (.bipush (-2), 2) := by decide +kernel
theorem d_Sta_thingRefusal_12 : decode b_Sta_thingRefusal 12 = .ok (.ireturn, 1) := by decide +kernel
theorem d_Sta_thingRefusal_13 : decode b_Sta_thingRefusal 13 = .ok (.iload_n 2, 1) := by decide +kernel
theorem d_Sta_thingRefusal_14 : decode b_Sta_thingRefusal 14 = .ok (.ifCond .ge 6, 3) := by decide +kernel
theorem d_Sta_thingRefusal_17 : decode b_Sta_thingRefusal 17 = .ok (.bipush (-4), 2) := by decide +kernel
theorem d_Sta_thingRefusal_19 : decode b_Sta_thingRefusal 19 = .ok (.ireturn, 1) := by decide +kernel
theorem d_Sta_thingRefusal_20 : decode b_Sta_thingRefusal 20 = .ok (.iload_n 2, 1) := by decide +kernel
theorem d_Sta_thingRefusal_21 : decode b_Sta_thingRefusal 21 = .ok (.bipush 9, 2) := by decide +kernel
theorem d_Sta_thingRefusal_23 : decode b_Sta_thingRefusal 23 = .ok (.if_icmp .gt 12, 3) := by decide +kernel
theorem d_Sta_thingRefusal_26 : decode b_Sta_thingRefusal 26 = .ok (.aload_n 0, 1) := by decide +kernel
theorem d_Sta_thingRefusal_27 : decode b_Sta_thingRefusal 27 = .ok (.getfield 43, 3) := by decide +kernel
theorem d_Sta_thingRefusal_30 : decode b_Sta_thingRefusal 30 = .ok (.bipush 8, 2) := by decide +kernel
theorem d_Sta_thingRefusal_32 : decode b_Sta_thingRefusal 32 = .ok (.if_icmp .lt 8, 3) := by decide +kernel
theorem d_Sta_thingRefusal_35 : decode b_Sta_thingRefusal 35 = .ok (.bipush (-6), 2) := by decide +kernel
theorem d_Sta_thingRefusal_37 : decode b_Sta_thingRefusal 37 = .ok (.goto 4, 3) := by decide +kernel
theorem d_Sta_thingRefusal_40 : decode b_Sta_thingRefusal 40 = .ok (.iconst 0, 1) := by decide +kernel
theorem d_Sta_thingRefusal_41 : decode b_Sta_thingRefusal 41 = .ok (.ireturn, 1) := by decide +kernel
theorem d_Sta_weightRefusal_0 : decode b_Sta_weightRefusal 0 = .ok (.iload_n 0, 1) := by decide +kernel
theorem d_Sta_weightRefusal_1 : decode b_Sta_weightRefusal 1 = .ok (.invokestatic 61, 3) := by decide +kernel
theorem d_Sta_weightRefusal_4 : decode b_Sta_weightRefusal 4 = .ok (.ifCond .ne 5, 3) := by decide +kernel
theorem d_Sta_weightRefusal_7 : decode b_Sta_weightRefusal 7 = .ok (.iconst (-1), 1) := by decide +kernel
theorem d_Sta_weightRefusal_8 : decode b_Sta_weightRefusal 8 = .ok (.ireturn, 1) := by decide +kernel
theorem d_Sta_weightRefusal_9 : decode b_Sta_weightRefusal 9 = .ok (.iload_n 1, 1) := by decide +kernel
theorem d_Sta_weightRefusal_10 : decode b_Sta_weightRefusal 10 = .ok (.ifCond .ge 6, 3) := by decide +kernel
theorem d_Sta_weightRefusal_13 : decode b_Sta_weightRefusal 13 = .ok (.bipush (-4), 2) := by decide +kernel
theorem d_Sta_weightRefusal_15 : decode b_Sta_weightRefusal 15 = .ok (.ireturn, 1) := by decide +kernel
theorem d_Sta_weightRefusal_16 : decode b_Sta_weightRefusal 16 = .ok (.iload_n 1, 1) := by decide +kernel
theorem d_Sta_weightRefusal_17 : decode b_Sta_weightRefusal 17 = .ok (.bipush 9, 2) := by decide +kernel
theorem d_Sta_weightRefusal_19 : decode b_Sta_weightRefusal 19 = .ok (.if_icmp .le 8, 3) := by decide +kernel
theorem d_Sta_weightRefusal_22 : decode b_Sta_weightRefusal 22 = .ok (.bipush (-6), 2) := by decide +kernel
theorem d_Sta_weightRefusal_24 : decode b_Sta_weightRefusal 24 = .ok (.goto 4, 3) := by decide +kernel
theorem d_Sta_weightRefusal_27 : decode b_Sta_weightRefusal 27 = .ok (.iconst 0, 1) := by decide +kernel
theorem d_Sta_weightRefusal_28 : decode b_Sta_weightRefusal 28 = .ok (.ireturn, 1) := by decide +kernel
theorem d_Let_refusalAt_0 : decode b_Let_refusalAt 0 = .ok (.aload_n 0, 1) := by decide +kernel
theorem d_Let_refusalAt_1 : decode b_Let_refusalAt 1 = .ok (.iload_n 2, 1) := by decide +kernel
theorem d_Let_refusalAt_2 : decode b_Let_refusalAt 2 = .ok (.iconst 1, 1) := by decide +kernel
theorem d_Let_refusalAt_3 : decode b_Let_refusalAt 3 = .ok (.iadd, 1) := by decide +kernel
theorem d_Let_refusalAt_4 : decode b_Let_refusalAt 4 = .ok (.iconst 1, 1) := by decide +kernel
theorem d_Let_refusalAt_5 : decode b_Let_refusalAt 5 = .ok (.invokevirtual 44, 3) := by decide +kernel
theorem d_Let_refusalAt_8 : decode b_Let_refusalAt 8 = .ok (.istore_n 3, 1) := by decide +kernel
theorem d_Let_refusalAt_9 : decode b_Let_refusalAt 9 = .ok (.aload_n 0, 1) := by decide +kernel
theorem d_Let_refusalAt_10 : decode b_Let_refusalAt 10 = .ok (.iload_n 2, 1) := by decide +kernel
theorem d_Let_refusalAt_11 : decode b_Let_refusalAt 11 = .ok (.iconst 2, 1) := by decide +kernel
theorem d_Let_refusalAt_12 : decode b_Let_refusalAt 12 = .ok (.iadd, 1) := by decide +kernel
theorem d_Let_refusalAt_13 : decode b_Let_refusalAt 13 = .ok (.iconst 1, 1) := by decide +kernel
theorem d_Let_refusalAt_14 : decode b_Let_refusalAt 14 = .ok (.invokevirtual 44, 3) := by decide +kernel
theorem d_Let_refusalAt_17 : decode b_Let_refusalAt 17 = .ok (.istore 4, 2) := by decide +kernel
theorem d_Let_refusalAt_19 : decode b_Let_refusalAt 19 = .ok (.aload_n 0, 1) := by decide +kernel
theorem d_Let_refusalAt_20 : decode b_Let_refusalAt 20 = .ok (.iload_n 2, 1) := by decide +kernel
theorem d_Let_refusalAt_21 : decode b_Let_refusalAt 21 = .ok (.invokevirtual 29, 3) := by decide +kernel
theorem d_Let_refusalAt_24 : decode b_Let_refusalAt 24 = .ok (.tableswitch 161 100 119 #[104, 161, 124, 161, 161, 161, 161, 161, 161, 161, 161, 161, 153, 161, 161, 145, 96, 161, 161, 117], 96) := by decide +kernel
theorem d_Let_refusalAt_120 : decode b_Let_refusalAt 120 = .ok (.aload_n 1, 1) := by decide +kernel
theorem d_Let_refusalAt_121 : decode b_Let_refusalAt 121 = .ok (.iload_n 3, 1) := by decide +kernel
theorem d_Let_refusalAt_122 : decode b_Let_refusalAt 122 = .ok (.iload 4, 2) := by decide +kernel
theorem d_Let_refusalAt_124 : decode b_Let_refusalAt 124 = .ok (.invokevirtual 48, 3) := by decide +kernel
theorem d_Let_refusalAt_127 : decode b_Let_refusalAt 127 = .ok (.ireturn, 1) := by decide +kernel
theorem d_Let_refusalAt_128 : decode b_Let_refusalAt 128 = .ok (.aload_n 1, 1) := by decide +kernel
theorem d_Let_refusalAt_129 : decode b_Let_refusalAt 129 = .ok (.aload_n 0, 1) := by decide +kernel
theorem d_Let_refusalAt_130 : decode b_Let_refusalAt 130 = .ok (.iload_n 2, 1) := by decide +kernel
theorem d_Let_refusalAt_131 : decode b_Let_refusalAt 131 = .ok (.iconst 1, 1) := by decide +kernel
theorem d_Let_refusalAt_132 : decode b_Let_refusalAt 132 = .ok (.iadd, 1) := by decide +kernel
theorem d_Let_refusalAt_133 : decode b_Let_refusalAt 133 = .ok (.iconst 3, 1) := by decide +kernel
theorem d_Let_refusalAt_134 : decode b_Let_refusalAt 134 = .ok (.invokevirtual 44, 3) := by decide +kernel
theorem d_Let_refusalAt_137 : decode b_Let_refusalAt 137 = .ok (.invokevirtual 51, 3) := by decide +kernel
theorem d_Let_refusalAt_140 : decode b_Let_refusalAt 140 = .ok (.ireturn, 1) := by decide +kernel
theorem d_Let_refusalAt_141 : decode b_Let_refusalAt 141 = .ok (.iload_n 3, 1) := by decide +kernel
theorem d_Let_refusalAt_142 : decode b_Let_refusalAt 142 = .ok (.iload 4, 2) := by decide +kernel
theorem d_Let_refusalAt_144 : decode b_Let_refusalAt 144 = .ok (.invokestatic 54, 3) := by decide +kernel
theorem d_Let_refusalAt_147 : decode b_Let_refusalAt 147 = .ok (.ireturn, 1) := by decide +kernel
theorem d_Let_refusalAt_148 : decode b_Let_refusalAt 148 = .ok (.iload_n 3, 1) := by decide +kernel
theorem d_Let_refusalAt_149 : decode b_Let_refusalAt 149 = .ok (.aload_n 0, 1) := by decide +kernel
theorem d_Let_refusalAt_150 : decode b_Let_refusalAt 150 = .ok (.iload_n 2, 1) := by decide +kernel
theorem d_Let_refusalAt_151 : decode b_Let_refusalAt 151 = .ok (.iconst 2, 1) := by decide +kernel
theorem d_Let_refusalAt_152 : decode b_Let_refusalAt 152 = .ok (.iadd, 1) := by decide +kernel
theorem d_Let_refusalAt_153 : decode b_Let_refusalAt 153 = .ok (.iconst 2, 1) := by decide +kernel
theorem d_Let_refusalAt_154 : decode b_Let_refusalAt 154 = .ok (.invokevirtual 44, 3) := by decide +kernel
theorem d_Let_refusalAt_157 : decode b_Let_refusalAt 157 = .ok (.aload_n 0, 1) := by decide +kernel
theorem d_Let_refusalAt_158 : decode b_Let_refusalAt 158 = .ok (.iload_n 2, 1) := by decide +kernel
theorem d_Let_refusalAt_159 : decode b_Let_refusalAt 159 = .ok (.iconst 4, 1) := by decide +kernel
theorem d_Let_refusalAt_160 : decode b_Let_refusalAt 160 = .ok (.iadd, 1) := by decide +kernel
theorem d_Let_refusalAt_161 : decode b_Let_refusalAt 161 = .ok (.iconst 1, 1) := by decide +kernel
theorem d_Let_refusalAt_162 : decode b_Let_refusalAt 162 = .ok (.invokevirtual 44, 3) := by decide +kernel
theorem d_Let_refusalAt_165 : decode b_Let_refusalAt 165 = .ok (.invokestatic 57, 3) := by decide +kernel
theorem d_Let_refusalAt_168 : decode b_Let_refusalAt 168 = .ok (.ireturn, 1) := by decide +kernel
theorem d_Let_refusalAt_169 : decode b_Let_refusalAt 169 = .ok (.aload_n 1, 1) := by decide +kernel
theorem d_Let_refusalAt_170 : decode b_Let_refusalAt 170 = .ok (.iload_n 3, 1) := by decide +kernel
theorem d_Let_refusalAt_171 : decode b_Let_refusalAt 171 = .ok (.bipush 9, 2) := by decide +kernel
theorem d_Let_refusalAt_173 : decode b_Let_refusalAt 173 = .ok (.invokevirtual 63, 3) := by decide +kernel
theorem d_Let_refusalAt_176 : decode b_Let_refusalAt 176 = .ok (.ireturn, 1) := by decide +kernel
theorem d_Let_refusalAt_177 : decode b_Let_refusalAt 177 = .ok (.aload_n 1, 1) := by decide +kernel
theorem d_Let_refusalAt_178 : decode b_Let_refusalAt 178 = .ok (.iload_n 3, 1) := by decide +kernel
theorem d_Let_refusalAt_179 : decode b_Let_refusalAt 179 = .ok (.iload 4, 2) := by decide +kernel
theorem d_Let_refusalAt_181 : decode b_Let_refusalAt 181 = .ok (.invokevirtual 66, 3) := by decide +kernel
theorem d_Let_refusalAt_184 : decode b_Let_refusalAt 184 = .ok (.ireturn, 1) := by decide +kernel
theorem d_Let_refusalAt_185 : decode b_Let_refusalAt 185 = .ok (.bipush (-2), 2) := by decide +kernel
theorem d_Let_refusalAt_187 : decode b_Let_refusalAt 187 = .ok (.ireturn, 1) := by decide +kernel
theorem d_Sta_copyFrom_0 : decode b_Sta_copyFrom 0 = .ok (.aload_n 1, 1) := by decide +kernel
theorem d_Sta_copyFrom_1 : decode b_Sta_copyFrom 1 = .ok (.getfield 9, 3) := by decide +kernel
theorem d_Sta_copyFrom_4 : decode b_Sta_copyFrom 4 = .ok (.iconst 0, 1) := by decide +kernel
theorem d_Sta_copyFrom_5 : decode b_Sta_copyFrom 5 = .ok (.aload_n 0, 1) := by decide +kernel
theorem d_Sta_copyFrom_6 : decode b_Sta_copyFrom 6 = .ok (.getfield 9, 3) := by decide +kernel
theorem d_Sta_copyFrom_9 : decode b_Sta_copyFrom 9 = .ok (.iconst 0, 1) := by decide +kernel
theorem d_Sta_copyFrom_10 : decode b_Sta_copyFrom 10 = .ok (.bipush 6, 2) := by decide +kernel
theorem d_Sta_copyFrom_12 : decode b_Sta_copyFrom 12 = .ok (.invokestatic 37, 3) := by decide +kernel
theorem d_Sta_copyFrom_15 : decode b_Sta_copyFrom 15 = .ok (.aload_n 1, 1) := by decide +kernel
theorem d_Sta_copyFrom_16 : decode b_Sta_copyFrom 16 = .ok (.getfield 15, 3) := by decide +kernel
theorem d_Sta_copyFrom_19 : decode b_Sta_copyFrom 19 = .ok (.iconst 0, 1) := by decide +kernel
theorem d_Sta_copyFrom_20 : decode b_Sta_copyFrom 20 = .ok (.aload_n 0, 1) := by decide +kernel
theorem d_Sta_copyFrom_21 : decode b_Sta_copyFrom 21 = .ok (.getfield 15, 3) := by decide +kernel
theorem d_Sta_copyFrom_24 : decode b_Sta_copyFrom 24 = .ok (.iconst 0, 1) := by decide +kernel
theorem d_Sta_copyFrom_25 : decode b_Sta_copyFrom 25 = .ok (.bipush 8, 2) := by decide +kernel
theorem d_Sta_copyFrom_27 : decode b_Sta_copyFrom 27 = .ok (.invokestatic 37, 3) := by decide +kernel
theorem d_Sta_copyFrom_30 : decode b_Sta_copyFrom 30 = .ok (.aload_n 1, 1) := by decide +kernel
theorem d_Sta_copyFrom_31 : decode b_Sta_copyFrom 31 = .ok (.getfield 18, 3) := by decide +kernel
theorem d_Sta_copyFrom_34 : decode b_Sta_copyFrom 34 = .ok (.iconst 0, 1) := by decide +kernel
theorem d_Sta_copyFrom_35 : decode b_Sta_copyFrom 35 = .ok (.aload_n 0, 1) := by decide +kernel
theorem d_Sta_copyFrom_36 : decode b_Sta_copyFrom 36 = .ok (.getfield 18, 3) := by decide +kernel
theorem d_Sta_copyFrom_39 : decode b_Sta_copyFrom 39 = .ok (.iconst 0, 1) := by decide +kernel
theorem d_Sta_copyFrom_40 : decode b_Sta_copyFrom 40 = .ok (.bipush 8, 2) := by decide +kernel
theorem d_Sta_copyFrom_42 : decode b_Sta_copyFrom 42 = .ok (.invokestatic 37, 3) := by decide +kernel
theorem d_Sta_copyFrom_45 : decode b_Sta_copyFrom 45 = .ok (.aload_n 1, 1) := by decide +kernel
theorem d_Sta_copyFrom_46 : decode b_Sta_copyFrom 46 = .ok (.getfield 21, 3) := by decide +kernel
theorem d_Sta_copyFrom_49 : decode b_Sta_copyFrom 49 = .ok (.iconst 0, 1) := by decide +kernel
theorem d_Sta_copyFrom_50 : decode b_Sta_copyFrom 50 = .ok (.aload_n 0, 1) := by decide +kernel
theorem d_Sta_copyFrom_51 : decode b_Sta_copyFrom 51 = .ok (.getfield 21, 3) := by decide +kernel
theorem d_Sta_copyFrom_54 : decode b_Sta_copyFrom 54 = .ok (.iconst 0, 1) := by decide +kernel
theorem d_Sta_copyFrom_55 : decode b_Sta_copyFrom 55 = .ok (.bipush 8, 2) := by decide +kernel
theorem d_Sta_copyFrom_57 : decode b_Sta_copyFrom 57 = .ok (.invokestatic 37, 3) := by decide +kernel
theorem d_Sta_copyFrom_60 : decode b_Sta_copyFrom 60 = .ok (.aload_n 1, 1) := by decide +kernel
theorem d_Sta_copyFrom_61 : decode b_Sta_copyFrom 61 = .ok (.getfield 24, 3) := by decide +kernel
theorem d_Sta_copyFrom_64 : decode b_Sta_copyFrom 64 = .ok (.iconst 0, 1) := by decide +kernel
theorem d_Sta_copyFrom_65 : decode b_Sta_copyFrom 65 = .ok (.aload_n 0, 1) := by decide +kernel
theorem d_Sta_copyFrom_66 : decode b_Sta_copyFrom 66 = .ok (.getfield 24, 3) := by decide +kernel
theorem d_Sta_copyFrom_69 : decode b_Sta_copyFrom 69 = .ok (.iconst 0, 1) := by decide +kernel
theorem d_Sta_copyFrom_70 : decode b_Sta_copyFrom 70 = .ok (.bipush 8, 2) := by decide +kernel
theorem d_Sta_copyFrom_72 : decode b_Sta_copyFrom 72 = .ok (.invokestatic 37, 3) := by decide +kernel
theorem d_Sta_copyFrom_75 : decode b_Sta_copyFrom 75 = .ok (.aload_n 0, 1) := by decide +kernel
theorem d_Sta_copyFrom_76 : decode b_Sta_copyFrom 76 = .ok (.aload_n 1, 1) := by decide +kernel
theorem d_Sta_copyFrom_77 : decode b_Sta_copyFrom 77 = .ok (.getfield 43, 3) := by decide +kernel
theorem d_Sta_copyFrom_80 : decode b_Sta_copyFrom 80 = .ok (.putfield 43, 3) := by decide +kernel
theorem d_Sta_copyFrom_83 : decode b_Sta_copyFrom 83 = .ok (.aload_n 0, 1) := by decide +kernel
theorem d_Sta_copyFrom_84 : decode b_Sta_copyFrom 84 = .ok (.aload_n 1, 1) := by decide +kernel
theorem d_Sta_copyFrom_85 : decode b_Sta_copyFrom 85 = .ok (.getfield 47, 3) := by decide +kernel
theorem d_Sta_copyFrom_88 : decode b_Sta_copyFrom 88 = .ok (.putfield 47, 3) := by decide +kernel
theorem d_Sta_copyFrom_91 : decode b_Sta_copyFrom 91 = .ok (.aload_n 0, 1) := by decide +kernel
theorem d_Sta_copyFrom_92 : decode b_Sta_copyFrom 92 = .ok (.getfield 30, 3) := by decide +kernel
theorem d_Sta_copyFrom_95 : decode b_Sta_copyFrom 95 = .ok (.aload_n 1, 1) := by decide +kernel
theorem d_Sta_copyFrom_96 : decode b_Sta_copyFrom 96 = .ok (.getfield 30, 3) := by decide +kernel
theorem d_Sta_copyFrom_99 : decode b_Sta_copyFrom 99 = .ok (.invokevirtual 50, 3) := by decide +kernel
theorem d_Sta_copyFrom_102 : decode b_Sta_copyFrom 102 = .ok (.aload_n 0, 1) := by decide +kernel
theorem d_Sta_copyFrom_103 : decode b_Sta_copyFrom 103 = .ok (.aload_n 1, 1) := by decide +kernel
theorem d_Sta_copyFrom_104 : decode b_Sta_copyFrom 104 = .ok (.getfield 54, 3) := by decide +kernel
theorem d_Sta_copyFrom_107 : decode b_Sta_copyFrom 107 = .ok (.putfield 54, 3) := by decide +kernel
theorem d_Sta_copyFrom_110 : decode b_Sta_copyFrom 110 = .ok (.return_, 1) := by decide +kernel
theorem d_Let_tellInto_0 : decode b_Let_tellInto 0 = .ok (.aload_n 0, 1) := by decide +kernel
theorem d_Let_tellInto_1 : decode b_Let_tellInto 1 = .ok (.invokevirtual 19, 3) := by decide +kernel
theorem d_Let_tellInto_4 : decode b_Let_tellInto 4 = .ok (.istore_n 3, 1) := by decide +kernel
theorem d_Let_tellInto_5 : decode b_Let_tellInto 5 = .ok (.iload_n 3, 1) := by decide +kernel
theorem d_Let_tellInto_6 : decode b_Let_tellInto 6 = .ok (.ifCond .lt 9, 3) := by decide +kernel
theorem d_Let_tellInto_9 : decode b_Let_tellInto 9 = .ok (.sipush (-1000), 3) := by decide +kernel
theorem d_Let_tellInto_12 : decode b_Let_tellInto 12 = .ok (.iload_n 3, 1) := by decide +kernel
theorem d_Let_tellInto_13 : decode b_Let_tellInto 13 = .ok (.isub, 1) := by decide +kernel
theorem d_Let_tellInto_14 : decode b_Let_tellInto 14 = .ok (.ireturn, 1) := by decide +kernel
theorem d_Let_tellInto_15 : decode b_Let_tellInto 15 = .ok (.aload_n 1, 1) := by decide +kernel
theorem d_Let_tellInto_16 : decode b_Let_tellInto 16 = .ok (.aload_n 2, 1) := by decide +kernel
theorem d_Let_tellInto_17 : decode b_Let_tellInto 17 = .ok (.invokevirtual 23, 3) := by decide +kernel
theorem d_Let_tellInto_20 : decode b_Let_tellInto 20 = .ok (.iconst 0, 1) := by decide +kernel
theorem d_Let_tellInto_21 : decode b_Let_tellInto 21 = .ok (.istore 4, 2) := by decide +kernel
theorem d_Let_tellInto_23 : decode b_Let_tellInto 23 = .ok (.iconst 0, 1) := by decide +kernel
theorem d_Let_tellInto_24 : decode b_Let_tellInto 24 = .ok (.istore 5, 2) := by decide +kernel
theorem d_Let_tellInto_26 : decode b_Let_tellInto 26 = .ok (.iconst 0, 1) := by decide +kernel
theorem d_Let_tellInto_27 : decode b_Let_tellInto 27 = .ok (.istore 6, 2) := by decide +kernel
theorem d_Let_tellInto_29 : decode b_Let_tellInto 29 = .ok (.iload 6, 2) := by decide +kernel
theorem d_Let_tellInto_31 : decode b_Let_tellInto 31 = .ok (.aload_n 0, 1) := by decide +kernel
theorem d_Let_tellInto_32 : decode b_Let_tellInto 32 = .ok (.getfield 15, 3) := by decide +kernel
theorem d_Let_tellInto_35 : decode b_Let_tellInto 35 = .ok (.if_icmp .ge 53, 3) := by decide +kernel
theorem d_Let_tellInto_38 : decode b_Let_tellInto 38 = .ok (.aload_n 0, 1) := by decide +kernel
theorem d_Let_tellInto_39 : decode b_Let_tellInto 39 = .ok (.iload 6, 2) := by decide +kernel
theorem d_Let_tellInto_41 : decode b_Let_tellInto 41 = .ok (.invokevirtual 29, 3) := by decide +kernel
theorem d_Let_tellInto_44 : decode b_Let_tellInto 44 = .ok (.bipush 59, 2) := by decide +kernel
theorem d_Let_tellInto_46 : decode b_Let_tellInto 46 = .ok (.if_icmp .ne 36, 3) := by decide +kernel
theorem d_Let_tellInto_49 : decode b_Let_tellInto 49 = .ok (.aload_n 0, 1) := by decide +kernel
theorem d_Let_tellInto_50 : decode b_Let_tellInto 50 = .ok (.aload_n 1, 1) := by decide +kernel
theorem d_Let_tellInto_51 : decode b_Let_tellInto 51 = .ok (.iload 5, 2) := by decide +kernel
theorem d_Let_tellInto_53 : decode b_Let_tellInto 53 = .ok (.invokevirtual 33, 3) := by decide +kernel
theorem d_Let_tellInto_56 : decode b_Let_tellInto 56 = .ok (.ifCond .eq 10, 3) := by decide +kernel
theorem d_Let_tellInto_59 : decode b_Let_tellInto 59 = .ok (.sipush (-2000), 3) := by decide +kernel
theorem d_Let_tellInto_62 : decode b_Let_tellInto 62 = .ok (.iload 5, 2) := by decide +kernel
theorem d_Let_tellInto_64 : decode b_Let_tellInto 64 = .ok (.isub, 1) := by decide +kernel
theorem d_Let_tellInto_65 : decode b_Let_tellInto 65 = .ok (.ireturn, 1) := by decide +kernel
theorem d_Let_tellInto_66 : decode b_Let_tellInto 66 = .ok (.aload_n 0, 1) := by decide +kernel
theorem d_Let_tellInto_67 : decode b_Let_tellInto 67 = .ok (.aload_n 1, 1) := by decide +kernel
theorem d_Let_tellInto_68 : decode b_Let_tellInto 68 = .ok (.iload 5, 2) := by decide +kernel
theorem d_Let_tellInto_70 : decode b_Let_tellInto 70 = .ok (.invokevirtual 37, 3) := by decide +kernel
theorem d_Let_tellInto_73 : decode b_Let_tellInto 73 = .ok (.iinc 4 1, 3) := by decide +kernel
theorem d_Let_tellInto_76 : decode b_Let_tellInto 76 = .ok (.iload 6, 2) := by decide +kernel
theorem d_Let_tellInto_78 : decode b_Let_tellInto 78 = .ok (.iconst 1, 1) := by decide +kernel
theorem d_Let_tellInto_79 : decode b_Let_tellInto 79 = .ok (.iadd, 1) := by decide +kernel
theorem d_Let_tellInto_80 : decode b_Let_tellInto 80 = .ok (.istore 5, 2) := by decide +kernel
theorem d_Let_tellInto_82 : decode b_Let_tellInto 82 = .ok (.iinc 6 1, 3) := by decide +kernel
theorem d_Let_tellInto_85 : decode b_Let_tellInto 85 = .ok (.goto (-56), 3) := by decide +kernel
theorem d_Let_tellInto_88 : decode b_Let_tellInto 88 = .ok (.iload 4, 2) := by decide +kernel
theorem d_Let_tellInto_90 : decode b_Let_tellInto 90 = .ok (.ireturn, 1) := by decide +kernel
theorem d_Num_append_0 : decode b_Num_append 0 = .ok (.aload_n 0, 1) := by decide +kernel
theorem d_Num_append_1 : decode b_Num_append 1 = .ok (.getfield 15, 3) := by decide +kernel
theorem d_Num_append_4 : decode b_Num_append 4 = .ok (.bipush 12, 2) := by decide +kernel
theorem d_Num_append_6 : decode b_Num_append 6 = .ok (.if_icmp .ge 23, 3) := by decide +kernel
theorem d_Num_append_9 : decode b_Num_append 9 = .ok (.aload_n 0, 1) := by decide +kernel
theorem d_Num_append_10 : decode b_Num_append 10 = .ok (.getfield 9, 3) := by decide +kernel
theorem d_Num_append_13 : decode b_Num_append 13 = .ok (.aload_n 0, 1) := by decide +kernel
theorem d_Num_append_14 : decode b_Num_append 14 = .ok (.getfield 15, 3) := by decide +kernel
theorem d_Num_append_17 : decode b_Num_append 17 = .ok (.iload_n 1, 1) := by decide +kernel
theorem d_Num_append_18 : decode b_Num_append 18 = .ok (.iastore, 1) := by decide +kernel
theorem d_Num_append_19 : decode b_Num_append 19 = .ok (.aload_n 0, 1) := by decide +kernel
theorem d_Num_append_20 : decode b_Num_append 20 = .ok (.dup, 1) := by decide +kernel
theorem d_Num_append_21 : decode b_Num_append 21 = .ok (.getfield 15, 3) := by decide +kernel
theorem d_Num_append_24 : decode b_Num_append 24 = .ok (.iconst 1, 1) := by decide +kernel
theorem d_Num_append_25 : decode b_Num_append 25 = .ok (.iadd, 1) := by decide +kernel
theorem d_Num_append_26 : decode b_Num_append 26 = .ok (.putfield 15, 3) := by decide +kernel
theorem d_Num_append_29 : decode b_Num_append 29 = .ok (.aload_n 0, 1) := by decide +kernel
theorem d_Num_append_30 : decode b_Num_append 30 = .ok (.getfield 15, 3) := by decide +kernel
theorem d_Num_append_33 : decode b_Num_append 33 = .ok (.ireturn, 1) := by decide +kernel
theorem d_Num_isSo_0 : decode b_Num_isSo 0 = .ok (.iconst 0, 1) := by decide +kernel
theorem d_Num_isSo_1 : decode b_Num_isSo 1 = .ok (.istore_n 3, 1) := by decide +kernel
theorem d_Num_isSo_2 : decode b_Num_isSo 2 = .ok (.iload_n 3, 1) := by decide +kernel
theorem d_Num_isSo_3 : decode b_Num_isSo 3 = .ok (.bipush 12, 2) := by decide +kernel
theorem d_Num_isSo_5 : decode b_Num_isSo 5 = .ok (.if_icmp .ge 56, 3) := by decide +kernel
theorem d_Num_isSo_8 : decode b_Num_isSo 8 = .ok (.iload_n 3, 1) := by decide +kernel
theorem d_Num_isSo_9 : decode b_Num_isSo 9 = .ok (.aload_n 0, 1) := by decide +kernel
theorem d_Num_isSo_10 : decode b_Num_isSo 10 = .ok (.getfield 15, 3) := by decide +kernel
theorem d_Num_isSo_13 : decode b_Num_isSo 13 = .ok (.if_icmp .ge 48, 3) := by decide +kernel
theorem d_Num_isSo_16 : decode b_Num_isSo 16 = .ok (.iload_n 1, 1) := by decide +kernel
theorem d_Num_isSo_17 : decode b_Num_isSo 17 = .ok (.iload_n 2, 1) := by decide +kernel
theorem d_Num_isSo_18 : decode b_Num_isSo 18 = .ok (.iload_n 3, 1) := by decide +kernel
theorem d_Num_isSo_19 : decode b_Num_isSo 19 = .ok (.invokestatic 19, 3) := by decide +kernel
theorem d_Num_isSo_22 : decode b_Num_isSo 22 = .ok (.ifCond .eq 7, 3) := by decide +kernel
theorem d_Num_isSo_25 : decode b_Num_isSo 25 = .ok (.iconst 1, 1) := by decide +kernel
theorem d_Num_isSo_26 : decode b_Num_isSo 26 = .ok (.goto 4, 3) := by decide +kernel
theorem d_Num_isSo_29 : decode b_Num_isSo 29 = .ok (.iconst 0, 1) := by decide +kernel
theorem d_Num_isSo_30 : decode b_Num_isSo 30 = .ok (.istore 4, 2) := by decide +kernel
theorem d_Num_isSo_32 : decode b_Num_isSo 32 = .ok (.aload_n 0, 1) := by decide +kernel
theorem d_Num_isSo_33 : decode b_Num_isSo 33 = .ok (.getfield 9, 3) := by decide +kernel
theorem d_Num_isSo_36 : decode b_Num_isSo 36 = .ok (.iload_n 3, 1) := by decide +kernel
theorem d_Num_isSo_37 : decode b_Num_isSo 37 = .ok (.iaload, 1) := by decide +kernel
theorem d_Num_isSo_38 : decode b_Num_isSo 38 = .ok (.iconst 2, 1) := by decide +kernel
theorem d_Num_isSo_39 : decode b_Num_isSo 39 = .ok (.if_icmp .eq 16, 3) := by decide +kernel
theorem d_Num_isSo_42 : decode b_Num_isSo 42 = .ok (.aload_n 0, 1) := by decide +kernel
theorem d_Num_isSo_43 : decode b_Num_isSo 43 = .ok (.getfield 9, 3) := by decide +kernel
theorem d_Num_isSo_46 : decode b_Num_isSo 46 = .ok (.iload_n 3, 1) := by decide +kernel
theorem d_Num_isSo_47 : decode b_Num_isSo 47 = .ok (.iaload, 1) := by decide +kernel
theorem d_Num_isSo_48 : decode b_Num_isSo 48 = .ok (.iload 4, 2) := by decide +kernel
theorem d_Num_isSo_50 : decode b_Num_isSo 50 = .ok (.if_icmp .eq 5, 3) := by decide +kernel
theorem d_Num_isSo_53 : decode b_Num_isSo 53 = .ok (.iconst 0, 1) := by decide +kernel
theorem d_Num_isSo_54 : decode b_Num_isSo 54 = .ok (.ireturn, 1) := by decide +kernel
theorem d_Num_isSo_55 : decode b_Num_isSo 55 = .ok (.iinc 3 1, 3) := by decide +kernel
theorem d_Num_isSo_58 : decode b_Num_isSo 58 = .ok (.goto (-56), 3) := by decide +kernel
theorem d_Num_isSo_61 : decode b_Num_isSo 61 = .ok (.iconst 1, 1) := by decide +kernel
theorem d_Num_isSo_62 : decode b_Num_isSo 62 = .ok (.ireturn, 1) := by decide +kernel
theorem d_Num_figuresSo_0 : decode b_Num_figuresSo 0 = .ok (.iconst 0, 1) := by decide +kernel
theorem d_Num_figuresSo_1 : decode b_Num_figuresSo 1 = .ok (.istore_n 2, 1) := by decide +kernel
theorem d_Num_figuresSo_2 : decode b_Num_figuresSo 2 = .ok (.iconst 0, 1) := by decide +kernel
theorem d_Num_figuresSo_3 : decode b_Num_figuresSo 3 = .ok (.istore_n 3, 1) := by decide +kernel
theorem d_Num_figuresSo_4 : decode b_Num_figuresSo 4 = .ok (.iload_n 3, 1) := by decide +kernel
theorem d_Num_figuresSo_5 : decode b_Num_figuresSo 5 = .ok (.bipush 9, 2) := by decide +kernel
theorem d_Num_figuresSo_7 : decode b_Num_figuresSo 7 = .ok (.if_icmp .gt 24, 3) := by decide +kernel
theorem d_Num_figuresSo_10 : decode b_Num_figuresSo 10 = .ok (.aload_n 0, 1) := by decide +kernel
theorem d_Num_figuresSo_11 : decode b_Num_figuresSo 11 = .ok (.iload_n 1, 1) := by decide +kernel
theorem d_Num_figuresSo_12 : decode b_Num_figuresSo 12 = .ok (.iload_n 3, 1) := by decide +kernel
theorem d_Num_figuresSo_13 : decode b_Num_figuresSo 13 = .ok (.invokevirtual 25, 3) := by decide +kernel
theorem d_Num_figuresSo_16 : decode b_Num_figuresSo 16 = .ok (.ifCond .eq 9, 3) := by decide +kernel
theorem d_Num_figuresSo_19 : decode b_Num_figuresSo 19 = .ok (.iload_n 2, 1) := by decide +kernel
theorem d_Num_figuresSo_20 : decode b_Num_figuresSo 20 = .ok (.iconst 1, 1) := by decide +kernel
theorem d_Num_figuresSo_21 : decode b_Num_figuresSo 21 = .ok (.iload_n 3, 1) := by decide +kernel
theorem d_Num_figuresSo_22 : decode b_Num_figuresSo 22 = .ok (.ishl, 1) := by decide +kernel
theorem d_Num_figuresSo_23 : decode b_Num_figuresSo 23 = .ok (.ior, 1) := by decide +kernel
theorem d_Num_figuresSo_24 : decode b_Num_figuresSo 24 = .ok (.istore_n 2, 1) := by decide +kernel
theorem d_Num_figuresSo_25 : decode b_Num_figuresSo 25 = .ok (.iinc 3 1, 3) := by decide +kernel
theorem d_Num_figuresSo_28 : decode b_Num_figuresSo 28 = .ok (.goto (-24), 3) := by decide +kernel
theorem d_Num_figuresSo_31 : decode b_Num_figuresSo 31 = .ok (.iload_n 2, 1) := by decide +kernel
theorem d_Num_figuresSo_32 : decode b_Num_figuresSo 32 = .ok (.ireturn, 1) := by decide +kernel
theorem d_Num_firstWrong_0 : decode b_Num_firstWrong 0 = .ok (.iconst 0, 1) := by decide +kernel
theorem d_Num_firstWrong_1 : decode b_Num_firstWrong 1 = .ok (.istore_n 2, 1) := by decide +kernel
theorem d_Num_firstWrong_2 : decode b_Num_firstWrong 2 = .ok (.iload_n 2, 1) := by decide +kernel
theorem d_Num_firstWrong_3 : decode b_Num_firstWrong 3 = .ok (.bipush 12, 2) := by decide +kernel
theorem d_Num_firstWrong_5 : decode b_Num_firstWrong 5 = .ok (.if_icmp .ge 58, 3) := by decide +kernel
theorem d_Num_firstWrong_8 : decode b_Num_firstWrong 8 = .ok (.iload_n 2, 1) := by decide +kernel
theorem d_Num_firstWrong_9 : decode b_Num_firstWrong 9 = .ok (.aload_n 0, 1) := by decide +kernel
theorem d_Num_firstWrong_10 : decode b_Num_firstWrong 10 = .ok (.getfield 15, 3) := by decide +kernel
theorem d_Num_firstWrong_13 : decode b_Num_firstWrong 13 = .ok (.if_icmp .ge 50, 3) := by decide +kernel
theorem d_Num_firstWrong_16 : decode b_Num_firstWrong 16 = .ok (.aload_n 1, 1) := by decide +kernel
theorem d_Num_firstWrong_17 : decode b_Num_firstWrong 17 = .ok (.iload_n 2, 1) := by decide +kernel
theorem d_Num_firstWrong_18 : decode b_Num_firstWrong 18 = .ok (.invokevirtual 29, 3) := by decide +kernel
theorem d_Num_firstWrong_21 : decode b_Num_firstWrong 21 = .ok (.istore_n 3, 1) := by decide +kernel
theorem d_Num_firstWrong_22 : decode b_Num_firstWrong 22 = .ok (.iload_n 3, 1) := by decide +kernel
theorem d_Num_firstWrong_23 : decode b_Num_firstWrong 23 = .ok (.bipush (-9), 2) := by decide +kernel
theorem d_Num_firstWrong_25 : decode b_Num_firstWrong 25 = .ok (.if_icmp .ne 8, 3) := by decide +kernel
theorem d_Num_firstWrong_28 : decode b_Num_firstWrong 28 = .ok (.bipush 9, 2) := by decide +kernel
theorem d_Num_firstWrong_30 : decode b_Num_firstWrong 30 = .ok (.goto 4, 3) := by decide +kernel
theorem d_Num_firstWrong_33 : decode b_Num_firstWrong 33 = .ok (.iload_n 3, 1) := by decide +kernel
theorem d_Num_firstWrong_34 : decode b_Num_firstWrong 34 = .ok (.istore 4, 2) := by decide +kernel
theorem d_Num_firstWrong_36 : decode b_Num_firstWrong 36 = .ok (.aload_n 1, 1) := by decide +kernel
theorem d_Num_firstWrong_37 : decode b_Num_firstWrong 37 = .ok (.iload_n 2, 1) := by decide +kernel
theorem d_Num_firstWrong_38 : decode b_Num_firstWrong 38 = .ok (.invokevirtual 35, 3) := by decide +kernel
theorem d_Num_firstWrong_41 : decode b_Num_firstWrong 41 = .ok (.ifCond .eq 14, 3) := by decide +kernel
theorem d_Num_firstWrong_44 : decode b_Num_firstWrong 44 = .ok (.aload_n 0, 1) := by decide +kernel
theorem d_Num_firstWrong_45 : decode b_Num_firstWrong 45 = .ok (.getfield 9, 3) := by decide +kernel
theorem d_Num_firstWrong_48 : decode b_Num_firstWrong 48 = .ok (.iload_n 2, 1) := by decide +kernel
theorem d_Num_firstWrong_49 : decode b_Num_firstWrong 49 = .ok (.iaload, 1) := by decide +kernel
theorem d_Num_firstWrong_50 : decode b_Num_firstWrong 50 = .ok (.iload 4, 2) := by decide +kernel
theorem d_Num_firstWrong_52 : decode b_Num_firstWrong 52 = .ok (.if_icmp .eq 5, 3) := by decide +kernel
theorem d_Num_firstWrong_55 : decode b_Num_firstWrong 55 = .ok (.iload_n 2, 1) := by decide +kernel
theorem d_Num_firstWrong_56 : decode b_Num_firstWrong 56 = .ok (.ireturn, 1) := by decide +kernel
theorem d_Num_firstWrong_57 : decode b_Num_firstWrong 57 = .ok (.iinc 2 1, 3) := by decide +kernel
theorem d_Num_firstWrong_60 : decode b_Num_firstWrong 60 = .ok (.goto (-58), 3) := by decide +kernel
theorem d_Num_firstWrong_63 : decode b_Num_firstWrong 63 = .ok (.bipush (-9), 2) := by decide +kernel
theorem d_Num_firstWrong_65 : decode b_Num_firstWrong 65 = .ok (.ireturn, 1) := by decide +kernel
theorem d_Num_kindsSo_0 : decode b_Num_kindsSo 0 = .ok (.iconst 0, 1) := by decide +kernel
theorem d_Num_kindsSo_1 : decode b_Num_kindsSo 1 = .ok (.istore_n 2, 1) := by decide +kernel
theorem d_Num_kindsSo_2 : decode b_Num_kindsSo 2 = .ok (.iconst 0, 1) := by decide +kernel
theorem d_Num_kindsSo_3 : decode b_Num_kindsSo 3 = .ok (.istore_n 3, 1) := by decide +kernel
theorem d_Num_kindsSo_4 : decode b_Num_kindsSo 4 = .ok (.iload_n 3, 1) := by decide +kernel
theorem d_Num_kindsSo_5 : decode b_Num_kindsSo 5 = .ok (.bipush 6, 2) := by decide +kernel
theorem d_Num_kindsSo_7 : decode b_Num_kindsSo 7 = .ok (.if_icmp .ge 24, 3) := by decide +kernel
theorem d_Num_kindsSo_10 : decode b_Num_kindsSo 10 = .ok (.aload_n 0, 1) := by decide +kernel
theorem d_Num_kindsSo_11 : decode b_Num_kindsSo 11 = .ok (.iload_n 3, 1) := by decide +kernel
theorem d_Num_kindsSo_12 : decode b_Num_kindsSo 12 = .ok (.iload_n 1, 1) := by decide +kernel
theorem d_Num_kindsSo_13 : decode b_Num_kindsSo 13 = .ok (.invokevirtual 25, 3) := by decide +kernel
theorem d_Num_kindsSo_16 : decode b_Num_kindsSo 16 = .ok (.ifCond .eq 9, 3) := by decide +kernel
theorem d_Num_kindsSo_19 : decode b_Num_kindsSo 19 = .ok (.iload_n 2, 1) := by decide +kernel
theorem d_Num_kindsSo_20 : decode b_Num_kindsSo 20 = .ok (.iconst 1, 1) := by decide +kernel
theorem d_Num_kindsSo_21 : decode b_Num_kindsSo 21 = .ok (.iload_n 3, 1) := by decide +kernel
theorem d_Num_kindsSo_22 : decode b_Num_kindsSo 22 = .ok (.ishl, 1) := by decide +kernel
theorem d_Num_kindsSo_23 : decode b_Num_kindsSo 23 = .ok (.ior, 1) := by decide +kernel
theorem d_Num_kindsSo_24 : decode b_Num_kindsSo 24 = .ok (.istore_n 2, 1) := by decide +kernel
theorem d_Num_kindsSo_25 : decode b_Num_kindsSo 25 = .ok (.iinc 3 1, 3) := by decide +kernel
theorem d_Num_kindsSo_28 : decode b_Num_kindsSo 28 = .ok (.goto (-24), 3) := by decide +kernel
theorem d_Num_kindsSo_31 : decode b_Num_kindsSo 31 = .ok (.iload_n 2, 1) := by decide +kernel
theorem d_Num_kindsSo_32 : decode b_Num_kindsSo 32 = .ok (.ireturn, 1) := by decide +kernel
theorem d_Num_tellOfWeathers_0 : decode b_Num_tellOfWeathers 0 = .ok (.aload_n 0, 1) := by decide +kernel
theorem d_Num_tellOfWeathers_1 : decode b_Num_tellOfWeathers 1 = .ok (.getfield 15, 3) := by decide +kernel
theorem d_Num_tellOfWeathers_4 : decode b_Num_tellOfWeathers 4 = .ok (.bipush 6, 2) := by decide +kernel
theorem d_Num_tellOfWeathers_6 : decode b_Num_tellOfWeathers 6 = .ok (.if_icmp .le 5, 3) := by decide +kernel
theorem d_Num_tellOfWeathers_9 : decode b_Num_tellOfWeathers 9 = .ok (.iconst 0, 1) := by decide +kernel
theorem d_Num_tellOfWeathers_10 : decode b_Num_tellOfWeathers 10 = .ok (.ireturn, 1) := by decide +kernel
theorem d_Num_tellOfWeathers_11 : decode b_Num_tellOfWeathers 11 = .ok (.iconst 0, 1) := by decide +kernel
theorem d_Num_tellOfWeathers_12 : decode b_Num_tellOfWeathers 12 = .ok (.istore_n 1, 1) := by decide +kernel
theorem d_Num_tellOfWeathers_13 : decode b_Num_tellOfWeathers 13 = .ok (.iload_n 1, 1) := by decide +kernel
theorem d_Num_tellOfWeathers_14 : decode b_Num_tellOfWeathers 14 = .ok (.bipush 12, 2) := by decide +kernel
theorem d_Num_tellOfWeathers_16 : decode b_Num_tellOfWeathers 16 = .ok (.if_icmp .ge 29, 3) := by decide +kernel
theorem d_Num_tellOfWeathers_19 : decode b_Num_tellOfWeathers 19 = .ok (.iload_n 1, 1) := by decide +kernel
theorem d_Num_tellOfWeathers_20 : decode b_Num_tellOfWeathers 20 = .ok (.aload_n 0, 1) := by decide +kernel
theorem d_Num_tellOfWeathers_21 : decode b_Num_tellOfWeathers 21 = .ok (.getfield 15, 3) := by decide +kernel
theorem d_Num_tellOfWeathers_24 : decode b_Num_tellOfWeathers 24 = .ok (.if_icmp .ge 21, 3) := by decide +kernel
theorem d_Num_tellOfWeathers_27 : decode b_Num_tellOfWeathers 27 = .ok (.aload_n 0, 1) := by decide +kernel
theorem d_Num_tellOfWeathers_28 : decode b_Num_tellOfWeathers 28 = .ok (.getfield 9, 3) := by decide +kernel
theorem d_Num_tellOfWeathers_31 : decode b_Num_tellOfWeathers 31 = .ok (.iload_n 1, 1) := by decide +kernel
theorem d_Num_tellOfWeathers_32 : decode b_Num_tellOfWeathers 32 = .ok (.iaload, 1) := by decide +kernel
theorem d_Num_tellOfWeathers_33 : decode b_Num_tellOfWeathers 33 = .ok (.iconst 2, 1) := by decide +kernel
theorem d_Num_tellOfWeathers_34 : decode b_Num_tellOfWeathers 34 = .ok (.if_icmp .le 5, 3) := by decide +kernel
theorem d_Num_tellOfWeathers_37 : decode b_Num_tellOfWeathers 37 = .ok (.iconst 0, 1) := by decide +kernel
theorem d_Num_tellOfWeathers_38 : decode b_Num_tellOfWeathers 38 = .ok (.ireturn, 1) := by decide +kernel
theorem d_Num_tellOfWeathers_39 : decode b_Num_tellOfWeathers 39 = .ok (.iinc 1 1, 3) := by decide +kernel
theorem d_Num_tellOfWeathers_42 : decode b_Num_tellOfWeathers 42 = .ok (.goto (-29), 3) := by decide +kernel
theorem d_Num_tellOfWeathers_45 : decode b_Num_tellOfWeathers 45 = .ok (.iconst 1, 1) := by decide +kernel
theorem d_Num_tellOfWeathers_46 : decode b_Num_tellOfWeathers 46 = .ok (.ireturn, 1) := by decide +kernel
theorem d_Sta_weightOfAll_0 : decode b_Sta_weightOfAll 0 = .ok (.iconst 0, 1) := by decide +kernel
theorem d_Sta_weightOfAll_1 : decode b_Sta_weightOfAll 1 = .ok (.istore_n 2, 1) := by decide +kernel
theorem d_Sta_weightOfAll_2 : decode b_Sta_weightOfAll 2 = .ok (.iconst 0, 1) := by decide +kernel
theorem d_Sta_weightOfAll_3 : decode b_Sta_weightOfAll 3 = .ok (.istore_n 3, 1) := by decide +kernel
theorem d_Sta_weightOfAll_4 : decode b_Sta_weightOfAll 4 = .ok (.iload_n 3, 1) := by decide +kernel
theorem d_Sta_weightOfAll_5 : decode b_Sta_weightOfAll 5 = .ok (.bipush 6, 2) := by decide +kernel
theorem d_Sta_weightOfAll_7 : decode b_Sta_weightOfAll 7 = .ok (.if_icmp .ge 26, 3) := by decide +kernel
theorem d_Sta_weightOfAll_10 : decode b_Sta_weightOfAll 10 = .ok (.iload_n 1, 1) := by decide +kernel
theorem d_Sta_weightOfAll_11 : decode b_Sta_weightOfAll 11 = .ok (.iload_n 3, 1) := by decide +kernel
theorem d_Sta_weightOfAll_12 : decode b_Sta_weightOfAll 12 = .ok (.invokestatic 77, 3) := by decide +kernel
theorem d_Sta_weightOfAll_15 : decode b_Sta_weightOfAll 15 = .ok (.ifCond .eq 12, 3) := by decide +kernel
theorem d_Sta_weightOfAll_18 : decode b_Sta_weightOfAll 18 = .ok (.iload_n 2, 1) := by decide +kernel
theorem d_Sta_weightOfAll_19 : decode b_Sta_weightOfAll 19 = .ok (.aload_n 0, 1) := by decide +kernel
theorem d_Sta_weightOfAll_20 : decode b_Sta_weightOfAll 20 = .ok (.getfield 9, 3) := by decide +kernel
theorem d_Sta_weightOfAll_23 : decode b_Sta_weightOfAll 23 = .ok (.iload_n 3, 1) := by decide +kernel
theorem d_Sta_weightOfAll_24 : decode b_Sta_weightOfAll 24 = .ok (.iaload, 1) := by decide +kernel
theorem d_Sta_weightOfAll_25 : decode b_Sta_weightOfAll 25 = .ok (.iadd, 1) := by decide +kernel
theorem d_Sta_weightOfAll_26 : decode b_Sta_weightOfAll 26 = .ok (.istore_n 2, 1) := by decide +kernel
theorem d_Sta_weightOfAll_27 : decode b_Sta_weightOfAll 27 = .ok (.iinc 3 1, 3) := by decide +kernel
theorem d_Sta_weightOfAll_30 : decode b_Sta_weightOfAll 30 = .ok (.goto (-26), 3) := by decide +kernel
theorem d_Sta_weightOfAll_33 : decode b_Sta_weightOfAll 33 = .ok (.iload_n 2, 1) := by decide +kernel
theorem d_Sta_weightOfAll_34 : decode b_Sta_weightOfAll 34 = .ok (.ireturn, 1) := by decide +kernel
theorem d_Set_bestTeller_0 : decode b_Set_bestTeller 0 = .ok (.bipush (-9), 2) := by decide +kernel
theorem d_Set_bestTeller_2 : decode b_Set_bestTeller 2 = .ok (.istore_n 1, 1) := by decide +kernel
theorem d_Set_bestTeller_3 : decode b_Set_bestTeller 3 = .ok (.iconst 0, 1) := by decide +kernel
theorem d_Set_bestTeller_4 : decode b_Set_bestTeller 4 = .ok (.istore_n 2, 1) := by decide +kernel
theorem d_Set_bestTeller_5 : decode b_Set_bestTeller 5 = .ok (.iconst 0, 1) := by decide +kernel
theorem d_Set_bestTeller_6 : decode b_Set_bestTeller 6 = .ok (.istore_n 3, 1) := by decide +kernel
theorem d_Set_bestTeller_7 : decode b_Set_bestTeller 7 = .ok (.iload_n 3, 1) := by decide +kernel
theorem d_Set_bestTeller_8 : decode b_Set_bestTeller 8 = .ok (.bipush 8, 2) := by decide +kernel
theorem d_Set_bestTeller_10 : decode b_Set_bestTeller 10 = .ok (.if_icmp .ge 73, 3) := by decide +kernel
theorem d_Set_bestTeller_13 : decode b_Set_bestTeller 13 = .ok (.iload_n 3, 1) := by decide +kernel
theorem d_Set_bestTeller_14 : decode b_Set_bestTeller 14 = .ok (.aload_n 0, 1) := by decide +kernel
theorem d_Set_bestTeller_15 : decode b_Set_bestTeller 15 = .ok (.getfield 35, 3) := by decide +kernel
theorem d_Set_bestTeller_18 : decode b_Set_bestTeller 18 = .ok (.if_icmp .ge 65, 3) := by decide +kernel
theorem d_Set_bestTeller_21 : decode b_Set_bestTeller 21 = .ok (.aload_n 0, 1) := by decide +kernel
theorem d_Set_bestTeller_22 : decode b_Set_bestTeller 22 = .ok (.aload_n 0, 1) := by decide +kernel
theorem d_Set_bestTeller_23 : decode b_Set_bestTeller 23 = .ok (.getfield 39, 3) := by decide +kernel
theorem d_Set_bestTeller_26 : decode b_Set_bestTeller 26 = .ok (.iload_n 3, 1) := by decide +kernel
theorem d_Set_bestTeller_27 : decode b_Set_bestTeller 27 = .ok (.iaload, 1) := by decide +kernel
theorem d_Set_bestTeller_28 : decode b_Set_bestTeller 28 = .ok (.invokevirtual 43, 3) := by decide +kernel
theorem d_Set_bestTeller_31 : decode b_Set_bestTeller 31 = .ok (.istore 4, 2) := by decide +kernel
theorem d_Set_bestTeller_33 : decode b_Set_bestTeller 33 = .ok (.aload_n 0, 1) := by decide +kernel
theorem d_Set_bestTeller_34 : decode b_Set_bestTeller 34 = .ok (.bipush 63, 2) := by decide +kernel
theorem d_Set_bestTeller_36 : decode b_Set_bestTeller 36 = .ok (.aload_n 0, 1) := by decide +kernel
theorem d_Set_bestTeller_37 : decode b_Set_bestTeller 37 = .ok (.getfield 39, 3) := by decide +kernel
theorem d_Set_bestTeller_40 : decode b_Set_bestTeller 40 = .ok (.iload_n 3, 1) := by decide +kernel
theorem d_Set_bestTeller_41 : decode b_Set_bestTeller 41 = .ok (.iaload, 1) := by decide +kernel
theorem d_Set_bestTeller_42 : decode b_Set_bestTeller 42 = .ok (.iconst (-1), 1) := by decide +kernel
theorem d_Set_bestTeller_43 : decode b_Set_bestTeller 43 = .ok (.ixor, 1) := by decide +kernel
theorem d_Set_bestTeller_44 : decode b_Set_bestTeller 44 = .ok (.iand, 1) := by decide +kernel
theorem d_Set_bestTeller_45 : decode b_Set_bestTeller 45 = .ok (.invokevirtual 43, 3) := by decide +kernel
theorem d_Set_bestTeller_48 : decode b_Set_bestTeller 48 = .ok (.istore 5, 2) := by decide +kernel
theorem d_Set_bestTeller_50 : decode b_Set_bestTeller 50 = .ok (.iload 4, 2) := by decide +kernel
theorem d_Set_bestTeller_52 : decode b_Set_bestTeller 52 = .ok (.iload 5, 2) := by decide +kernel
theorem d_Set_bestTeller_54 : decode b_Set_bestTeller 54 = .ok (.isub, 1) := by decide +kernel
theorem d_Set_bestTeller_55 : decode b_Set_bestTeller 55 = .ok (.invokestatic 46, 3) := by decide +kernel
theorem d_Set_bestTeller_58 : decode b_Set_bestTeller 58 = .ok (.istore 6, 2) := by decide +kernel
theorem d_Set_bestTeller_60 : decode b_Set_bestTeller 60 = .ok (.iload_n 1, 1) := by decide +kernel
theorem d_Set_bestTeller_61 : decode b_Set_bestTeller 61 = .ok (.bipush (-9), 2) := by decide +kernel
theorem d_Set_bestTeller_63 : decode b_Set_bestTeller 63 = .ok (.if_icmp .eq 9, 3) := by decide +kernel
theorem d_Set_bestTeller_66 : decode b_Set_bestTeller 66 = .ok (.iload 6, 2) := by decide +kernel
theorem d_Set_bestTeller_68 : decode b_Set_bestTeller 68 = .ok (.iload_n 2, 1) := by decide +kernel
theorem d_Set_bestTeller_69 : decode b_Set_bestTeller 69 = .ok (.if_icmp .ge 8, 3) := by decide +kernel
theorem d_Set_bestTeller_72 : decode b_Set_bestTeller 72 = .ok (.iload_n 3, 1) := by decide +kernel
theorem d_Set_bestTeller_73 : decode b_Set_bestTeller 73 = .ok (.istore_n 1, 1) := by decide +kernel
theorem d_Set_bestTeller_74 : decode b_Set_bestTeller 74 = .ok (.iload 6, 2) := by decide +kernel
theorem d_Set_bestTeller_76 : decode b_Set_bestTeller 76 = .ok (.istore_n 2, 1) := by decide +kernel
theorem d_Set_bestTeller_77 : decode b_Set_bestTeller 77 = .ok (.iinc 3 1, 3) := by decide +kernel
theorem d_Set_bestTeller_80 : decode b_Set_bestTeller 80 = .ok (.goto (-73), 3) := by decide +kernel
theorem d_Set_bestTeller_83 : decode b_Set_bestTeller 83 = .ok (.iload_n 1, 1) := by decide +kernel
theorem d_Set_bestTeller_84 : decode b_Set_bestTeller 84 = .ok (.ireturn, 1) := by decide +kernel
theorem d_Set_fewest_0 : decode b_Set_fewest 0 = .ok (.bipush (-9), 2) := by decide +kernel
theorem d_Set_fewest_2 : decode b_Set_fewest 2 = .ok (.istore_n 3, 1) := by decide +kernel
theorem d_Set_fewest_3 : decode b_Set_fewest 3 = .ok (.bipush 9, 2) := by decide +kernel
theorem d_Set_fewest_5 : decode b_Set_fewest 5 = .ok (.istore 4, 2) := by decide +kernel
theorem d_Set_fewest_7 : decode b_Set_fewest 7 = .ok (.iconst 0, 1) := by decide +kernel
theorem d_Set_fewest_8 : decode b_Set_fewest 8 = .ok (.istore 5, 2) := by decide +kernel
theorem d_Set_fewest_10 : decode b_Set_fewest 10 = .ok (.iload 5, 2) := by decide +kernel
theorem d_Set_fewest_12 : decode b_Set_fewest 12 = .ok (.aload_n 0, 1) := by decide +kernel
theorem d_Set_fewest_13 : decode b_Set_fewest 13 = .ok (.invokevirtual 9, 3) := by decide +kernel
theorem d_Set_fewest_16 : decode b_Set_fewest 16 = .ok (.if_icmp .gt 48, 3) := by decide +kernel
theorem d_Set_fewest_19 : decode b_Set_fewest 19 = .ok (.iload 5, 2) := by decide +kernel
theorem d_Set_fewest_21 : decode b_Set_fewest 21 = .ok (.iload_n 1, 1) := by decide +kernel
theorem d_Set_fewest_22 : decode b_Set_fewest 22 = .ok (.iconst (-1), 1) := by decide +kernel
theorem d_Set_fewest_23 : decode b_Set_fewest 23 = .ok (.ixor, 1) := by decide +kernel
theorem d_Set_fewest_24 : decode b_Set_fewest 24 = .ok (.iand, 1) := by decide +kernel
theorem d_Set_fewest_25 : decode b_Set_fewest 25 = .ok (.ifCond .ne 33, 3) := by decide +kernel
theorem d_Set_fewest_28 : decode b_Set_fewest 28 = .ok (.iload 5, 2) := by decide +kernel
theorem d_Set_fewest_30 : decode b_Set_fewest 30 = .ok (.invokestatic 15, 3) := by decide +kernel
theorem d_Set_fewest_33 : decode b_Set_fewest 33 = .ok (.iload 4, 2) := by decide +kernel
theorem d_Set_fewest_35 : decode b_Set_fewest 35 = .ok (.if_icmp .ge 23, 3) := by decide +kernel
theorem d_Set_fewest_38 : decode b_Set_fewest 38 = .ok (.aload_n 0, 1) := by decide +kernel
theorem d_Set_fewest_39 : decode b_Set_fewest 39 = .ok (.iload 5, 2) := by decide +kernel
theorem d_Set_fewest_41 : decode b_Set_fewest 41 = .ok (.invokevirtual 21, 3) := by decide +kernel
theorem d_Set_fewest_44 : decode b_Set_fewest 44 = .ok (.iload_n 2, 1) := by decide +kernel
theorem d_Set_fewest_45 : decode b_Set_fewest 45 = .ok (.if_icmp .ne 13, 3) := by decide +kernel
theorem d_Set_fewest_48 : decode b_Set_fewest 48 = .ok (.iload 5, 2) := by decide +kernel
theorem d_Set_fewest_50 : decode b_Set_fewest 50 = .ok (.istore_n 3, 1) := by decide +kernel
theorem d_Set_fewest_51 : decode b_Set_fewest 51 = .ok (.iload 5, 2) := by decide +kernel
theorem d_Set_fewest_53 : decode b_Set_fewest 53 = .ok (.invokestatic 15, 3) := by decide +kernel
theorem d_Set_fewest_56 : decode b_Set_fewest 56 = .ok (.istore 4, 2) := by decide +kernel
theorem d_Set_fewest_58 : decode b_Set_fewest 58 = .ok (.iinc 5 1, 3) := by decide +kernel
theorem d_Set_fewest_61 : decode b_Set_fewest 61 = .ok (.goto (-51), 3) := by decide +kernel
theorem d_Set_fewest_64 : decode b_Set_fewest 64 = .ok (.iload_n 3, 1) := by decide +kernel
theorem d_Set_fewest_65 : decode b_Set_fewest 65 = .ok (.ireturn, 1) := by decide +kernel
theorem d_Set_leastHeavy_0 : decode b_Set_leastHeavy 0 = .ok (.bipush (-9), 2) := by decide +kernel
theorem d_Set_leastHeavy_2 : decode b_Set_leastHeavy 2 = .ok (.istore_n 2, 1) := by decide +kernel
theorem d_Set_leastHeavy_3 : decode b_Set_leastHeavy 3 = .ok (.iconst 0, 1) := by decide +kernel
theorem d_Set_leastHeavy_4 : decode b_Set_leastHeavy 4 = .ok (.istore_n 3, 1) := by decide +kernel
theorem d_Set_leastHeavy_5 : decode b_Set_leastHeavy 5 = .ok (.iload_n 3, 1) := by decide +kernel
theorem d_Set_leastHeavy_6 : decode b_Set_leastHeavy 6 = .ok (.aload_n 0, 1) := by decide +kernel
theorem d_Set_leastHeavy_7 : decode b_Set_leastHeavy 7 = .ok (.invokevirtual 9, 3) := by decide +kernel
theorem d_Set_leastHeavy_10 : decode b_Set_leastHeavy 10 = .ok (.if_icmp .gt 51, 3) := by decide +kernel
theorem d_Set_leastHeavy_13 : decode b_Set_leastHeavy 13 = .ok (.iload_n 2, 1) := by decide +kernel
theorem d_Set_leastHeavy_14 : decode b_Set_leastHeavy 14 = .ok (.bipush (-9), 2) := by decide +kernel
theorem d_Set_leastHeavy_16 : decode b_Set_leastHeavy 16 = .ok (.if_icmp .eq 16, 3) := by decide +kernel
theorem d_Set_leastHeavy_19 : decode b_Set_leastHeavy 19 = .ok (.aload_n 0, 1) := by decide +kernel
theorem d_Set_leastHeavy_20 : decode b_Set_leastHeavy 20 = .ok (.iload_n 3, 1) := by decide +kernel
theorem d_Set_leastHeavy_21 : decode b_Set_leastHeavy 21 = .ok (.invokevirtual 24, 3) := by decide +kernel
theorem d_Set_leastHeavy_24 : decode b_Set_leastHeavy 24 = .ok (.aload_n 0, 1) := by decide +kernel
theorem d_Set_leastHeavy_25 : decode b_Set_leastHeavy 25 = .ok (.iload_n 2, 1) := by decide +kernel
theorem d_Set_leastHeavy_26 : decode b_Set_leastHeavy 26 = .ok (.invokevirtual 24, 3) := by decide +kernel
theorem d_Set_leastHeavy_29 : decode b_Set_leastHeavy 29 = .ok (.if_icmp .ge 7, 3) := by decide +kernel
theorem d_Set_leastHeavy_32 : decode b_Set_leastHeavy 32 = .ok (.iconst 1, 1) := by decide +kernel
theorem d_Set_leastHeavy_33 : decode b_Set_leastHeavy 33 = .ok (.goto 4, 3) := by decide +kernel
theorem d_Set_leastHeavy_36 : decode b_Set_leastHeavy 36 = .ok (.iconst 0, 1) := by decide +kernel
theorem d_Set_leastHeavy_37 : decode b_Set_leastHeavy 37 = .ok (.istore 4, 2) := by decide +kernel
theorem d_Set_leastHeavy_39 : decode b_Set_leastHeavy 39 = .ok (.iload 4, 2) := by decide +kernel
theorem d_Set_leastHeavy_41 : decode b_Set_leastHeavy 41 = .ok (.ifCond .eq 14, 3) := by decide +kernel
theorem d_Set_leastHeavy_44 : decode b_Set_leastHeavy 44 = .ok (.aload_n 0, 1) := by decide +kernel
theorem d_Set_leastHeavy_45 : decode b_Set_leastHeavy 45 = .ok (.iload_n 3, 1) := by decide +kernel
theorem d_Set_leastHeavy_46 : decode b_Set_leastHeavy 46 = .ok (.invokevirtual 21, 3) := by decide +kernel
theorem d_Set_leastHeavy_49 : decode b_Set_leastHeavy 49 = .ok (.iload_n 1, 1) := by decide +kernel
theorem d_Set_leastHeavy_50 : decode b_Set_leastHeavy 50 = .ok (.if_icmp .ne 5, 3) := by decide +kernel
theorem d_Set_leastHeavy_53 : decode b_Set_leastHeavy 53 = .ok (.iload_n 3, 1) := by decide +kernel
theorem d_Set_leastHeavy_54 : decode b_Set_leastHeavy 54 = .ok (.istore_n 2, 1) := by decide +kernel
theorem d_Set_leastHeavy_55 : decode b_Set_leastHeavy 55 = .ok (.iinc 3 1, 3) := by decide +kernel
theorem d_Set_leastHeavy_58 : decode b_Set_leastHeavy 58 = .ok (.goto (-53), 3) := by decide +kernel
theorem d_Set_leastHeavy_61 : decode b_Set_leastHeavy 61 = .ok (.iload_n 2, 1) := by decide +kernel
theorem d_Set_leastHeavy_62 : decode b_Set_leastHeavy 62 = .ok (.ireturn, 1) := by decide +kernel
theorem d_Sta_dearOf_0 : decode b_Sta_dearOf 0 = .ok (.iconst 0, 1) := by decide +kernel
theorem d_Sta_dearOf_1 : decode b_Sta_dearOf 1 = .ok (.istore_n 2, 1) := by decide +kernel
theorem d_Sta_dearOf_2 : decode b_Sta_dearOf 2 = .ok (.iconst 0, 1) := by decide +kernel
theorem d_Sta_dearOf_3 : decode b_Sta_dearOf 3 = .ok (.istore_n 3, 1) := by decide +kernel
theorem d_Sta_dearOf_4 : decode b_Sta_dearOf 4 = .ok (.iload_n 3, 1) := by decide +kernel
theorem d_Sta_dearOf_5 : decode b_Sta_dearOf 5 = .ok (.bipush 8, 2) := by decide +kernel
theorem d_Sta_dearOf_7 : decode b_Sta_dearOf 7 = .ok (.if_icmp .ge 35, 3) := by decide +kernel
theorem d_Sta_dearOf_10 : decode b_Sta_dearOf 10 = .ok (.iload_n 1, 1) := by decide +kernel
theorem d_Sta_dearOf_11 : decode b_Sta_dearOf 11 = .ok (.iload_n 3, 1) := by decide +kernel
theorem d_Sta_dearOf_12 : decode b_Sta_dearOf 12 = .ok (.invokestatic 77, 3) := by decide +kernel
theorem d_Sta_dearOf_15 : decode b_Sta_dearOf 15 = .ok (.ifCond .eq 21, 3) := by decide +kernel
theorem d_Sta_dearOf_18 : decode b_Sta_dearOf 18 = .ok (.iload_n 2, 1) := by decide +kernel
theorem d_Sta_dearOf_19 : decode b_Sta_dearOf 19 = .ok (.aload_n 0, 1) := by decide +kernel
theorem d_Sta_dearOf_20 : decode b_Sta_dearOf 20 = .ok (.getfield 15, 3) := by decide +kernel
theorem d_Sta_dearOf_23 : decode b_Sta_dearOf 23 = .ok (.iload_n 3, 1) := by decide +kernel
theorem d_Sta_dearOf_24 : decode b_Sta_dearOf 24 = .ok (.iaload, 1) := by decide +kernel
theorem d_Sta_dearOf_25 : decode b_Sta_dearOf 25 = .ok (.aload_n 0, 1) := by decide +kernel
theorem d_Sta_dearOf_26 : decode b_Sta_dearOf 26 = .ok (.getfield 18, 3) := by decide +kernel
theorem d_Sta_dearOf_29 : decode b_Sta_dearOf 29 = .ok (.iload_n 3, 1) := by decide +kernel
theorem d_Sta_dearOf_30 : decode b_Sta_dearOf 30 = .ok (.iaload, 1) := by decide +kernel
theorem d_Sta_dearOf_31 : decode b_Sta_dearOf 31 = .ok (.invokestatic 88, 3) := by decide +kernel
theorem d_Sta_dearOf_34 : decode b_Sta_dearOf 34 = .ok (.iadd, 1) := by decide +kernel
theorem d_Sta_dearOf_35 : decode b_Sta_dearOf 35 = .ok (.istore_n 2, 1) := by decide +kernel
theorem d_Sta_dearOf_36 : decode b_Sta_dearOf 36 = .ok (.iinc 3 1, 3) := by decide +kernel
theorem d_Sta_dearOf_39 : decode b_Sta_dearOf 39 = .ok (.goto (-35), 3) := by decide +kernel
theorem d_Sta_dearOf_42 : decode b_Sta_dearOf 42 = .ok (.iload_n 2, 1) := by decide +kernel
theorem d_Sta_dearOf_43 : decode b_Sta_dearOf 43 = .ok (.ireturn, 1) := by decide +kernel
theorem d_Set_mostDear_0 : decode b_Set_mostDear 0 = .ok (.bipush (-9), 2) := by decide +kernel
theorem d_Set_mostDear_2 : decode b_Set_mostDear 2 = .ok (.istore_n 2, 1) := by decide +kernel
theorem d_Set_mostDear_3 : decode b_Set_mostDear 3 = .ok (.iconst 0, 1) := by decide +kernel
theorem d_Set_mostDear_4 : decode b_Set_mostDear 4 = .ok (.istore_n 3, 1) := by decide +kernel
theorem d_Set_mostDear_5 : decode b_Set_mostDear 5 = .ok (.iload_n 3, 1) := by decide +kernel
theorem d_Set_mostDear_6 : decode b_Set_mostDear 6 = .ok (.aload_n 0, 1) := by decide +kernel
theorem d_Set_mostDear_7 : decode b_Set_mostDear 7 = .ok (.invokevirtual 9, 3) := by decide +kernel
theorem d_Set_mostDear_10 : decode b_Set_mostDear 10 = .ok (.if_icmp .gt 51, 3) := by decide +kernel
theorem d_Set_mostDear_13 : decode b_Set_mostDear 13 = .ok (.iload_n 2, 1) := by decide +kernel
theorem d_Set_mostDear_14 : decode b_Set_mostDear 14 = .ok (.bipush (-9), 2) := by decide +kernel
theorem d_Set_mostDear_16 : decode b_Set_mostDear 16 = .ok (.if_icmp .eq 16, 3) := by decide +kernel
theorem d_Set_mostDear_19 : decode b_Set_mostDear 19 = .ok (.aload_n 0, 1) := by decide +kernel
theorem d_Set_mostDear_20 : decode b_Set_mostDear 20 = .ok (.iload_n 3, 1) := by decide +kernel
theorem d_Set_mostDear_21 : decode b_Set_mostDear 21 = .ok (.invokevirtual 27, 3) := by decide +kernel
theorem d_Set_mostDear_24 : decode b_Set_mostDear 24 = .ok (.aload_n 0, 1) := by decide +kernel
theorem d_Set_mostDear_25 : decode b_Set_mostDear 25 = .ok (.iload_n 2, 1) := by decide +kernel
theorem d_Set_mostDear_26 : decode b_Set_mostDear 26 = .ok (.invokevirtual 27, 3) := by decide +kernel
theorem d_Set_mostDear_29 : decode b_Set_mostDear 29 = .ok (.if_icmp .le 7, 3) := by decide +kernel
theorem d_Set_mostDear_32 : decode b_Set_mostDear 32 = .ok (.iconst 1, 1) := by decide +kernel
theorem d_Set_mostDear_33 : decode b_Set_mostDear 33 = .ok (.goto 4, 3) := by decide +kernel
theorem d_Set_mostDear_36 : decode b_Set_mostDear 36 = .ok (.iconst 0, 1) := by decide +kernel
theorem d_Set_mostDear_37 : decode b_Set_mostDear 37 = .ok (.istore 4, 2) := by decide +kernel
theorem d_Set_mostDear_39 : decode b_Set_mostDear 39 = .ok (.iload 4, 2) := by decide +kernel
theorem d_Set_mostDear_41 : decode b_Set_mostDear 41 = .ok (.ifCond .eq 14, 3) := by decide +kernel
theorem d_Set_mostDear_44 : decode b_Set_mostDear 44 = .ok (.aload_n 0, 1) := by decide +kernel
theorem d_Set_mostDear_45 : decode b_Set_mostDear 45 = .ok (.iload_n 3, 1) := by decide +kernel
theorem d_Set_mostDear_46 : decode b_Set_mostDear 46 = .ok (.invokevirtual 21, 3) := by decide +kernel
theorem d_Set_mostDear_49 : decode b_Set_mostDear 49 = .ok (.iload_n 1, 1) := by decide +kernel
theorem d_Set_mostDear_50 : decode b_Set_mostDear 50 = .ok (.if_icmp .ne 5, 3) := by decide +kernel
theorem d_Set_mostDear_53 : decode b_Set_mostDear 53 = .ok (.iload_n 3, 1) := by decide +kernel
theorem d_Set_mostDear_54 : decode b_Set_mostDear 54 = .ok (.istore_n 2, 1) := by decide +kernel
theorem d_Set_mostDear_55 : decode b_Set_mostDear 55 = .ok (.iinc 3 1, 3) := by decide +kernel
theorem d_Set_mostDear_58 : decode b_Set_mostDear 58 = .ok (.goto (-53), 3) := by decide +kernel
theorem d_Set_mostDear_61 : decode b_Set_mostDear 61 = .ok (.iload_n 2, 1) := by decide +kernel
theorem d_Set_mostDear_62 : decode b_Set_mostDear 62 = .ok (.ireturn, 1) := by decide +kernel
theorem d_Set_nearestTwo_0 : decode b_Set_nearestTwo 0 = .ok (.bipush (-9), 2) := by decide +kernel
theorem d_Set_nearestTwo_2 : decode b_Set_nearestTwo 2 = .ok (.istore_n 1, 1) := by decide +kernel
theorem d_Set_nearestTwo_3 : decode b_Set_nearestTwo 3 = .ok (.bipush 7, 2) := by decide +kernel
theorem d_Set_nearestTwo_5 : decode b_Set_nearestTwo 5 = .ok (.istore_n 2, 1) := by decide +kernel
theorem d_Set_nearestTwo_6 : decode b_Set_nearestTwo 6 = .ok (.iconst 0, 1) := by decide +kernel
theorem d_Set_nearestTwo_7 : decode b_Set_nearestTwo 7 = .ok (.istore_n 3, 1) := by decide +kernel
theorem d_Set_nearestTwo_8 : decode b_Set_nearestTwo 8 = .ok (.iload_n 3, 1) := by decide +kernel
theorem d_Set_nearestTwo_9 : decode b_Set_nearestTwo 9 = .ok (.bipush 8, 2) := by decide +kernel
theorem d_Set_nearestTwo_11 : decode b_Set_nearestTwo 11 = .ok (.if_icmp .ge 85, 3) := by decide +kernel
theorem d_Set_nearestTwo_14 : decode b_Set_nearestTwo 14 = .ok (.iload_n 3, 1) := by decide +kernel
theorem d_Set_nearestTwo_15 : decode b_Set_nearestTwo 15 = .ok (.aload_n 0, 1) := by decide +kernel
theorem d_Set_nearestTwo_16 : decode b_Set_nearestTwo 16 = .ok (.getfield 35, 3) := by decide +kernel
theorem d_Set_nearestTwo_19 : decode b_Set_nearestTwo 19 = .ok (.if_icmp .ge 77, 3) := by decide +kernel
theorem d_Set_nearestTwo_22 : decode b_Set_nearestTwo 22 = .ok (.iload_n 3, 1) := by decide +kernel
theorem d_Set_nearestTwo_23 : decode b_Set_nearestTwo 23 = .ok (.iconst 1, 1) := by decide +kernel
theorem d_Set_nearestTwo_24 : decode b_Set_nearestTwo 24 = .ok (.iadd, 1) := by decide +kernel
theorem d_Set_nearestTwo_25 : decode b_Set_nearestTwo 25 = .ok (.istore 4, 2) := by decide +kernel
theorem d_Set_nearestTwo_27 : decode b_Set_nearestTwo 27 = .ok (.iload 4, 2) := by decide +kernel
theorem d_Set_nearestTwo_29 : decode b_Set_nearestTwo 29 = .ok (.bipush 8, 2) := by decide +kernel
theorem d_Set_nearestTwo_31 : decode b_Set_nearestTwo 31 = .ok (.if_icmp .ge 59, 3) := by decide +kernel
theorem d_Set_nearestTwo_34 : decode b_Set_nearestTwo 34 = .ok (.iload 4, 2) := by decide +kernel
theorem d_Set_nearestTwo_36 : decode b_Set_nearestTwo 36 = .ok (.aload_n 0, 1) := by decide +kernel
theorem d_Set_nearestTwo_37 : decode b_Set_nearestTwo 37 = .ok (.getfield 35, 3) := by decide +kernel
theorem d_Set_nearestTwo_40 : decode b_Set_nearestTwo 40 = .ok (.if_icmp .ge 50, 3) := by decide +kernel
theorem d_Set_nearestTwo_43 : decode b_Set_nearestTwo 43 = .ok (.aload_n 0, 1) := by decide +kernel
theorem d_Set_nearestTwo_44 : decode b_Set_nearestTwo 44 = .ok (.getfield 39, 3) := by decide +kernel
theorem d_Set_nearestTwo_47 : decode b_Set_nearestTwo 47 = .ok (.iload_n 3, 1) := by decide +kernel
theorem d_Set_nearestTwo_48 : decode b_Set_nearestTwo 48 = .ok (.iaload, 1) := by decide +kernel
theorem d_Set_nearestTwo_49 : decode b_Set_nearestTwo 49 = .ok (.aload_n 0, 1) := by decide +kernel
theorem d_Set_nearestTwo_50 : decode b_Set_nearestTwo 50 = .ok (.getfield 39, 3) := by decide +kernel
theorem d_Set_nearestTwo_53 : decode b_Set_nearestTwo 53 = .ok (.iload 4, 2) := by decide +kernel
theorem d_Set_nearestTwo_55 : decode b_Set_nearestTwo 55 = .ok (.iaload, 1) := by decide +kernel
theorem d_Set_nearestTwo_56 : decode b_Set_nearestTwo 56 = .ok (.iand, 1) := by decide +kernel
theorem d_Set_nearestTwo_57 : decode b_Set_nearestTwo 57 = .ok (.invokestatic 15, 3) := by decide +kernel
theorem d_Set_nearestTwo_60 : decode b_Set_nearestTwo 60 = .ok (.istore 5, 2) := by decide +kernel
theorem d_Set_nearestTwo_62 : decode b_Set_nearestTwo 62 = .ok (.iload 5, 2) := by decide +kernel
theorem d_Set_nearestTwo_64 : decode b_Set_nearestTwo 64 = .ok (.ifCond .le 20, 3) := by decide +kernel
theorem d_Set_nearestTwo_67 : decode b_Set_nearestTwo 67 = .ok (.iload 5, 2) := by decide +kernel
theorem d_Set_nearestTwo_69 : decode b_Set_nearestTwo 69 = .ok (.iload_n 2, 1) := by decide +kernel
theorem d_Set_nearestTwo_70 : decode b_Set_nearestTwo 70 = .ok (.if_icmp .ge 14, 3) := by decide +kernel
theorem d_Set_nearestTwo_73 : decode b_Set_nearestTwo 73 = .ok (.bipush 10, 2) := by decide +kernel
theorem d_Set_nearestTwo_75 : decode b_Set_nearestTwo 75 = .ok (.iload_n 3, 1) := by decide +kernel
theorem d_Set_nearestTwo_76 : decode b_Set_nearestTwo 76 = .ok (.imul, 1) := by decide +kernel
theorem d_Set_nearestTwo_77 : decode b_Set_nearestTwo 77 = .ok (.iload 4, 2) := by decide +kernel
theorem d_Set_nearestTwo_79 : decode b_Set_nearestTwo 79 = .ok (.iadd, 1) := by decide +kernel
theorem d_Set_nearestTwo_80 : decode b_Set_nearestTwo 80 = .ok (.istore_n 1, 1) := by decide +kernel
theorem d_Set_nearestTwo_81 : decode b_Set_nearestTwo 81 = .ok (.iload 5, 2) := by decide +kernel
theorem d_Set_nearestTwo_83 : decode b_Set_nearestTwo 83 = .ok (.istore_n 2, 1) := by decide +kernel
theorem d_Set_nearestTwo_84 : decode b_Set_nearestTwo 84 = .ok (.iinc 4 1, 3) := by decide +kernel
theorem d_Set_nearestTwo_87 : decode b_Set_nearestTwo 87 = .ok (.goto (-60), 3) := by decide +kernel
theorem d_Set_nearestTwo_90 : decode b_Set_nearestTwo 90 = .ok (.iinc 3 1, 3) := by decide +kernel
theorem d_Set_nearestTwo_93 : decode b_Set_nearestTwo 93 = .ok (.goto (-85), 3) := by decide +kernel
theorem d_Set_nearestTwo_96 : decode b_Set_nearestTwo 96 = .ok (.iload_n 1, 1) := by decide +kernel
theorem d_Set_nearestTwo_97 : decode b_Set_nearestTwo 97 = .ok (.ireturn, 1) := by decide +kernel
theorem d_Set_unlikeCodes_0 : decode b_Set_unlikeCodes 0 = .ok (.lconst 0, 1) := by decide +kernel
theorem d_Set_unlikeCodes_1 : decode b_Set_unlikeCodes 1 = .ok (.lstore_n 1, 1) := by decide +kernel
theorem d_Set_unlikeCodes_2 : decode b_Set_unlikeCodes 2 = .ok (.iconst 0, 1) := by decide +kernel
theorem d_Set_unlikeCodes_3 : decode b_Set_unlikeCodes 3 = .ok (.istore_n 3, 1) := by decide +kernel
theorem d_Set_unlikeCodes_4 : decode b_Set_unlikeCodes 4 = .ok (.iload_n 3, 1) := by decide +kernel
theorem d_Set_unlikeCodes_5 : decode b_Set_unlikeCodes 5 = .ok (.aload_n 0, 1) := by decide +kernel
theorem d_Set_unlikeCodes_6 : decode b_Set_unlikeCodes 6 = .ok (.invokevirtual 9, 3) := by decide +kernel
theorem d_Set_unlikeCodes_9 : decode b_Set_unlikeCodes 9 = .ok (.if_icmp .gt 19, 3) := by decide +kernel
theorem d_Set_unlikeCodes_12 : decode b_Set_unlikeCodes 12 = .ok (.lload_n 1, 1) := by decide +kernel
theorem d_Set_unlikeCodes_13 : decode b_Set_unlikeCodes 13 = .ok (.lconst 1, 1) := by decide +kernel
theorem d_Set_unlikeCodes_14 : decode b_Set_unlikeCodes 14 = .ok (.aload_n 0, 1) := by decide +kernel
theorem d_Set_unlikeCodes_15 : decode b_Set_unlikeCodes 15 = .ok (.iload_n 3, 1) := by decide +kernel
theorem d_Set_unlikeCodes_16 : decode b_Set_unlikeCodes 16 = .ok (.invokevirtual 21, 3) := by decide +kernel
theorem d_Set_unlikeCodes_19 : decode b_Set_unlikeCodes 19 = .ok (.lshl, 1) := by decide +kernel
theorem d_Set_unlikeCodes_20 : decode b_Set_unlikeCodes 20 = .ok (.lor, 1) := by decide +kernel
theorem d_Set_unlikeCodes_21 : decode b_Set_unlikeCodes 21 = .ok (.lstore_n 1, 1) := by decide +kernel
theorem d_Set_unlikeCodes_22 : decode b_Set_unlikeCodes 22 = .ok (.iinc 3 1, 3) := by decide +kernel
theorem d_Set_unlikeCodes_25 : decode b_Set_unlikeCodes 25 = .ok (.goto (-21), 3) := by decide +kernel
theorem d_Set_unlikeCodes_28 : decode b_Set_unlikeCodes 28 = .ok (.lload_n 1, 1) := by decide +kernel
theorem d_Set_unlikeCodes_29 : decode b_Set_unlikeCodes 29 = .ok (.invokestatic 30, 3) := by decide +kernel
theorem d_Set_unlikeCodes_32 : decode b_Set_unlikeCodes 32 = .ok (.ireturn, 1) := by decide +kernel
theorem d_Sta_allPacked_0 : decode b_Sta_allPacked 0 = .ok (.iconst 0, 1) := by decide +kernel
theorem d_Sta_allPacked_1 : decode b_Sta_allPacked 1 = .ok (.istore_n 1, 1) := by decide +kernel
theorem d_Sta_allPacked_2 : decode b_Sta_allPacked 2 = .ok (.iconst 0, 1) := by decide +kernel
theorem d_Sta_allPacked_3 : decode b_Sta_allPacked 3 = .ok (.istore_n 2, 1) := by decide +kernel
theorem d_Sta_allPacked_4 : decode b_Sta_allPacked 4 = .ok (.iload_n 2, 1) := by decide +kernel
theorem d_Sta_allPacked_5 : decode b_Sta_allPacked 5 = .ok (.bipush 8, 2) := by decide +kernel
theorem d_Sta_allPacked_7 : decode b_Sta_allPacked 7 = .ok (.if_icmp .ge 20, 3) := by decide +kernel
theorem d_Sta_allPacked_10 : decode b_Sta_allPacked 10 = .ok (.iload_n 1, 1) := by decide +kernel
theorem d_Sta_allPacked_11 : decode b_Sta_allPacked 11 = .ok (.aload_n 0, 1) := by decide +kernel
theorem d_Sta_allPacked_12 : decode b_Sta_allPacked 12 = .ok (.iload_n 2, 1) := by decide +kernel
theorem d_Sta_allPacked_13 : decode b_Sta_allPacked 13 = .ok (.invokevirtual 97, 3) := by decide +kernel
theorem d_Sta_allPacked_16 : decode b_Sta_allPacked 16 = .ok (.invokestatic 108, 3) := by decide +kernel
theorem d_Sta_allPacked_19 : decode b_Sta_allPacked 19 = .ok (.iadd, 1) := by decide +kernel
theorem d_Sta_allPacked_20 : decode b_Sta_allPacked 20 = .ok (.istore_n 1, 1) := by decide +kernel
theorem d_Sta_allPacked_21 : decode b_Sta_allPacked 21 = .ok (.iinc 2 1, 3) := by decide +kernel
theorem d_Sta_allPacked_24 : decode b_Sta_allPacked 24 = .ok (.goto (-20), 3) := by decide +kernel
theorem d_Sta_allPacked_27 : decode b_Sta_allPacked 27 = .ok (.iload_n 1, 1) := by decide +kernel
theorem d_Sta_allPacked_28 : decode b_Sta_allPacked 28 = .ok (.ireturn, 1) := by decide +kernel
theorem d_Sta_greatestOf_0 : decode b_Sta_greatestOf 0 = .ok (.iconst 0, 1) := by decide +kernel
theorem d_Sta_greatestOf_1 : decode b_Sta_greatestOf 1 = .ok (.istore_n 2, 1) := by decide +kernel
theorem d_Sta_greatestOf_2 : decode b_Sta_greatestOf 2 = .ok (.iconst 0, 1) := by decide +kernel
theorem d_Sta_greatestOf_3 : decode b_Sta_greatestOf 3 = .ok (.istore_n 3, 1) := by decide +kernel
theorem d_Sta_greatestOf_4 : decode b_Sta_greatestOf 4 = .ok (.iload_n 3, 1) := by decide +kernel
theorem d_Sta_greatestOf_5 : decode b_Sta_greatestOf 5 = .ok (.bipush 6, 2) := by decide +kernel
theorem d_Sta_greatestOf_7 : decode b_Sta_greatestOf 7 = .ok (.if_icmp .ge 28, 3) := by decide +kernel
theorem d_Sta_greatestOf_10 : decode b_Sta_greatestOf 10 = .ok (.iload_n 1, 1) := by decide +kernel
theorem d_Sta_greatestOf_11 : decode b_Sta_greatestOf 11 = .ok (.iload_n 3, 1) := by decide +kernel
theorem d_Sta_greatestOf_12 : decode b_Sta_greatestOf 12 = .ok (.invokestatic 77, 3) := by decide +kernel
theorem d_Sta_greatestOf_15 : decode b_Sta_greatestOf 15 = .ok (.ifCond .eq 14, 3) := by decide +kernel
theorem d_Sta_greatestOf_18 : decode b_Sta_greatestOf 18 = .ok (.iload_n 2, 1) := by decide +kernel
theorem d_Sta_greatestOf_19 : decode b_Sta_greatestOf 19 = .ok (.aload_n 0, 1) := by decide +kernel
theorem d_Sta_greatestOf_20 : decode b_Sta_greatestOf 20 = .ok (.getfield 9, 3) := by decide +kernel
theorem d_Sta_greatestOf_23 : decode b_Sta_greatestOf 23 = .ok (.iload_n 3, 1) := by decide +kernel
theorem d_Sta_greatestOf_24 : decode b_Sta_greatestOf 24 = .ok (.iaload, 1) := by decide +kernel
theorem d_Sta_greatestOf_25 : decode b_Sta_greatestOf 25 = .ok (.invokestatic 103, 3) := by decide +kernel
theorem d_Sta_greatestOf_28 : decode b_Sta_greatestOf 28 = .ok (.istore_n 2, 1) := by decide +kernel
theorem d_Sta_greatestOf_29 : decode b_Sta_greatestOf 29 = .ok (.iinc 3 1, 3) := by decide +kernel
theorem d_Sta_greatestOf_32 : decode b_Sta_greatestOf 32 = .ok (.goto (-28), 3) := by decide +kernel
theorem d_Sta_greatestOf_35 : decode b_Sta_greatestOf 35 = .ok (.iload_n 2, 1) := by decide +kernel
theorem d_Sta_greatestOf_36 : decode b_Sta_greatestOf 36 = .ok (.ireturn, 1) := by decide +kernel
theorem d_Sta_weightOf_0 : decode b_Sta_weightOf 0 = .ok (.iload_n 1, 1) := by decide +kernel
theorem d_Sta_weightOf_1 : decode b_Sta_weightOf 1 = .ok (.invokestatic 61, 3) := by decide +kernel
theorem d_Sta_weightOf_4 : decode b_Sta_weightOf 4 = .ok (.ifCond .eq 12, 3) := by decide +kernel
theorem d_Sta_weightOf_7 : decode b_Sta_weightOf 7 = .ok (.aload_n 0, 1) := by decide +kernel
theorem d_Sta_weightOf_8 : decode b_Sta_weightOf 8 = .ok (.getfield 9, 3) := by decide +kernel
theorem d_Sta_weightOf_11 : decode b_Sta_weightOf 11 = .ok (.iload_n 1, 1) := by decide +kernel
theorem d_Sta_weightOf_12 : decode b_Sta_weightOf 12 = .ok (.iaload, 1) := by decide +kernel
theorem d_Sta_weightOf_13 : decode b_Sta_weightOf 13 = .ok (.goto 4, 3) := by decide +kernel
theorem d_Sta_weightOf_16 : decode b_Sta_weightOf 16 = .ok (.iconst 0, 1) := by decide +kernel
theorem d_Sta_weightOf_17 : decode b_Sta_weightOf 17 = .ok (.ireturn, 1) := by decide +kernel
theorem d_Sps_forgetOldest_0 : decode b_Sps_forgetOldest 0 = .ok (.aload_n 0, 1) := by decide +kernel
theorem d_Sps_forgetOldest_1 : decode b_Sps_forgetOldest 1 = .ok (.getfield 11, 3) := by decide +kernel
theorem d_Sps_forgetOldest_4 : decode b_Sps_forgetOldest 4 = .ok (.iconst 0, 1) := by decide +kernel
theorem d_Sps_forgetOldest_5 : decode b_Sps_forgetOldest 5 = .ok (.aaload, 1) := by decide +kernel
theorem d_Sps_forgetOldest_6 : decode b_Sps_forgetOldest 6 = .ok (.astore_n 1, 1) := by decide +kernel
theorem d_Sps_forgetOldest_7 : decode b_Sps_forgetOldest 7 = .ok (.iconst 1, 1) := by decide +kernel
theorem d_Sps_forgetOldest_8 : decode b_Sps_forgetOldest 8 = .ok (.istore_n 2, 1) := by decide +kernel
theorem d_Sps_forgetOldest_9 : decode b_Sps_forgetOldest 9 = .ok (.iload_n 2, 1) := by decide +kernel
theorem d_Sps_forgetOldest_10 : decode b_Sps_forgetOldest 10 = .ok (.bipush 8, 2) := by decide +kernel
theorem d_Sps_forgetOldest_12 : decode b_Sps_forgetOldest 12 = .ok (.if_icmp .ge 23, 3) := by decide +kernel
theorem d_Sps_forgetOldest_15 : decode b_Sps_forgetOldest 15 = .ok (.aload_n 0, 1) := by decide +kernel
theorem d_Sps_forgetOldest_16 : decode b_Sps_forgetOldest 16 = .ok (.getfield 11, 3) := by decide +kernel
theorem d_Sps_forgetOldest_19 : decode b_Sps_forgetOldest 19 = .ok (.iload_n 2, 1) := by decide +kernel
theorem d_Sps_forgetOldest_20 : decode b_Sps_forgetOldest 20 = .ok (.iconst 1, 1) := by decide +kernel
theorem d_Sps_forgetOldest_21 : decode b_Sps_forgetOldest 21 = .ok (.isub, 1) := by decide +kernel
theorem d_Sps_forgetOldest_22 : decode b_Sps_forgetOldest 22 = .ok (.aload_n 0, 1) := by decide +kernel
theorem d_Sps_forgetOldest_23 : decode b_Sps_forgetOldest 23 = .ok (.getfield 11, 3) := by decide +kernel
theorem d_Sps_forgetOldest_26 : decode b_Sps_forgetOldest 26 = .ok (.iload_n 2, 1) := by decide +kernel
theorem d_Sps_forgetOldest_27 : decode b_Sps_forgetOldest 27 = .ok (.aaload, 1) := by decide +kernel
theorem d_Sps_forgetOldest_28 : decode b_Sps_forgetOldest 28 = .ok (.aastore, 1) := by decide +kernel
theorem d_Sps_forgetOldest_29 : decode b_Sps_forgetOldest 29 = .ok (.iinc 2 1, 3) := by decide +kernel
theorem d_Sps_forgetOldest_32 : decode b_Sps_forgetOldest 32 = .ok (.goto (-23), 3) := by decide +kernel
theorem d_Sps_forgetOldest_35 : decode b_Sps_forgetOldest 35 = .ok (.aload_n 0, 1) := by decide +kernel
theorem d_Sps_forgetOldest_36 : decode b_Sps_forgetOldest 36 = .ok (.getfield 11, 3) := by decide +kernel
theorem d_Sps_forgetOldest_39 : decode b_Sps_forgetOldest 39 = .ok (.bipush 7, 2) := by decide +kernel
theorem d_Sps_forgetOldest_41 : decode b_Sps_forgetOldest 41 = .ok (.aload_n 1, 1) := by decide +kernel
theorem d_Sps_forgetOldest_42 : decode b_Sps_forgetOldest 42 = .ok (.aastore, 1) := by decide +kernel
theorem d_Sps_forgetOldest_43 : decode b_Sps_forgetOldest 43 = .ok (.aload_n 0, 1) := by decide +kernel
theorem d_Sps_forgetOldest_44 : decode b_Sps_forgetOldest 44 = .ok (.bipush 7, 2) := by decide +kernel
theorem d_Sps_forgetOldest_46 : decode b_Sps_forgetOldest 46 = .ok (.putfield 18, 3) := by decide +kernel
theorem d_Sps_forgetOldest_49 : decode b_Sps_forgetOldest 49 = .ok (.return_, 1) := by decide +kernel
theorem d_Sps_note_0 : decode b_Sps_note 0 = .ok (.aload_n 0, 1) := by decide +kernel
theorem d_Sps_note_1 : decode b_Sps_note 1 = .ok (.getfield 18, 3) := by decide +kernel
theorem d_Sps_note_4 : decode b_Sps_note 4 = .ok (.bipush 8, 2) := by decide +kernel
theorem d_Sps_note_6 : decode b_Sps_note 6 = .ok (.if_icmp .lt 7, 3) := by decide +kernel
theorem d_Sps_note_9 : decode b_Sps_note 9 = .ok (.aload_n 0, 1) := by decide +kernel
theorem d_Sps_note_10 : decode b_Sps_note 10 = .ok (.invokevirtual 58, 3) := by decide +kernel
theorem d_Sps_note_13 : decode b_Sps_note 13 = .ok (.iconst 0, 1) := by decide +kernel
theorem d_Sps_note_14 : decode b_Sps_note 14 = .ok (.aload_n 0, 1) := by decide +kernel
theorem d_Sps_note_15 : decode b_Sps_note 15 = .ok (.getfield 18, 3) := by decide +kernel
theorem d_Sps_note_18 : decode b_Sps_note 18 = .ok (.bipush 7, 2) := by decide +kernel
theorem d_Sps_note_20 : decode b_Sps_note 20 = .ok (.invokestatic 61, 3) := by decide +kernel
theorem d_Sps_note_23 : decode b_Sps_note 23 = .ok (.invokestatic 67, 3) := by decide +kernel
theorem d_Sps_note_26 : decode b_Sps_note 26 = .ok (.istore 4, 2) := by decide +kernel
theorem d_Sps_note_28 : decode b_Sps_note 28 = .ok (.aload_n 0, 1) := by decide +kernel
theorem d_Sps_note_29 : decode b_Sps_note 29 = .ok (.getfield 11, 3) := by decide +kernel
theorem d_Sps_note_32 : decode b_Sps_note 32 = .ok (.iload 4, 2) := by decide +kernel
theorem d_Sps_note_34 : decode b_Sps_note 34 = .ok (.aaload, 1) := by decide +kernel
theorem d_Sps_note_35 : decode b_Sps_note 35 = .ok (.astore 5, 2) := by decide +kernel
theorem d_Sps_note_37 : decode b_Sps_note 37 = .ok (.aload 5, 2) := by decide +kernel
theorem d_Sps_note_39 : decode b_Sps_note 39 = .ok (.iload_n 2, 1) := by decide +kernel
theorem d_Sps_note_40 : decode b_Sps_note 40 = .ok (.putfield 70, 3) := by decide +kernel
theorem d_Sps_note_43 : decode b_Sps_note 43 = .ok (.aload 5, 2) := by decide +kernel
theorem d_Sps_note_45 : decode b_Sps_note 45 = .ok (.iload_n 3, 1) := by decide +kernel
theorem d_Sps_note_46 : decode b_Sps_note 46 = .ok (.putfield 73, 3) := by decide +kernel
theorem d_Sps_note_49 : decode b_Sps_note 49 = .ok (.aload 5, 2) := by decide +kernel
theorem d_Sps_note_51 : decode b_Sps_note 51 = .ok (.aload_n 1, 1) := by decide +kernel
theorem d_Sps_note_52 : decode b_Sps_note 52 = .ok (.getfield 76, 3) := by decide +kernel
theorem d_Sps_note_55 : decode b_Sps_note 55 = .ok (.putfield 79, 3) := by decide +kernel
theorem d_Sps_note_58 : decode b_Sps_note 58 = .ok (.aload_n 0, 1) := by decide +kernel
theorem d_Sps_note_59 : decode b_Sps_note 59 = .ok (.iload 4, 2) := by decide +kernel
theorem d_Sps_note_61 : decode b_Sps_note 61 = .ok (.iconst 1, 1) := by decide +kernel
theorem d_Sps_note_62 : decode b_Sps_note 62 = .ok (.iadd, 1) := by decide +kernel
theorem d_Sps_note_63 : decode b_Sps_note 63 = .ok (.putfield 18, 3) := by decide +kernel
theorem d_Sps_note_66 : decode b_Sps_note 66 = .ok (.aload 5, 2) := by decide +kernel
theorem d_Sps_note_68 : decode b_Sps_note 68 = .ok (.areturn, 1) := by decide +kernel
theorem d_Sps_noteField_0 : decode b_Sps_noteField 0 = .ok (.aload_n 0, 1) := by decide +kernel
theorem d_Sps_noteField_1 : decode b_Sps_noteField 1 = .ok (.aload_n 1, 1) := by decide +kernel
theorem d_Sps_noteField_2 : decode b_Sps_noteField 2 = .ok (.iconst 2, 1) := by decide +kernel
theorem d_Sps_noteField_3 : decode b_Sps_noteField 3 = .ok (.iload_n 2, 1) := by decide +kernel
theorem d_Sps_noteField_4 : decode b_Sps_noteField 4 = .ok (.invokevirtual 22, 3) := by decide +kernel
theorem d_Sps_noteField_7 : decode b_Sps_noteField 7 = .ok (.astore_n 3, 1) := by decide +kernel
theorem d_Sps_noteField_8 : decode b_Sps_noteField 8 = .ok (.iload_n 2, 1) := by decide +kernel
theorem d_Sps_noteField_9 : decode b_Sps_noteField 9 = .ok (.invokestatic 38, 3) := by decide +kernel
theorem d_Sps_noteField_12 : decode b_Sps_noteField 12 = .ok (.ifCond .eq 29, 3) := by decide +kernel
theorem d_Sps_noteField_15 : decode b_Sps_noteField 15 = .ok (.aload_n 3, 1) := by decide +kernel
theorem d_Sps_noteField_16 : decode b_Sps_noteField 16 = .ok (.aload_n 1, 1) := by decide +kernel
theorem d_Sps_noteField_17 : decode b_Sps_noteField 17 = .ok (.getfield 42, 3) := by decide +kernel
theorem d_Sps_noteField_20 : decode b_Sps_noteField 20 = .ok (.getfield 46, 3) := by decide +kernel
theorem d_Sps_noteField_23 : decode b_Sps_noteField 23 = .ok (.iload_n 2, 1) := by decide +kernel
theorem d_Sps_noteField_24 : decode b_Sps_noteField 24 = .ok (.iaload, 1) := by decide +kernel
theorem d_Sps_noteField_25 : decode b_Sps_noteField 25 = .ok (.putfield 32, 3) := by decide +kernel
theorem d_Sps_noteField_28 : decode b_Sps_noteField 28 = .ok (.aload_n 3, 1) := by decide +kernel
theorem d_Sps_noteField_29 : decode b_Sps_noteField 29 = .ok (.aload_n 1, 1) := by decide +kernel
theorem d_Sps_noteField_30 : decode b_Sps_noteField 30 = .ok (.getfield 42, 3) := by decide +kernel
theorem d_Sps_noteField_33 : decode b_Sps_noteField 33 = .ok (.getfield 52, 3) := by decide +kernel
theorem d_Sps_noteField_36 : decode b_Sps_noteField 36 = .ok (.iload_n 2, 1) := by decide +kernel
theorem d_Sps_noteField_37 : decode b_Sps_noteField 37 = .ok (.iaload, 1) := by decide +kernel
theorem d_Sps_noteField_38 : decode b_Sps_noteField 38 = .ok (.putfield 55, 3) := by decide +kernel
theorem d_Sps_noteField_41 : decode b_Sps_noteField 41 = .ok (.return_, 1) := by decide +kernel
theorem d_Sps_noteHamper_0 : decode b_Sps_noteHamper 0 = .ok (.aload_n 0, 1) := by decide +kernel
theorem d_Sps_noteHamper_1 : decode b_Sps_noteHamper 1 = .ok (.aload_n 1, 1) := by decide +kernel
theorem d_Sps_noteHamper_2 : decode b_Sps_noteHamper 2 = .ok (.iconst 1, 1) := by decide +kernel
theorem d_Sps_noteHamper_3 : decode b_Sps_noteHamper 3 = .ok (.iload_n 2, 1) := by decide +kernel
theorem d_Sps_noteHamper_4 : decode b_Sps_noteHamper 4 = .ok (.invokevirtual 22, 3) := by decide +kernel
theorem d_Sps_noteHamper_7 : decode b_Sps_noteHamper 7 = .ok (.aload_n 1, 1) := by decide +kernel
theorem d_Sps_noteHamper_8 : decode b_Sps_noteHamper 8 = .ok (.iload_n 2, 1) := by decide +kernel
theorem d_Sps_noteHamper_9 : decode b_Sps_noteHamper 9 = .ok (.invokevirtual 35, 3) := by decide +kernel
theorem d_Sps_noteHamper_12 : decode b_Sps_noteHamper 12 = .ok (.putfield 32, 3) := by decide +kernel
theorem d_Sps_noteHamper_15 : decode b_Sps_noteHamper 15 = .ok (.return_, 1) := by decide +kernel
theorem d_Sps_noteWeight_0 : decode b_Sps_noteWeight 0 = .ok (.aload_n 0, 1) := by decide +kernel
theorem d_Sps_noteWeight_1 : decode b_Sps_noteWeight 1 = .ok (.aload_n 1, 1) := by decide +kernel
theorem d_Sps_noteWeight_2 : decode b_Sps_noteWeight 2 = .ok (.iconst 0, 1) := by decide +kernel
theorem d_Sps_noteWeight_3 : decode b_Sps_noteWeight 3 = .ok (.iload_n 2, 1) := by decide +kernel
theorem d_Sps_noteWeight_4 : decode b_Sps_noteWeight 4 = .ok (.invokevirtual 22, 3) := by decide +kernel
theorem d_Sps_noteWeight_7 : decode b_Sps_noteWeight 7 = .ok (.aload_n 1, 1) := by decide +kernel
theorem d_Sps_noteWeight_8 : decode b_Sps_noteWeight 8 = .ok (.iload_n 2, 1) := by decide +kernel
theorem d_Sps_noteWeight_9 : decode b_Sps_noteWeight 9 = .ok (.invokevirtual 26, 3) := by decide +kernel
theorem d_Sps_noteWeight_12 : decode b_Sps_noteWeight 12 = .ok (.putfield 32, 3) := by decide +kernel
theorem d_Sps_noteWeight_15 : decode b_Sps_noteWeight 15 = .ok (.return_, 1) := by decide +kernel
theorem d_Sps_takeBack_0 : decode b_Sps_takeBack 0 = .ok (.aload_n 0, 1) := by decide +kernel
theorem d_Sps_takeBack_1 : decode b_Sps_takeBack 1 = .ok (.getfield 18, 3) := by decide +kernel
theorem d_Sps_takeBack_4 : decode b_Sps_takeBack 4 = .ok (.iconst 1, 1) := by decide +kernel
theorem d_Sps_takeBack_5 : decode b_Sps_takeBack 5 = .ok (.if_icmp .lt 12, 3) := by decide +kernel
theorem d_Sps_takeBack_8 : decode b_Sps_takeBack 8 = .ok (.aload_n 0, 1) := by decide +kernel
theorem d_Sps_takeBack_9 : decode b_Sps_takeBack 9 = .ok (.getfield 18, 3) := by decide +kernel
theorem d_Sps_takeBack_12 : decode b_Sps_takeBack 12 = .ok (.bipush 8, 2) := by decide +kernel
theorem d_Sps_takeBack_14 : decode b_Sps_takeBack 14 = .ok (.if_icmp .le 8, 3) := by decide +kernel
theorem d_Sps_takeBack_17 : decode b_Sps_takeBack 17 = .ok (.aload_n 0, 1) := by decide +kernel
theorem d_Sps_takeBack_18 : decode b_Sps_takeBack 18 = .ok (.getfield 18, 3) := by decide +kernel
theorem d_Sps_takeBack_21 : decode b_Sps_takeBack 21 = .ok (.ireturn, 1) := by decide +kernel
theorem d_Sps_takeBack_22 : decode b_Sps_takeBack 22 = .ok (.aload_n 0, 1) := by decide +kernel
theorem d_Sps_takeBack_23 : decode b_Sps_takeBack 23 = .ok (.dup, 1) := by decide +kernel
theorem d_Sps_takeBack_24 : decode b_Sps_takeBack 24 = .ok (.getfield 18, 3) := by decide +kernel
theorem d_Sps_takeBack_27 : decode b_Sps_takeBack 27 = .ok (.iconst 1, 1) := by decide +kernel
theorem d_Sps_takeBack_28 : decode b_Sps_takeBack 28 = .ok (.isub, 1) := by decide +kernel
theorem d_Sps_takeBack_29 : decode b_Sps_takeBack 29 = .ok (.putfield 18, 3) := by decide +kernel
theorem d_Sps_takeBack_32 : decode b_Sps_takeBack 32 = .ok (.aload_n 0, 1) := by decide +kernel
theorem d_Sps_takeBack_33 : decode b_Sps_takeBack 33 = .ok (.getfield 11, 3) := by decide +kernel
theorem d_Sps_takeBack_36 : decode b_Sps_takeBack 36 = .ok (.aload_n 0, 1) := by decide +kernel
theorem d_Sps_takeBack_37 : decode b_Sps_takeBack 37 = .ok (.getfield 18, 3) := by decide +kernel
theorem d_Sps_takeBack_40 : decode b_Sps_takeBack 40 = .ok (.aaload, 1) := by decide +kernel
theorem d_Sps_takeBack_41 : decode b_Sps_takeBack 41 = .ok (.astore_n 2, 1) := by decide +kernel
theorem d_Sps_takeBack_42 : decode b_Sps_takeBack 42 = .ok (.aload_n 2, 1) := by decide +kernel
theorem d_Sps_takeBack_43 : decode b_Sps_takeBack 43 = .ok (.getfield 70, 3) := by decide +kernel
theorem d_Sps_takeBack_46 : decode b_Sps_takeBack 46 = .ok (.ifCond .ne 18, 3) := by decide +kernel
theorem d_Sps_takeBack_49 : decode b_Sps_takeBack 49 = .ok (.aload_n 1, 1) := by decide +kernel
theorem d_Sps_takeBack_50 : decode b_Sps_takeBack 50 = .ok (.aload_n 2, 1) := by decide +kernel
theorem d_Sps_takeBack_51 : decode b_Sps_takeBack 51 = .ok (.getfield 73, 3) := by decide +kernel
theorem d_Sps_takeBack_54 : decode b_Sps_takeBack 54 = .ok (.aload_n 2, 1) := by decide +kernel
theorem d_Sps_takeBack_55 : decode b_Sps_takeBack 55 = .ok (.getfield 32, 3) := by decide +kernel
theorem d_Sps_takeBack_58 : decode b_Sps_takeBack 58 = .ok (.invokevirtual 82, 3) := by decide +kernel
theorem d_Sps_takeBack_61 : decode b_Sps_takeBack 61 = .ok (.goto 73, 3) := by decide +kernel
theorem d_Sps_takeBack_64 : decode b_Sps_takeBack 64 = .ok (.aload_n 2, 1) := by decide +kernel
theorem d_Sps_takeBack_65 : decode b_Sps_takeBack 65 = .ok (.getfield 70, 3) := by decide +kernel
theorem d_Sps_takeBack_68 : decode b_Sps_takeBack 68 = .ok (.iconst 1, 1) := by decide +kernel
theorem d_Sps_takeBack_69 : decode b_Sps_takeBack 69 = .ok (.if_icmp .ne 30, 3) := by decide +kernel
theorem d_Sps_takeBack_72 : decode b_Sps_takeBack 72 = .ok (.aload_n 1, 1) := by decide +kernel
theorem d_Sps_takeBack_73 : decode b_Sps_takeBack 73 = .ok (.aload_n 2, 1) := by decide +kernel
theorem d_Sps_takeBack_74 : decode b_Sps_takeBack 74 = .ok (.getfield 73, 3) := by decide +kernel
theorem d_Sps_takeBack_77 : decode b_Sps_takeBack 77 = .ok (.invokevirtual 86, 3) := by decide +kernel
theorem d_Sps_takeBack_80 : decode b_Sps_takeBack 80 = .ok (.ifCond .eq 19, 3) := by decide +kernel
theorem d_Sps_takeBack_83 : decode b_Sps_takeBack 83 = .ok (.aload_n 1, 1) := by decide +kernel
theorem d_Sps_takeBack_84 : decode b_Sps_takeBack 84 = .ok (.getfield 89, 3) := by decide +kernel
theorem d_Sps_takeBack_87 : decode b_Sps_takeBack 87 = .ok (.aload_n 2, 1) := by decide +kernel
theorem d_Sps_takeBack_88 : decode b_Sps_takeBack 88 = .ok (.getfield 73, 3) := by decide +kernel
theorem d_Sps_takeBack_91 : decode b_Sps_takeBack 91 = .ok (.aload_n 2, 1) := by decide +kernel
theorem d_Sps_takeBack_92 : decode b_Sps_takeBack 92 = .ok (.getfield 32, 3) := by decide +kernel
theorem d_Sps_takeBack_95 : decode b_Sps_takeBack 95 = .ok (.iastore, 1) := by decide +kernel
theorem d_Sps_takeBack_96 : decode b_Sps_takeBack 96 = .ok (.goto 38, 3) := by decide +kernel
theorem d_Sps_takeBack_99 : decode b_Sps_takeBack 99 = .ok (.aload_n 2, 1) := by decide +kernel
theorem d_Sps_takeBack_100 : decode b_Sps_takeBack 100 = .ok (.getfield 70, 3) := by decide +kernel
theorem d_Sps_takeBack_103 : decode b_Sps_takeBack 103 = .ok (.iconst 2, 1) := by decide +kernel
theorem d_Sps_takeBack_104 : decode b_Sps_takeBack 104 = .ok (.if_icmp .ne 30, 3) := by decide +kernel
theorem d_Sps_takeBack_107 : decode b_Sps_takeBack 107 = .ok (.aload_n 1, 1) := by decide +kernel
theorem d_Sps_takeBack_108 : decode b_Sps_takeBack 108 = .ok (.getfield 42, 3) := by decide +kernel
theorem d_Sps_takeBack_111 : decode b_Sps_takeBack 111 = .ok (.aload_n 2, 1) := by decide +kernel
theorem d_Sps_takeBack_112 : decode b_Sps_takeBack 112 = .ok (.getfield 73, 3) := by decide +kernel
theorem d_Sps_takeBack_115 : decode b_Sps_takeBack 115 = .ok (.aload_n 2, 1) := by decide +kernel
theorem d_Sps_takeBack_116 : decode b_Sps_takeBack 116 = .ok (.getfield 32, 3) := by decide +kernel
theorem d_Sps_takeBack_119 : decode b_Sps_takeBack 119 = .ok (.aload_n 2, 1) := by decide +kernel
theorem d_Sps_takeBack_120 : decode b_Sps_takeBack 120 = .ok (.getfield 55, 3) := by decide +kernel
theorem d_Sps_takeBack_123 : decode b_Sps_takeBack 123 = .ok (.invokevirtual 92, 3) := by decide +kernel
theorem d_Sps_takeBack_126 : decode b_Sps_takeBack 126 = .ok (.aload_n 1, 1) := by decide +kernel
theorem d_Sps_takeBack_127 : decode b_Sps_takeBack 127 = .ok (.aload_n 2, 1) := by decide +kernel
theorem d_Sps_takeBack_128 : decode b_Sps_takeBack 128 = .ok (.getfield 79, 3) := by decide +kernel
theorem d_Sps_takeBack_131 : decode b_Sps_takeBack 131 = .ok (.putfield 76, 3) := by decide +kernel
theorem d_Sps_takeBack_134 : decode b_Sps_takeBack 134 = .ok (.aload_n 0, 1) := by decide +kernel
theorem d_Sps_takeBack_135 : decode b_Sps_takeBack 135 = .ok (.getfield 18, 3) := by decide +kernel
theorem d_Sps_takeBack_138 : decode b_Sps_takeBack 138 = .ok (.ireturn, 1) := by decide +kernel
theorem d_H_apart_0 : decode b_H_apart 0 = .ok (.aload_n 0, 1) := by decide +kernel
theorem d_H_apart_1 : decode b_H_apart 1 = .ok (.getfield 10, 3) := by decide +kernel
theorem d_H_apart_4 : decode b_H_apart 4 = .ok (.invokestatic 249, 3) := by decide +kernel
theorem d_H_apart_7 : decode b_H_apart 7 = .ok (.ireturn, 1) := by decide +kernel
theorem d_H_refused_0 : decode b_H_refused 0 = .ok (.iload_n 1, 1) := by decide +kernel
theorem d_H_refused_1 : decode b_H_refused 1 = .ok (.ineg, 1) := by decide +kernel
theorem d_H_refused_2 : decode b_H_refused 2 = .ok (.istore_n 2, 1) := by decide +kernel
theorem d_H_refused_3 : decode b_H_refused 3 = .ok (.iload_n 2, 1) := by decide +kernel
theorem d_H_refused_4 : decode b_H_refused 4 = .ok (.ifCond .lt 22, 3) := by decide +kernel
theorem d_H_refused_7 : decode b_H_refused 7 = .ok (.iload_n 2, 1) := by decide +kernel
theorem d_H_refused_8 : decode b_H_refused 8 = .ok (.aload_n 0, 1) := by decide +kernel
theorem d_H_refused_9 : decode b_H_refused 9 = .ok (.getfield 61, 3) := by decide +kernel
theorem d_H_refused_12 : decode b_H_refused 12 = .ok (.arraylength, 1) := by decide +kernel
theorem d_H_refused_13 : decode b_H_refused 13 = .ok (.if_icmp .ge 13, 3) := by decide +kernel
theorem d_H_refused_16 : decode b_H_refused 16 = .ok (.aload_n 0, 1) := by decide +kernel
theorem d_H_refused_17 : decode b_H_refused 17 = .ok (.getfield 61, 3) := by decide +kernel
theorem d_H_refused_20 : decode b_H_refused 20 = .ok (.iload_n 2, 1) := by decide +kernel
theorem d_H_refused_21 : decode b_H_refused 21 = .ok (.dup2, 1) := by decide +kernel
theorem d_H_refused_22 : decode b_H_refused 22 = .ok (.iaload, 1) := by decide +kernel
theorem d_H_refused_23 : decode b_H_refused 23 = .ok (.iconst 1, 1) := by decide +kernel
theorem d_H_refused_24 : decode b_H_refused 24 = .ok (.iadd, 1) := by decide +kernel
theorem d_H_refused_25 : decode b_H_refused 25 = .ok (.iastore, 1) := by decide +kernel
theorem d_H_refused_26 : decode b_H_refused 26 = .ok (.iload_n 1, 1) := by decide +kernel
theorem d_H_refused_27 : decode b_H_refused 27 = .ok (.ireturn, 1) := by decide +kernel
theorem d_H_back_0 : decode b_H_back 0 = .ok (.aload_n 0, 1) := by decide +kernel
theorem d_H_back_1 : decode b_H_back 1 = .ok (.getfield 29, 3) := by decide +kernel
theorem d_H_back_4 : decode b_H_back 4 = .ok (.getfield 84, 3) := by decide +kernel
theorem d_H_back_7 : decode b_H_back 7 = .ok (.ifCond .ne 10, 3) := by decide +kernel
theorem d_H_back_10 : decode b_H_back 10 = .ok (.aload_n 0, 1) := by decide +kernel
theorem d_H_back_11 : decode b_H_back 11 = .ok (.bipush (-3), 2) := by decide +kernel
theorem d_H_back_13 : decode b_H_back 13 = .ok (.invokevirtual 65, 3) := by decide +kernel
theorem d_H_back_16 : decode b_H_back 16 = .ok (.ireturn, 1) := by decide +kernel
theorem d_H_back_17 : decode b_H_back 17 = .ok (.aload_n 0, 1) := by decide +kernel
theorem d_H_back_18 : decode b_H_back 18 = .ok (.getfield 29, 3) := by decide +kernel
theorem d_H_back_21 : decode b_H_back 21 = .ok (.aload_n 0, 1) := by decide +kernel
theorem d_H_back_22 : decode b_H_back 22 = .ok (.getfield 10, 3) := by decide +kernel
theorem d_H_back_25 : decode b_H_back 25 = .ok (.invokevirtual 204, 3) := by decide +kernel
theorem d_H_back_28 : decode b_H_back 28 = .ok (.ireturn, 1) := by decide +kernel
theorem d_H_bet_0 : decode b_H_bet 0 = .ok (.aload_n 0, 1) := by decide +kernel
theorem d_H_bet_1 : decode b_H_bet 1 = .ok (.getfield 10, 3) := by decide +kernel
theorem d_H_bet_4 : decode b_H_bet 4 = .ok (.iload_n 1, 1) := by decide +kernel
theorem d_H_bet_5 : decode b_H_bet 5 = .ok (.invokevirtual 107, 3) := by decide +kernel
theorem d_H_bet_8 : decode b_H_bet 8 = .ok (.ifCond .eq 19, 3) := by decide +kernel
theorem d_H_bet_11 : decode b_H_bet 11 = .ok (.aload_n 0, 1) := by decide +kernel
theorem d_H_bet_12 : decode b_H_bet 12 = .ok (.getfield 10, 3) := by decide +kernel
theorem d_H_bet_15 : decode b_H_bet 15 = .ok (.iload_n 2, 1) := by decide +kernel
theorem d_H_bet_16 : decode b_H_bet 16 = .ok (.invokevirtual 107, 3) := by decide +kernel
theorem d_H_bet_19 : decode b_H_bet 19 = .ok (.ifCond .eq 8, 3) := by decide +kernel
theorem d_H_bet_22 : decode b_H_bet 22 = .ok (.iload_n 1, 1) := by decide +kernel
theorem d_H_bet_23 : decode b_H_bet 23 = .ok (.iload_n 2, 1) := by decide +kernel
theorem d_H_bet_24 : decode b_H_bet 24 = .ok (.if_icmp .ne 9, 3) := by decide +kernel
theorem d_H_bet_27 : decode b_H_bet 27 = .ok (.aload_n 0, 1) := by decide +kernel
theorem d_H_bet_28 : decode b_H_bet 28 = .ok (.iconst (-1), 1) := by decide +kernel
theorem d_H_bet_29 : decode b_H_bet 29 = .ok (.invokevirtual 65, 3) := by decide +kernel
theorem d_H_bet_32 : decode b_H_bet 32 = .ok (.ireturn, 1) := by decide +kernel
theorem d_H_bet_33 : decode b_H_bet 33 = .ok (.aload_n 0, 1) := by decide +kernel
theorem d_H_bet_34 : decode b_H_bet 34 = .ok (.getfield 10, 3) := by decide +kernel
theorem d_H_bet_37 : decode b_H_bet 37 = .ok (.aload_n 0, 1) := by decide +kernel
theorem d_H_bet_38 : decode b_H_bet 38 = .ok (.getfield 10, 3) := by decide +kernel
theorem d_H_bet_41 : decode b_H_bet 41 = .ok (.getfield 110, 3) := by decide +kernel
theorem d_H_bet_44 : decode b_H_bet 44 = .ok (.iload_n 1, 1) := by decide +kernel
theorem d_H_bet_45 : decode b_H_bet 45 = .ok (.iaload, 1) := by decide +kernel
theorem d_H_bet_46 : decode b_H_bet 46 = .ok (.invokevirtual 122, 3) := by decide +kernel
theorem d_H_bet_49 : decode b_H_bet 49 = .ok (.aload_n 0, 1) := by decide +kernel
theorem d_H_bet_50 : decode b_H_bet 50 = .ok (.getfield 10, 3) := by decide +kernel
theorem d_H_bet_53 : decode b_H_bet 53 = .ok (.aload_n 0, 1) := by decide +kernel
theorem d_H_bet_54 : decode b_H_bet 54 = .ok (.getfield 10, 3) := by decide +kernel
theorem d_H_bet_57 : decode b_H_bet 57 = .ok (.getfield 110, 3) := by decide +kernel
theorem d_H_bet_60 : decode b_H_bet 60 = .ok (.iload_n 2, 1) := by decide +kernel
theorem d_H_bet_61 : decode b_H_bet 61 = .ok (.iaload, 1) := by decide +kernel
theorem d_H_bet_62 : decode b_H_bet 62 = .ok (.invokevirtual 122, 3) := by decide +kernel
theorem d_H_bet_65 : decode b_H_bet 65 = .ok (.invokestatic 303, 3) := by decide +kernel
theorem d_H_bet_68 : decode b_H_bet 68 = .ok (.ireturn, 1) := by decide +kernel
theorem d_H_clear_0 : decode b_H_clear 0 = .ok (.aload_n 0, 1) := by decide +kernel
theorem d_H_clear_1 : decode b_H_clear 1 = .ok (.getfield 43, 3) := by decide +kernel
theorem d_H_clear_4 : decode b_H_clear 4 = .ok (.getfield 347, 3) := by decide +kernel
theorem d_H_clear_7 : decode b_H_clear 7 = .ok (.istore_n 1, 1) := by decide +kernel
theorem d_H_clear_8 : decode b_H_clear 8 = .ok (.aload_n 0, 1) := by decide +kernel
theorem d_H_clear_9 : decode b_H_clear 9 = .ok (.getfield 43, 3) := by decide +kernel
theorem d_H_clear_12 : decode b_H_clear 12 = .ok (.iconst 0, 1) := by decide +kernel
theorem d_H_clear_13 : decode b_H_clear 13 = .ok (.putfield 347, 3) := by decide +kernel
theorem d_H_clear_16 : decode b_H_clear 16 = .ok (.iload_n 1, 1) := by decide +kernel
theorem d_H_clear_17 : decode b_H_clear 17 = .ok (.ireturn, 1) := by decide +kernel
theorem d_H_codes_0 : decode b_H_codes 0 = .ok (.iload_n 1, 1) := by decide +kernel
theorem d_H_codes_1 : decode b_H_codes 1 = .ok (.lookupswitch 46 #[(0, 27), (1, 35)], 27) := by decide +kernel
theorem d_H_codes_28 : decode b_H_codes 28 = .ok (.aload_n 0, 1) := by decide +kernel
theorem d_H_codes_29 : decode b_H_codes 29 = .ok (.getfield 10, 3) := by decide +kernel
theorem d_H_codes_32 : decode b_H_codes 32 = .ok (.invokestatic 255, 3) := by decide +kernel
theorem d_H_codes_35 : decode b_H_codes 35 = .ok (.ireturn, 1) := by decide +kernel
theorem d_H_codes_36 : decode b_H_codes 36 = .ok (.bipush 64, 2) := by decide +kernel
theorem d_H_codes_38 : decode b_H_codes 38 = .ok (.aload_n 0, 1) := by decide +kernel
theorem d_H_codes_39 : decode b_H_codes 39 = .ok (.getfield 10, 3) := by decide +kernel
theorem d_H_codes_42 : decode b_H_codes 42 = .ok (.invokestatic 255, 3) := by decide +kernel
theorem d_H_codes_45 : decode b_H_codes 45 = .ok (.isub, 1) := by decide +kernel
theorem d_H_codes_46 : decode b_H_codes 46 = .ok (.ireturn, 1) := by decide +kernel
theorem d_H_codes_47 : decode b_H_codes 47 = .ok (.aload_n 0, 1) := by decide +kernel
theorem d_H_codes_48 : decode b_H_codes 48 = .ok (.bipush (-2), 2) := by decide +kernel
theorem d_H_codes_50 : decode b_H_codes 50 = .ok (.invokevirtual 65, 3) := by decide +kernel
theorem d_H_codes_53 : decode b_H_codes 53 = .ok (.ireturn, 1) := by decide +kernel
theorem d_H_count_0 : decode b_H_count 0 = .ok (.iload_n 1, 1) := by decide +kernel
theorem d_H_count_1 : decode b_H_count 1 = .ok (.tableswitch 159 0 16 #[83, 91, 99, 107, 117, 125, 133, 141, 159, 159, 159, 149, 149, 149, 149, 149, 149], 83) := by decide +kernel
theorem d_H_count_84 : decode b_H_count 84 = .ok (.aload_n 0, 1) := by decide +kernel
theorem d_H_count_85 : decode b_H_count 85 = .ok (.getfield 10, 3) := by decide +kernel
theorem d_H_count_88 : decode b_H_count 88 = .ok (.getfield 365, 3) := by decide +kernel
theorem d_H_count_91 : decode b_H_count 91 = .ok (.ireturn, 1) := by decide +kernel
theorem d_H_count_92 : decode b_H_count 92 = .ok (.aload_n 0, 1) := by decide +kernel
theorem d_H_count_93 : decode b_H_count 93 = .ok (.getfield 10, 3) := by decide +kernel
theorem d_H_count_96 : decode b_H_count 96 = .ok (.getfield 272, 3) := by decide +kernel
theorem d_H_count_99 : decode b_H_count 99 = .ok (.ireturn, 1) := by decide +kernel
theorem d_H_count_100 : decode b_H_count 100 = .ok (.aload_n 0, 1) := by decide +kernel
theorem d_H_count_101 : decode b_H_count 101 = .ok (.getfield 10, 3) := by decide +kernel
theorem d_H_count_104 : decode b_H_count 104 = .ok (.getfield 362, 3) := by decide +kernel
theorem d_H_count_107 : decode b_H_count 107 = .ok (.ireturn, 1) := by decide +kernel
theorem d_H_count_108 : decode b_H_count 108 = .ok (.aload_n 0, 1) := by decide +kernel
theorem d_H_count_109 : decode b_H_count 109 = .ok (.getfield 10, 3) := by decide +kernel
