theorem d_H_count_112 : decode b_H_count 112 = .ok (.bipush 63, 2) := by decide +kernel
theorem d_H_count_114 : decode b_H_count 114 = .ok (.invokevirtual 219, 3) := by decide +kernel
theorem d_H_count_117 : decode b_H_count 117 = .ok (.ireturn, 1) := by decide +kernel
theorem d_H_count_118 : decode b_H_count 118 = .ok (.aload_n 0, 1) := by decide +kernel
theorem d_H_count_119 : decode b_H_count 119 = .ok (.getfield 10, 3) := by decide +kernel
theorem d_H_count_122 : decode b_H_count 122 = .ok (.invokevirtual 368, 3) := by decide +kernel
theorem d_H_count_125 : decode b_H_count 125 = .ok (.ireturn, 1) := by decide +kernel
theorem d_H_count_126 : decode b_H_count 126 = .ok (.aload_n 0, 1) := by decide +kernel
theorem d_H_count_127 : decode b_H_count 127 = .ok (.getfield 36, 3) := by decide +kernel
theorem d_H_count_130 : decode b_H_count 130 = .ok (.getfield 69, 3) := by decide +kernel
theorem d_H_count_133 : decode b_H_count 133 = .ok (.ireturn, 1) := by decide +kernel
theorem d_H_count_134 : decode b_H_count 134 = .ok (.aload_n 0, 1) := by decide +kernel
theorem d_H_count_135 : decode b_H_count 135 = .ok (.getfield 43, 3) := by decide +kernel
theorem d_H_count_138 : decode b_H_count 138 = .ok (.getfield 347, 3) := by decide +kernel
theorem d_H_count_141 : decode b_H_count 141 = .ok (.ireturn, 1) := by decide +kernel
theorem d_H_count_142 : decode b_H_count 142 = .ok (.aload_n 0, 1) := by decide +kernel
theorem d_H_count_143 : decode b_H_count 143 = .ok (.getfield 29, 3) := by decide +kernel
theorem d_H_count_146 : decode b_H_count 146 = .ok (.getfield 84, 3) := by decide +kernel
theorem d_H_count_149 : decode b_H_count 149 = .ok (.ireturn, 1) := by decide +kernel
theorem d_H_count_150 : decode b_H_count 150 = .ok (.aload_n 0, 1) := by decide +kernel
theorem d_H_count_151 : decode b_H_count 151 = .ok (.getfield 61, 3) := by decide +kernel
theorem d_H_count_154 : decode b_H_count 154 = .ok (.iload_n 1, 1) := by decide +kernel
theorem d_H_count_155 : decode b_H_count 155 = .ok (.bipush 10, 2) := by decide +kernel
theorem d_H_count_157 : decode b_H_count 157 = .ok (.isub, 1) := by decide +kernel
theorem d_H_count_158 : decode b_H_count 158 = .ok (.iaload, 1) := by decide +kernel
theorem d_H_count_159 : decode b_H_count 159 = .ok (.ireturn, 1) := by decide +kernel
theorem d_H_count_160 : decode b_H_count 160 = .ok (.bipush (-9), 2) := by decide +kernel
theorem d_H_count_162 : decode b_H_count 162 = .ok (.ireturn, 1) := by decide +kernel
theorem d_H_day_0 : decode b_H_day 0 = .ok (.aload_n 0, 1) := by decide +kernel
theorem d_H_day_1 : decode b_H_day 1 = .ok (.getfield 10, 3) := by decide +kernel
theorem d_H_day_4 : decode b_H_day 4 = .ok (.iload_n 1, 1) := by decide +kernel
theorem d_H_day_5 : decode b_H_day 5 = .ok (.invokevirtual 152, 3) := by decide +kernel
theorem d_H_day_8 : decode b_H_day 8 = .ok (.istore_n 2, 1) := by decide +kernel
theorem d_H_day_9 : decode b_H_day 9 = .ok (.iload_n 2, 1) := by decide +kernel
theorem d_H_day_10 : decode b_H_day 10 = .ok (.ifCond .eq 9, 3) := by decide +kernel
theorem d_H_day_13 : decode b_H_day 13 = .ok (.aload_n 0, 1) := by decide +kernel
theorem d_H_day_14 : decode b_H_day 14 = .ok (.iload_n 2, 1) := by decide +kernel
theorem d_H_day_15 : decode b_H_day 15 = .ok (.invokevirtual 65, 3) := by decide +kernel
theorem d_H_day_18 : decode b_H_day 18 = .ok (.ireturn, 1) := by decide +kernel
theorem d_H_day_19 : decode b_H_day 19 = .ok (.aload_n 0, 1) := by decide +kernel
theorem d_H_day_20 : decode b_H_day 20 = .ok (.getfield 29, 3) := by decide +kernel
theorem d_H_day_23 : decode b_H_day 23 = .ok (.iconst 0, 1) := by decide +kernel
theorem d_H_day_24 : decode b_H_day 24 = .ok (.putfield 84, 3) := by decide +kernel
theorem d_H_day_27 : decode b_H_day 27 = .ok (.aload_n 0, 1) := by decide +kernel
theorem d_H_day_28 : decode b_H_day 28 = .ok (.getfield 10, 3) := by decide +kernel
theorem d_H_day_31 : decode b_H_day 31 = .ok (.iload_n 1, 1) := by decide +kernel
theorem d_H_day_32 : decode b_H_day 32 = .ok (.invokevirtual 155, 3) := by decide +kernel
theorem d_H_day_35 : decode b_H_day 35 = .ok (.ireturn, 1) := by decide +kernel
theorem d_H_dayOf_0 : decode b_H_dayOf 0 = .ok (.aload_n 0, 1) := by decide +kernel
theorem d_H_dayOf_1 : decode b_H_dayOf 1 = .ok (.getfield 10, 3) := by decide +kernel
theorem d_H_dayOf_4 : decode b_H_dayOf 4 = .ok (.iload_n 1, 1) := by decide +kernel
theorem d_H_dayOf_5 : decode b_H_dayOf 5 = .ok (.invokevirtual 107, 3) := by decide +kernel
theorem d_H_dayOf_8 : decode b_H_dayOf 8 = .ok (.ifCond .ne 9, 3) := by decide +kernel
theorem d_H_dayOf_11 : decode b_H_dayOf 11 = .ok (.aload_n 0, 1) := by decide +kernel
theorem d_H_dayOf_12 : decode b_H_dayOf 12 = .ok (.iconst (-1), 1) := by decide +kernel
theorem d_H_dayOf_13 : decode b_H_dayOf 13 = .ok (.invokevirtual 65, 3) := by decide +kernel
theorem d_H_dayOf_16 : decode b_H_dayOf 16 = .ok (.ireturn, 1) := by decide +kernel
theorem d_H_dayOf_17 : decode b_H_dayOf 17 = .ok (.aload_n 0, 1) := by decide +kernel
theorem d_H_dayOf_18 : decode b_H_dayOf 18 = .ok (.getfield 10, 3) := by decide +kernel
theorem d_H_dayOf_21 : decode b_H_dayOf 21 = .ok (.getfield 110, 3) := by decide +kernel
theorem d_H_dayOf_24 : decode b_H_dayOf 24 = .ok (.iload_n 1, 1) := by decide +kernel
theorem d_H_dayOf_25 : decode b_H_dayOf 25 = .ok (.iaload, 1) := by decide +kernel
theorem d_H_dayOf_26 : decode b_H_dayOf 26 = .ok (.istore_n 3, 1) := by decide +kernel
theorem d_H_dayOf_27 : decode b_H_dayOf 27 = .ok (.iload_n 2, 1) := by decide +kernel
theorem d_H_dayOf_28 : decode b_H_dayOf 28 = .ok (.tableswitch 74 0 4 #[36, 38, 47, 56, 65], 36) := by decide +kernel
theorem d_H_dayOf_64 : decode b_H_dayOf 64 = .ok (.iload_n 3, 1) := by decide +kernel
theorem d_H_dayOf_65 : decode b_H_dayOf 65 = .ok (.ireturn, 1) := by decide +kernel
theorem d_H_dayOf_66 : decode b_H_dayOf 66 = .ok (.aload_n 0, 1) := by decide +kernel
theorem d_H_dayOf_67 : decode b_H_dayOf 67 = .ok (.getfield 10, 3) := by decide +kernel
theorem d_H_dayOf_70 : decode b_H_dayOf 70 = .ok (.iload_n 3, 1) := by decide +kernel
theorem d_H_dayOf_71 : decode b_H_dayOf 71 = .ok (.invokevirtual 113, 3) := by decide +kernel
theorem d_H_dayOf_74 : decode b_H_dayOf 74 = .ok (.ireturn, 1) := by decide +kernel
theorem d_H_dayOf_75 : decode b_H_dayOf 75 = .ok (.aload_n 0, 1) := by decide +kernel
theorem d_H_dayOf_76 : decode b_H_dayOf 76 = .ok (.getfield 10, 3) := by decide +kernel
theorem d_H_dayOf_79 : decode b_H_dayOf 79 = .ok (.iload_n 3, 1) := by decide +kernel
theorem d_H_dayOf_80 : decode b_H_dayOf 80 = .ok (.invokevirtual 116, 3) := by decide +kernel
theorem d_H_dayOf_83 : decode b_H_dayOf 83 = .ok (.ireturn, 1) := by decide +kernel
theorem d_H_dayOf_84 : decode b_H_dayOf 84 = .ok (.aload_n 0, 1) := by decide +kernel
theorem d_H_dayOf_85 : decode b_H_dayOf 85 = .ok (.getfield 10, 3) := by decide +kernel
theorem d_H_dayOf_88 : decode b_H_dayOf 88 = .ok (.iload_n 3, 1) := by decide +kernel
theorem d_H_dayOf_89 : decode b_H_dayOf 89 = .ok (.invokevirtual 119, 3) := by decide +kernel
theorem d_H_dayOf_92 : decode b_H_dayOf 92 = .ok (.ireturn, 1) := by decide +kernel
theorem d_H_dayOf_93 : decode b_H_dayOf 93 = .ok (.aload_n 0, 1) := by decide +kernel
theorem d_H_dayOf_94 : decode b_H_dayOf 94 = .ok (.getfield 10, 3) := by decide +kernel
theorem d_H_dayOf_97 : decode b_H_dayOf 97 = .ok (.iload_n 3, 1) := by decide +kernel
theorem d_H_dayOf_98 : decode b_H_dayOf 98 = .ok (.invokevirtual 122, 3) := by decide +kernel
theorem d_H_dayOf_101 : decode b_H_dayOf 101 = .ok (.ireturn, 1) := by decide +kernel
theorem d_H_dayOf_102 : decode b_H_dayOf 102 = .ok (.aload_n 0, 1) := by decide +kernel
theorem d_H_dayOf_103 : decode b_H_dayOf 103 = .ok (.bipush (-2), 2) := by decide +kernel
theorem d_H_dayOf_105 : decode b_H_dayOf 105 = .ok (.invokevirtual 65, 3) := by decide +kernel
theorem d_H_dayOf_108 : decode b_H_dayOf 108 = .ok (.ireturn, 1) := by decide +kernel
theorem d_H_drop_0 : decode b_H_drop 0 = .ok (.aload_n 0, 1) := by decide +kernel
theorem d_H_drop_1 : decode b_H_drop 1 = .ok (.getfield 10, 3) := by decide +kernel
theorem d_H_drop_4 : decode b_H_drop 4 = .ok (.invokestatic 344, 3) := by decide +kernel
theorem d_H_drop_7 : decode b_H_drop 7 = .ok (.ireturn, 1) := by decide +kernel
theorem d_H_eggAndRope_0 : decode b_H_eggAndRope 0 = .ok (.aload_n 0, 1) := by decide +kernel
theorem d_H_eggAndRope_1 : decode b_H_eggAndRope 1 = .ok (.getfield 10, 3) := by decide +kernel
theorem d_H_eggAndRope_4 : decode b_H_eggAndRope 4 = .ok (.invokestatic 262, 3) := by decide +kernel
theorem d_H_eggAndRope_7 : decode b_H_eggAndRope 7 = .ok (.ireturn, 1) := by decide +kernel
theorem d_H_feed_0 : decode b_H_feed 0 = .ok (.iload_n 1, 1) := by decide +kernel
theorem d_H_feed_1 : decode b_H_feed 1 = .ok (.ifCond .ge 10, 3) := by decide +kernel
theorem d_H_feed_4 : decode b_H_feed 4 = .ok (.aload_n 0, 1) := by decide +kernel
theorem d_H_feed_5 : decode b_H_feed 5 = .ok (.bipush (-4), 2) := by decide +kernel
theorem d_H_feed_7 : decode b_H_feed 7 = .ok (.invokevirtual 65, 3) := by decide +kernel
theorem d_H_feed_10 : decode b_H_feed 10 = .ok (.ireturn, 1) := by decide +kernel
theorem d_H_feed_11 : decode b_H_feed 11 = .ok (.iload_n 1, 1) := by decide +kernel
theorem d_H_feed_12 : decode b_H_feed 12 = .ok (.sipush 255, 3) := by decide +kernel
theorem d_H_feed_15 : decode b_H_feed 15 = .ok (.if_icmp .gt 15, 3) := by decide +kernel
theorem d_H_feed_18 : decode b_H_feed 18 = .ok (.aload_n 0, 1) := by decide +kernel
theorem d_H_feed_19 : decode b_H_feed 19 = .ok (.getfield 36, 3) := by decide +kernel
theorem d_H_feed_22 : decode b_H_feed 22 = .ok (.getfield 69, 3) := by decide +kernel
theorem d_H_feed_25 : decode b_H_feed 25 = .ok (.bipush 96, 2) := by decide +kernel
theorem d_H_feed_27 : decode b_H_feed 27 = .ok (.if_icmp .lt 10, 3) := by decide +kernel
theorem d_H_feed_30 : decode b_H_feed 30 = .ok (.aload_n 0, 1) := by decide +kernel
theorem d_H_feed_31 : decode b_H_feed 31 = .ok (.bipush (-6), 2) := by decide +kernel
theorem d_H_feed_33 : decode b_H_feed 33 = .ok (.invokevirtual 65, 3) := by decide +kernel
theorem d_H_feed_36 : decode b_H_feed 36 = .ok (.ireturn, 1) := by decide +kernel
theorem d_H_feed_37 : decode b_H_feed 37 = .ok (.aload_n 0, 1) := by decide +kernel
theorem d_H_feed_38 : decode b_H_feed 38 = .ok (.getfield 36, 3) := by decide +kernel
theorem d_H_feed_41 : decode b_H_feed 41 = .ok (.iload_n 1, 1) := by decide +kernel
theorem d_H_feed_42 : decode b_H_feed 42 = .ok (.invokevirtual 73, 3) := by decide +kernel
theorem d_H_feed_45 : decode b_H_feed 45 = .ok (.ireturn, 1) := by decide +kernel
theorem d_H_fieldOf_0 : decode b_H_fieldOf 0 = .ok (.iload_n 1, 1) := by decide +kernel
theorem d_H_fieldOf_1 : decode b_H_fieldOf 1 = .ok (.invokestatic 125, 3) := by decide +kernel
theorem d_H_fieldOf_4 : decode b_H_fieldOf 4 = .ok (.ifCond .ne 9, 3) := by decide +kernel
theorem d_H_fieldOf_7 : decode b_H_fieldOf 7 = .ok (.aload_n 0, 1) := by decide +kernel
theorem d_H_fieldOf_8 : decode b_H_fieldOf 8 = .ok (.iconst (-1), 1) := by decide +kernel
theorem d_H_fieldOf_9 : decode b_H_fieldOf 9 = .ok (.invokevirtual 65, 3) := by decide +kernel
theorem d_H_fieldOf_12 : decode b_H_fieldOf 12 = .ok (.ireturn, 1) := by decide +kernel
theorem d_H_fieldOf_13 : decode b_H_fieldOf 13 = .ok (.iload_n 2, 1) := by decide +kernel
theorem d_H_fieldOf_14 : decode b_H_fieldOf 14 = .ok (.lookupswitch 52 #[(0, 26), (1, 39)], 26) := by decide +kernel
theorem d_H_fieldOf_40 : decode b_H_fieldOf 40 = .ok (.aload_n 0, 1) := by decide +kernel
theorem d_H_fieldOf_41 : decode b_H_fieldOf 41 = .ok (.getfield 10, 3) := by decide +kernel
theorem d_H_fieldOf_44 : decode b_H_fieldOf 44 = .ok (.getfield 128, 3) := by decide +kernel
theorem d_H_fieldOf_47 : decode b_H_fieldOf 47 = .ok (.getfield 132, 3) := by decide +kernel
theorem d_H_fieldOf_50 : decode b_H_fieldOf 50 = .ok (.iload_n 1, 1) := by decide +kernel
theorem d_H_fieldOf_51 : decode b_H_fieldOf 51 = .ok (.iaload, 1) := by decide +kernel
theorem d_H_fieldOf_52 : decode b_H_fieldOf 52 = .ok (.ireturn, 1) := by decide +kernel
theorem d_H_fieldOf_53 : decode b_H_fieldOf 53 = .ok (.aload_n 0, 1) := by decide +kernel
theorem d_H_fieldOf_54 : decode b_H_fieldOf 54 = .ok (.getfield 10, 3) := by decide +kernel
theorem d_H_fieldOf_57 : decode b_H_fieldOf 57 = .ok (.getfield 128, 3) := by decide +kernel
theorem d_H_fieldOf_60 : decode b_H_fieldOf 60 = .ok (.getfield 137, 3) := by decide +kernel
theorem d_H_fieldOf_63 : decode b_H_fieldOf 63 = .ok (.iload_n 1, 1) := by decide +kernel
theorem d_H_fieldOf_64 : decode b_H_fieldOf 64 = .ok (.iaload, 1) := by decide +kernel
theorem d_H_fieldOf_65 : decode b_H_fieldOf 65 = .ok (.ireturn, 1) := by decide +kernel
theorem d_H_fieldOf_66 : decode b_H_fieldOf 66 = .ok (.aload_n 0, 1) := by decide +kernel
theorem d_H_fieldOf_67 : decode b_H_fieldOf 67 = .ok (.bipush (-2), 2) := by decide +kernel
theorem d_H_fieldOf_69 : decode b_H_fieldOf 69 = .ok (.invokevirtual 65, 3) := by decide +kernel
theorem d_H_fieldOf_72 : decode b_H_fieldOf 72 = .ok (.ireturn, 1) := by decide +kernel
theorem d_H_gotIn_0 : decode b_H_gotIn 0 = .ok (.iload_n 1, 1) := by decide +kernel
theorem d_H_gotIn_1 : decode b_H_gotIn 1 = .ok (.lookupswitch 64 #[(0, 27), (1, 40)], 27) := by decide +kernel
theorem d_H_gotIn_28 : decode b_H_gotIn 28 = .ok (.aload_n 0, 1) := by decide +kernel
theorem d_H_gotIn_29 : decode b_H_gotIn 29 = .ok (.getfield 50, 3) := by decide +kernel
theorem d_H_gotIn_32 : decode b_H_gotIn 32 = .ok (.aload_n 0, 1) := by decide +kernel
theorem d_H_gotIn_33 : decode b_H_gotIn 33 = .ok (.getfield 10, 3) := by decide +kernel
theorem d_H_gotIn_36 : decode b_H_gotIn 36 = .ok (.iconst 0, 1) := by decide +kernel
theorem d_H_gotIn_37 : decode b_H_gotIn 37 = .ok (.invokevirtual 265, 3) := by decide +kernel
theorem d_H_gotIn_40 : decode b_H_gotIn 40 = .ok (.ireturn, 1) := by decide +kernel
theorem d_H_gotIn_41 : decode b_H_gotIn 41 = .ok (.aload_n 0, 1) := by decide +kernel
theorem d_H_gotIn_42 : decode b_H_gotIn 42 = .ok (.getfield 50, 3) := by decide +kernel
theorem d_H_gotIn_45 : decode b_H_gotIn 45 = .ok (.aload_n 0, 1) := by decide +kernel
theorem d_H_gotIn_46 : decode b_H_gotIn 46 = .ok (.getfield 10, 3) := by decide +kernel
theorem d_H_gotIn_49 : decode b_H_gotIn 49 = .ok (.iconst 0, 1) := by decide +kernel
theorem d_H_gotIn_50 : decode b_H_gotIn 50 = .ok (.invokevirtual 265, 3) := by decide +kernel
theorem d_H_gotIn_53 : decode b_H_gotIn 53 = .ok (.pop, 1) := by decide +kernel
theorem d_H_gotIn_54 : decode b_H_gotIn 54 = .ok (.aload_n 0, 1) := by decide +kernel
theorem d_H_gotIn_55 : decode b_H_gotIn 55 = .ok (.getfield 50, 3) := by decide +kernel
theorem d_H_gotIn_58 : decode b_H_gotIn 58 = .ok (.getfield 268, 3) := by decide +kernel
theorem d_H_gotIn_61 : decode b_H_gotIn 61 = .ok (.invokevirtual 269, 3) := by decide +kernel
theorem d_H_gotIn_64 : decode b_H_gotIn 64 = .ok (.ireturn, 1) := by decide +kernel
theorem d_H_gotIn_65 : decode b_H_gotIn 65 = .ok (.aload_n 0, 1) := by decide +kernel
theorem d_H_gotIn_66 : decode b_H_gotIn 66 = .ok (.bipush (-2), 2) := by decide +kernel
theorem d_H_gotIn_68 : decode b_H_gotIn 68 = .ok (.invokevirtual 65, 3) := by decide +kernel
theorem d_H_gotIn_71 : decode b_H_gotIn 71 = .ok (.ireturn, 1) := by decide +kernel
theorem d_H_hall_0 : decode b_H_hall 0 = .ok (.aload_n 0, 1) := by decide +kernel
theorem d_H_hall_1 : decode b_H_hall 1 = .ok (.getfield 36, 3) := by decide +kernel
theorem d_H_hall_4 : decode b_H_hall 4 = .ok (.aload_n 0, 1) := by decide +kernel
theorem d_H_hall_5 : decode b_H_hall 5 = .ok (.getfield 19, 3) := by decide +kernel
theorem d_H_hall_8 : decode b_H_hall 8 = .ok (.aload_n 0, 1) := by decide +kernel
theorem d_H_hall_9 : decode b_H_hall 9 = .ok (.getfield 10, 3) := by decide +kernel
theorem d_H_hall_12 : decode b_H_hall 12 = .ok (.invokevirtual 76, 3) := by decide +kernel
theorem d_H_hall_15 : decode b_H_hall 15 = .ok (.istore_n 1, 1) := by decide +kernel
theorem d_H_hall_16 : decode b_H_hall 16 = .ok (.aload_n 0, 1) := by decide +kernel
theorem d_H_hall_17 : decode b_H_hall 17 = .ok (.getfield 36, 3) := by decide +kernel
theorem d_H_hall_20 : decode b_H_hall 20 = .ok (.iconst 0, 1) := by decide +kernel
theorem d_H_hall_21 : decode b_H_hall 21 = .ok (.putfield 69, 3) := by decide +kernel
theorem d_H_hall_24 : decode b_H_hall 24 = .ok (.iload_n 1, 1) := by decide +kernel
theorem d_H_hall_25 : decode b_H_hall 25 = .ok (.ifCond .lt 22, 3) := by decide +kernel
theorem d_H_hall_28 : decode b_H_hall 28 = .ok (.aload_n 0, 1) := by decide +kernel
theorem d_H_hall_29 : decode b_H_hall 29 = .ok (.getfield 10, 3) := by decide +kernel
theorem d_H_hall_32 : decode b_H_hall 32 = .ok (.aload_n 0, 1) := by decide +kernel
theorem d_H_hall_33 : decode b_H_hall 33 = .ok (.getfield 19, 3) := by decide +kernel
theorem d_H_hall_36 : decode b_H_hall 36 = .ok (.invokevirtual 80, 3) := by decide +kernel
theorem d_H_hall_39 : decode b_H_hall 39 = .ok (.aload_n 0, 1) := by decide +kernel
theorem d_H_hall_40 : decode b_H_hall 40 = .ok (.getfield 29, 3) := by decide +kernel
theorem d_H_hall_43 : decode b_H_hall 43 = .ok (.iconst 0, 1) := by decide +kernel
theorem d_H_hall_44 : decode b_H_hall 44 = .ok (.putfield 84, 3) := by decide +kernel
theorem d_H_hall_47 : decode b_H_hall 47 = .ok (.iload_n 1, 1) := by decide +kernel
theorem d_H_hall_48 : decode b_H_hall 48 = .ok (.ireturn, 1) := by decide +kernel
theorem d_H_image_0 : decode b_H_image 0 = .ok (.aload_n 0, 1) := by decide +kernel
theorem d_H_image_1 : decode b_H_image 1 = .ok (.getfield 16, 3) := by decide +kernel
theorem d_H_image_4 : decode b_H_image 4 = .ok (.aload_n 0, 1) := by decide +kernel
theorem d_H_image_5 : decode b_H_image 5 = .ok (.getfield 10, 3) := by decide +kernel
theorem d_H_image_8 : decode b_H_image 8 = .ok (.invokevirtual 80, 3) := by decide +kernel
theorem d_H_image_11 : decode b_H_image 11 = .ok (.aload_n 0, 1) := by decide +kernel
theorem d_H_image_12 : decode b_H_image 12 = .ok (.iconst 1, 1) := by decide +kernel
theorem d_H_image_13 : decode b_H_image 13 = .ok (.putfield 22, 3) := by decide +kernel
theorem d_H_image_16 : decode b_H_image 16 = .ok (.aload_n 0, 1) := by decide +kernel
theorem d_H_image_17 : decode b_H_image 17 = .ok (.getfield 10, 3) := by decide +kernel
theorem d_H_image_20 : decode b_H_image 20 = .ok (.getfield 362, 3) := by decide +kernel
theorem d_H_image_23 : decode b_H_image 23 = .ok (.ireturn, 1) := by decide +kernel
theorem d_H_isPart_0 : decode b_H_isPart 0 = .ok (.iload_n 0, 1) := by decide +kernel
theorem d_H_isPart_1 : decode b_H_isPart 1 = .ok (.ifCond .eq 8, 3) := by decide +kernel
theorem d_H_isPart_4 : decode b_H_isPart 4 = .ok (.iload_n 0, 1) := by decide +kernel
theorem d_H_isPart_5 : decode b_H_isPart 5 = .ok (.iconst 1, 1) := by decide +kernel
theorem d_H_isPart_6 : decode b_H_isPart 6 = .ok (.if_icmp .ne 7, 3) := by decide +kernel
theorem d_H_isPart_9 : decode b_H_isPart 9 = .ok (.iconst 1, 1) := by decide +kernel
theorem d_H_isPart_10 : decode b_H_isPart 10 = .ok (.goto 4, 3) := by decide +kernel
theorem d_H_isPart_13 : decode b_H_isPart 13 = .ok (.iconst 0, 1) := by decide +kernel
theorem d_H_isPart_14 : decode b_H_isPart 14 = .ok (.ireturn, 1) := by decide +kernel
theorem d_H_judge_0 : decode b_H_judge 0 = .ok (.aload_n 0, 1) := by decide +kernel
theorem d_H_judge_1 : decode b_H_judge 1 = .ok (.getfield 43, 3) := by decide +kernel
theorem d_H_judge_4 : decode b_H_judge 4 = .ok (.aload_n 0, 1) := by decide +kernel
theorem d_H_judge_5 : decode b_H_judge 5 = .ok (.getfield 10, 3) := by decide +kernel
theorem d_H_judge_8 : decode b_H_judge 8 = .ok (.invokevirtual 349, 3) := by decide +kernel
theorem d_H_judge_11 : decode b_H_judge 11 = .ok (.istore_n 1, 1) := by decide +kernel
theorem d_H_judge_12 : decode b_H_judge 12 = .ok (.aload_n 0, 1) := by decide +kernel
theorem d_H_judge_13 : decode b_H_judge 13 = .ok (.getfield 43, 3) := by decide +kernel
theorem d_H_judge_16 : decode b_H_judge 16 = .ok (.iconst 0, 1) := by decide +kernel
theorem d_H_judge_17 : decode b_H_judge 17 = .ok (.putfield 347, 3) := by decide +kernel
theorem d_H_judge_20 : decode b_H_judge 20 = .ok (.iload_n 1, 1) := by decide +kernel
theorem d_H_judge_21 : decode b_H_judge 21 = .ok (.ireturn, 1) := by decide +kernel
theorem d_H_lightest_0 : decode b_H_lightest 0 = .ok (.iload_n 1, 1) := by decide +kernel
theorem d_H_lightest_1 : decode b_H_lightest 1 = .ok (.ifCond .eq 15, 3) := by decide +kernel
theorem d_H_lightest_4 : decode b_H_lightest 4 = .ok (.iload_n 1, 1) := by decide +kernel
theorem d_H_lightest_5 : decode b_H_lightest 5 = .ok (.iconst 1, 1) := by decide +kernel
theorem d_H_lightest_6 : decode b_H_lightest 6 = .ok (.if_icmp .eq 10, 3) := by decide +kernel
theorem d_H_lightest_9 : decode b_H_lightest 9 = .ok (.aload_n 0, 1) := by decide +kernel
theorem d_H_lightest_10 : decode b_H_lightest 10 = .ok (.bipush (-2), 2) := by decide +kernel
theorem d_H_lightest_12 : decode b_H_lightest 12 = .ok (.invokevirtual 65, 3) := by decide +kernel
theorem d_H_lightest_15 : decode b_H_lightest 15 = .ok (.ireturn, 1) := by decide +kernel
theorem d_H_lightest_16 : decode b_H_lightest 16 = .ok (.aload_n 0, 1) := by decide +kernel
theorem d_H_lightest_17 : decode b_H_lightest 17 = .ok (.getfield 10, 3) := by decide +kernel
theorem d_H_lightest_20 : decode b_H_lightest 20 = .ok (.invokestatic 314, 3) := by decide +kernel
theorem d_H_lightest_23 : decode b_H_lightest 23 = .ok (.istore_n 2, 1) := by decide +kernel
theorem d_H_lightest_24 : decode b_H_lightest 24 = .ok (.iload_n 1, 1) := by decide +kernel
theorem d_H_lightest_25 : decode b_H_lightest 25 = .ok (.ifCond .eq 7, 3) := by decide +kernel
theorem d_H_lightest_28 : decode b_H_lightest 28 = .ok (.iload_n 2, 1) := by decide +kernel
theorem d_H_lightest_29 : decode b_H_lightest 29 = .ok (.ifCond .ge 7, 3) := by decide +kernel
theorem d_H_lightest_32 : decode b_H_lightest 32 = .ok (.iload_n 2, 1) := by decide +kernel
theorem d_H_lightest_33 : decode b_H_lightest 33 = .ok (.goto 18, 3) := by decide +kernel
theorem d_H_lightest_36 : decode b_H_lightest 36 = .ok (.aload_n 0, 1) := by decide +kernel
theorem d_H_lightest_37 : decode b_H_lightest 37 = .ok (.getfield 10, 3) := by decide +kernel
theorem d_H_lightest_40 : decode b_H_lightest 40 = .ok (.aload_n 0, 1) := by decide +kernel
theorem d_H_lightest_41 : decode b_H_lightest 41 = .ok (.getfield 10, 3) := by decide +kernel
theorem d_H_lightest_44 : decode b_H_lightest 44 = .ok (.iload_n 2, 1) := by decide +kernel
theorem d_H_lightest_45 : decode b_H_lightest 45 = .ok (.invokevirtual 317, 3) := by decide +kernel
theorem d_H_lightest_48 : decode b_H_lightest 48 = .ok (.invokevirtual 119, 3) := by decide +kernel
theorem d_H_lightest_51 : decode b_H_lightest 51 = .ok (.ireturn, 1) := by decide +kernel
theorem d_H_looks_0 : decode b_H_looks 0 = .ok (.aload_n 0, 1) := by decide +kernel
theorem d_H_looks_1 : decode b_H_looks 1 = .ok (.getfield 10, 3) := by decide +kernel
theorem d_H_looks_4 : decode b_H_looks 4 = .ok (.iload_n 1, 1) := by decide +kernel
theorem d_H_looks_5 : decode b_H_looks 5 = .ok (.invokevirtual 107, 3) := by decide +kernel
theorem d_H_looks_8 : decode b_H_looks 8 = .ok (.ifCond .ne 9, 3) := by decide +kernel
theorem d_H_looks_11 : decode b_H_looks 11 = .ok (.aload_n 0, 1) := by decide +kernel
theorem d_H_looks_12 : decode b_H_looks 12 = .ok (.iconst (-1), 1) := by decide +kernel
theorem d_H_looks_13 : decode b_H_looks 13 = .ok (.invokevirtual 65, 3) := by decide +kernel
theorem d_H_looks_16 : decode b_H_looks 16 = .ok (.ireturn, 1) := by decide +kernel
theorem d_H_looks_17 : decode b_H_looks 17 = .ok (.aload_n 0, 1) := by decide +kernel
theorem d_H_looks_18 : decode b_H_looks 18 = .ok (.getfield 10, 3) := by decide +kernel
theorem d_H_looks_21 : decode b_H_looks 21 = .ok (.getfield 110, 3) := by decide +kernel
theorem d_H_looks_24 : decode b_H_looks 24 = .ok (.iload_n 1, 1) := by decide +kernel
theorem d_H_looks_25 : decode b_H_looks 25 = .ok (.iaload, 1) := by decide +kernel
theorem d_H_looks_26 : decode b_H_looks 26 = .ok (.istore_n 2, 1) := by decide +kernel
theorem d_H_looks_27 : decode b_H_looks 27 = .ok (.aload_n 0, 1) := by decide +kernel
theorem d_H_looks_28 : decode b_H_looks 28 = .ok (.getfield 10, 3) := by decide +kernel
theorem d_H_looks_31 : decode b_H_looks 31 = .ok (.iload_n 2, 1) := by decide +kernel
theorem d_H_looks_32 : decode b_H_looks 32 = .ok (.aload_n 0, 1) := by decide +kernel
theorem d_H_looks_33 : decode b_H_looks 33 = .ok (.getfield 10, 3) := by decide +kernel
theorem d_H_looks_36 : decode b_H_looks 36 = .ok (.iload_n 2, 1) := by decide +kernel
theorem d_H_looks_37 : decode b_H_looks 37 = .ok (.invokevirtual 113, 3) := by decide +kernel
theorem d_H_looks_40 : decode b_H_looks 40 = .ok (.invokestatic 228, 3) := by decide +kernel
theorem d_H_looks_43 : decode b_H_looks 43 = .ok (.ireturn, 1) := by decide +kernel
theorem d_H_lots_0 : decode b_H_lots 0 = .ok (.iload_n 1, 1) := by decide +kernel
theorem d_H_lots_1 : decode b_H_lots 1 = .ok (.iconst 1, 1) := by decide +kernel
theorem d_H_lots_2 : decode b_H_lots 2 = .ok (.if_icmp .ge 10, 3) := by decide +kernel
theorem d_H_lots_5 : decode b_H_lots 5 = .ok (.aload_n 0, 1) := by decide +kernel
theorem d_H_lots_6 : decode b_H_lots 6 = .ok (.bipush (-4), 2) := by decide +kernel
theorem d_H_lots_8 : decode b_H_lots 8 = .ok (.invokevirtual 65, 3) := by decide +kernel
theorem d_H_lots_11 : decode b_H_lots 11 = .ok (.ireturn, 1) := by decide +kernel
theorem d_H_lots_12 : decode b_H_lots 12 = .ok (.iload_n 1, 1) := by decide +kernel
theorem d_H_lots_13 : decode b_H_lots 13 = .ok (.bipush 20, 2) := by decide +kernel
theorem d_H_lots_15 : decode b_H_lots 15 = .ok (.if_icmp .le 10, 3) := by decide +kernel
theorem d_H_lots_18 : decode b_H_lots 18 = .ok (.aload_n 0, 1) := by decide +kernel
theorem d_H_lots_19 : decode b_H_lots 19 = .ok (.bipush (-6), 2) := by decide +kernel
theorem d_H_lots_21 : decode b_H_lots 21 = .ok (.invokevirtual 65, 3) := by decide +kernel
theorem d_H_lots_24 : decode b_H_lots 24 = .ok (.ireturn, 1) := by decide +kernel
theorem d_H_lots_25 : decode b_H_lots 25 = .ok (.iload_n 3, 1) := by decide +kernel
theorem d_H_lots_26 : decode b_H_lots 26 = .ok (.ifCond .eq 15, 3) := by decide +kernel
theorem d_H_lots_29 : decode b_H_lots 29 = .ok (.iload_n 3, 1) := by decide +kernel
theorem d_H_lots_30 : decode b_H_lots 30 = .ok (.iconst 1, 1) := by decide +kernel
theorem d_H_lots_31 : decode b_H_lots 31 = .ok (.if_icmp .eq 10, 3) := by decide +kernel
theorem d_H_lots_34 : decode b_H_lots 34 = .ok (.aload_n 0, 1) := by decide +kernel
theorem d_H_lots_35 : decode b_H_lots 35 = .ok (.bipush (-2), 2) := by decide +kernel
theorem d_H_lots_37 : decode b_H_lots 37 = .ok (.invokevirtual 65, 3) := by decide +kernel
theorem d_H_lots_40 : decode b_H_lots 40 = .ok (.ireturn, 1) := by decide +kernel
theorem d_H_lots_41 : decode b_H_lots 41 = .ok (.aload_n 0, 1) := by decide +kernel
theorem d_H_lots_42 : decode b_H_lots 42 = .ok (.getfield 50, 3) := by decide +kernel
theorem d_H_lots_45 : decode b_H_lots 45 = .ok (.aload_n 0, 1) := by decide +kernel
theorem d_H_lots_46 : decode b_H_lots 46 = .ok (.getfield 10, 3) := by decide +kernel
theorem d_H_lots_49 : decode b_H_lots 49 = .ok (.iload_n 1, 1) := by decide +kernel
theorem d_H_lots_50 : decode b_H_lots 50 = .ok (.iload_n 2, 1) := by decide +kernel
theorem d_H_lots_51 : decode b_H_lots 51 = .ok (.invokevirtual 352, 3) := by decide +kernel
theorem d_H_lots_54 : decode b_H_lots 54 = .ok (.iload_n 3, 1) := by decide +kernel
theorem d_H_lots_55 : decode b_H_lots 55 = .ok (.ifCond .ne 13, 3) := by decide +kernel
theorem d_H_lots_58 : decode b_H_lots 58 = .ok (.aload_n 0, 1) := by decide +kernel
theorem d_H_lots_59 : decode b_H_lots 59 = .ok (.getfield 50, 3) := by decide +kernel
theorem d_H_lots_62 : decode b_H_lots 62 = .ok (.getfield 356, 3) := by decide +kernel
theorem d_H_lots_65 : decode b_H_lots 65 = .ok (.goto 10, 3) := by decide +kernel
theorem d_H_lots_68 : decode b_H_lots 68 = .ok (.aload_n 0, 1) := by decide +kernel
theorem d_H_lots_69 : decode b_H_lots 69 = .ok (.getfield 50, 3) := by decide +kernel
theorem d_H_lots_72 : decode b_H_lots 72 = .ok (.getfield 359, 3) := by decide +kernel
theorem d_H_lots_75 : decode b_H_lots 75 = .ok (.ireturn, 1) := by decide +kernel
theorem d_H_refusedLong_0 : decode b_H_refusedLong 0 = .ok (.ldc2_w 371, 3) := by decide +kernel
theorem d_H_refusedLong_3 : decode b_H_refusedLong 3 = .ok (.aload_n 0, 1) := by decide +kernel
theorem d_H_refusedLong_4 : decode b_H_refusedLong 4 = .ok (.iload_n 1, 1) := by decide +kernel
theorem d_H_refusedLong_5 : decode b_H_refusedLong 5 = .ok (.invokevirtual 65, 3) := by decide +kernel
theorem d_H_refusedLong_8 : decode b_H_refusedLong 8 = .ok (.i2l, 1) := by decide +kernel
theorem d_H_refusedLong_9 : decode b_H_refusedLong 9 = .ok (.lsub, 1) := by decide +kernel
theorem d_H_refusedLong_10 : decode b_H_refusedLong 10 = .ok (.lreturn, 1) := by decide +kernel
theorem d_H_mean_0 : decode b_H_mean 0 = .ok (.iload_n 1, 1) := by decide +kernel
theorem d_H_mean_1 : decode b_H_mean 1 = .ok (.invokestatic 212, 3) := by decide +kernel
theorem d_H_mean_4 : decode b_H_mean 4 = .ok (.ifCond .ne 10, 3) := by decide +kernel
theorem d_H_mean_7 : decode b_H_mean 7 = .ok (.aload_n 0, 1) := by decide +kernel
theorem d_H_mean_8 : decode b_H_mean 8 = .ok (.bipush (-2), 2) := by decide +kernel
theorem d_H_mean_10 : decode b_H_mean 10 = .ok (.invokevirtual 208, 3) := by decide +kernel
theorem d_H_mean_13 : decode b_H_mean 13 = .ok (.lreturn, 1) := by decide +kernel
theorem d_H_mean_14 : decode b_H_mean 14 = .ok (.aload_n 0, 1) := by decide +kernel
theorem d_H_mean_15 : decode b_H_mean 15 = .ok (.getfield 57, 3) := by decide +kernel
theorem d_H_mean_18 : decode b_H_mean 18 = .ok (.aload_n 0, 1) := by decide +kernel
theorem d_H_mean_19 : decode b_H_mean 19 = .ok (.getfield 10, 3) := by decide +kernel
theorem d_H_mean_22 : decode b_H_mean 22 = .ok (.invokestatic 332, 3) := by decide +kernel
theorem d_H_mean_25 : decode b_H_mean 25 = .ok (.i2l, 1) := by decide +kernel
theorem d_H_mean_26 : decode b_H_mean 26 = .ok (.aload_n 0, 1) := by decide +kernel
theorem d_H_mean_27 : decode b_H_mean 27 = .ok (.getfield 10, 3) := by decide +kernel
theorem d_H_mean_30 : decode b_H_mean 30 = .ok (.getfield 272, 3) := by decide +kernel
theorem d_H_mean_33 : decode b_H_mean 33 = .ok (.i2l, 1) := by decide +kernel
theorem d_H_mean_34 : decode b_H_mean 34 = .ok (.invokevirtual 222, 3) := by decide +kernel
theorem d_H_mean_37 : decode b_H_mean 37 = .ok (.aload_n 0, 1) := by decide +kernel
theorem d_H_mean_38 : decode b_H_mean 38 = .ok (.getfield 57, 3) := by decide +kernel
theorem d_H_mean_41 : decode b_H_mean 41 = .ok (.iload_n 1, 1) := by decide +kernel
theorem d_H_mean_42 : decode b_H_mean 42 = .ok (.invokevirtual 225, 3) := by decide +kernel
theorem d_H_mean_45 : decode b_H_mean 45 = .ok (.lreturn, 1) := by decide +kernel
theorem d_H_need_0 : decode b_H_need 0 = .ok (.aload_n 0, 1) := by decide +kernel
theorem d_H_need_1 : decode b_H_need 1 = .ok (.getfield 10, 3) := by decide +kernel
theorem d_H_need_4 : decode b_H_need 4 = .ok (.getfield 128, 3) := by decide +kernel
theorem d_H_need_7 : decode b_H_need 7 = .ok (.invokevirtual 335, 3) := by decide +kernel
theorem d_H_need_10 : decode b_H_need 10 = .ok (.istore_n 2, 1) := by decide +kernel
theorem d_H_need_11 : decode b_H_need 11 = .ok (.iload_n 1, 1) := by decide +kernel
theorem d_H_need_12 : decode b_H_need 12 = .ok (.tableswitch 53 0 2 #[28, 30, 42], 28) := by decide +kernel
theorem d_H_need_40 : decode b_H_need 40 = .ok (.iload_n 2, 1) := by decide +kernel
theorem d_H_need_41 : decode b_H_need 41 = .ok (.ireturn, 1) := by decide +kernel
theorem d_H_need_42 : decode b_H_need 42 = .ok (.aload_n 0, 1) := by decide +kernel
theorem d_H_need_43 : decode b_H_need 43 = .ok (.getfield 10, 3) := by decide +kernel
theorem d_H_need_46 : decode b_H_need 46 = .ok (.getfield 128, 3) := by decide +kernel
theorem d_H_need_49 : decode b_H_need 49 = .ok (.iload_n 2, 1) := by decide +kernel
theorem d_H_need_50 : decode b_H_need 50 = .ok (.invokevirtual 338, 3) := by decide +kernel
theorem d_H_need_53 : decode b_H_need 53 = .ok (.ireturn, 1) := by decide +kernel
theorem d_H_need_54 : decode b_H_need 54 = .ok (.aload_n 0, 1) := by decide +kernel
theorem d_H_need_55 : decode b_H_need 55 = .ok (.getfield 10, 3) := by decide +kernel
theorem d_H_need_58 : decode b_H_need 58 = .ok (.getfield 128, 3) := by decide +kernel
theorem d_H_need_61 : decode b_H_need 61 = .ok (.invokevirtual 341, 3) := by decide +kernel
theorem d_H_need_64 : decode b_H_need 64 = .ok (.ireturn, 1) := by decide +kernel
theorem d_H_need_65 : decode b_H_need 65 = .ok (.aload_n 0, 1) := by decide +kernel
theorem d_H_need_66 : decode b_H_need 66 = .ok (.bipush (-2), 2) := by decide +kernel
theorem d_H_need_68 : decode b_H_need 68 = .ok (.invokevirtual 65, 3) := by decide +kernel
theorem d_H_need_71 : decode b_H_need 71 = .ok (.ireturn, 1) := by decide +kernel
theorem d_H_odds_0 : decode b_H_odds 0 = .ok (.aload_n 0, 1) := by decide +kernel
theorem d_H_odds_1 : decode b_H_odds 1 = .ok (.getfield 10, 3) := by decide +kernel
theorem d_H_odds_4 : decode b_H_odds 4 = .ok (.iload_n 1, 1) := by decide +kernel
theorem d_H_odds_5 : decode b_H_odds 5 = .ok (.invokevirtual 107, 3) := by decide +kernel
theorem d_H_odds_8 : decode b_H_odds 8 = .ok (.ifCond .eq 10, 3) := by decide +kernel
theorem d_H_odds_11 : decode b_H_odds 11 = .ok (.iload_n 2, 1) := by decide +kernel
theorem d_H_odds_12 : decode b_H_odds 12 = .ok (.invokestatic 140, 3) := by decide +kernel
theorem d_H_odds_15 : decode b_H_odds 15 = .ok (.ifCond .ne 9, 3) := by decide +kernel
theorem d_H_odds_18 : decode b_H_odds 18 = .ok (.aload_n 0, 1) := by decide +kernel
theorem d_H_odds_19 : decode b_H_odds 19 = .ok (.iconst (-1), 1) := by decide +kernel
theorem d_H_odds_20 : decode b_H_odds 20 = .ok (.invokevirtual 208, 3) := by decide +kernel
theorem d_H_odds_23 : decode b_H_odds 23 = .ok (.lreturn, 1) := by decide +kernel
theorem d_H_odds_24 : decode b_H_odds 24 = .ok (.iload_n 3, 1) := by decide +kernel
theorem d_H_odds_25 : decode b_H_odds 25 = .ok (.invokestatic 212, 3) := by decide +kernel
theorem d_H_odds_28 : decode b_H_odds 28 = .ok (.ifCond .ne 10, 3) := by decide +kernel
theorem d_H_odds_31 : decode b_H_odds 31 = .ok (.aload_n 0, 1) := by decide +kernel
theorem d_H_odds_32 : decode b_H_odds 32 = .ok (.bipush (-2), 2) := by decide +kernel
theorem d_H_odds_34 : decode b_H_odds 34 = .ok (.invokevirtual 208, 3) := by decide +kernel
theorem d_H_odds_37 : decode b_H_odds 37 = .ok (.lreturn, 1) := by decide +kernel
theorem d_H_odds_38 : decode b_H_odds 38 = .ok (.aload_n 0, 1) := by decide +kernel
theorem d_H_odds_39 : decode b_H_odds 39 = .ok (.getfield 10, 3) := by decide +kernel
theorem d_H_odds_42 : decode b_H_odds 42 = .ok (.aload_n 0, 1) := by decide +kernel
theorem d_H_odds_43 : decode b_H_odds 43 = .ok (.getfield 10, 3) := by decide +kernel
theorem d_H_odds_46 : decode b_H_odds 46 = .ok (.getfield 110, 3) := by decide +kernel
theorem d_H_odds_49 : decode b_H_odds 49 = .ok (.iload_n 1, 1) := by decide +kernel
theorem d_H_odds_50 : decode b_H_odds 50 = .ok (.iaload, 1) := by decide +kernel
theorem d_H_odds_51 : decode b_H_odds 51 = .ok (.invokevirtual 113, 3) := by decide +kernel
theorem d_H_odds_54 : decode b_H_odds 54 = .ok (.istore 4, 2) := by decide +kernel
theorem d_H_odds_56 : decode b_H_odds 56 = .ok (.iload 4, 2) := by decide +kernel
theorem d_H_odds_58 : decode b_H_odds 58 = .ok (.iload_n 2, 1) := by decide +kernel
theorem d_H_odds_59 : decode b_H_odds 59 = .ok (.invokestatic 215, 3) := by decide +kernel
theorem d_H_odds_62 : decode b_H_odds 62 = .ok (.ifCond .eq 14, 3) := by decide +kernel
theorem d_H_odds_65 : decode b_H_odds 65 = .ok (.aload_n 0, 1) := by decide +kernel
theorem d_H_odds_66 : decode b_H_odds 66 = .ok (.getfield 10, 3) := by decide +kernel
theorem d_H_odds_69 : decode b_H_odds 69 = .ok (.iload_n 2, 1) := by decide +kernel
theorem d_H_odds_70 : decode b_H_odds 70 = .ok (.invokevirtual 161, 3) := by decide +kernel
theorem d_H_odds_73 : decode b_H_odds 73 = .ok (.goto 4, 3) := by decide +kernel
theorem d_H_odds_76 : decode b_H_odds 76 = .ok (.iconst 0, 1) := by decide +kernel
theorem d_H_odds_77 : decode b_H_odds 77 = .ok (.istore 5, 2) := by decide +kernel
theorem d_H_odds_79 : decode b_H_odds 79 = .ok (.aload_n 0, 1) := by decide +kernel
theorem d_H_odds_80 : decode b_H_odds 80 = .ok (.getfield 57, 3) := by decide +kernel
theorem d_H_odds_83 : decode b_H_odds 83 = .ok (.iload 5, 2) := by decide +kernel
theorem d_H_odds_85 : decode b_H_odds 85 = .ok (.i2l, 1) := by decide +kernel
theorem d_H_odds_86 : decode b_H_odds 86 = .ok (.aload_n 0, 1) := by decide +kernel
theorem d_H_odds_87 : decode b_H_odds 87 = .ok (.getfield 10, 3) := by decide +kernel
theorem d_H_odds_90 : decode b_H_odds 90 = .ok (.iload 4, 2) := by decide +kernel
theorem d_H_odds_92 : decode b_H_odds 92 = .ok (.invokevirtual 219, 3) := by decide +kernel
theorem d_H_odds_95 : decode b_H_odds 95 = .ok (.i2l, 1) := by decide +kernel
theorem d_H_odds_96 : decode b_H_odds 96 = .ok (.invokevirtual 222, 3) := by decide +kernel
theorem d_H_odds_99 : decode b_H_odds 99 = .ok (.aload_n 0, 1) := by decide +kernel
theorem d_H_odds_100 : decode b_H_odds 100 = .ok (.getfield 57, 3) := by decide +kernel
theorem d_H_odds_103 : decode b_H_odds 103 = .ok (.iload_n 3, 1) := by decide +kernel
theorem d_H_odds_104 : decode b_H_odds 104 = .ok (.invokevirtual 225, 3) := by decide +kernel
theorem d_H_odds_107 : decode b_H_odds 107 = .ok (.lreturn, 1) := by decide +kernel
theorem d_H_often_0 : decode b_H_often 0 = .ok (.iload_n 1, 1) := by decide +kernel
theorem d_H_often_1 : decode b_H_often 1 = .ok (.ifCond .eq 15, 3) := by decide +kernel
theorem d_H_often_4 : decode b_H_often 4 = .ok (.iload_n 1, 1) := by decide +kernel
theorem d_H_often_5 : decode b_H_often 5 = .ok (.iconst 1, 1) := by decide +kernel
theorem d_H_often_6 : decode b_H_often 6 = .ok (.if_icmp .eq 10, 3) := by decide +kernel
theorem d_H_often_9 : decode b_H_often 9 = .ok (.aload_n 0, 1) := by decide +kernel
theorem d_H_often_10 : decode b_H_often 10 = .ok (.bipush (-2), 2) := by decide +kernel
theorem d_H_often_12 : decode b_H_often 12 = .ok (.invokevirtual 65, 3) := by decide +kernel
theorem d_H_often_15 : decode b_H_often 15 = .ok (.ireturn, 1) := by decide +kernel
theorem d_H_often_16 : decode b_H_often 16 = .ok (.aload_n 0, 1) := by decide +kernel
theorem d_H_often_17 : decode b_H_often 17 = .ok (.getfield 10, 3) := by decide +kernel
theorem d_H_often_20 : decode b_H_often 20 = .ok (.invokestatic 323, 3) := by decide +kernel
theorem d_H_often_23 : decode b_H_often 23 = .ok (.istore_n 2, 1) := by decide +kernel
theorem d_H_often_24 : decode b_H_often 24 = .ok (.iload_n 1, 1) := by decide +kernel
theorem d_H_often_25 : decode b_H_often 25 = .ok (.ifCond .ne 7, 3) := by decide +kernel
theorem d_H_often_28 : decode b_H_often 28 = .ok (.iload_n 2, 1) := by decide +kernel
theorem d_H_often_29 : decode b_H_often 29 = .ok (.goto 11, 3) := by decide +kernel
theorem d_H_often_32 : decode b_H_often 32 = .ok (.aload_n 0, 1) := by decide +kernel
theorem d_H_often_33 : decode b_H_often 33 = .ok (.getfield 10, 3) := by decide +kernel
theorem d_H_often_36 : decode b_H_often 36 = .ok (.iload_n 2, 1) := by decide +kernel
theorem d_H_often_37 : decode b_H_often 37 = .ok (.invokestatic 326, 3) := by decide +kernel
theorem d_H_often_40 : decode b_H_often 40 = .ok (.ireturn, 1) := by decide +kernel
theorem d_H_order_0 : decode b_H_order 0 = .ok (.iload_n 1, 1) := by decide +kernel
theorem d_H_order_1 : decode b_H_order 1 = .ok (.iconst 1, 1) := by decide +kernel
theorem d_H_order_2 : decode b_H_order 2 = .ok (.if_icmp .lt 8, 3) := by decide +kernel
theorem d_H_order_5 : decode b_H_order 5 = .ok (.iload_n 2, 1) := by decide +kernel
theorem d_H_order_6 : decode b_H_order 6 = .ok (.iconst (-1), 1) := by decide +kernel
theorem d_H_order_7 : decode b_H_order 7 = .ok (.if_icmp .ge 10, 3) := by decide +kernel
theorem d_H_order_10 : decode b_H_order 10 = .ok (.aload_n 0, 1) := by decide +kernel
theorem d_H_order_11 : decode b_H_order 11 = .ok (.bipush (-4), 2) := by decide +kernel
theorem d_H_order_13 : decode b_H_order 13 = .ok (.invokevirtual 65, 3) := by decide +kernel
theorem d_H_order_16 : decode b_H_order 16 = .ok (.ireturn, 1) := by decide +kernel
theorem d_H_order_17 : decode b_H_order 17 = .ok (.iload_n 1, 1) := by decide +kernel
theorem d_H_order_18 : decode b_H_order 18 = .ok (.bipush 8, 2) := by decide +kernel
theorem d_H_order_20 : decode b_H_order 20 = .ok (.if_icmp .le 10, 3) := by decide +kernel
theorem d_H_order_23 : decode b_H_order 23 = .ok (.aload_n 0, 1) := by decide +kernel
theorem d_H_order_24 : decode b_H_order 24 = .ok (.bipush (-6), 2) := by decide +kernel
theorem d_H_order_26 : decode b_H_order 26 = .ok (.invokevirtual 65, 3) := by decide +kernel
theorem d_H_order_29 : decode b_H_order 29 = .ok (.ireturn, 1) := by decide +kernel
theorem d_H_order_30 : decode b_H_order 30 = .ok (.aload_n 0, 1) := by decide +kernel
theorem d_H_order_31 : decode b_H_order 31 = .ok (.getfield 10, 3) := by decide +kernel
theorem d_H_order_34 : decode b_H_order 34 = .ok (.getfield 272, 3) := by decide +kernel
theorem d_H_order_37 : decode b_H_order 37 = .ok (.bipush 7, 2) := by decide +kernel
theorem d_H_order_39 : decode b_H_order 39 = .ok (.if_icmp .le 10, 3) := by decide +kernel
theorem d_H_order_42 : decode b_H_order 42 = .ok (.aload_n 0, 1) := by decide +kernel
theorem d_H_order_43 : decode b_H_order 43 = .ok (.bipush (-3), 2) := by decide +kernel
theorem d_H_order_45 : decode b_H_order 45 = .ok (.invokevirtual 65, 3) := by decide +kernel
theorem d_H_order_48 : decode b_H_order 48 = .ok (.ireturn, 1) := by decide +kernel
theorem d_H_order_49 : decode b_H_order 49 = .ok (.aload_n 0, 1) := by decide +kernel
theorem d_H_order_50 : decode b_H_order 50 = .ok (.getfield 50, 3) := by decide +kernel
theorem d_H_order_53 : decode b_H_order 53 = .ok (.aload_n 0, 1) := by decide +kernel
theorem d_H_order_54 : decode b_H_order 54 = .ok (.getfield 10, 3) := by decide +kernel
theorem d_H_order_57 : decode b_H_order 57 = .ok (.iload_n 1, 1) := by decide +kernel
theorem d_H_order_58 : decode b_H_order 58 = .ok (.invokevirtual 275, 3) := by decide +kernel
theorem d_H_order_61 : decode b_H_order 61 = .ok (.iload_n 2, 1) := by decide +kernel
theorem d_H_order_62 : decode b_H_order 62 = .ok (.iconst (-1), 1) := by decide +kernel
theorem d_H_order_63 : decode b_H_order 63 = .ok (.if_icmp .ne 13, 3) := by decide +kernel
theorem d_H_order_66 : decode b_H_order 66 = .ok (.aload_n 0, 1) := by decide +kernel
theorem d_H_order_67 : decode b_H_order 67 = .ok (.getfield 50, 3) := by decide +kernel
theorem d_H_order_70 : decode b_H_order 70 = .ok (.getfield 278, 3) := by decide +kernel
theorem d_H_order_73 : decode b_H_order 73 = .ok (.goto 11, 3) := by decide +kernel
theorem d_H_order_76 : decode b_H_order 76 = .ok (.aload_n 0, 1) := by decide +kernel
theorem d_H_order_77 : decode b_H_order 77 = .ok (.getfield 50, 3) := by decide +kernel
theorem d_H_order_80 : decode b_H_order 80 = .ok (.iload_n 2, 1) := by decide +kernel
theorem d_H_order_81 : decode b_H_order 81 = .ok (.invokevirtual 281, 3) := by decide +kernel
theorem d_H_order_84 : decode b_H_order 84 = .ok (.ireturn, 1) := by decide +kernel
theorem d_H_pack_0 : decode b_H_pack 0 = .ok (.iload_n 1, 1) := by decide +kernel
theorem d_H_pack_1 : decode b_H_pack 1 = .ok (.invokestatic 140, 3) := by decide +kernel
theorem d_H_pack_4 : decode b_H_pack 4 = .ok (.ifCond .ne 9, 3) := by decide +kernel
theorem d_H_pack_7 : decode b_H_pack 7 = .ok (.aload_n 0, 1) := by decide +kernel
theorem d_H_pack_8 : decode b_H_pack 8 = .ok (.iconst (-1), 1) := by decide +kernel
theorem d_H_pack_9 : decode b_H_pack 9 = .ok (.invokevirtual 65, 3) := by decide +kernel
theorem d_H_pack_12 : decode b_H_pack 12 = .ok (.ireturn, 1) := by decide +kernel
theorem d_H_pack_13 : decode b_H_pack 13 = .ok (.iload_n 2, 1) := by decide +kernel
theorem d_H_pack_14 : decode b_H_pack 14 = .ok (.lookupswitch 48 #[(0, 26), (1, 37)], 26) := by decide +kernel
theorem d_H_pack_40 : decode b_H_pack 40 = .ok (.aload_n 0, 1) := by decide +kernel
theorem d_H_pack_41 : decode b_H_pack 41 = .ok (.getfield 10, 3) := by decide +kernel
theorem d_H_pack_44 : decode b_H_pack 44 = .ok (.iconst 1, 1) := by decide +kernel
theorem d_H_pack_45 : decode b_H_pack 45 = .ok (.iload_n 1, 1) := by decide +kernel
theorem d_H_pack_46 : decode b_H_pack 46 = .ok (.ishl, 1) := by decide +kernel
theorem d_H_pack_47 : decode b_H_pack 47 = .ok (.invokestatic 234, 3) := by decide +kernel
theorem d_H_pack_50 : decode b_H_pack 50 = .ok (.ireturn, 1) := by decide +kernel
theorem d_H_pack_51 : decode b_H_pack 51 = .ok (.aload_n 0, 1) := by decide +kernel
theorem d_H_pack_52 : decode b_H_pack 52 = .ok (.getfield 10, 3) := by decide +kernel
theorem d_H_pack_55 : decode b_H_pack 55 = .ok (.iconst 1, 1) := by decide +kernel
theorem d_H_pack_56 : decode b_H_pack 56 = .ok (.iload_n 1, 1) := by decide +kernel
theorem d_H_pack_57 : decode b_H_pack 57 = .ok (.ishl, 1) := by decide +kernel
theorem d_H_pack_58 : decode b_H_pack 58 = .ok (.invokestatic 238, 3) := by decide +kernel
theorem d_H_pack_61 : decode b_H_pack 61 = .ok (.ireturn, 1) := by decide +kernel
theorem d_H_pack_62 : decode b_H_pack 62 = .ok (.aload_n 0, 1) := by decide +kernel
theorem d_H_pack_63 : decode b_H_pack 63 = .ok (.bipush (-2), 2) := by decide +kernel
theorem d_H_pack_65 : decode b_H_pack 65 = .ok (.invokevirtual 65, 3) := by decide +kernel
theorem d_H_pack_68 : decode b_H_pack 68 = .ok (.ireturn, 1) := by decide +kernel
theorem d_H_packs_0 : decode b_H_packs 0 = .ok (.aload_n 0, 1) := by decide +kernel
theorem d_H_packs_1 : decode b_H_packs 1 = .ok (.getfield 10, 3) := by decide +kernel
theorem d_H_packs_4 : decode b_H_packs 4 = .ok (.iload_n 1, 1) := by decide +kernel
theorem d_H_packs_5 : decode b_H_packs 5 = .ok (.iload_n 2, 1) := by decide +kernel
theorem d_H_packs_6 : decode b_H_packs 6 = .ok (.invokevirtual 172, 3) := by decide +kernel
theorem d_H_packs_9 : decode b_H_packs 9 = .ok (.istore_n 3, 1) := by decide +kernel
theorem d_H_packs_10 : decode b_H_packs 10 = .ok (.iload_n 3, 1) := by decide +kernel
theorem d_H_packs_11 : decode b_H_packs 11 = .ok (.ifCond .eq 9, 3) := by decide +kernel
theorem d_H_packs_14 : decode b_H_packs 14 = .ok (.aload_n 0, 1) := by decide +kernel
theorem d_H_packs_15 : decode b_H_packs 15 = .ok (.iload_n 3, 1) := by decide +kernel
theorem d_H_packs_16 : decode b_H_packs 16 = .ok (.invokevirtual 65, 3) := by decide +kernel
theorem d_H_packs_19 : decode b_H_packs 19 = .ok (.ireturn, 1) := by decide +kernel
theorem d_H_packs_20 : decode b_H_packs 20 = .ok (.aload_n 0, 1) := by decide +kernel
theorem d_H_packs_21 : decode b_H_packs 21 = .ok (.getfield 29, 3) := by decide +kernel
theorem d_H_packs_24 : decode b_H_packs 24 = .ok (.aload_n 0, 1) := by decide +kernel
theorem d_H_packs_25 : decode b_H_packs 25 = .ok (.getfield 10, 3) := by decide +kernel
theorem d_H_packs_28 : decode b_H_packs 28 = .ok (.iload_n 1, 1) := by decide +kernel
theorem d_H_packs_29 : decode b_H_packs 29 = .ok (.invokevirtual 175, 3) := by decide +kernel
theorem d_H_packs_32 : decode b_H_packs 32 = .ok (.aload_n 0, 1) := by decide +kernel
theorem d_H_packs_33 : decode b_H_packs 33 = .ok (.getfield 10, 3) := by decide +kernel
theorem d_H_packs_36 : decode b_H_packs 36 = .ok (.iload_n 1, 1) := by decide +kernel
theorem d_H_packs_37 : decode b_H_packs 37 = .ok (.iload_n 2, 1) := by decide +kernel
theorem d_H_packs_38 : decode b_H_packs 38 = .ok (.invokevirtual 178, 3) := by decide +kernel
theorem d_H_packs_41 : decode b_H_packs 41 = .ok (.ireturn, 1) := by decide +kernel
theorem d_H_plan_0 : decode b_H_plan 0 = .ok (.aload_n 0, 1) := by decide +kernel
theorem d_H_plan_1 : decode b_H_plan 1 = .ok (.getfield 50, 3) := by decide +kernel
theorem d_H_plan_4 : decode b_H_plan 4 = .ok (.aload_n 0, 1) := by decide +kernel
theorem d_H_plan_5 : decode b_H_plan 5 = .ok (.getfield 10, 3) := by decide +kernel
theorem d_H_plan_8 : decode b_H_plan 8 = .ok (.invokevirtual 284, 3) := by decide +kernel
theorem d_H_plan_11 : decode b_H_plan 11 = .ok (.ireturn, 1) := by decide +kernel
theorem d_H_power_0 : decode b_H_power 0 = .ok (.lconst 1, 1) := by decide +kernel
theorem d_H_power_1 : decode b_H_power 1 = .ok (.lstore_n 2, 1) := by decide +kernel
theorem d_H_power_2 : decode b_H_power 2 = .ok (.iconst 0, 1) := by decide +kernel
theorem d_H_power_3 : decode b_H_power 3 = .ok (.istore 4, 2) := by decide +kernel
theorem d_H_power_5 : decode b_H_power 5 = .ok (.iload 4, 2) := by decide +kernel
theorem d_H_power_7 : decode b_H_power 7 = .ok (.iload_n 1, 1) := by decide +kernel
theorem d_H_power_8 : decode b_H_power 8 = .ok (.if_icmp .ge 14, 3) := by decide +kernel
theorem d_H_power_11 : decode b_H_power 11 = .ok (.lload_n 2, 1) := by decide +kernel
theorem d_H_power_12 : decode b_H_power 12 = .ok (.iload_n 0, 1) := by decide +kernel
theorem d_H_power_13 : decode b_H_power 13 = .ok (.i2l, 1) := by decide +kernel
theorem d_H_power_14 : decode b_H_power 14 = .ok (.lmul, 1) := by decide +kernel
theorem d_H_power_15 : decode b_H_power 15 = .ok (.lstore_n 2, 1) := by decide +kernel
theorem d_H_power_16 : decode b_H_power 16 = .ok (.iinc 4 1, 3) := by decide +kernel
theorem d_H_power_19 : decode b_H_power 19 = .ok (.goto (-14), 3) := by decide +kernel
theorem d_H_power_22 : decode b_H_power 22 = .ok (.lload_n 2, 1) := by decide +kernel
theorem d_H_power_23 : decode b_H_power 23 = .ok (.lreturn, 1) := by decide +kernel
theorem d_H_restore_0 : decode b_H_restore 0 = .ok (.aload_n 0, 1) := by decide +kernel
theorem d_H_restore_1 : decode b_H_restore 1 = .ok (.getfield 22, 3) := by decide +kernel
theorem d_H_restore_4 : decode b_H_restore 4 = .ok (.ifCond .ne 10, 3) := by decide +kernel
theorem d_H_restore_7 : decode b_H_restore 7 = .ok (.aload_n 0, 1) := by decide +kernel
theorem d_H_restore_8 : decode b_H_restore 8 = .ok (.bipush (-3), 2) := by decide +kernel
theorem d_H_restore_10 : decode b_H_restore 10 = .ok (.invokevirtual 65, 3) := by decide +kernel
theorem d_H_restore_13 : decode b_H_restore 13 = .ok (.ireturn, 1) := by decide +kernel
theorem d_H_restore_14 : decode b_H_restore 14 = .ok (.aload_n 0, 1) := by decide +kernel
theorem d_H_restore_15 : decode b_H_restore 15 = .ok (.getfield 10, 3) := by decide +kernel
theorem d_H_restore_18 : decode b_H_restore 18 = .ok (.aload_n 0, 1) := by decide +kernel
theorem d_H_restore_19 : decode b_H_restore 19 = .ok (.getfield 16, 3) := by decide +kernel
theorem d_H_restore_22 : decode b_H_restore 22 = .ok (.invokevirtual 80, 3) := by decide +kernel
theorem d_H_restore_25 : decode b_H_restore 25 = .ok (.aload_n 0, 1) := by decide +kernel
theorem d_H_restore_26 : decode b_H_restore 26 = .ok (.getfield 29, 3) := by decide +kernel
theorem d_H_restore_29 : decode b_H_restore 29 = .ok (.iconst 0, 1) := by decide +kernel
theorem d_H_restore_30 : decode b_H_restore 30 = .ok (.putfield 84, 3) := by decide +kernel
theorem d_H_restore_33 : decode b_H_restore 33 = .ok (.aload_n 0, 1) := by decide +kernel
theorem d_H_restore_34 : decode b_H_restore 34 = .ok (.getfield 10, 3) := by decide +kernel
theorem d_H_restore_37 : decode b_H_restore 37 = .ok (.getfield 362, 3) := by decide +kernel
theorem d_H_restore_40 : decode b_H_restore 40 = .ok (.ireturn, 1) := by decide +kernel
theorem d_H_rope_0 : decode b_H_rope 0 = .ok (.aload_n 0, 1) := by decide +kernel
theorem d_H_rope_1 : decode b_H_rope 1 = .ok (.getfield 10, 3) := by decide +kernel
theorem d_H_rope_4 : decode b_H_rope 4 = .ok (.invokestatic 241, 3) := by decide +kernel
theorem d_H_rope_7 : decode b_H_rope 7 = .ok (.ireturn, 1) := by decide +kernel
theorem d_H_row_0 : decode b_H_row 0 = .ok (.iload_n 1, 1) := by decide +kernel
theorem d_H_row_1 : decode b_H_row 1 = .ok (.ifCond .ge 10, 3) := by decide +kernel
theorem d_H_row_4 : decode b_H_row 4 = .ok (.aload_n 0, 1) := by decide +kernel
theorem d_H_row_5 : decode b_H_row 5 = .ok (.bipush (-4), 2) := by decide +kernel
theorem d_H_row_7 : decode b_H_row 7 = .ok (.invokevirtual 65, 3) := by decide +kernel
theorem d_H_row_10 : decode b_H_row 10 = .ok (.ireturn, 1) := by decide +kernel
theorem d_H_row_11 : decode b_H_row 11 = .ok (.iload_n 1, 1) := by decide +kernel
theorem d_H_row_12 : decode b_H_row 12 = .ok (.bipush 99, 2) := by decide +kernel
theorem d_H_row_14 : decode b_H_row 14 = .ok (.if_icmp .gt 15, 3) := by decide +kernel
theorem d_H_row_17 : decode b_H_row 17 = .ok (.aload_n 0, 1) := by decide +kernel
theorem d_H_row_18 : decode b_H_row 18 = .ok (.getfield 43, 3) := by decide +kernel
theorem d_H_row_21 : decode b_H_row 21 = .ok (.getfield 347, 3) := by decide +kernel
theorem d_H_row_24 : decode b_H_row 24 = .ok (.bipush 12, 2) := by decide +kernel
theorem d_H_row_26 : decode b_H_row 26 = .ok (.if_icmp .lt 10, 3) := by decide +kernel
theorem d_H_row_29 : decode b_H_row 29 = .ok (.aload_n 0, 1) := by decide +kernel
theorem d_H_row_30 : decode b_H_row 30 = .ok (.bipush (-6), 2) := by decide +kernel
theorem d_H_row_32 : decode b_H_row 32 = .ok (.invokevirtual 65, 3) := by decide +kernel
theorem d_H_row_35 : decode b_H_row 35 = .ok (.ireturn, 1) := by decide +kernel
theorem d_H_row_36 : decode b_H_row 36 = .ok (.aload_n 0, 1) := by decide +kernel
theorem d_H_row_37 : decode b_H_row 37 = .ok (.getfield 43, 3) := by decide +kernel
theorem d_H_row_40 : decode b_H_row 40 = .ok (.iload_n 1, 1) := by decide +kernel
theorem d_H_row_41 : decode b_H_row 41 = .ok (.invokevirtual 348, 3) := by decide +kernel
theorem d_H_row_44 : decode b_H_row 44 = .ok (.ireturn, 1) := by decide +kernel
theorem d_H_smallest_0 : decode b_H_smallest 0 = .ok (.iload_n 1, 1) := by decide +kernel
theorem d_H_smallest_1 : decode b_H_smallest 1 = .ok (.iconst 1, 1) := by decide +kernel
theorem d_H_smallest_2 : decode b_H_smallest 2 = .ok (.if_icmp .ge 10, 3) := by decide +kernel
theorem d_H_smallest_5 : decode b_H_smallest 5 = .ok (.aload_n 0, 1) := by decide +kernel
theorem d_H_smallest_6 : decode b_H_smallest 6 = .ok (.bipush (-4), 2) := by decide +kernel
theorem d_H_smallest_8 : decode b_H_smallest 8 = .ok (.invokevirtual 65, 3) := by decide +kernel
theorem d_H_smallest_11 : decode b_H_smallest 11 = .ok (.ireturn, 1) := by decide +kernel
theorem d_H_smallest_12 : decode b_H_smallest 12 = .ok (.iload_n 1, 1) := by decide +kernel
theorem d_H_smallest_13 : decode b_H_smallest 13 = .ok (.bipush 63, 2) := by decide +kernel
theorem d_H_smallest_15 : decode b_H_smallest 15 = .ok (.if_icmp .le 10, 3) := by decide +kernel
theorem d_H_smallest_18 : decode b_H_smallest 18 = .ok (.aload_n 0, 1) := by decide +kernel
theorem d_H_smallest_19 : decode b_H_smallest 19 = .ok (.bipush (-6), 2) := by decide +kernel
theorem d_H_smallest_21 : decode b_H_smallest 21 = .ok (.invokevirtual 65, 3) := by decide +kernel
theorem d_H_smallest_24 : decode b_H_smallest 24 = .ok (.ireturn, 1) := by decide +kernel
theorem d_H_smallest_25 : decode b_H_smallest 25 = .ok (.aload_n 0, 1) := by decide +kernel
theorem d_H_smallest_26 : decode b_H_smallest 26 = .ok (.getfield 10, 3) := by decide +kernel
theorem d_H_smallest_29 : decode b_H_smallest 29 = .ok (.aload_n 0, 1) := by decide +kernel
theorem d_H_smallest_30 : decode b_H_smallest 30 = .ok (.getfield 10, 3) := by decide +kernel
theorem d_H_smallest_33 : decode b_H_smallest 33 = .ok (.invokevirtual 258, 3) := by decide +kernel
theorem d_H_smallest_36 : decode b_H_smallest 36 = .ok (.iload_n 1, 1) := by decide +kernel
theorem d_H_smallest_37 : decode b_H_smallest 37 = .ok (.invokestatic 228, 3) := by decide +kernel
theorem d_H_smallest_40 : decode b_H_smallest 40 = .ok (.ireturn, 1) := by decide +kernel
theorem d_H_spare_0 : decode b_H_spare 0 = .ok (.aload_n 0, 1) := by decide +kernel
theorem d_H_spare_1 : decode b_H_spare 1 = .ok (.getfield 50, 3) := by decide +kernel
theorem d_H_spare_4 : decode b_H_spare 4 = .ok (.aload_n 0, 1) := by decide +kernel
theorem d_H_spare_5 : decode b_H_spare 5 = .ok (.getfield 10, 3) := by decide +kernel
theorem d_H_spare_8 : decode b_H_spare 8 = .ok (.invokevirtual 287, 3) := by decide +kernel
theorem d_H_spare_11 : decode b_H_spare 11 = .ok (.ireturn, 1) := by decide +kernel
theorem d_H_spends_0 : decode b_H_spends 0 = .ok (.aload_n 0, 1) := by decide +kernel
theorem d_H_spends_1 : decode b_H_spends 1 = .ok (.getfield 10, 3) := by decide +kernel
theorem d_H_spends_4 : decode b_H_spends 4 = .ok (.iload_n 1, 1) := by decide +kernel
theorem d_H_spends_5 : decode b_H_spends 5 = .ok (.iload_n 2, 1) := by decide +kernel
theorem d_H_spends_6 : decode b_H_spends 6 = .ok (.invokevirtual 192, 3) := by decide +kernel
theorem d_H_spends_9 : decode b_H_spends 9 = .ok (.istore_n 3, 1) := by decide +kernel
theorem d_H_spends_10 : decode b_H_spends 10 = .ok (.iload_n 3, 1) := by decide +kernel
theorem d_H_spends_11 : decode b_H_spends 11 = .ok (.ifCond .eq 9, 3) := by decide +kernel
theorem d_H_spends_14 : decode b_H_spends 14 = .ok (.aload_n 0, 1) := by decide +kernel
theorem d_H_spends_15 : decode b_H_spends 15 = .ok (.iload_n 3, 1) := by decide +kernel
theorem d_H_spends_16 : decode b_H_spends 16 = .ok (.invokevirtual 65, 3) := by decide +kernel
theorem d_H_spends_19 : decode b_H_spends 19 = .ok (.ireturn, 1) := by decide +kernel
theorem d_H_spends_20 : decode b_H_spends 20 = .ok (.iload_n 2, 1) := by decide +kernel
theorem d_H_spends_21 : decode b_H_spends 21 = .ok (.bipush 9, 2) := by decide +kernel
theorem d_H_spends_23 : decode b_H_spends 23 = .ok (.if_icmp .ne 14, 3) := by decide +kernel
theorem d_H_spends_26 : decode b_H_spends 26 = .ok (.aload_n 0, 1) := by decide +kernel
theorem d_H_spends_27 : decode b_H_spends 27 = .ok (.getfield 10, 3) := by decide +kernel
theorem d_H_spends_30 : decode b_H_spends 30 = .ok (.iload_n 1, 1) := by decide +kernel
theorem d_H_spends_31 : decode b_H_spends 31 = .ok (.invokevirtual 195, 3) := by decide +kernel
theorem d_H_spends_34 : decode b_H_spends 34 = .ok (.goto 4, 3) := by decide +kernel
theorem d_H_spends_37 : decode b_H_spends 37 = .ok (.iload_n 2, 1) := by decide +kernel
theorem d_H_spends_38 : decode b_H_spends 38 = .ok (.istore 4, 2) := by decide +kernel
theorem d_H_spends_40 : decode b_H_spends 40 = .ok (.aload_n 0, 1) := by decide +kernel
theorem d_H_spends_41 : decode b_H_spends 41 = .ok (.getfield 29, 3) := by decide +kernel
theorem d_H_spends_44 : decode b_H_spends 44 = .ok (.aload_n 0, 1) := by decide +kernel
theorem d_H_spends_45 : decode b_H_spends 45 = .ok (.getfield 10, 3) := by decide +kernel
theorem d_H_spends_48 : decode b_H_spends 48 = .ok (.aload_n 0, 1) := by decide +kernel
theorem d_H_spends_49 : decode b_H_spends 49 = .ok (.getfield 10, 3) := by decide +kernel
theorem d_H_spends_52 : decode b_H_spends 52 = .ok (.getfield 128, 3) := by decide +kernel
theorem d_H_spends_55 : decode b_H_spends 55 = .ok (.iload 4, 2) := by decide +kernel
theorem d_H_spends_57 : decode b_H_spends 57 = .ok (.invokevirtual 198, 3) := by decide +kernel
theorem d_H_spends_60 : decode b_H_spends 60 = .ok (.invokevirtual 185, 3) := by decide +kernel
theorem d_H_spends_63 : decode b_H_spends 63 = .ok (.aload_n 0, 1) := by decide +kernel
theorem d_H_spends_64 : decode b_H_spends 64 = .ok (.getfield 10, 3) := by decide +kernel
theorem d_H_spends_67 : decode b_H_spends 67 = .ok (.iload 4, 2) := by decide +kernel
theorem d_H_spends_69 : decode b_H_spends 69 = .ok (.invokevirtual 201, 3) := by decide +kernel
theorem d_H_spends_72 : decode b_H_spends 72 = .ok (.ireturn, 1) := by decide +kernel
theorem d_H_sure_0 : decode b_H_sure 0 = .ok (.iload_n 1, 1) := by decide +kernel
theorem d_H_sure_1 : decode b_H_sure 1 = .ok (.lookupswitch 45 #[(0, 27), (1, 36)], 27) := by decide +kernel
theorem d_H_sure_28 : decode b_H_sure 28 = .ok (.aload_n 0, 1) := by decide +kernel
theorem d_H_sure_29 : decode b_H_sure 29 = .ok (.getfield 10, 3) := by decide +kernel
theorem d_H_sure_32 : decode b_H_sure 32 = .ok (.iconst 1, 1) := by decide +kernel
theorem d_H_sure_33 : decode b_H_sure 33 = .ok (.invokestatic 329, 3) := by decide +kernel
theorem d_H_sure_36 : decode b_H_sure 36 = .ok (.ireturn, 1) := by decide +kernel
theorem d_H_sure_37 : decode b_H_sure 37 = .ok (.aload_n 0, 1) := by decide +kernel
theorem d_H_sure_38 : decode b_H_sure 38 = .ok (.getfield 10, 3) := by decide +kernel
theorem d_H_sure_41 : decode b_H_sure 41 = .ok (.iconst 0, 1) := by decide +kernel
theorem d_H_sure_42 : decode b_H_sure 42 = .ok (.invokestatic 329, 3) := by decide +kernel
theorem d_H_sure_45 : decode b_H_sure 45 = .ok (.ireturn, 1) := by decide +kernel
theorem d_H_sure_46 : decode b_H_sure 46 = .ok (.aload_n 0, 1) := by decide +kernel
theorem d_H_sure_47 : decode b_H_sure 47 = .ok (.bipush (-2), 2) := by decide +kernel
theorem d_H_sure_49 : decode b_H_sure 49 = .ok (.invokevirtual 65, 3) := by decide +kernel
theorem d_H_sure_52 : decode b_H_sure 52 = .ok (.ireturn, 1) := by decide +kernel
theorem d_H_swap_0 : decode b_H_swap 0 = .ok (.aload_n 0, 1) := by decide +kernel
theorem d_H_swap_1 : decode b_H_swap 1 = .ok (.getfield 10, 3) := by decide +kernel
theorem d_H_swap_4 : decode b_H_swap 4 = .ok (.invokestatic 320, 3) := by decide +kernel
theorem d_H_swap_7 : decode b_H_swap 7 = .ok (.ireturn, 1) := by decide +kernel
theorem d_H_tell_0 : decode b_H_tell 0 = .ok (.aload_n 0, 1) := by decide +kernel
theorem d_H_tell_1 : decode b_H_tell 1 = .ok (.getfield 10, 3) := by decide +kernel
theorem d_H_tell_4 : decode b_H_tell 4 = .ok (.invokestatic 252, 3) := by decide +kernel
theorem d_H_tell_7 : decode b_H_tell 7 = .ok (.ireturn, 1) := by decide +kernel
theorem d_H_thing_0 : decode b_H_thing 0 = .ok (.aload_n 0, 1) := by decide +kernel
theorem d_H_thing_1 : decode b_H_thing 1 = .ok (.getfield 10, 3) := by decide +kernel
theorem d_H_thing_4 : decode b_H_thing 4 = .ok (.iload_n 1, 1) := by decide +kernel
theorem d_H_thing_5 : decode b_H_thing 5 = .ok (.iload_n 2, 1) := by decide +kernel
theorem d_H_thing_6 : decode b_H_thing 6 = .ok (.invokevirtual 146, 3) := by decide +kernel
theorem d_H_thing_9 : decode b_H_thing 9 = .ok (.istore_n 3, 1) := by decide +kernel
theorem d_H_thing_10 : decode b_H_thing 10 = .ok (.iload_n 3, 1) := by decide +kernel
theorem d_H_thing_11 : decode b_H_thing 11 = .ok (.ifCond .eq 9, 3) := by decide +kernel
theorem d_H_thing_14 : decode b_H_thing 14 = .ok (.aload_n 0, 1) := by decide +kernel
theorem d_H_thing_15 : decode b_H_thing 15 = .ok (.iload_n 3, 1) := by decide +kernel
theorem d_H_thing_16 : decode b_H_thing 16 = .ok (.invokevirtual 65, 3) := by decide +kernel
theorem d_H_thing_19 : decode b_H_thing 19 = .ok (.ireturn, 1) := by decide +kernel
theorem d_H_thing_20 : decode b_H_thing 20 = .ok (.aload_n 0, 1) := by decide +kernel
theorem d_H_thing_21 : decode b_H_thing 21 = .ok (.getfield 29, 3) := by decide +kernel
theorem d_H_thing_24 : decode b_H_thing 24 = .ok (.iconst 0, 1) := by decide +kernel
theorem d_H_thing_25 : decode b_H_thing 25 = .ok (.putfield 84, 3) := by decide +kernel
theorem d_H_thing_28 : decode b_H_thing 28 = .ok (.aload_n 0, 1) := by decide +kernel
theorem d_H_thing_29 : decode b_H_thing 29 = .ok (.getfield 10, 3) := by decide +kernel
theorem d_H_thing_32 : decode b_H_thing 32 = .ok (.iload_n 1, 1) := by decide +kernel
theorem d_H_thing_33 : decode b_H_thing 33 = .ok (.iload_n 2, 1) := by decide +kernel
theorem d_H_thing_34 : decode b_H_thing 34 = .ok (.invokevirtual 149, 3) := by decide +kernel
theorem d_H_thing_37 : decode b_H_thing 37 = .ok (.ireturn, 1) := by decide +kernel
theorem d_H_thingOf_0 : decode b_H_thingOf 0 = .ok (.aload_n 0, 1) := by decide +kernel
theorem d_H_thingOf_1 : decode b_H_thingOf 1 = .ok (.getfield 10, 3) := by decide +kernel
theorem d_H_thingOf_4 : decode b_H_thingOf 4 = .ok (.iload_n 1, 1) := by decide +kernel
theorem d_H_thingOf_5 : decode b_H_thingOf 5 = .ok (.invokevirtual 85, 3) := by decide +kernel
theorem d_H_thingOf_8 : decode b_H_thingOf 8 = .ok (.ifCond .ne 9, 3) := by decide +kernel
theorem d_H_thingOf_11 : decode b_H_thingOf 11 = .ok (.aload_n 0, 1) := by decide +kernel
theorem d_H_thingOf_12 : decode b_H_thingOf 12 = .ok (.iconst (-1), 1) := by decide +kernel
theorem d_H_thingOf_13 : decode b_H_thingOf 13 = .ok (.invokevirtual 65, 3) := by decide +kernel
theorem d_H_thingOf_16 : decode b_H_thingOf 16 = .ok (.ireturn, 1) := by decide +kernel
theorem d_H_thingOf_17 : decode b_H_thingOf 17 = .ok (.aload_n 0, 1) := by decide +kernel
theorem d_H_thingOf_18 : decode b_H_thingOf 18 = .ok (.getfield 10, 3) := by decide +kernel
theorem d_H_thingOf_21 : decode b_H_thingOf 21 = .ok (.getfield 89, 3) := by decide +kernel
theorem d_H_thingOf_24 : decode b_H_thingOf 24 = .ok (.iload_n 1, 1) := by decide +kernel
theorem d_H_thingOf_25 : decode b_H_thingOf 25 = .ok (.iaload, 1) := by decide +kernel
theorem d_H_thingOf_26 : decode b_H_thingOf 26 = .ok (.istore_n 3, 1) := by decide +kernel
theorem d_H_thingOf_27 : decode b_H_thingOf 27 = .ok (.aload_n 0, 1) := by decide +kernel
theorem d_H_thingOf_28 : decode b_H_thingOf 28 = .ok (.getfield 10, 3) := by decide +kernel
theorem d_H_thingOf_31 : decode b_H_thingOf 31 = .ok (.getfield 92, 3) := by decide +kernel
theorem d_H_thingOf_34 : decode b_H_thingOf 34 = .ok (.iload_n 1, 1) := by decide +kernel
theorem d_H_thingOf_35 : decode b_H_thingOf 35 = .ok (.iaload, 1) := by decide +kernel
theorem d_H_thingOf_36 : decode b_H_thingOf 36 = .ok (.istore 4, 2) := by decide +kernel
theorem d_H_thingOf_38 : decode b_H_thingOf 38 = .ok (.iload_n 2, 1) := by decide +kernel
theorem d_H_thingOf_39 : decode b_H_thingOf 39 = .ok (.tableswitch 62 0 4 #[33, 35, 38, 45, 52], 33) := by decide +kernel
theorem d_H_thingOf_72 : decode b_H_thingOf 72 = .ok (.iload_n 3, 1) := by decide +kernel
theorem d_H_thingOf_73 : decode b_H_thingOf 73 = .ok (.ireturn, 1) := by decide +kernel
theorem d_H_thingOf_74 : decode b_H_thingOf 74 = .ok (.iload 4, 2) := by decide +kernel
theorem d_H_thingOf_76 : decode b_H_thingOf 76 = .ok (.ireturn, 1) := by decide +kernel
theorem d_H_thingOf_77 : decode b_H_thingOf 77 = .ok (.iload_n 3, 1) := by decide +kernel
theorem d_H_thingOf_78 : decode b_H_thingOf 78 = .ok (.iload 4, 2) := by decide +kernel
theorem d_H_thingOf_80 : decode b_H_thingOf 80 = .ok (.invokestatic 95, 3) := by decide +kernel
theorem d_H_thingOf_83 : decode b_H_thingOf 83 = .ok (.ireturn, 1) := by decide +kernel
theorem d_H_thingOf_84 : decode b_H_thingOf 84 = .ok (.iload_n 3, 1) := by decide +kernel
theorem d_H_thingOf_85 : decode b_H_thingOf 85 = .ok (.iload 4, 2) := by decide +kernel
theorem d_H_thingOf_87 : decode b_H_thingOf 87 = .ok (.invokestatic 101, 3) := by decide +kernel
theorem d_H_thingOf_90 : decode b_H_thingOf 90 = .ok (.ireturn, 1) := by decide +kernel
theorem d_H_thingOf_91 : decode b_H_thingOf 91 = .ok (.aload_n 0, 1) := by decide +kernel
theorem d_H_thingOf_92 : decode b_H_thingOf 92 = .ok (.getfield 10, 3) := by decide +kernel
theorem d_H_thingOf_95 : decode b_H_thingOf 95 = .ok (.getfield 104, 3) := by decide +kernel
theorem d_H_thingOf_98 : decode b_H_thingOf 98 = .ok (.iload_n 1, 1) := by decide +kernel
theorem d_H_thingOf_99 : decode b_H_thingOf 99 = .ok (.iaload, 1) := by decide +kernel
theorem d_H_thingOf_100 : decode b_H_thingOf 100 = .ok (.ireturn, 1) := by decide +kernel
theorem d_H_thingOf_101 : decode b_H_thingOf 101 = .ok (.aload_n 0, 1) := by decide +kernel
theorem d_H_thingOf_102 : decode b_H_thingOf 102 = .ok (.bipush (-2), 2) := by decide +kernel
theorem d_H_thingOf_104 : decode b_H_thingOf 104 = .ok (.invokevirtual 65, 3) := by decide +kernel
theorem d_H_thingOf_107 : decode b_H_thingOf 107 = .ok (.ireturn, 1) := by decide +kernel
theorem d_H_wanted_0 : decode b_H_wanted 0 = .ok (.iload_n 1, 1) := by decide +kernel
theorem d_H_wanted_1 : decode b_H_wanted 1 = .ok (.invokestatic 125, 3) := by decide +kernel
theorem d_H_wanted_4 : decode b_H_wanted 4 = .ok (.ifCond .ne 9, 3) := by decide +kernel
theorem d_H_wanted_7 : decode b_H_wanted 7 = .ok (.aload_n 0, 1) := by decide +kernel
theorem d_H_wanted_8 : decode b_H_wanted 8 = .ok (.iconst (-1), 1) := by decide +kernel
theorem d_H_wanted_9 : decode b_H_wanted 9 = .ok (.invokevirtual 65, 3) := by decide +kernel
theorem d_H_wanted_12 : decode b_H_wanted 12 = .ok (.ireturn, 1) := by decide +kernel
theorem d_H_wanted_13 : decode b_H_wanted 13 = .ok (.aload_n 0, 1) := by decide +kernel
theorem d_H_wanted_14 : decode b_H_wanted 14 = .ok (.getfield 10, 3) := by decide +kernel
theorem d_H_wanted_17 : decode b_H_wanted 17 = .ok (.aload_n 0, 1) := by decide +kernel
theorem d_H_wanted_18 : decode b_H_wanted 18 = .ok (.getfield 10, 3) := by decide +kernel
theorem d_H_wanted_21 : decode b_H_wanted 21 = .ok (.getfield 128, 3) := by decide +kernel
theorem d_H_wanted_24 : decode b_H_wanted 24 = .ok (.getfield 132, 3) := by decide +kernel
theorem d_H_wanted_27 : decode b_H_wanted 27 = .ok (.iload_n 1, 1) := by decide +kernel
theorem d_H_wanted_28 : decode b_H_wanted 28 = .ok (.iaload, 1) := by decide +kernel
theorem d_H_wanted_29 : decode b_H_wanted 29 = .ok (.invokestatic 246, 3) := by decide +kernel
theorem d_H_wanted_32 : decode b_H_wanted 32 = .ok (.ireturn, 1) := by decide +kernel
theorem d_H_wants_0 : decode b_H_wants 0 = .ok (.iload_n 1, 1) := by decide +kernel
theorem d_H_wants_1 : decode b_H_wants 1 = .ok (.iload_n 2, 1) := by decide +kernel
theorem d_H_wants_2 : decode b_H_wants 2 = .ok (.iload_n 3, 1) := by decide +kernel
theorem d_H_wants_3 : decode b_H_wants 3 = .ok (.invokestatic 181, 3) := by decide +kernel
theorem d_H_wants_6 : decode b_H_wants 6 = .ok (.istore 4, 2) := by decide +kernel
theorem d_H_wants_8 : decode b_H_wants 8 = .ok (.iload 4, 2) := by decide +kernel
theorem d_H_wants_10 : decode b_H_wants 10 = .ok (.ifCond .eq 10, 3) := by decide +kernel
theorem d_H_wants_13 : decode b_H_wants 13 = .ok (.aload_n 0, 1) := by decide +kernel
theorem d_H_wants_14 : decode b_H_wants 14 = .ok (.iload 4, 2) := by decide +kernel
theorem d_H_wants_16 : decode b_H_wants 16 = .ok (.invokevirtual 65, 3) := by decide +kernel
theorem d_H_wants_19 : decode b_H_wants 19 = .ok (.ireturn, 1) := by decide +kernel
theorem d_H_wants_20 : decode b_H_wants 20 = .ok (.aload_n 0, 1) := by decide +kernel
theorem d_H_wants_21 : decode b_H_wants 21 = .ok (.getfield 10, 3) := by decide +kernel
theorem d_H_wants_24 : decode b_H_wants 24 = .ok (.getfield 128, 3) := by decide +kernel
theorem d_H_wants_27 : decode b_H_wants 27 = .ok (.getfield 137, 3) := by decide +kernel
theorem d_H_wants_30 : decode b_H_wants 30 = .ok (.iload_n 1, 1) := by decide +kernel
theorem d_H_wants_31 : decode b_H_wants 31 = .ok (.iaload, 1) := by decide +kernel
theorem d_H_wants_32 : decode b_H_wants 32 = .ok (.istore 5, 2) := by decide +kernel
theorem d_H_wants_34 : decode b_H_wants 34 = .ok (.aload_n 0, 1) := by decide +kernel
theorem d_H_wants_35 : decode b_H_wants 35 = .ok (.getfield 29, 3) := by decide +kernel
theorem d_H_wants_38 : decode b_H_wants 38 = .ok (.aload_n 0, 1) := by decide +kernel
theorem d_H_wants_39 : decode b_H_wants 39 = .ok (.getfield 10, 3) := by decide +kernel
theorem d_H_wants_42 : decode b_H_wants 42 = .ok (.iload_n 1, 1) := by decide +kernel
theorem d_H_wants_43 : decode b_H_wants 43 = .ok (.invokevirtual 185, 3) := by decide +kernel
theorem d_H_wants_46 : decode b_H_wants 46 = .ok (.aload_n 0, 1) := by decide +kernel
theorem d_H_wants_47 : decode b_H_wants 47 = .ok (.getfield 10, 3) := by decide +kernel
theorem d_H_wants_50 : decode b_H_wants 50 = .ok (.getfield 128, 3) := by decide +kernel
theorem d_H_wants_53 : decode b_H_wants 53 = .ok (.iload_n 1, 1) := by decide +kernel
theorem d_H_wants_54 : decode b_H_wants 54 = .ok (.iload_n 2, 1) := by decide +kernel
theorem d_H_wants_55 : decode b_H_wants 55 = .ok (.iload_n 3, 1) := by decide +kernel
theorem d_H_wants_56 : decode b_H_wants 56 = .ok (.invokevirtual 188, 3) := by decide +kernel
theorem d_H_wants_59 : decode b_H_wants 59 = .ok (.iload 5, 2) := by decide +kernel
theorem d_H_wants_61 : decode b_H_wants 61 = .ok (.ireturn, 1) := by decide +kernel
theorem d_H_weighs_0 : decode b_H_weighs 0 = .ok (.iload_n 1, 1) := by decide +kernel
theorem d_H_weighs_1 : decode b_H_weighs 1 = .ok (.iload_n 2, 1) := by decide +kernel
theorem d_H_weighs_2 : decode b_H_weighs 2 = .ok (.invokestatic 158, 3) := by decide +kernel
theorem d_H_weighs_5 : decode b_H_weighs 5 = .ok (.istore_n 3, 1) := by decide +kernel
theorem d_H_weighs_6 : decode b_H_weighs 6 = .ok (.iload_n 3, 1) := by decide +kernel
theorem d_H_weighs_7 : decode b_H_weighs 7 = .ok (.ifCond .eq 9, 3) := by decide +kernel
theorem d_H_weighs_10 : decode b_H_weighs 10 = .ok (.aload_n 0, 1) := by decide +kernel
theorem d_H_weighs_11 : decode b_H_weighs 11 = .ok (.iload_n 3, 1) := by decide +kernel
theorem d_H_weighs_12 : decode b_H_weighs 12 = .ok (.invokevirtual 65, 3) := by decide +kernel
theorem d_H_weighs_15 : decode b_H_weighs 15 = .ok (.ireturn, 1) := by decide +kernel
theorem d_H_weighs_16 : decode b_H_weighs 16 = .ok (.aload_n 0, 1) := by decide +kernel
theorem d_H_weighs_17 : decode b_H_weighs 17 = .ok (.getfield 10, 3) := by decide +kernel
theorem d_H_weighs_20 : decode b_H_weighs 20 = .ok (.iload_n 1, 1) := by decide +kernel
theorem d_H_weighs_21 : decode b_H_weighs 21 = .ok (.invokevirtual 161, 3) := by decide +kernel
theorem d_H_weighs_24 : decode b_H_weighs 24 = .ok (.istore 4, 2) := by decide +kernel
theorem d_H_weighs_26 : decode b_H_weighs 26 = .ok (.aload_n 0, 1) := by decide +kernel
theorem d_H_weighs_27 : decode b_H_weighs 27 = .ok (.getfield 29, 3) := by decide +kernel
theorem d_H_weighs_30 : decode b_H_weighs 30 = .ok (.aload_n 0, 1) := by decide +kernel
theorem d_H_weighs_31 : decode b_H_weighs 31 = .ok (.getfield 10, 3) := by decide +kernel
theorem d_H_weighs_34 : decode b_H_weighs 34 = .ok (.iload_n 1, 1) := by decide +kernel
theorem d_H_weighs_35 : decode b_H_weighs 35 = .ok (.invokevirtual 164, 3) := by decide +kernel
theorem d_H_weighs_38 : decode b_H_weighs 38 = .ok (.aload_n 0, 1) := by decide +kernel
theorem d_H_weighs_39 : decode b_H_weighs 39 = .ok (.getfield 10, 3) := by decide +kernel
theorem d_H_weighs_42 : decode b_H_weighs 42 = .ok (.iload_n 1, 1) := by decide +kernel
theorem d_H_weighs_43 : decode b_H_weighs 43 = .ok (.iload_n 2, 1) := by decide +kernel
theorem d_H_weighs_44 : decode b_H_weighs 44 = .ok (.invokevirtual 168, 3) := by decide +kernel
theorem d_H_weighs_47 : decode b_H_weighs 47 = .ok (.iload 4, 2) := by decide +kernel
theorem d_H_weighs_49 : decode b_H_weighs 49 = .ok (.ireturn, 1) := by decide +kernel
theorem d_H_weight_0 : decode b_H_weight 0 = .ok (.iload_n 1, 1) := by decide +kernel
theorem d_H_weight_1 : decode b_H_weight 1 = .ok (.invokestatic 140, 3) := by decide +kernel
theorem d_H_weight_4 : decode b_H_weight 4 = .ok (.ifCond .ne 9, 3) := by decide +kernel
theorem d_H_weight_7 : decode b_H_weight 7 = .ok (.aload_n 0, 1) := by decide +kernel
theorem d_H_weight_8 : decode b_H_weight 8 = .ok (.iconst (-1), 1) := by decide +kernel
theorem d_H_weight_9 : decode b_H_weight 9 = .ok (.invokevirtual 65, 3) := by decide +kernel
theorem d_H_weight_12 : decode b_H_weight 12 = .ok (.ireturn, 1) := by decide +kernel
theorem d_H_weight_13 : decode b_H_weight 13 = .ok (.aload_n 0, 1) := by decide +kernel
theorem d_H_weight_14 : decode b_H_weight 14 = .ok (.getfield 10, 3) := by decide +kernel
theorem d_H_weight_17 : decode b_H_weight 17 = .ok (.getfield 143, 3) := by decide +kernel
theorem d_H_weight_20 : decode b_H_weight 20 = .ok (.iload_n 1, 1) := by decide +kernel
theorem d_H_weight_21 : decode b_H_weight 21 = .ok (.iaload, 1) := by decide +kernel
theorem d_H_weight_22 : decode b_H_weight 22 = .ok (.ireturn, 1) := by decide +kernel
theorem d_H_whatKind_0 : decode b_H_whatKind 0 = .ok (.aload_n 0, 1) := by decide +kernel
theorem d_H_whatKind_1 : decode b_H_whatKind 1 = .ok (.getfield 10, 3) := by decide +kernel
theorem d_H_whatKind_4 : decode b_H_whatKind 4 = .ok (.iload_n 1, 1) := by decide +kernel
theorem d_H_whatKind_5 : decode b_H_whatKind 5 = .ok (.invokevirtual 85, 3) := by decide +kernel
theorem d_H_whatKind_8 : decode b_H_whatKind 8 = .ok (.ifCond .ne 9, 3) := by decide +kernel
theorem d_H_whatKind_11 : decode b_H_whatKind 11 = .ok (.aload_n 0, 1) := by decide +kernel
theorem d_H_whatKind_12 : decode b_H_whatKind 12 = .ok (.iconst (-1), 1) := by decide +kernel
theorem d_H_whatKind_13 : decode b_H_whatKind 13 = .ok (.invokevirtual 65, 3) := by decide +kernel
theorem d_H_whatKind_16 : decode b_H_whatKind 16 = .ok (.ireturn, 1) := by decide +kernel
theorem d_H_whatKind_17 : decode b_H_whatKind 17 = .ok (.iload_n 2, 1) := by decide +kernel
theorem d_H_whatKind_18 : decode b_H_whatKind 18 = .ok (.ifCond .eq 15, 3) := by decide +kernel
theorem d_H_whatKind_21 : decode b_H_whatKind 21 = .ok (.iload_n 2, 1) := by decide +kernel
theorem d_H_whatKind_22 : decode b_H_whatKind 22 = .ok (.iconst 1, 1) := by decide +kernel
theorem d_H_whatKind_23 : decode b_H_whatKind 23 = .ok (.if_icmp .eq 10, 3) := by decide +kernel
theorem d_H_whatKind_26 : decode b_H_whatKind 26 = .ok (.aload_n 0, 1) := by decide +kernel
theorem d_H_whatKind_27 : decode b_H_whatKind 27 = .ok (.bipush (-2), 2) := by decide +kernel
theorem d_H_whatKind_29 : decode b_H_whatKind 29 = .ok (.invokevirtual 65, 3) := by decide +kernel
theorem d_H_whatKind_32 : decode b_H_whatKind 32 = .ok (.ireturn, 1) := by decide +kernel
theorem d_H_whatKind_33 : decode b_H_whatKind 33 = .ok (.aload_n 0, 1) := by decide +kernel
theorem d_H_whatKind_34 : decode b_H_whatKind 34 = .ok (.getfield 43, 3) := by decide +kernel
theorem d_H_whatKind_37 : decode b_H_whatKind 37 = .ok (.invokevirtual 290, 3) := by decide +kernel
theorem d_H_whatKind_40 : decode b_H_whatKind 40 = .ok (.ifCond .ne 10, 3) := by decide +kernel
theorem d_H_whatKind_43 : decode b_H_whatKind 43 = .ok (.aload_n 0, 1) := by decide +kernel
theorem d_H_whatKind_44 : decode b_H_whatKind 44 = .ok (.bipush (-3), 2) := by decide +kernel
theorem d_H_whatKind_46 : decode b_H_whatKind 46 = .ok (.invokevirtual 65, 3) := by decide +kernel
theorem d_H_whatKind_49 : decode b_H_whatKind 49 = .ok (.ireturn, 1) := by decide +kernel
theorem d_H_whatKind_50 : decode b_H_whatKind 50 = .ok (.iload_n 2, 1) := by decide +kernel
theorem d_H_whatKind_51 : decode b_H_whatKind 51 = .ok (.ifCond .ne 22, 3) := by decide +kernel
theorem d_H_whatKind_54 : decode b_H_whatKind 54 = .ok (.aload_n 0, 1) := by decide +kernel
theorem d_H_whatKind_55 : decode b_H_whatKind 55 = .ok (.getfield 43, 3) := by decide +kernel
theorem d_H_whatKind_58 : decode b_H_whatKind 58 = .ok (.aload_n 0, 1) := by decide +kernel
theorem d_H_whatKind_59 : decode b_H_whatKind 59 = .ok (.getfield 10, 3) := by decide +kernel
theorem d_H_whatKind_62 : decode b_H_whatKind 62 = .ok (.getfield 92, 3) := by decide +kernel
theorem d_H_whatKind_65 : decode b_H_whatKind 65 = .ok (.iload_n 1, 1) := by decide +kernel
theorem d_H_whatKind_66 : decode b_H_whatKind 66 = .ok (.iaload, 1) := by decide +kernel
theorem d_H_whatKind_67 : decode b_H_whatKind 67 = .ok (.invokevirtual 294, 3) := by decide +kernel
theorem d_H_whatKind_70 : decode b_H_whatKind 70 = .ok (.goto 19, 3) := by decide +kernel
theorem d_H_whatKind_73 : decode b_H_whatKind 73 = .ok (.aload_n 0, 1) := by decide +kernel
theorem d_H_whatKind_74 : decode b_H_whatKind 74 = .ok (.getfield 43, 3) := by decide +kernel
theorem d_H_whatKind_77 : decode b_H_whatKind 77 = .ok (.aload_n 0, 1) := by decide +kernel
theorem d_H_whatKind_78 : decode b_H_whatKind 78 = .ok (.getfield 10, 3) := by decide +kernel
theorem d_H_whatKind_81 : decode b_H_whatKind 81 = .ok (.getfield 89, 3) := by decide +kernel
theorem d_H_whatKind_84 : decode b_H_whatKind 84 = .ok (.iload_n 1, 1) := by decide +kernel
theorem d_H_whatKind_85 : decode b_H_whatKind 85 = .ok (.iaload, 1) := by decide +kernel
theorem d_H_whatKind_86 : decode b_H_whatKind 86 = .ok (.invokevirtual 297, 3) := by decide +kernel
theorem d_H_whatKind_89 : decode b_H_whatKind 89 = .ok (.ireturn, 1) := by decide +kernel
theorem d_H_worth_0 : decode b_H_worth 0 = .ok (.aload_n 0, 1) := by decide +kernel
theorem d_H_worth_1 : decode b_H_worth 1 = .ok (.getfield 10, 3) := by decide +kernel
theorem d_H_worth_4 : decode b_H_worth 4 = .ok (.iload_n 1, 1) := by decide +kernel
theorem d_H_worth_5 : decode b_H_worth 5 = .ok (.invokevirtual 107, 3) := by decide +kernel
theorem d_H_worth_8 : decode b_H_worth 8 = .ok (.ifCond .ne 9, 3) := by decide +kernel
theorem d_H_worth_11 : decode b_H_worth 11 = .ok (.aload_n 0, 1) := by decide +kernel
theorem d_H_worth_12 : decode b_H_worth 12 = .ok (.iconst (-1), 1) := by decide +kernel
theorem d_H_worth_13 : decode b_H_worth 13 = .ok (.invokevirtual 208, 3) := by decide +kernel
theorem d_H_worth_16 : decode b_H_worth 16 = .ok (.lreturn, 1) := by decide +kernel
theorem d_H_worth_17 : decode b_H_worth 17 = .ok (.iload_n 2, 1) := by decide +kernel
theorem d_H_worth_18 : decode b_H_worth 18 = .ok (.invokestatic 212, 3) := by decide +kernel
theorem d_H_worth_21 : decode b_H_worth 21 = .ok (.ifCond .ne 10, 3) := by decide +kernel
theorem d_H_worth_24 : decode b_H_worth 24 = .ok (.aload_n 0, 1) := by decide +kernel
theorem d_H_worth_25 : decode b_H_worth 25 = .ok (.bipush (-2), 2) := by decide +kernel
theorem d_H_worth_27 : decode b_H_worth 27 = .ok (.invokevirtual 208, 3) := by decide +kernel
theorem d_H_worth_30 : decode b_H_worth 30 = .ok (.lreturn, 1) := by decide +kernel
theorem d_H_worth_31 : decode b_H_worth 31 = .ok (.aload_n 0, 1) := by decide +kernel
theorem d_H_worth_32 : decode b_H_worth 32 = .ok (.getfield 10, 3) := by decide +kernel
theorem d_H_worth_35 : decode b_H_worth 35 = .ok (.aload_n 0, 1) := by decide +kernel
theorem d_H_worth_36 : decode b_H_worth 36 = .ok (.getfield 10, 3) := by decide +kernel
theorem d_H_worth_39 : decode b_H_worth 39 = .ok (.getfield 110, 3) := by decide +kernel
theorem d_H_worth_42 : decode b_H_worth 42 = .ok (.iload_n 1, 1) := by decide +kernel
theorem d_H_worth_43 : decode b_H_worth 43 = .ok (.iaload, 1) := by decide +kernel
theorem d_H_worth_44 : decode b_H_worth 44 = .ok (.invokevirtual 113, 3) := by decide +kernel
theorem d_H_worth_47 : decode b_H_worth 47 = .ok (.istore_n 3, 1) := by decide +kernel
theorem d_H_worth_48 : decode b_H_worth 48 = .ok (.aload_n 0, 1) := by decide +kernel
theorem d_H_worth_49 : decode b_H_worth 49 = .ok (.getfield 10, 3) := by decide +kernel
theorem d_H_worth_52 : decode b_H_worth 52 = .ok (.iload_n 3, 1) := by decide +kernel
theorem d_H_worth_53 : decode b_H_worth 53 = .ok (.invokevirtual 300, 3) := by decide +kernel
theorem d_H_worth_56 : decode b_H_worth 56 = .ok (.i2l, 1) := by decide +kernel
theorem d_H_worth_57 : decode b_H_worth 57 = .ok (.lstore 4, 2) := by decide +kernel
theorem d_H_worth_59 : decode b_H_worth 59 = .ok (.aload_n 0, 1) := by decide +kernel
theorem d_H_worth_60 : decode b_H_worth 60 = .ok (.getfield 10, 3) := by decide +kernel
theorem d_H_worth_63 : decode b_H_worth 63 = .ok (.iload_n 3, 1) := by decide +kernel
theorem d_H_worth_64 : decode b_H_worth 64 = .ok (.invokevirtual 219, 3) := by decide +kernel
theorem d_H_worth_67 : decode b_H_worth 67 = .ok (.i2l, 1) := by decide +kernel
theorem d_H_worth_68 : decode b_H_worth 68 = .ok (.lstore 6, 2) := by decide +kernel
theorem d_H_worth_70 : decode b_H_worth 70 = .ok (.aload_n 0, 1) := by decide +kernel
theorem d_H_worth_71 : decode b_H_worth 71 = .ok (.getfield 10, 3) := by decide +kernel
theorem d_H_worth_74 : decode b_H_worth 74 = .ok (.bipush 63, 2) := by decide +kernel
theorem d_H_worth_76 : decode b_H_worth 76 = .ok (.invokevirtual 300, 3) := by decide +kernel
theorem d_H_worth_79 : decode b_H_worth 79 = .ok (.i2l, 1) := by decide +kernel
theorem d_H_worth_80 : decode b_H_worth 80 = .ok (.lstore 8, 2) := by decide +kernel
theorem d_H_worth_82 : decode b_H_worth 82 = .ok (.aload_n 0, 1) := by decide +kernel
theorem d_H_worth_83 : decode b_H_worth 83 = .ok (.getfield 10, 3) := by decide +kernel
theorem d_H_worth_86 : decode b_H_worth 86 = .ok (.bipush 63, 2) := by decide +kernel
theorem d_H_worth_88 : decode b_H_worth 88 = .ok (.invokevirtual 219, 3) := by decide +kernel
theorem d_H_worth_91 : decode b_H_worth 91 = .ok (.i2l, 1) := by decide +kernel
theorem d_H_worth_92 : decode b_H_worth 92 = .ok (.lstore 10, 2) := by decide +kernel
theorem d_H_worth_94 : decode b_H_worth 94 = .ok (.aload_n 0, 1) := by decide +kernel
theorem d_H_worth_95 : decode b_H_worth 95 = .ok (.getfield 57, 3) := by decide +kernel
theorem d_H_worth_98 : decode b_H_worth 98 = .ok (.lload 4, 2) := by decide +kernel
theorem d_H_worth_100 : decode b_H_worth 100 = .ok (.lload 10, 2) := by decide +kernel
theorem d_H_worth_102 : decode b_H_worth 102 = .ok (.lmul, 1) := by decide +kernel
theorem d_H_worth_103 : decode b_H_worth 103 = .ok (.lload 8, 2) := by decide +kernel
theorem d_H_worth_105 : decode b_H_worth 105 = .ok (.lload 6, 2) := by decide +kernel
theorem d_H_worth_107 : decode b_H_worth 107 = .ok (.lmul, 1) := by decide +kernel
theorem d_H_worth_108 : decode b_H_worth 108 = .ok (.lsub, 1) := by decide +kernel
theorem d_H_worth_109 : decode b_H_worth 109 = .ok (.lload 6, 2) := by decide +kernel
theorem d_H_worth_111 : decode b_H_worth 111 = .ok (.lload 10, 2) := by decide +kernel
theorem d_H_worth_113 : decode b_H_worth 113 = .ok (.lmul, 1) := by decide +kernel
theorem d_H_worth_114 : decode b_H_worth 114 = .ok (.invokevirtual 222, 3) := by decide +kernel
theorem d_H_worth_117 : decode b_H_worth 117 = .ok (.aload_n 0, 1) := by decide +kernel
theorem d_H_worth_118 : decode b_H_worth 118 = .ok (.getfield 57, 3) := by decide +kernel
theorem d_H_worth_121 : decode b_H_worth 121 = .ok (.iload_n 2, 1) := by decide +kernel
theorem d_H_worth_122 : decode b_H_worth 122 = .ok (.invokevirtual 225, 3) := by decide +kernel
theorem d_H_worth_125 : decode b_H_worth 125 = .ok (.lreturn, 1) := by decide +kernel
theorem d_H_wrong_0 : decode b_H_wrong 0 = .ok (.iload_n 1, 1) := by decide +kernel
theorem d_H_wrong_1 : decode b_H_wrong 1 = .ok (.ifCond .lt 8, 3) := by decide +kernel
theorem d_H_wrong_4 : decode b_H_wrong 4 = .ok (.iload_n 2, 1) := by decide +kernel
theorem d_H_wrong_5 : decode b_H_wrong 5 = .ok (.iconst 2, 1) := by decide +kernel
theorem d_H_wrong_6 : decode b_H_wrong 6 = .ok (.if_icmp .ge 10, 3) := by decide +kernel
theorem d_H_wrong_9 : decode b_H_wrong 9 = .ok (.aload_n 0, 1) := by decide +kernel
theorem d_H_wrong_10 : decode b_H_wrong 10 = .ok (.bipush (-4), 2) := by decide +kernel
theorem d_H_wrong_12 : decode b_H_wrong 12 = .ok (.invokevirtual 208, 3) := by decide +kernel
theorem d_H_wrong_15 : decode b_H_wrong 15 = .ok (.lreturn, 1) := by decide +kernel
theorem d_H_wrong_16 : decode b_H_wrong 16 = .ok (.iload_n 1, 1) := by decide +kernel
theorem d_H_wrong_17 : decode b_H_wrong 17 = .ok (.aload_n 0, 1) := by decide +kernel
theorem d_H_wrong_18 : decode b_H_wrong 18 = .ok (.getfield 10, 3) := by decide +kernel
theorem d_H_wrong_21 : decode b_H_wrong 21 = .ok (.getfield 272, 3) := by decide +kernel
theorem d_H_wrong_24 : decode b_H_wrong 24 = .ok (.if_icmp .gt 9, 3) := by decide +kernel
theorem d_H_wrong_27 : decode b_H_wrong 27 = .ok (.iload_n 2, 1) := by decide +kernel
theorem d_H_wrong_28 : decode b_H_wrong 28 = .ok (.bipush 20, 2) := by decide +kernel
theorem d_H_wrong_30 : decode b_H_wrong 30 = .ok (.if_icmp .le 10, 3) := by decide +kernel
theorem d_H_wrong_33 : decode b_H_wrong 33 = .ok (.aload_n 0, 1) := by decide +kernel
theorem d_H_wrong_34 : decode b_H_wrong 34 = .ok (.bipush (-6), 2) := by decide +kernel
theorem d_H_wrong_36 : decode b_H_wrong 36 = .ok (.invokevirtual 208, 3) := by decide +kernel
theorem d_H_wrong_39 : decode b_H_wrong 39 = .ok (.lreturn, 1) := by decide +kernel
theorem d_H_wrong_40 : decode b_H_wrong 40 = .ok (.iload_n 3, 1) := by decide +kernel
theorem d_H_wrong_41 : decode b_H_wrong 41 = .ok (.invokestatic 212, 3) := by decide +kernel
theorem d_H_wrong_44 : decode b_H_wrong 44 = .ok (.ifCond .ne 10, 3) := by decide +kernel
theorem d_H_wrong_47 : decode b_H_wrong 47 = .ok (.aload_n 0, 1) := by decide +kernel
theorem d_H_wrong_48 : decode b_H_wrong 48 = .ok (.bipush (-2), 2) := by decide +kernel
theorem d_H_wrong_50 : decode b_H_wrong 50 = .ok (.invokevirtual 208, 3) := by decide +kernel
theorem d_H_wrong_53 : decode b_H_wrong 53 = .ok (.lreturn, 1) := by decide +kernel
theorem d_H_wrong_54 : decode b_H_wrong 54 = .ok (.aload_n 0, 1) := by decide +kernel
theorem d_H_wrong_55 : decode b_H_wrong 55 = .ok (.getfield 57, 3) := by decide +kernel
theorem d_H_wrong_58 : decode b_H_wrong 58 = .ok (.aload_n 0, 1) := by decide +kernel
theorem d_H_wrong_59 : decode b_H_wrong 59 = .ok (.getfield 50, 3) := by decide +kernel
theorem d_H_wrong_62 : decode b_H_wrong 62 = .ok (.aload_n 0, 1) := by decide +kernel
theorem d_H_wrong_63 : decode b_H_wrong 63 = .ok (.getfield 10, 3) := by decide +kernel
theorem d_H_wrong_66 : decode b_H_wrong 66 = .ok (.iload_n 1, 1) := by decide +kernel
theorem d_H_wrong_67 : decode b_H_wrong 67 = .ok (.iload_n 2, 1) := by decide +kernel
theorem d_H_wrong_68 : decode b_H_wrong 68 = .ok (.invokevirtual 306, 3) := by decide +kernel
theorem d_H_wrong_71 : decode b_H_wrong 71 = .ok (.iload_n 2, 1) := by decide +kernel
theorem d_H_wrong_72 : decode b_H_wrong 72 = .ok (.iload_n 1, 1) := by decide +kernel
theorem d_H_wrong_73 : decode b_H_wrong 73 = .ok (.invokestatic 310, 3) := by decide +kernel
theorem d_H_wrong_76 : decode b_H_wrong 76 = .ok (.invokevirtual 222, 3) := by decide +kernel
theorem d_H_wrong_79 : decode b_H_wrong 79 = .ok (.aload_n 0, 1) := by decide +kernel
theorem d_H_wrong_80 : decode b_H_wrong 80 = .ok (.getfield 57, 3) := by decide +kernel
theorem d_H_wrong_83 : decode b_H_wrong 83 = .ok (.iload_n 3, 1) := by decide +kernel
theorem d_H_wrong_84 : decode b_H_wrong 84 = .ok (.invokevirtual 225, 3) := by decide +kernel
theorem d_H_wrong_87 : decode b_H_wrong 87 = .ok (.lreturn, 1) := by decide +kernel
theorem d_M_carry_0 : decode b_M_carry 0 = .ok (.aload_n 0, 1) := by decide +kernel
theorem d_M_carry_1 : decode b_M_carry 1 = .ok (.getfield 177, 3) := by decide +kernel
theorem d_M_carry_4 : decode b_M_carry 4 = .ok (.ifCond .eq 13, 3) := by decide +kernel
theorem d_M_carry_7 : decode b_M_carry 7 = .ok (.aload_n 0, 1) := by decide +kernel
theorem d_M_carry_8 : decode b_M_carry 8 = .ok (.getfield 180, 3) := by decide +kernel
theorem d_M_carry_11 : decode b_M_carry 11 = .ok (.aload_n 0, 1) := by decide +kernel
theorem d_M_carry_12 : decode b_M_carry 12 = .ok (.getfield 183, 3) := by decide +kernel
theorem d_M_carry_15 : decode b_M_carry 15 = .ok (.iload_n 1, 1) := by decide +kernel
theorem d_M_carry_16 : decode b_M_carry 16 = .ok (.iastore, 1) := by decide +kernel
theorem d_M_carry_17 : decode b_M_carry 17 = .ok (.aload_n 0, 1) := by decide +kernel
theorem d_M_carry_18 : decode b_M_carry 18 = .ok (.dup, 1) := by decide +kernel
theorem d_M_carry_19 : decode b_M_carry 19 = .ok (.getfield 183, 3) := by decide +kernel
theorem d_M_carry_22 : decode b_M_carry 22 = .ok (.iconst 1, 1) := by decide +kernel
theorem d_M_carry_23 : decode b_M_carry 23 = .ok (.iadd, 1) := by decide +kernel
theorem d_M_carry_24 : decode b_M_carry 24 = .ok (.putfield 183, 3) := by decide +kernel
theorem d_M_carry_27 : decode b_M_carry 27 = .ok (.aload_n 0, 1) := by decide +kernel
theorem d_M_carry_28 : decode b_M_carry 28 = .ok (.getfield 180, 3) := by decide +kernel
theorem d_M_carry_31 : decode b_M_carry 31 = .ok (.aload_n 0, 1) := by decide +kernel
theorem d_M_carry_32 : decode b_M_carry 32 = .ok (.getfield 183, 3) := by decide +kernel
theorem d_M_carry_35 : decode b_M_carry 35 = .ok (.iconst 1, 1) := by decide +kernel
theorem d_M_carry_36 : decode b_M_carry 36 = .ok (.isub, 1) := by decide +kernel
theorem d_M_carry_37 : decode b_M_carry 37 = .ok (.iaload, 1) := by decide +kernel
theorem d_M_carry_38 : decode b_M_carry 38 = .ok (.ireturn, 1) := by decide +kernel
theorem d_M_carryAll_0 : decode b_M_carryAll 0 = .ok (.aload_n 0, 1) := by decide +kernel
theorem d_M_carryAll_1 : decode b_M_carryAll 1 = .ok (.aload_n 1, 1) := by decide +kernel
theorem d_M_carryAll_2 : decode b_M_carryAll 2 = .ok (.putfield 180, 3) := by decide +kernel
theorem d_M_carryAll_5 : decode b_M_carryAll 5 = .ok (.aload_n 0, 1) := by decide +kernel
theorem d_M_carryAll_6 : decode b_M_carryAll 6 = .ok (.iload_n 2, 1) := by decide +kernel
theorem d_M_carryAll_7 : decode b_M_carryAll 7 = .ok (.putfield 177, 3) := by decide +kernel
theorem d_M_carryAll_10 : decode b_M_carryAll 10 = .ok (.aload_n 0, 1) := by decide +kernel
theorem d_M_carryAll_11 : decode b_M_carryAll 11 = .ok (.iconst 0, 1) := by decide +kernel
theorem d_M_carryAll_12 : decode b_M_carryAll 12 = .ok (.putfield 183, 3) := by decide +kernel
theorem d_M_carryAll_15 : decode b_M_carryAll 15 = .ok (.aload_n 0, 1) := by decide +kernel
theorem d_M_carryAll_16 : decode b_M_carryAll 16 = .ok (.aload_n 0, 1) := by decide +kernel
theorem d_M_carryAll_17 : decode b_M_carryAll 17 = .ok (.aload_n 0, 1) := by decide +kernel
theorem d_M_carryAll_18 : decode b_M_carryAll 18 = .ok (.getfield 71, 3) := by decide +kernel
theorem d_M_carryAll_21 : decode b_M_carryAll 21 = .ok (.invokevirtual 186, 3) := by decide +kernel
theorem d_M_carryAll_24 : decode b_M_carryAll 24 = .ok (.putfield 71, 3) := by decide +kernel
theorem d_M_carryAll_27 : decode b_M_carryAll 27 = .ok (.aload_n 0, 1) := by decide +kernel
theorem d_M_carryAll_28 : decode b_M_carryAll 28 = .ok (.aload_n 0, 1) := by decide +kernel
theorem d_M_carryAll_29 : decode b_M_carryAll 29 = .ok (.aload_n 0, 1) := by decide +kernel
theorem d_M_carryAll_30 : decode b_M_carryAll 30 = .ok (.getfield 78, 3) := by decide +kernel
theorem d_M_carryAll_33 : decode b_M_carryAll 33 = .ok (.invokevirtual 186, 3) := by decide +kernel
theorem d_M_carryAll_36 : decode b_M_carryAll 36 = .ok (.putfield 78, 3) := by decide +kernel
theorem d_M_carryAll_39 : decode b_M_carryAll 39 = .ok (.aload_n 0, 1) := by decide +kernel
theorem d_M_carryAll_40 : decode b_M_carryAll 40 = .ok (.aload_n 0, 1) := by decide +kernel
theorem d_M_carryAll_41 : decode b_M_carryAll 41 = .ok (.aload_n 0, 1) := by decide +kernel
theorem d_M_carryAll_42 : decode b_M_carryAll 42 = .ok (.getfield 105, 3) := by decide +kernel
theorem d_M_carryAll_45 : decode b_M_carryAll 45 = .ok (.invokevirtual 186, 3) := by decide +kernel
theorem d_M_carryAll_48 : decode b_M_carryAll 48 = .ok (.putfield 105, 3) := by decide +kernel
theorem d_M_carryAll_51 : decode b_M_carryAll 51 = .ok (.iconst 0, 1) := by decide +kernel
theorem d_M_carryAll_52 : decode b_M_carryAll 52 = .ok (.istore_n 3, 1) := by decide +kernel
theorem d_M_carryAll_53 : decode b_M_carryAll 53 = .ok (.iload_n 3, 1) := by decide +kernel
theorem d_M_carryAll_54 : decode b_M_carryAll 54 = .ok (.bipush 6, 2) := by decide +kernel
theorem d_M_carryAll_56 : decode b_M_carryAll 56 = .ok (.if_icmp .ge 25, 3) := by decide +kernel
theorem d_M_carryAll_59 : decode b_M_carryAll 59 = .ok (.aload_n 0, 1) := by decide +kernel
theorem d_M_carryAll_60 : decode b_M_carryAll 60 = .ok (.getfield 7, 3) := by decide +kernel
theorem d_M_carryAll_63 : decode b_M_carryAll 63 = .ok (.iload_n 3, 1) := by decide +kernel
theorem d_M_carryAll_64 : decode b_M_carryAll 64 = .ok (.aload_n 0, 1) := by decide +kernel
theorem d_M_carryAll_65 : decode b_M_carryAll 65 = .ok (.aload_n 0, 1) := by decide +kernel
theorem d_M_carryAll_66 : decode b_M_carryAll 66 = .ok (.getfield 7, 3) := by decide +kernel
theorem d_M_carryAll_69 : decode b_M_carryAll 69 = .ok (.iload_n 3, 1) := by decide +kernel
theorem d_M_carryAll_70 : decode b_M_carryAll 70 = .ok (.iaload, 1) := by decide +kernel
theorem d_M_carryAll_71 : decode b_M_carryAll 71 = .ok (.invokevirtual 186, 3) := by decide +kernel
theorem d_M_carryAll_74 : decode b_M_carryAll 74 = .ok (.iastore, 1) := by decide +kernel
theorem d_M_carryAll_75 : decode b_M_carryAll 75 = .ok (.iinc 3 1, 3) := by decide +kernel
theorem d_M_carryAll_78 : decode b_M_carryAll 78 = .ok (.goto (-25), 3) := by decide +kernel
theorem d_M_carryAll_81 : decode b_M_carryAll 81 = .ok (.iconst 0, 1) := by decide +kernel
theorem d_M_carryAll_82 : decode b_M_carryAll 82 = .ok (.istore_n 3, 1) := by decide +kernel
theorem d_M_carryAll_83 : decode b_M_carryAll 83 = .ok (.iload_n 3, 1) := by decide +kernel
theorem d_M_carryAll_84 : decode b_M_carryAll 84 = .ok (.bipush 8, 2) := by decide +kernel
theorem d_M_carryAll_86 : decode b_M_carryAll 86 = .ok (.if_icmp .ge 57, 3) := by decide +kernel
theorem d_M_carryAll_89 : decode b_M_carryAll 89 = .ok (.aload_n 0, 1) := by decide +kernel
theorem d_M_carryAll_90 : decode b_M_carryAll 90 = .ok (.getfield 13, 3) := by decide +kernel
theorem d_M_carryAll_93 : decode b_M_carryAll 93 = .ok (.iload_n 3, 1) := by decide +kernel
theorem d_M_carryAll_94 : decode b_M_carryAll 94 = .ok (.aload_n 0, 1) := by decide +kernel
theorem d_M_carryAll_95 : decode b_M_carryAll 95 = .ok (.aload_n 0, 1) := by decide +kernel
theorem d_M_carryAll_96 : decode b_M_carryAll 96 = .ok (.getfield 13, 3) := by decide +kernel
theorem d_M_carryAll_99 : decode b_M_carryAll 99 = .ok (.iload_n 3, 1) := by decide +kernel
theorem d_M_carryAll_100 : decode b_M_carryAll 100 = .ok (.iaload, 1) := by decide +kernel
theorem d_M_carryAll_101 : decode b_M_carryAll 101 = .ok (.invokevirtual 186, 3) := by decide +kernel
theorem d_M_carryAll_104 : decode b_M_carryAll 104 = .ok (.iastore, 1) := by decide +kernel
theorem d_M_carryAll_105 : decode b_M_carryAll 105 = .ok (.aload_n 0, 1) := by decide +kernel
theorem d_M_carryAll_106 : decode b_M_carryAll 106 = .ok (.getfield 16, 3) := by decide +kernel
theorem d_M_carryAll_109 : decode b_M_carryAll 109 = .ok (.iload_n 3, 1) := by decide +kernel
theorem d_M_carryAll_110 : decode b_M_carryAll 110 = .ok (.aload_n 0, 1) := by decide +kernel
theorem d_M_carryAll_111 : decode b_M_carryAll 111 = .ok (.aload_n 0, 1) := by decide +kernel
theorem d_M_carryAll_112 : decode b_M_carryAll 112 = .ok (.getfield 16, 3) := by decide +kernel
theorem d_M_carryAll_115 : decode b_M_carryAll 115 = .ok (.iload_n 3, 1) := by decide +kernel
theorem d_M_carryAll_116 : decode b_M_carryAll 116 = .ok (.iaload, 1) := by decide +kernel
theorem d_M_carryAll_117 : decode b_M_carryAll 117 = .ok (.invokevirtual 186, 3) := by decide +kernel
theorem d_M_carryAll_120 : decode b_M_carryAll 120 = .ok (.iastore, 1) := by decide +kernel
theorem d_M_carryAll_121 : decode b_M_carryAll 121 = .ok (.aload_n 0, 1) := by decide +kernel
theorem d_M_carryAll_122 : decode b_M_carryAll 122 = .ok (.getfield 19, 3) := by decide +kernel
theorem d_M_carryAll_125 : decode b_M_carryAll 125 = .ok (.iload_n 3, 1) := by decide +kernel
theorem d_M_carryAll_126 : decode b_M_carryAll 126 = .ok (.aload_n 0, 1) := by decide +kernel
theorem d_M_carryAll_127 : decode b_M_carryAll 127 = .ok (.aload_n 0, 1) := by decide +kernel
theorem d_M_carryAll_128 : decode b_M_carryAll 128 = .ok (.getfield 19, 3) := by decide +kernel
theorem d_M_carryAll_131 : decode b_M_carryAll 131 = .ok (.iload_n 3, 1) := by decide +kernel
theorem d_M_carryAll_132 : decode b_M_carryAll 132 = .ok (.iaload, 1) := by decide +kernel
theorem d_M_carryAll_133 : decode b_M_carryAll 133 = .ok (.invokevirtual 186, 3) := by decide +kernel
theorem d_M_carryAll_136 : decode b_M_carryAll 136 = .ok (.iastore, 1) := by decide +kernel
theorem d_M_carryAll_137 : decode b_M_carryAll 137 = .ok (.iinc 3 1, 3) := by decide +kernel
theorem d_M_carryAll_140 : decode b_M_carryAll 140 = .ok (.goto (-57), 3) := by decide +kernel
theorem d_M_carryAll_143 : decode b_M_carryAll 143 = .ok (.iconst 0, 1) := by decide +kernel
theorem d_M_carryAll_144 : decode b_M_carryAll 144 = .ok (.istore_n 3, 1) := by decide +kernel
theorem d_M_carryAll_145 : decode b_M_carryAll 145 = .ok (.iload_n 3, 1) := by decide +kernel
theorem d_M_carryAll_146 : decode b_M_carryAll 146 = .ok (.iconst 4, 1) := by decide +kernel
theorem d_M_carryAll_147 : decode b_M_carryAll 147 = .ok (.if_icmp .ge 41, 3) := by decide +kernel
theorem d_M_carryAll_150 : decode b_M_carryAll 150 = .ok (.aload_n 0, 1) := by decide +kernel
theorem d_M_carryAll_151 : decode b_M_carryAll 151 = .ok (.getfield 22, 3) := by decide +kernel
theorem d_M_carryAll_154 : decode b_M_carryAll 154 = .ok (.iload_n 3, 1) := by decide +kernel
theorem d_M_carryAll_155 : decode b_M_carryAll 155 = .ok (.aload_n 0, 1) := by decide +kernel
theorem d_M_carryAll_156 : decode b_M_carryAll 156 = .ok (.aload_n 0, 1) := by decide +kernel
theorem d_M_carryAll_157 : decode b_M_carryAll 157 = .ok (.getfield 22, 3) := by decide +kernel
theorem d_M_carryAll_160 : decode b_M_carryAll 160 = .ok (.iload_n 3, 1) := by decide +kernel
theorem d_M_carryAll_161 : decode b_M_carryAll 161 = .ok (.iaload, 1) := by decide +kernel
theorem d_M_carryAll_162 : decode b_M_carryAll 162 = .ok (.invokevirtual 186, 3) := by decide +kernel
theorem d_M_carryAll_165 : decode b_M_carryAll 165 = .ok (.iastore, 1) := by decide +kernel
theorem d_M_carryAll_166 : decode b_M_carryAll 166 = .ok (.aload_n 0, 1) := by decide +kernel
theorem d_M_carryAll_167 : decode b_M_carryAll 167 = .ok (.getfield 25, 3) := by decide +kernel
theorem d_M_carryAll_170 : decode b_M_carryAll 170 = .ok (.iload_n 3, 1) := by decide +kernel
theorem d_M_carryAll_171 : decode b_M_carryAll 171 = .ok (.aload_n 0, 1) := by decide +kernel
theorem d_M_carryAll_172 : decode b_M_carryAll 172 = .ok (.aload_n 0, 1) := by decide +kernel
theorem d_M_carryAll_173 : decode b_M_carryAll 173 = .ok (.getfield 25, 3) := by decide +kernel
theorem d_M_carryAll_176 : decode b_M_carryAll 176 = .ok (.iload_n 3, 1) := by decide +kernel
theorem d_M_carryAll_177 : decode b_M_carryAll 177 = .ok (.iaload, 1) := by decide +kernel
theorem d_M_carryAll_178 : decode b_M_carryAll 178 = .ok (.invokevirtual 186, 3) := by decide +kernel
theorem d_M_carryAll_181 : decode b_M_carryAll 181 = .ok (.iastore, 1) := by decide +kernel
theorem d_M_carryAll_182 : decode b_M_carryAll 182 = .ok (.iinc 3 1, 3) := by decide +kernel
theorem d_M_carryAll_185 : decode b_M_carryAll 185 = .ok (.goto (-40), 3) := by decide +kernel
theorem d_M_carryAll_188 : decode b_M_carryAll 188 = .ok (.return_, 1) := by decide +kernel
theorem d_M_again_0 : decode b_M_again 0 = .ok (.aload_n 0, 1) := by decide +kernel
theorem d_M_again_1 : decode b_M_again 1 = .ok (.aload_n 0, 1) := by decide +kernel
theorem d_M_again_2 : decode b_M_again 2 = .ok (.getfield 43, 3) := by decide +kernel
theorem d_M_again_5 : decode b_M_again 5 = .ok (.iconst 0, 1) := by decide +kernel
theorem d_M_again_6 : decode b_M_again 6 = .ok (.invokevirtual 189, 3) := by decide +kernel
theorem d_M_again_9 : decode b_M_again 9 = .ok (.return_, 1) := by decide +kernel
theorem d_M_dearOf_0 : decode b_M_dearOf 0 = .ok (.aload_n 0, 1) := by decide +kernel
theorem d_M_dearOf_1 : decode b_M_dearOf 1 = .ok (.getfield 13, 3) := by decide +kernel
theorem d_M_dearOf_4 : decode b_M_dearOf 4 = .ok (.iload_n 1, 1) := by decide +kernel
theorem d_M_dearOf_5 : decode b_M_dearOf 5 = .ok (.iaload, 1) := by decide +kernel
theorem d_M_dearOf_6 : decode b_M_dearOf 6 = .ok (.tableswitch 65 0 4 #[34, 36, 43, 45, 56], 34) := by decide +kernel
theorem d_M_dearOf_40 : decode b_M_dearOf 40 = .ok (.iconst 1, 1) := by decide +kernel
theorem d_M_dearOf_41 : decode b_M_dearOf 41 = .ok (.ireturn, 1) := by decide +kernel
theorem d_M_dearOf_42 : decode b_M_dearOf 42 = .ok (.aload_n 0, 1) := by decide +kernel
theorem d_M_dearOf_43 : decode b_M_dearOf 43 = .ok (.getfield 16, 3) := by decide +kernel
theorem d_M_dearOf_46 : decode b_M_dearOf 46 = .ok (.iload_n 1, 1) := by decide +kernel
theorem d_M_dearOf_47 : decode b_M_dearOf 47 = .ok (.iaload, 1) := by decide +kernel
theorem d_M_dearOf_48 : decode b_M_dearOf 48 = .ok (.ireturn, 1) := by decide +kernel
theorem d_M_dearOf_49 : decode b_M_dearOf 49 = .ok (.iconst 4, 1) := by decide +kernel
theorem d_M_dearOf_50 : decode b_M_dearOf 50 = .ok (.ireturn, 1) := by decide +kernel
theorem d_M_dearOf_51 : decode b_M_dearOf 51 = .ok (.iconst 4, 1) := by decide +kernel
theorem d_M_dearOf_52 : decode b_M_dearOf 52 = .ok (.aload_n 0, 1) := by decide +kernel
theorem d_M_dearOf_53 : decode b_M_dearOf 53 = .ok (.getfield 16, 3) := by decide +kernel
theorem d_M_dearOf_56 : decode b_M_dearOf 56 = .ok (.iload_n 1, 1) := by decide +kernel
theorem d_M_dearOf_57 : decode b_M_dearOf 57 = .ok (.iaload, 1) := by decide +kernel
theorem d_M_dearOf_58 : decode b_M_dearOf 58 = .ok (.iconst 3, 1) := by decide +kernel
theorem d_M_dearOf_59 : decode b_M_dearOf 59 = .ok (.idiv, 1) := by decide +kernel
theorem d_M_dearOf_60 : decode b_M_dearOf 60 = .ok (.isub, 1) := by decide +kernel
theorem d_M_dearOf_61 : decode b_M_dearOf 61 = .ok (.ireturn, 1) := by decide +kernel
theorem d_M_dearOf_62 : decode b_M_dearOf 62 = .ok (.aload_n 0, 1) := by decide +kernel
theorem d_M_dearOf_63 : decode b_M_dearOf 63 = .ok (.getfield 16, 3) := by decide +kernel
theorem d_M_dearOf_66 : decode b_M_dearOf 66 = .ok (.iload_n 1, 1) := by decide +kernel
theorem d_M_dearOf_67 : decode b_M_dearOf 67 = .ok (.iaload, 1) := by decide +kernel
theorem d_M_dearOf_68 : decode b_M_dearOf 68 = .ok (.iconst 5, 1) := by decide +kernel
theorem d_M_dearOf_69 : decode b_M_dearOf 69 = .ok (.iadd, 1) := by decide +kernel
theorem d_M_dearOf_70 : decode b_M_dearOf 70 = .ok (.ireturn, 1) := by decide +kernel
theorem d_M_dearOf_71 : decode b_M_dearOf 71 = .ok (.bipush 9, 2) := by decide +kernel
theorem d_M_dearOf_73 : decode b_M_dearOf 73 = .ok (.ireturn, 1) := by decide +kernel
theorem d_M_hasBit_0 : decode b_M_hasBit 0 = .ok (.iload_n 0, 1) := by decide +kernel
theorem d_M_hasBit_1 : decode b_M_hasBit 1 = .ok (.iload_n 1, 1) := by decide +kernel
theorem d_M_hasBit_2 : decode b_M_hasBit 2 = .ok (.ishr, 1) := by decide +kernel
theorem d_M_hasBit_3 : decode b_M_hasBit 3 = .ok (.iconst 1, 1) := by decide +kernel
theorem d_M_hasBit_4 : decode b_M_hasBit 4 = .ok (.iand, 1) := by decide +kernel
theorem d_M_hasBit_5 : decode b_M_hasBit 5 = .ok (.iconst 1, 1) := by decide +kernel
theorem d_M_hasBit_6 : decode b_M_hasBit 6 = .ok (.if_icmp .ne 7, 3) := by decide +kernel
theorem d_M_hasBit_9 : decode b_M_hasBit 9 = .ok (.iconst 1, 1) := by decide +kernel
theorem d_M_hasBit_10 : decode b_M_hasBit 10 = .ok (.goto 4, 3) := by decide +kernel
theorem d_M_hasBit_13 : decode b_M_hasBit 13 = .ok (.iconst 0, 1) := by decide +kernel
theorem d_M_hasBit_14 : decode b_M_hasBit 14 = .ok (.ireturn, 1) := by decide +kernel
theorem d_M_allDear_0 : decode b_M_allDear 0 = .ok (.iconst 0, 1) := by decide +kernel
theorem d_M_allDear_1 : decode b_M_allDear 1 = .ok (.istore_n 2, 1) := by decide +kernel
theorem d_M_allDear_2 : decode b_M_allDear 2 = .ok (.iconst 0, 1) := by decide +kernel
theorem d_M_allDear_3 : decode b_M_allDear 3 = .ok (.istore_n 3, 1) := by decide +kernel
theorem d_M_allDear_4 : decode b_M_allDear 4 = .ok (.iload_n 3, 1) := by decide +kernel
theorem d_M_allDear_5 : decode b_M_allDear 5 = .ok (.aload_n 0, 1) := by decide +kernel
theorem d_M_allDear_6 : decode b_M_allDear 6 = .ok (.getfield 71, 3) := by decide +kernel
theorem d_M_allDear_9 : decode b_M_allDear 9 = .ok (.if_icmp .ge 29, 3) := by decide +kernel
theorem d_M_allDear_12 : decode b_M_allDear 12 = .ok (.iload_n 2, 1) := by decide +kernel
theorem d_M_allDear_13 : decode b_M_allDear 13 = .ok (.iload_n 1, 1) := by decide +kernel
theorem d_M_allDear_14 : decode b_M_allDear 14 = .ok (.iload_n 3, 1) := by decide +kernel
theorem d_M_allDear_15 : decode b_M_allDear 15 = .ok (.invokestatic 85, 3) := by decide +kernel
theorem d_M_allDear_18 : decode b_M_allDear 18 = .ok (.ifCond .eq 11, 3) := by decide +kernel
theorem d_M_allDear_21 : decode b_M_allDear 21 = .ok (.aload_n 0, 1) := by decide +kernel
theorem d_M_allDear_22 : decode b_M_allDear 22 = .ok (.iload_n 3, 1) := by decide +kernel
theorem d_M_allDear_23 : decode b_M_allDear 23 = .ok (.invokevirtual 93, 3) := by decide +kernel
theorem d_M_allDear_26 : decode b_M_allDear 26 = .ok (.goto 4, 3) := by decide +kernel
theorem d_M_allDear_29 : decode b_M_allDear 29 = .ok (.iconst 0, 1) := by decide +kernel
theorem d_M_allDear_30 : decode b_M_allDear 30 = .ok (.iadd, 1) := by decide +kernel
theorem d_M_allDear_31 : decode b_M_allDear 31 = .ok (.istore_n 2, 1) := by decide +kernel
theorem d_M_allDear_32 : decode b_M_allDear 32 = .ok (.iinc 3 1, 3) := by decide +kernel
theorem d_M_allDear_35 : decode b_M_allDear 35 = .ok (.goto (-31), 3) := by decide +kernel
theorem d_M_allDear_38 : decode b_M_allDear 38 = .ok (.iload_n 2, 1) := by decide +kernel
theorem d_M_allDear_39 : decode b_M_allDear 39 = .ok (.ireturn, 1) := by decide +kernel
theorem d_M_heavyOf_0 : decode b_M_heavyOf 0 = .ok (.aload_n 0, 1) := by decide +kernel
theorem d_M_heavyOf_1 : decode b_M_heavyOf 1 = .ok (.getfield 13, 3) := by decide +kernel
theorem d_M_heavyOf_4 : decode b_M_heavyOf 4 = .ok (.iload_n 1, 1) := by decide +kernel
theorem d_M_heavyOf_5 : decode b_M_heavyOf 5 = .ok (.iaload, 1) := by decide +kernel
theorem d_M_heavyOf_6 : decode b_M_heavyOf 6 = .ok (.tableswitch 67 0 4 #[34, 43, 52, 54, 56], 34) := by decide +kernel
theorem d_M_heavyOf_40 : decode b_M_heavyOf 40 = .ok (.aload_n 0, 1) := by decide +kernel
theorem d_M_heavyOf_41 : decode b_M_heavyOf 41 = .ok (.getfield 16, 3) := by decide +kernel
theorem d_M_heavyOf_44 : decode b_M_heavyOf 44 = .ok (.iload_n 1, 1) := by decide +kernel
theorem d_M_heavyOf_45 : decode b_M_heavyOf 45 = .ok (.iaload, 1) := by decide +kernel
theorem d_M_heavyOf_46 : decode b_M_heavyOf 46 = .ok (.iconst 1, 1) := by decide +kernel
theorem d_M_heavyOf_47 : decode b_M_heavyOf 47 = .ok (.iadd, 1) := by decide +kernel
theorem d_M_heavyOf_48 : decode b_M_heavyOf 48 = .ok (.ireturn, 1) := by decide +kernel
theorem d_M_heavyOf_49 : decode b_M_heavyOf 49 = .ok (.aload_n 0, 1) := by decide +kernel
theorem d_M_heavyOf_50 : decode b_M_heavyOf 50 = .ok (.getfield 16, 3) := by decide +kernel
theorem d_M_heavyOf_53 : decode b_M_heavyOf 53 = .ok (.iload_n 1, 1) := by decide +kernel
theorem d_M_heavyOf_54 : decode b_M_heavyOf 54 = .ok (.iaload, 1) := by decide +kernel
theorem d_M_heavyOf_55 : decode b_M_heavyOf 55 = .ok (.iconst 3, 1) := by decide +kernel
theorem d_M_heavyOf_56 : decode b_M_heavyOf 56 = .ok (.iadd, 1) := by decide +kernel
theorem d_M_heavyOf_57 : decode b_M_heavyOf 57 = .ok (.ireturn, 1) := by decide +kernel
theorem d_M_heavyOf_58 : decode b_M_heavyOf 58 = .ok (.iconst 4, 1) := by decide +kernel
theorem d_M_heavyOf_59 : decode b_M_heavyOf 59 = .ok (.ireturn, 1) := by decide +kernel
theorem d_M_heavyOf_60 : decode b_M_heavyOf 60 = .ok (.iconst 2, 1) := by decide +kernel
theorem d_M_heavyOf_61 : decode b_M_heavyOf 61 = .ok (.ireturn, 1) := by decide +kernel
theorem d_M_heavyOf_62 : decode b_M_heavyOf 62 = .ok (.iconst 2, 1) := by decide +kernel
theorem d_M_heavyOf_63 : decode b_M_heavyOf 63 = .ok (.aload_n 0, 1) := by decide +kernel
theorem d_M_heavyOf_64 : decode b_M_heavyOf 64 = .ok (.getfield 16, 3) := by decide +kernel
theorem d_M_heavyOf_67 : decode b_M_heavyOf 67 = .ok (.iload_n 1, 1) := by decide +kernel
theorem d_M_heavyOf_68 : decode b_M_heavyOf 68 = .ok (.iaload, 1) := by decide +kernel
theorem d_M_heavyOf_69 : decode b_M_heavyOf 69 = .ok (.iconst 3, 1) := by decide +kernel
theorem d_M_heavyOf_70 : decode b_M_heavyOf 70 = .ok (.iadd, 1) := by decide +kernel
theorem d_M_heavyOf_71 : decode b_M_heavyOf 71 = .ok (.imul, 1) := by decide +kernel
theorem d_M_heavyOf_72 : decode b_M_heavyOf 72 = .ok (.ireturn, 1) := by decide +kernel
theorem d_M_heavyOf_73 : decode b_M_heavyOf 73 = .ok (.iconst 0, 1) := by decide +kernel
theorem d_M_heavyOf_74 : decode b_M_heavyOf 74 = .ok (.ireturn, 1) := by decide +kernel
theorem d_M_allHeavy_0 : decode b_M_allHeavy 0 = .ok (.iconst 0, 1) := by decide +kernel
theorem d_M_allHeavy_1 : decode b_M_allHeavy 1 = .ok (.istore_n 2, 1) := by decide +kernel
theorem d_M_allHeavy_2 : decode b_M_allHeavy 2 = .ok (.iconst 0, 1) := by decide +kernel
theorem d_M_allHeavy_3 : decode b_M_allHeavy 3 = .ok (.istore_n 3, 1) := by decide +kernel
theorem d_M_allHeavy_4 : decode b_M_allHeavy 4 = .ok (.iload_n 3, 1) := by decide +kernel
theorem d_M_allHeavy_5 : decode b_M_allHeavy 5 = .ok (.aload_n 0, 1) := by decide +kernel
theorem d_M_allHeavy_6 : decode b_M_allHeavy 6 = .ok (.getfield 71, 3) := by decide +kernel
theorem d_M_allHeavy_9 : decode b_M_allHeavy 9 = .ok (.if_icmp .ge 29, 3) := by decide +kernel
theorem d_M_allHeavy_12 : decode b_M_allHeavy 12 = .ok (.iload_n 2, 1) := by decide +kernel
theorem d_M_allHeavy_13 : decode b_M_allHeavy 13 = .ok (.iload_n 1, 1) := by decide +kernel
theorem d_M_allHeavy_14 : decode b_M_allHeavy 14 = .ok (.iload_n 3, 1) := by decide +kernel
theorem d_M_allHeavy_15 : decode b_M_allHeavy 15 = .ok (.invokestatic 85, 3) := by decide +kernel
theorem d_M_allHeavy_18 : decode b_M_allHeavy 18 = .ok (.ifCond .eq 11, 3) := by decide +kernel
theorem d_M_allHeavy_21 : decode b_M_allHeavy 21 = .ok (.aload_n 0, 1) := by decide +kernel
theorem d_M_allHeavy_22 : decode b_M_allHeavy 22 = .ok (.iload_n 3, 1) := by decide +kernel
theorem d_M_allHeavy_23 : decode b_M_allHeavy 23 = .ok (.invokevirtual 89, 3) := by decide +kernel
theorem d_M_allHeavy_26 : decode b_M_allHeavy 26 = .ok (.goto 4, 3) := by decide +kernel
theorem d_M_allHeavy_29 : decode b_M_allHeavy 29 = .ok (.iconst 0, 1) := by decide +kernel
theorem d_M_allHeavy_30 : decode b_M_allHeavy 30 = .ok (.iadd, 1) := by decide +kernel
theorem d_M_allHeavy_31 : decode b_M_allHeavy 31 = .ok (.istore_n 2, 1) := by decide +kernel
theorem d_M_allHeavy_32 : decode b_M_allHeavy 32 = .ok (.iinc 3 1, 3) := by decide +kernel
theorem d_M_allHeavy_35 : decode b_M_allHeavy 35 = .ok (.goto (-31), 3) := by decide +kernel
theorem d_M_allHeavy_38 : decode b_M_allHeavy 38 = .ok (.iload_n 2, 1) := by decide +kernel
theorem d_M_allHeavy_39 : decode b_M_allHeavy 39 = .ok (.ireturn, 1) := by decide +kernel
theorem d_M_allLeft_0 : decode b_M_allLeft 0 = .ok (.aload_n 0, 1) := by decide +kernel
theorem d_M_allLeft_1 : decode b_M_allLeft 1 = .ok (.getfield 25, 3) := by decide +kernel
theorem d_M_allLeft_4 : decode b_M_allLeft 4 = .ok (.iconst 0, 1) := by decide +kernel
theorem d_M_allLeft_5 : decode b_M_allLeft 5 = .ok (.iaload, 1) := by decide +kernel
theorem d_M_allLeft_6 : decode b_M_allLeft 6 = .ok (.aload_n 0, 1) := by decide +kernel
theorem d_M_allLeft_7 : decode b_M_allLeft 7 = .ok (.getfield 25, 3) := by decide +kernel
theorem d_M_allLeft_10 : decode b_M_allLeft 10 = .ok (.iconst 1, 1) := by decide +kernel
theorem d_M_allLeft_11 : decode b_M_allLeft 11 = .ok (.iaload, 1) := by decide +kernel
theorem d_M_allLeft_12 : decode b_M_allLeft 12 = .ok (.iadd, 1) := by decide +kernel
theorem d_M_allLeft_13 : decode b_M_allLeft 13 = .ok (.aload_n 0, 1) := by decide +kernel
theorem d_M_allLeft_14 : decode b_M_allLeft 14 = .ok (.getfield 25, 3) := by decide +kernel
theorem d_M_allLeft_17 : decode b_M_allLeft 17 = .ok (.iconst 2, 1) := by decide +kernel
theorem d_M_allLeft_18 : decode b_M_allLeft 18 = .ok (.iaload, 1) := by decide +kernel
theorem d_M_allLeft_19 : decode b_M_allLeft 19 = .ok (.iadd, 1) := by decide +kernel
theorem d_M_allLeft_20 : decode b_M_allLeft 20 = .ok (.aload_n 0, 1) := by decide +kernel
theorem d_M_allLeft_21 : decode b_M_allLeft 21 = .ok (.getfield 25, 3) := by decide +kernel
theorem d_M_allLeft_24 : decode b_M_allLeft 24 = .ok (.iconst 3, 1) := by decide +kernel
theorem d_M_allLeft_25 : decode b_M_allLeft 25 = .ok (.iaload, 1) := by decide +kernel
theorem d_M_allLeft_26 : decode b_M_allLeft 26 = .ok (.iadd, 1) := by decide +kernel
theorem d_M_allLeft_27 : decode b_M_allLeft 27 = .ok (.ireturn, 1) := by decide +kernel
theorem d_M_goesBy_0 : decode b_M_goesBy 0 = .ok (.iload_n 2, 1) := by decide +kernel
theorem d_M_goesBy_1 : decode b_M_goesBy 1 = .ok (.iload_n 1, 1) := by decide +kernel
theorem d_M_goesBy_2 : decode b_M_goesBy 2 = .ok (.iadd, 1) := by decide +kernel
theorem d_M_goesBy_3 : decode b_M_goesBy 3 = .ok (.iconst 2, 1) := by decide +kernel
theorem d_M_goesBy_4 : decode b_M_goesBy 4 = .ok (.irem, 1) := by decide +kernel
theorem d_M_goesBy_5 : decode b_M_goesBy 5 = .ok (.ifCond .ne 7, 3) := by decide +kernel
theorem d_M_goesBy_8 : decode b_M_goesBy 8 = .ok (.iconst 1, 1) := by decide +kernel
theorem d_M_goesBy_9 : decode b_M_goesBy 9 = .ok (.goto 4, 3) := by decide +kernel
theorem d_M_goesBy_12 : decode b_M_goesBy 12 = .ok (.iconst 0, 1) := by decide +kernel
theorem d_M_goesBy_13 : decode b_M_goesBy 13 = .ok (.istore_n 3, 1) := by decide +kernel
theorem d_M_goesBy_14 : decode b_M_goesBy 14 = .ok (.iload_n 2, 1) := by decide +kernel
theorem d_M_goesBy_15 : decode b_M_goesBy 15 = .ok (.iconst 1, 1) := by decide +kernel
theorem d_M_goesBy_16 : decode b_M_goesBy 16 = .ok (.if_icmp .eq 13, 3) := by decide +kernel
theorem d_M_goesBy_19 : decode b_M_goesBy 19 = .ok (.iload_n 2, 1) := by decide +kernel
theorem d_M_goesBy_20 : decode b_M_goesBy 20 = .ok (.iconst 2, 1) := by decide +kernel
theorem d_M_goesBy_21 : decode b_M_goesBy 21 = .ok (.if_icmp .eq 8, 3) := by decide +kernel
theorem d_M_goesBy_24 : decode b_M_goesBy 24 = .ok (.iload_n 2, 1) := by decide +kernel
theorem d_M_goesBy_25 : decode b_M_goesBy 25 = .ok (.iconst 5, 1) := by decide +kernel
theorem d_M_goesBy_26 : decode b_M_goesBy 26 = .ok (.if_icmp .ne 7, 3) := by decide +kernel
theorem d_M_goesBy_29 : decode b_M_goesBy 29 = .ok (.iconst 1, 1) := by decide +kernel
theorem d_M_goesBy_30 : decode b_M_goesBy 30 = .ok (.goto 4, 3) := by decide +kernel
theorem d_M_goesBy_33 : decode b_M_goesBy 33 = .ok (.iconst 0, 1) := by decide +kernel
theorem d_M_goesBy_34 : decode b_M_goesBy 34 = .ok (.istore 4, 2) := by decide +kernel
theorem d_M_goesBy_36 : decode b_M_goesBy 36 = .ok (.iload_n 0, 1) := by decide +kernel
theorem d_M_goesBy_37 : decode b_M_goesBy 37 = .ok (.tableswitch 88 0 4 #[35, 49, 51, 54, 73], 35) := by decide +kernel
theorem d_M_goesBy_72 : decode b_M_goesBy 72 = .ok (.iload_n 2, 1) := by decide +kernel
theorem d_M_goesBy_73 : decode b_M_goesBy 73 = .ok (.iload_n 1, 1) := by decide +kernel
theorem d_M_goesBy_74 : decode b_M_goesBy 74 = .ok (.bipush 6, 2) := by decide +kernel
theorem d_M_goesBy_76 : decode b_M_goesBy 76 = .ok (.irem, 1) := by decide +kernel
theorem d_M_goesBy_77 : decode b_M_goesBy 77 = .ok (.if_icmp .eq 7, 3) := by decide +kernel
theorem d_M_goesBy_80 : decode b_M_goesBy 80 = .ok (.iconst 1, 1) := by decide +kernel
theorem d_M_goesBy_81 : decode b_M_goesBy 81 = .ok (.goto 4, 3) := by decide +kernel
theorem d_M_goesBy_84 : decode b_M_goesBy 84 = .ok (.iconst 0, 1) := by decide +kernel
theorem d_M_goesBy_85 : decode b_M_goesBy 85 = .ok (.ireturn, 1) := by decide +kernel
theorem d_M_goesBy_86 : decode b_M_goesBy 86 = .ok (.iload_n 3, 1) := by decide +kernel
theorem d_M_goesBy_87 : decode b_M_goesBy 87 = .ok (.ireturn, 1) := by decide +kernel
theorem d_M_goesBy_88 : decode b_M_goesBy 88 = .ok (.iload 4, 2) := by decide +kernel
theorem d_M_goesBy_90 : decode b_M_goesBy 90 = .ok (.ireturn, 1) := by decide +kernel
theorem d_M_goesBy_91 : decode b_M_goesBy 91 = .ok (.iload 4, 2) := by decide +kernel
theorem d_M_goesBy_93 : decode b_M_goesBy 93 = .ok (.ifCond .ne 11, 3) := by decide +kernel
theorem d_M_goesBy_96 : decode b_M_goesBy 96 = .ok (.iload_n 2, 1) := by decide +kernel
theorem d_M_goesBy_97 : decode b_M_goesBy 97 = .ok (.iload_n 1, 1) := by decide +kernel
theorem d_M_goesBy_98 : decode b_M_goesBy 98 = .ok (.bipush 6, 2) := by decide +kernel
theorem d_M_goesBy_100 : decode b_M_goesBy 100 = .ok (.irem, 1) := by decide +kernel
theorem d_M_goesBy_101 : decode b_M_goesBy 101 = .ok (.if_icmp .ne 7, 3) := by decide +kernel
theorem d_M_goesBy_104 : decode b_M_goesBy 104 = .ok (.iconst 1, 1) := by decide +kernel
theorem d_M_goesBy_105 : decode b_M_goesBy 105 = .ok (.goto 4, 3) := by decide +kernel
theorem d_M_goesBy_108 : decode b_M_goesBy 108 = .ok (.iconst 0, 1) := by decide +kernel
theorem d_M_goesBy_109 : decode b_M_goesBy 109 = .ok (.ireturn, 1) := by decide +kernel
theorem d_M_goesBy_110 : decode b_M_goesBy 110 = .ok (.iload_n 3, 1) := by decide +kernel
theorem d_M_goesBy_111 : decode b_M_goesBy 111 = .ok (.ifCond .eq 12, 3) := by decide +kernel
theorem d_M_goesBy_114 : decode b_M_goesBy 114 = .ok (.iload_n 2, 1) := by decide +kernel
theorem d_M_goesBy_115 : decode b_M_goesBy 115 = .ok (.iconst 1, 1) := by decide +kernel
theorem d_M_goesBy_116 : decode b_M_goesBy 116 = .ok (.if_icmp .eq 7, 3) := by decide +kernel
theorem d_M_goesBy_119 : decode b_M_goesBy 119 = .ok (.iconst 1, 1) := by decide +kernel
theorem d_M_goesBy_120 : decode b_M_goesBy 120 = .ok (.goto 4, 3) := by decide +kernel
theorem d_M_goesBy_123 : decode b_M_goesBy 123 = .ok (.iconst 0, 1) := by decide +kernel
theorem d_M_goesBy_124 : decode b_M_goesBy 124 = .ok (.ireturn, 1) := by decide +kernel
theorem d_M_goesBy_125 : decode b_M_goesBy 125 = .ok (.iconst 1, 1) := by decide +kernel
theorem d_M_goesBy_126 : decode b_M_goesBy 126 = .ok (.ireturn, 1) := by decide +kernel
theorem d_M_goesWith_0 : decode b_M_goesWith 0 = .ok (.iconst 0, 1) := by decide +kernel
theorem d_M_goesWith_1 : decode b_M_goesWith 1 = .ok (.istore_n 2, 1) := by decide +kernel
theorem d_M_goesWith_2 : decode b_M_goesWith 2 = .ok (.iconst 0, 1) := by decide +kernel
theorem d_M_goesWith_3 : decode b_M_goesWith 3 = .ok (.istore_n 3, 1) := by decide +kernel
theorem d_M_goesWith_4 : decode b_M_goesWith 4 = .ok (.iload_n 3, 1) := by decide +kernel
theorem d_M_goesWith_5 : decode b_M_goesWith 5 = .ok (.bipush 6, 2) := by decide +kernel
theorem d_M_goesWith_7 : decode b_M_goesWith 7 = .ok (.if_icmp .ge 38, 3) := by decide +kernel
theorem d_M_goesWith_10 : decode b_M_goesWith 10 = .ok (.iload_n 2, 1) := by decide +kernel
theorem d_M_goesWith_11 : decode b_M_goesWith 11 = .ok (.aload_n 0, 1) := by decide +kernel
theorem d_M_goesWith_12 : decode b_M_goesWith 12 = .ok (.getfield 13, 3) := by decide +kernel
theorem d_M_goesWith_15 : decode b_M_goesWith 15 = .ok (.iload_n 1, 1) := by decide +kernel
theorem d_M_goesWith_16 : decode b_M_goesWith 16 = .ok (.iaload, 1) := by decide +kernel
theorem d_M_goesWith_17 : decode b_M_goesWith 17 = .ok (.aload_n 0, 1) := by decide +kernel
theorem d_M_goesWith_18 : decode b_M_goesWith 18 = .ok (.getfield 16, 3) := by decide +kernel
theorem d_M_goesWith_21 : decode b_M_goesWith 21 = .ok (.iload_n 1, 1) := by decide +kernel
theorem d_M_goesWith_22 : decode b_M_goesWith 22 = .ok (.iaload, 1) := by decide +kernel
theorem d_M_goesWith_23 : decode b_M_goesWith 23 = .ok (.iload_n 3, 1) := by decide +kernel
theorem d_M_goesWith_24 : decode b_M_goesWith 24 = .ok (.invokestatic 81, 3) := by decide +kernel
theorem d_M_goesWith_27 : decode b_M_goesWith 27 = .ok (.ifCond .eq 9, 3) := by decide +kernel
theorem d_M_goesWith_30 : decode b_M_goesWith 30 = .ok (.iconst 1, 1) := by decide +kernel
theorem d_M_goesWith_31 : decode b_M_goesWith 31 = .ok (.iload_n 3, 1) := by decide +kernel
theorem d_M_goesWith_32 : decode b_M_goesWith 32 = .ok (.ishl, 1) := by decide +kernel
theorem d_M_goesWith_33 : decode b_M_goesWith 33 = .ok (.goto 4, 3) := by decide +kernel
theorem d_M_goesWith_36 : decode b_M_goesWith 36 = .ok (.iconst 0, 1) := by decide +kernel
theorem d_M_goesWith_37 : decode b_M_goesWith 37 = .ok (.ior, 1) := by decide +kernel
theorem d_M_goesWith_38 : decode b_M_goesWith 38 = .ok (.istore_n 2, 1) := by decide +kernel
theorem d_M_goesWith_39 : decode b_M_goesWith 39 = .ok (.iinc 3 1, 3) := by decide +kernel
theorem d_M_goesWith_42 : decode b_M_goesWith 42 = .ok (.goto (-38), 3) := by decide +kernel
theorem d_M_goesWith_45 : decode b_M_goesWith 45 = .ok (.iload_n 2, 1) := by decide +kernel
theorem d_M_goesWith_46 : decode b_M_goesWith 46 = .ok (.ireturn, 1) := by decide +kernel
theorem d_M_couldBe_0 : decode b_M_couldBe 0 = .ok (.bipush 63, 2) := by decide +kernel
theorem d_M_couldBe_2 : decode b_M_couldBe 2 = .ok (.istore_n 2, 1) := by decide +kernel
theorem d_M_couldBe_3 : decode b_M_couldBe 3 = .ok (.iconst 0, 1) := by decide +kernel
theorem d_M_couldBe_4 : decode b_M_couldBe 4 = .ok (.istore_n 3, 1) := by decide +kernel
theorem d_M_couldBe_5 : decode b_M_couldBe 5 = .ok (.iload_n 3, 1) := by decide +kernel
theorem d_M_couldBe_6 : decode b_M_couldBe 6 = .ok (.aload_n 0, 1) := by decide +kernel
theorem d_M_couldBe_7 : decode b_M_couldBe 7 = .ok (.getfield 71, 3) := by decide +kernel
theorem d_M_couldBe_10 : decode b_M_couldBe 10 = .ok (.if_icmp .ge 30, 3) := by decide +kernel
theorem d_M_couldBe_13 : decode b_M_couldBe 13 = .ok (.iload_n 2, 1) := by decide +kernel
theorem d_M_couldBe_14 : decode b_M_couldBe 14 = .ok (.iload_n 1, 1) := by decide +kernel
theorem d_M_couldBe_15 : decode b_M_couldBe 15 = .ok (.iload_n 3, 1) := by decide +kernel
theorem d_M_couldBe_16 : decode b_M_couldBe 16 = .ok (.invokestatic 85, 3) := by decide +kernel
theorem d_M_couldBe_19 : decode b_M_couldBe 19 = .ok (.ifCond .eq 11, 3) := by decide +kernel
theorem d_M_couldBe_22 : decode b_M_couldBe 22 = .ok (.aload_n 0, 1) := by decide +kernel
theorem d_M_couldBe_23 : decode b_M_couldBe 23 = .ok (.iload_n 3, 1) := by decide +kernel
theorem d_M_couldBe_24 : decode b_M_couldBe 24 = .ok (.invokevirtual 96, 3) := by decide +kernel
theorem d_M_couldBe_27 : decode b_M_couldBe 27 = .ok (.goto 5, 3) := by decide +kernel
theorem d_M_couldBe_30 : decode b_M_couldBe 30 = .ok (.bipush 63, 2) := by decide +kernel
theorem d_M_couldBe_32 : decode b_M_couldBe 32 = .ok (.iand, 1) := by decide +kernel
theorem d_M_couldBe_33 : decode b_M_couldBe 33 = .ok (.istore_n 2, 1) := by decide +kernel
theorem d_M_couldBe_34 : decode b_M_couldBe 34 = .ok (.iinc 3 1, 3) := by decide +kernel
theorem d_M_couldBe_37 : decode b_M_couldBe 37 = .ok (.goto (-32), 3) := by decide +kernel
theorem d_M_couldBe_40 : decode b_M_couldBe 40 = .ok (.iload_n 2, 1) := by decide +kernel
theorem d_M_couldBe_41 : decode b_M_couldBe 41 = .ok (.ireturn, 1) := by decide +kernel
theorem d_M_apart_0 : decode b_M_apart 0 = .ok (.aload_n 0, 1) := by decide +kernel
theorem d_M_apart_1 : decode b_M_apart 1 = .ok (.iconst 0, 1) := by decide +kernel
theorem d_M_apart_2 : decode b_M_apart 2 = .ok (.putfield 67, 3) := by decide +kernel
theorem d_M_apart_5 : decode b_M_apart 5 = .ok (.iconst 0, 1) := by decide +kernel
theorem d_M_apart_6 : decode b_M_apart 6 = .ok (.istore_n 1, 1) := by decide +kernel
theorem d_M_apart_7 : decode b_M_apart 7 = .ok (.iconst 0, 1) := by decide +kernel
theorem d_M_apart_8 : decode b_M_apart 8 = .ok (.istore_n 2, 1) := by decide +kernel
theorem d_M_apart_9 : decode b_M_apart 9 = .ok (.iload_n 2, 1) := by decide +kernel
theorem d_M_apart_10 : decode b_M_apart 10 = .ok (.aload_n 0, 1) := by decide +kernel
theorem d_M_apart_11 : decode b_M_apart 11 = .ok (.getfield 78, 3) := by decide +kernel
theorem d_M_apart_14 : decode b_M_apart 14 = .ok (.if_icmp .ge 59, 3) := by decide +kernel
theorem d_M_apart_17 : decode b_M_apart 17 = .ok (.iload_n 2, 1) := by decide +kernel
theorem d_M_apart_18 : decode b_M_apart 18 = .ok (.iconst 1, 1) := by decide +kernel
theorem d_M_apart_19 : decode b_M_apart 19 = .ok (.iadd, 1) := by decide +kernel
theorem d_M_apart_20 : decode b_M_apart 20 = .ok (.istore_n 3, 1) := by decide +kernel
theorem d_M_apart_21 : decode b_M_apart 21 = .ok (.iload_n 3, 1) := by decide +kernel
theorem d_M_apart_22 : decode b_M_apart 22 = .ok (.aload_n 0, 1) := by decide +kernel
theorem d_M_apart_23 : decode b_M_apart 23 = .ok (.getfield 78, 3) := by decide +kernel
theorem d_M_apart_26 : decode b_M_apart 26 = .ok (.if_icmp .ge 41, 3) := by decide +kernel
theorem d_M_apart_29 : decode b_M_apart 29 = .ok (.iload_n 1, 1) := by decide +kernel
theorem d_M_apart_30 : decode b_M_apart 30 = .ok (.aload_n 0, 1) := by decide +kernel
theorem d_M_apart_31 : decode b_M_apart 31 = .ok (.aload_n 0, 1) := by decide +kernel
theorem d_M_apart_32 : decode b_M_apart 32 = .ok (.getfield 19, 3) := by decide +kernel
theorem d_M_apart_35 : decode b_M_apart 35 = .ok (.iload_n 2, 1) := by decide +kernel
theorem d_M_apart_36 : decode b_M_apart 36 = .ok (.iaload, 1) := by decide +kernel
theorem d_M_apart_37 : decode b_M_apart 37 = .ok (.invokevirtual 99, 3) := by decide +kernel
theorem d_M_apart_40 : decode b_M_apart 40 = .ok (.aload_n 0, 1) := by decide +kernel
theorem d_M_apart_41 : decode b_M_apart 41 = .ok (.aload_n 0, 1) := by decide +kernel
theorem d_M_apart_42 : decode b_M_apart 42 = .ok (.getfield 19, 3) := by decide +kernel
theorem d_M_apart_45 : decode b_M_apart 45 = .ok (.iload_n 3, 1) := by decide +kernel
theorem d_M_apart_46 : decode b_M_apart 46 = .ok (.iaload, 1) := by decide +kernel
theorem d_M_apart_47 : decode b_M_apart 47 = .ok (.invokevirtual 99, 3) := by decide +kernel
theorem d_M_apart_50 : decode b_M_apart 50 = .ok (.iand, 1) := by decide +kernel
theorem d_M_apart_51 : decode b_M_apart 51 = .ok (.ifCond .ne 7, 3) := by decide +kernel
theorem d_M_apart_54 : decode b_M_apart 54 = .ok (.iconst 1, 1) := by decide +kernel
theorem d_M_apart_55 : decode b_M_apart 55 = .ok (.goto 4, 3) := by decide +kernel
theorem d_M_apart_58 : decode b_M_apart 58 = .ok (.iconst 0, 1) := by decide +kernel
theorem d_M_apart_59 : decode b_M_apart 59 = .ok (.iadd, 1) := by decide +kernel
theorem d_M_apart_60 : decode b_M_apart 60 = .ok (.istore_n 1, 1) := by decide +kernel
theorem d_M_apart_61 : decode b_M_apart 61 = .ok (.iinc 3 1, 3) := by decide +kernel
theorem d_M_apart_64 : decode b_M_apart 64 = .ok (.goto (-43), 3) := by decide +kernel
theorem d_M_apart_67 : decode b_M_apart 67 = .ok (.iinc 2 1, 3) := by decide +kernel
theorem d_M_apart_70 : decode b_M_apart 70 = .ok (.goto (-61), 3) := by decide +kernel
theorem d_M_apart_73 : decode b_M_apart 73 = .ok (.iload_n 1, 1) := by decide +kernel
theorem d_M_apart_74 : decode b_M_apart 74 = .ok (.ireturn, 1) := by decide +kernel
theorem d_M_refuse_0 : decode b_M_refuse 0 = .ok (.aload_n 0, 1) := by decide +kernel
theorem d_M_refuse_1 : decode b_M_refuse 1 = .ok (.getfield 28, 3) := by decide +kernel
theorem d_M_refuse_4 : decode b_M_refuse 4 = .ok (.iload_n 1, 1) := by decide +kernel
theorem d_M_refuse_5 : decode b_M_refuse 5 = .ok (.ineg, 1) := by decide +kernel
theorem d_M_refuse_6 : decode b_M_refuse 6 = .ok (.dup2, 1) := by decide +kernel
theorem d_M_refuse_7 : decode b_M_refuse 7 = .ok (.iaload, 1) := by decide +kernel
theorem d_M_refuse_8 : decode b_M_refuse 8 = .ok (.iconst 1, 1) := by decide +kernel
theorem d_M_refuse_9 : decode b_M_refuse 9 = .ok (.iadd, 1) := by decide +kernel
theorem d_M_refuse_10 : decode b_M_refuse 10 = .ok (.iastore, 1) := by decide +kernel
theorem d_M_refuse_11 : decode b_M_refuse 11 = .ok (.iload_n 1, 1) := by decide +kernel
theorem d_M_refuse_12 : decode b_M_refuse 12 = .ok (.ireturn, 1) := by decide +kernel
theorem d_M_back_0 : decode b_M_back 0 = .ok (.aload_n 0, 1) := by decide +kernel
theorem d_M_back_1 : decode b_M_back 1 = .ok (.iconst 0, 1) := by decide +kernel
theorem d_M_back_2 : decode b_M_back 2 = .ok (.putfield 67, 3) := by decide +kernel
theorem d_M_back_5 : decode b_M_back 5 = .ok (.aload_n 0, 1) := by decide +kernel
theorem d_M_back_6 : decode b_M_back 6 = .ok (.getfield 174, 3) := by decide +kernel
theorem d_M_back_9 : decode b_M_back 9 = .ok (.ifCond .ne 10, 3) := by decide +kernel
theorem d_M_back_12 : decode b_M_back 12 = .ok (.aload_n 0, 1) := by decide +kernel
theorem d_M_back_13 : decode b_M_back 13 = .ok (.bipush (-3), 2) := by decide +kernel
theorem d_M_back_15 : decode b_M_back 15 = .ok (.invokevirtual 108, 3) := by decide +kernel
theorem d_M_back_18 : decode b_M_back 18 = .ok (.ireturn, 1) := by decide +kernel
theorem d_M_back_19 : decode b_M_back 19 = .ok (.aload_n 0, 1) := by decide +kernel
theorem d_M_back_20 : decode b_M_back 20 = .ok (.dup, 1) := by decide +kernel
theorem d_M_back_21 : decode b_M_back 21 = .ok (.getfield 174, 3) := by decide +kernel
theorem d_M_back_24 : decode b_M_back 24 = .ok (.iconst 1, 1) := by decide +kernel
theorem d_M_back_25 : decode b_M_back 25 = .ok (.isub, 1) := by decide +kernel
theorem d_M_back_26 : decode b_M_back 26 = .ok (.putfield 174, 3) := by decide +kernel
theorem d_M_back_29 : decode b_M_back 29 = .ok (.iconst 0, 1) := by decide +kernel
theorem d_M_back_30 : decode b_M_back 30 = .ok (.istore_n 1, 1) := by decide +kernel
theorem d_M_back_31 : decode b_M_back 31 = .ok (.iload_n 1, 1) := by decide +kernel
theorem d_M_back_32 : decode b_M_back 32 = .ok (.bipush 41, 2) := by decide +kernel
theorem d_M_back_34 : decode b_M_back 34 = .ok (.if_icmp .ge 29, 3) := by decide +kernel
theorem d_M_back_37 : decode b_M_back 37 = .ok (.aload_n 0, 1) := by decide +kernel
theorem d_M_back_38 : decode b_M_back 38 = .ok (.getfield 52, 3) := by decide +kernel
theorem d_M_back_41 : decode b_M_back 41 = .ok (.iload_n 1, 1) := by decide +kernel
theorem d_M_back_42 : decode b_M_back 42 = .ok (.aload_n 0, 1) := by decide +kernel
theorem d_M_back_43 : decode b_M_back 43 = .ok (.getfield 49, 3) := by decide +kernel
theorem d_M_back_46 : decode b_M_back 46 = .ok (.bipush 41, 2) := by decide +kernel
theorem d_M_back_48 : decode b_M_back 48 = .ok (.aload_n 0, 1) := by decide +kernel
theorem d_M_back_49 : decode b_M_back 49 = .ok (.getfield 174, 3) := by decide +kernel
theorem d_M_back_52 : decode b_M_back 52 = .ok (.imul, 1) := by decide +kernel
theorem d_M_back_53 : decode b_M_back 53 = .ok (.iload_n 1, 1) := by decide +kernel
theorem d_M_back_54 : decode b_M_back 54 = .ok (.iadd, 1) := by decide +kernel
theorem d_M_back_55 : decode b_M_back 55 = .ok (.iaload, 1) := by decide +kernel
theorem d_M_back_56 : decode b_M_back 56 = .ok (.iastore, 1) := by decide +kernel
theorem d_M_back_57 : decode b_M_back 57 = .ok (.iinc 1 1, 3) := by decide +kernel
theorem d_M_back_60 : decode b_M_back 60 = .ok (.goto (-29), 3) := by decide +kernel
theorem d_M_back_63 : decode b_M_back 63 = .ok (.aload_n 0, 1) := by decide +kernel
theorem d_M_back_64 : decode b_M_back 64 = .ok (.aload_n 0, 1) := by decide +kernel
theorem d_M_back_65 : decode b_M_back 65 = .ok (.getfield 52, 3) := by decide +kernel
theorem d_M_back_68 : decode b_M_back 68 = .ok (.iconst 0, 1) := by decide +kernel
theorem d_M_back_69 : decode b_M_back 69 = .ok (.invokevirtual 189, 3) := by decide +kernel
theorem d_M_back_72 : decode b_M_back 72 = .ok (.aload_n 0, 1) := by decide +kernel
theorem d_M_back_73 : decode b_M_back 73 = .ok (.getfield 174, 3) := by decide +kernel
theorem d_M_back_76 : decode b_M_back 76 = .ok (.ireturn, 1) := by decide +kernel
theorem d_M_in_0 : decode b_M_in 0 = .ok (.lload_n 0, 1) := by decide +kernel
theorem d_M_in_1 : decode b_M_in 1 = .ok (.lload_n 2, 1) := by decide +kernel
theorem d_M_in_2 : decode b_M_in 2 = .ok (.lcmp, 1) := by decide +kernel
theorem d_M_in_3 : decode b_M_in 3 = .ok (.ifCond .lt 14, 3) := by decide +kernel
theorem d_M_in_6 : decode b_M_in 6 = .ok (.lload_n 0, 1) := by decide +kernel
theorem d_M_in_7 : decode b_M_in 7 = .ok (.lload 4, 2) := by decide +kernel
theorem d_M_in_9 : decode b_M_in 9 = .ok (.lcmp, 1) := by decide +kernel
theorem d_M_in_10 : decode b_M_in 10 = .ok (.ifCond .gt 7, 3) := by decide +kernel
theorem d_M_in_13 : decode b_M_in 13 = .ok (.iconst 1, 1) := by decide +kernel
theorem d_M_in_14 : decode b_M_in 14 = .ok (.goto 4, 3) := by decide +kernel
theorem d_M_in_17 : decode b_M_in 17 = .ok (.iconst 0, 1) := by decide +kernel
theorem d_M_in_18 : decode b_M_in 18 = .ok (.ireturn, 1) := by decide +kernel
theorem d_M_isDay_0 : decode b_M_isDay 0 = .ok (.iload_n 1, 1) := by decide +kernel
theorem d_M_isDay_1 : decode b_M_isDay 1 = .ok (.i2l, 1) := by decide +kernel
theorem d_M_isDay_2 : decode b_M_isDay 2 = .ok (.lconst 0, 1) := by decide +kernel
theorem d_M_isDay_3 : decode b_M_isDay 3 = .ok (.aload_n 0, 1) := by decide +kernel
theorem d_M_isDay_4 : decode b_M_isDay 4 = .ok (.getfield 78, 3) := by decide +kernel
theorem d_M_isDay_7 : decode b_M_isDay 7 = .ok (.iconst 1, 1) := by decide +kernel
theorem d_M_isDay_8 : decode b_M_isDay 8 = .ok (.isub, 1) := by decide +kernel
theorem d_M_isDay_9 : decode b_M_isDay 9 = .ok (.i2l, 1) := by decide +kernel
theorem d_M_isDay_10 : decode b_M_isDay 10 = .ok (.invokestatic 74, 3) := by decide +kernel
theorem d_M_isDay_13 : decode b_M_isDay 13 = .ok (.ireturn, 1) := by decide +kernel
theorem d_M_winBy_0 : decode b_M_winBy 0 = .ok (.iload_n 0, 1) := by decide +kernel
theorem d_M_winBy_1 : decode b_M_winBy 1 = .ok (.iload_n 1, 1) := by decide +kernel
theorem d_M_winBy_2 : decode b_M_winBy 2 = .ok (.if_icmp .ne 5, 3) := by decide +kernel
theorem d_M_winBy_5 : decode b_M_winBy 5 = .ok (.iconst 0, 1) := by decide +kernel
theorem d_M_winBy_6 : decode b_M_winBy 6 = .ok (.ireturn, 1) := by decide +kernel
theorem d_M_winBy_7 : decode b_M_winBy 7 = .ok (.iload_n 2, 1) := by decide +kernel
theorem d_M_winBy_8 : decode b_M_winBy 8 = .ok (.iload_n 3, 1) := by decide +kernel
theorem d_M_winBy_9 : decode b_M_winBy 9 = .ok (.if_icmp .ne 5, 3) := by decide +kernel
theorem d_M_winBy_12 : decode b_M_winBy 12 = .ok (.iconst 1, 1) := by decide +kernel
theorem d_M_winBy_13 : decode b_M_winBy 13 = .ok (.ireturn, 1) := by decide +kernel
theorem d_M_winBy_14 : decode b_M_winBy 14 = .ok (.iload_n 0, 1) := by decide +kernel
theorem d_M_winBy_15 : decode b_M_winBy 15 = .ok (.ifCond .ne 7, 3) := by decide +kernel
theorem d_M_winBy_18 : decode b_M_winBy 18 = .ok (.iconst 1, 1) := by decide +kernel
theorem d_M_winBy_19 : decode b_M_winBy 19 = .ok (.goto 4, 3) := by decide +kernel
theorem d_M_winBy_22 : decode b_M_winBy 22 = .ok (.iconst 0, 1) := by decide +kernel
theorem d_M_winBy_23 : decode b_M_winBy 23 = .ok (.iload_n 2, 1) := by decide +kernel
theorem d_M_winBy_24 : decode b_M_winBy 24 = .ok (.iload_n 3, 1) := by decide +kernel
theorem d_M_winBy_25 : decode b_M_winBy 25 = .ok (.if_icmp .le 7, 3) := by decide +kernel
theorem d_M_winBy_28 : decode b_M_winBy 28 = .ok (.iconst 1, 1) := by decide +kernel
theorem d_M_winBy_29 : decode b_M_winBy 29 = .ok (.goto 4, 3) := by decide +kernel
theorem d_M_winBy_32 : decode b_M_winBy 32 = .ok (.iconst 0, 1) := by decide +kernel
theorem d_M_winBy_33 : decode b_M_winBy 33 = .ok (.if_icmp .ne 7, 3) := by decide +kernel
theorem d_M_winBy_36 : decode b_M_winBy 36 = .ok (.iconst 3, 1) := by decide +kernel
theorem d_M_winBy_37 : decode b_M_winBy 37 = .ok (.goto 4, 3) := by decide +kernel
theorem d_M_winBy_40 : decode b_M_winBy 40 = .ok (.iconst (-1), 1) := by decide +kernel
theorem d_M_winBy_41 : decode b_M_winBy 41 = .ok (.ireturn, 1) := by decide +kernel
theorem d_M_bet_0 : decode b_M_bet 0 = .ok (.aload_n 0, 1) := by decide +kernel
theorem d_M_bet_1 : decode b_M_bet 1 = .ok (.iconst 0, 1) := by decide +kernel
theorem d_M_bet_2 : decode b_M_bet 2 = .ok (.putfield 67, 3) := by decide +kernel
theorem d_M_bet_5 : decode b_M_bet 5 = .ok (.aload_n 0, 1) := by decide +kernel
theorem d_M_bet_6 : decode b_M_bet 6 = .ok (.iload_n 1, 1) := by decide +kernel
theorem d_M_bet_7 : decode b_M_bet 7 = .ok (.invokevirtual 150, 3) := by decide +kernel
theorem d_M_bet_10 : decode b_M_bet 10 = .ok (.ifCond .eq 16, 3) := by decide +kernel
theorem d_M_bet_13 : decode b_M_bet 13 = .ok (.aload_n 0, 1) := by decide +kernel
theorem d_M_bet_14 : decode b_M_bet 14 = .ok (.iload_n 2, 1) := by decide +kernel
theorem d_M_bet_15 : decode b_M_bet 15 = .ok (.invokevirtual 150, 3) := by decide +kernel
theorem d_M_bet_18 : decode b_M_bet 18 = .ok (.ifCond .eq 8, 3) := by decide +kernel
theorem d_M_bet_21 : decode b_M_bet 21 = .ok (.iload_n 1, 1) := by decide +kernel
theorem d_M_bet_22 : decode b_M_bet 22 = .ok (.iload_n 2, 1) := by decide +kernel
theorem d_M_bet_23 : decode b_M_bet 23 = .ok (.if_icmp .ne 9, 3) := by decide +kernel
theorem d_M_bet_26 : decode b_M_bet 26 = .ok (.aload_n 0, 1) := by decide +kernel
theorem d_M_bet_27 : decode b_M_bet 27 = .ok (.iconst (-1), 1) := by decide +kernel
theorem d_M_bet_28 : decode b_M_bet 28 = .ok (.invokevirtual 108, 3) := by decide +kernel
theorem d_M_bet_31 : decode b_M_bet 31 = .ok (.ireturn, 1) := by decide +kernel
theorem d_M_bet_32 : decode b_M_bet 32 = .ok (.aload_n 0, 1) := by decide +kernel
theorem d_M_bet_33 : decode b_M_bet 33 = .ok (.aload_n 0, 1) := by decide +kernel
theorem d_M_bet_34 : decode b_M_bet 34 = .ok (.getfield 19, 3) := by decide +kernel
theorem d_M_bet_37 : decode b_M_bet 37 = .ok (.iload_n 1, 1) := by decide +kernel
theorem d_M_bet_38 : decode b_M_bet 38 = .ok (.iaload, 1) := by decide +kernel
theorem d_M_bet_39 : decode b_M_bet 39 = .ok (.invokevirtual 201, 3) := by decide +kernel
theorem d_M_bet_42 : decode b_M_bet 42 = .ok (.istore_n 3, 1) := by decide +kernel
theorem d_M_bet_43 : decode b_M_bet 43 = .ok (.aload_n 0, 1) := by decide +kernel
theorem d_M_bet_44 : decode b_M_bet 44 = .ok (.aload_n 0, 1) := by decide +kernel
theorem d_M_bet_45 : decode b_M_bet 45 = .ok (.getfield 19, 3) := by decide +kernel
theorem d_M_bet_48 : decode b_M_bet 48 = .ok (.iload_n 2, 1) := by decide +kernel
theorem d_M_bet_49 : decode b_M_bet 49 = .ok (.iaload, 1) := by decide +kernel
theorem d_M_bet_50 : decode b_M_bet 50 = .ok (.invokevirtual 201, 3) := by decide +kernel
theorem d_M_bet_53 : decode b_M_bet 53 = .ok (.istore 4, 2) := by decide +kernel
theorem d_M_bet_55 : decode b_M_bet 55 = .ok (.iconst 0, 1) := by decide +kernel
theorem d_M_bet_56 : decode b_M_bet 56 = .ok (.istore 5, 2) := by decide +kernel
theorem d_M_bet_58 : decode b_M_bet 58 = .ok (.iload 5, 2) := by decide +kernel
theorem d_M_bet_60 : decode b_M_bet 60 = .ok (.iconst 4, 1) := by decide +kernel
theorem d_M_bet_61 : decode b_M_bet 61 = .ok (.if_icmp .ge 80, 3) := by decide +kernel
theorem d_M_bet_64 : decode b_M_bet 64 = .ok (.iload 5, 2) := by decide +kernel
theorem d_M_bet_66 : decode b_M_bet 66 = .ok (.iconst 2, 1) := by decide +kernel
theorem d_M_bet_67 : decode b_M_bet 67 = .ok (.idiv, 1) := by decide +kernel
theorem d_M_bet_68 : decode b_M_bet 68 = .ok (.istore 6, 2) := by decide +kernel
theorem d_M_bet_70 : decode b_M_bet 70 = .ok (.iload 5, 2) := by decide +kernel
theorem d_M_bet_72 : decode b_M_bet 72 = .ok (.iconst 2, 1) := by decide +kernel
theorem d_M_bet_73 : decode b_M_bet 73 = .ok (.irem, 1) := by decide +kernel
theorem d_M_bet_74 : decode b_M_bet 74 = .ok (.istore 7, 2) := by decide +kernel
theorem d_M_bet_76 : decode b_M_bet 76 = .ok (.iconst 1, 1) := by decide +kernel
theorem d_M_bet_77 : decode b_M_bet 77 = .ok (.iload 6, 2) := by decide +kernel
theorem d_M_bet_79 : decode b_M_bet 79 = .ok (.isub, 1) := by decide +kernel
theorem d_M_bet_80 : decode b_M_bet 80 = .ok (.iload 7, 2) := by decide +kernel
theorem d_M_bet_82 : decode b_M_bet 82 = .ok (.iload_n 3, 1) := by decide +kernel
theorem d_M_bet_83 : decode b_M_bet 83 = .ok (.iload 4, 2) := by decide +kernel
theorem d_M_bet_85 : decode b_M_bet 85 = .ok (.invokestatic 258, 3) := by decide +kernel
theorem d_M_bet_88 : decode b_M_bet 88 = .ok (.iload 6, 2) := by decide +kernel
theorem d_M_bet_90 : decode b_M_bet 90 = .ok (.iload 7, 2) := by decide +kernel
theorem d_M_bet_92 : decode b_M_bet 92 = .ok (.iload_n 3, 1) := by decide +kernel
theorem d_M_bet_93 : decode b_M_bet 93 = .ok (.iload 4, 2) := by decide +kernel
theorem d_M_bet_95 : decode b_M_bet 95 = .ok (.invokestatic 258, 3) := by decide +kernel
theorem d_M_bet_98 : decode b_M_bet 98 = .ok (.if_icmp .gt 37, 3) := by decide +kernel
theorem d_M_bet_101 : decode b_M_bet 101 = .ok (.iconst 1, 1) := by decide +kernel
theorem d_M_bet_102 : decode b_M_bet 102 = .ok (.iload 7, 2) := by decide +kernel
theorem d_M_bet_104 : decode b_M_bet 104 = .ok (.isub, 1) := by decide +kernel
theorem d_M_bet_105 : decode b_M_bet 105 = .ok (.iload 6, 2) := by decide +kernel
theorem d_M_bet_107 : decode b_M_bet 107 = .ok (.iload_n 3, 1) := by decide +kernel
theorem d_M_bet_108 : decode b_M_bet 108 = .ok (.iload 4, 2) := by decide +kernel
theorem d_M_bet_110 : decode b_M_bet 110 = .ok (.invokestatic 258, 3) := by decide +kernel
theorem d_M_bet_113 : decode b_M_bet 113 = .ok (.iload 7, 2) := by decide +kernel
theorem d_M_bet_115 : decode b_M_bet 115 = .ok (.iload 6, 2) := by decide +kernel
theorem d_M_bet_117 : decode b_M_bet 117 = .ok (.iload_n 3, 1) := by decide +kernel
theorem d_M_bet_118 : decode b_M_bet 118 = .ok (.iload 4, 2) := by decide +kernel
theorem d_M_bet_120 : decode b_M_bet 120 = .ok (.invokestatic 258, 3) := by decide +kernel
theorem d_M_bet_123 : decode b_M_bet 123 = .ok (.if_icmp .gt 12, 3) := by decide +kernel
theorem d_M_bet_126 : decode b_M_bet 126 = .ok (.bipush 10, 2) := by decide +kernel
theorem d_M_bet_128 : decode b_M_bet 128 = .ok (.iload 6, 2) := by decide +kernel
theorem d_M_bet_130 : decode b_M_bet 130 = .ok (.imul, 1) := by decide +kernel
theorem d_M_bet_131 : decode b_M_bet 131 = .ok (.iload 7, 2) := by decide +kernel
theorem d_M_bet_133 : decode b_M_bet 133 = .ok (.iadd, 1) := by decide +kernel
theorem d_M_bet_134 : decode b_M_bet 134 = .ok (.ireturn, 1) := by decide +kernel
theorem d_M_bet_135 : decode b_M_bet 135 = .ok (.iinc 5 1, 3) := by decide +kernel
theorem d_M_bet_138 : decode b_M_bet 138 = .ok (.goto (-80), 3) := by decide +kernel
theorem d_M_bet_141 : decode b_M_bet 141 = .ok (.bipush (-9), 2) := by decide +kernel
theorem d_M_bet_143 : decode b_M_bet 143 = .ok (.ireturn, 1) := by decide +kernel
theorem d_M_clear_0 : decode b_M_clear 0 = .ok (.aload_n 0, 1) := by decide +kernel
theorem d_M_clear_1 : decode b_M_clear 1 = .ok (.iconst 0, 1) := by decide +kernel
theorem d_M_clear_2 : decode b_M_clear 2 = .ok (.putfield 67, 3) := by decide +kernel
theorem d_M_clear_5 : decode b_M_clear 5 = .ok (.aload_n 0, 1) := by decide +kernel
theorem d_M_clear_6 : decode b_M_clear 6 = .ok (.getfield 252, 3) := by decide +kernel
theorem d_M_clear_9 : decode b_M_clear 9 = .ok (.istore_n 1, 1) := by decide +kernel
theorem d_M_clear_10 : decode b_M_clear 10 = .ok (.aload_n 0, 1) := by decide +kernel
theorem d_M_clear_11 : decode b_M_clear 11 = .ok (.iconst 0, 1) := by decide +kernel
theorem d_M_clear_12 : decode b_M_clear 12 = .ok (.putfield 252, 3) := by decide +kernel
theorem d_M_clear_15 : decode b_M_clear 15 = .ok (.iload_n 1, 1) := by decide +kernel
theorem d_M_clear_16 : decode b_M_clear 16 = .ok (.ireturn, 1) := by decide +kernel
theorem d_M_codes_0 : decode b_M_codes 0 = .ok (.aload_n 0, 1) := by decide +kernel
theorem d_M_codes_1 : decode b_M_codes 1 = .ok (.iconst 0, 1) := by decide +kernel
theorem d_M_codes_2 : decode b_M_codes 2 = .ok (.putfield 67, 3) := by decide +kernel
theorem d_M_codes_5 : decode b_M_codes 5 = .ok (.iload_n 1, 1) := by decide +kernel
theorem d_M_codes_6 : decode b_M_codes 6 = .ok (.i2l, 1) := by decide +kernel
theorem d_M_codes_7 : decode b_M_codes 7 = .ok (.lconst 0, 1) := by decide +kernel
theorem d_M_codes_8 : decode b_M_codes 8 = .ok (.lconst 1, 1) := by decide +kernel
theorem d_M_codes_9 : decode b_M_codes 9 = .ok (.invokestatic 74, 3) := by decide +kernel
theorem d_M_codes_12 : decode b_M_codes 12 = .ok (.ifCond .ne 10, 3) := by decide +kernel
theorem d_M_codes_15 : decode b_M_codes 15 = .ok (.aload_n 0, 1) := by decide +kernel
theorem d_M_codes_16 : decode b_M_codes 16 = .ok (.bipush (-2), 2) := by decide +kernel
theorem d_M_codes_18 : decode b_M_codes 18 = .ok (.invokevirtual 108, 3) := by decide +kernel
theorem d_M_codes_21 : decode b_M_codes 21 = .ok (.ireturn, 1) := by decide +kernel
theorem d_M_codes_22 : decode b_M_codes 22 = .ok (.lconst 0, 1) := by decide +kernel
theorem d_M_codes_23 : decode b_M_codes 23 = .ok (.lstore_n 2, 1) := by decide +kernel
theorem d_M_codes_24 : decode b_M_codes 24 = .ok (.iconst 0, 1) := by decide +kernel
theorem d_M_codes_25 : decode b_M_codes 25 = .ok (.istore 4, 2) := by decide +kernel
theorem d_M_codes_27 : decode b_M_codes 27 = .ok (.iload 4, 2) := by decide +kernel
theorem d_M_codes_29 : decode b_M_codes 29 = .ok (.iconst 1, 1) := by decide +kernel
theorem d_M_codes_30 : decode b_M_codes 30 = .ok (.aload_n 0, 1) := by decide +kernel
theorem d_M_codes_31 : decode b_M_codes 31 = .ok (.getfield 71, 3) := by decide +kernel
theorem d_M_codes_34 : decode b_M_codes 34 = .ok (.ishl, 1) := by decide +kernel
theorem d_M_codes_35 : decode b_M_codes 35 = .ok (.if_icmp .ge 20, 3) := by decide +kernel
theorem d_M_codes_38 : decode b_M_codes 38 = .ok (.lload_n 2, 1) := by decide +kernel
theorem d_M_codes_39 : decode b_M_codes 39 = .ok (.lconst 1, 1) := by decide +kernel
theorem d_M_codes_40 : decode b_M_codes 40 = .ok (.aload_n 0, 1) := by decide +kernel
theorem d_M_codes_41 : decode b_M_codes 41 = .ok (.iload 4, 2) := by decide +kernel
theorem d_M_codes_43 : decode b_M_codes 43 = .ok (.invokevirtual 99, 3) := by decide +kernel
theorem d_M_codes_46 : decode b_M_codes 46 = .ok (.lshl, 1) := by decide +kernel
theorem d_M_codes_47 : decode b_M_codes 47 = .ok (.lor, 1) := by decide +kernel
theorem d_M_codes_48 : decode b_M_codes 48 = .ok (.lstore_n 2, 1) := by decide +kernel
theorem d_M_codes_49 : decode b_M_codes 49 = .ok (.iinc 4 1, 3) := by decide +kernel
theorem d_M_codes_52 : decode b_M_codes 52 = .ok (.goto (-25), 3) := by decide +kernel
theorem d_M_codes_55 : decode b_M_codes 55 = .ok (.iconst 0, 1) := by decide +kernel
theorem d_M_codes_56 : decode b_M_codes 56 = .ok (.istore 4, 2) := by decide +kernel
theorem d_M_codes_58 : decode b_M_codes 58 = .ok (.iconst 0, 1) := by decide +kernel
theorem d_M_codes_59 : decode b_M_codes 59 = .ok (.istore 5, 2) := by decide +kernel
theorem d_M_codes_61 : decode b_M_codes 61 = .ok (.iload 5, 2) := by decide +kernel
theorem d_M_codes_63 : decode b_M_codes 63 = .ok (.bipush 64, 2) := by decide +kernel
theorem d_M_codes_65 : decode b_M_codes 65 = .ok (.if_icmp .ge 30, 3) := by decide +kernel
theorem d_M_codes_68 : decode b_M_codes 68 = .ok (.iload 4, 2) := by decide +kernel
theorem d_M_codes_70 : decode b_M_codes 70 = .ok (.lload_n 2, 1) := by decide +kernel
theorem d_M_codes_71 : decode b_M_codes 71 = .ok (.iload 5, 2) := by decide +kernel
theorem d_M_codes_73 : decode b_M_codes 73 = .ok (.lshr, 1) := by decide +kernel
theorem d_M_codes_74 : decode b_M_codes 74 = .ok (.lconst 1, 1) := by decide +kernel
theorem d_M_codes_75 : decode b_M_codes 75 = .ok (.land, 1) := by decide +kernel
theorem d_M_codes_76 : decode b_M_codes 76 = .ok (.lconst 1, 1) := by decide +kernel
theorem d_M_codes_77 : decode b_M_codes 77 = .ok (.lcmp, 1) := by decide +kernel
theorem d_M_codes_78 : decode b_M_codes 78 = .ok (.ifCond .ne 7, 3) := by decide +kernel
theorem d_M_codes_81 : decode b_M_codes 81 = .ok (.iconst 1, 1) := by decide +kernel
theorem d_M_codes_82 : decode b_M_codes 82 = .ok (.goto 4, 3) := by decide +kernel
theorem d_M_codes_85 : decode b_M_codes 85 = .ok (.iconst 0, 1) := by decide +kernel
theorem d_M_codes_86 : decode b_M_codes 86 = .ok (.iadd, 1) := by decide +kernel
theorem d_M_codes_87 : decode b_M_codes 87 = .ok (.istore 4, 2) := by decide +kernel
theorem d_M_codes_89 : decode b_M_codes 89 = .ok (.iinc 5 1, 3) := by decide +kernel
theorem d_M_codes_92 : decode b_M_codes 92 = .ok (.goto (-31), 3) := by decide +kernel
theorem d_M_codes_95 : decode b_M_codes 95 = .ok (.iload_n 1, 1) := by decide +kernel
theorem d_M_codes_96 : decode b_M_codes 96 = .ok (.ifCond .ne 8, 3) := by decide +kernel
theorem d_M_codes_99 : decode b_M_codes 99 = .ok (.iload 4, 2) := by decide +kernel
theorem d_M_codes_101 : decode b_M_codes 101 = .ok (.goto 8, 3) := by decide +kernel
theorem d_M_codes_104 : decode b_M_codes 104 = .ok (.bipush 64, 2) := by decide +kernel
theorem d_M_codes_106 : decode b_M_codes 106 = .ok (.iload 4, 2) := by decide +kernel
theorem d_M_codes_108 : decode b_M_codes 108 = .ok (.isub, 1) := by decide +kernel
theorem d_M_codes_109 : decode b_M_codes 109 = .ok (.ireturn, 1) := by decide +kernel
theorem d_M_dayComes_0 : decode b_M_dayComes 0 = .ok (.aload_n 0, 1) := by decide +kernel
theorem d_M_dayComes_1 : decode b_M_dayComes 1 = .ok (.getfield 19, 3) := by decide +kernel
theorem d_M_dayComes_4 : decode b_M_dayComes 4 = .ok (.aload_n 0, 1) := by decide +kernel
theorem d_M_dayComes_5 : decode b_M_dayComes 5 = .ok (.getfield 78, 3) := by decide +kernel
theorem d_M_dayComes_8 : decode b_M_dayComes 8 = .ok (.iload_n 1, 1) := by decide +kernel
theorem d_M_dayComes_9 : decode b_M_dayComes 9 = .ok (.iastore, 1) := by decide +kernel
theorem d_M_dayComes_10 : decode b_M_dayComes 10 = .ok (.aload_n 0, 1) := by decide +kernel
theorem d_M_dayComes_11 : decode b_M_dayComes 11 = .ok (.dup, 1) := by decide +kernel
theorem d_M_dayComes_12 : decode b_M_dayComes 12 = .ok (.getfield 78, 3) := by decide +kernel
theorem d_M_dayComes_15 : decode b_M_dayComes 15 = .ok (.iconst 1, 1) := by decide +kernel
theorem d_M_dayComes_16 : decode b_M_dayComes 16 = .ok (.iadd, 1) := by decide +kernel
theorem d_M_dayComes_17 : decode b_M_dayComes 17 = .ok (.putfield 78, 3) := by decide +kernel
theorem d_M_dayComes_20 : decode b_M_dayComes 20 = .ok (.return_, 1) := by decide +kernel
theorem d_M_isThing_0 : decode b_M_isThing 0 = .ok (.iload_n 1, 1) := by decide +kernel
theorem d_M_isThing_1 : decode b_M_isThing 1 = .ok (.i2l, 1) := by decide +kernel
theorem d_M_isThing_2 : decode b_M_isThing 2 = .ok (.lconst 0, 1) := by decide +kernel
theorem d_M_isThing_3 : decode b_M_isThing 3 = .ok (.aload_n 0, 1) := by decide +kernel
theorem d_M_isThing_4 : decode b_M_isThing 4 = .ok (.getfield 71, 3) := by decide +kernel
theorem d_M_isThing_7 : decode b_M_isThing 7 = .ok (.iconst 1, 1) := by decide +kernel
theorem d_M_isThing_8 : decode b_M_isThing 8 = .ok (.isub, 1) := by decide +kernel
theorem d_M_isThing_9 : decode b_M_isThing 9 = .ok (.i2l, 1) := by decide +kernel
theorem d_M_isThing_10 : decode b_M_isThing 10 = .ok (.invokestatic 74, 3) := by decide +kernel
theorem d_M_isThing_13 : decode b_M_isThing 13 = .ok (.ireturn, 1) := by decide +kernel
theorem d_M_likeliest_0 : decode b_M_likeliest 0 = .ok (.bipush (-9), 2) := by decide +kernel
theorem d_M_likeliest_2 : decode b_M_likeliest 2 = .ok (.istore_n 2, 1) := by decide +kernel
theorem d_M_likeliest_3 : decode b_M_likeliest 3 = .ok (.iconst 0, 1) := by decide +kernel
theorem d_M_likeliest_4 : decode b_M_likeliest 4 = .ok (.istore_n 3, 1) := by decide +kernel
theorem d_M_likeliest_5 : decode b_M_likeliest 5 = .ok (.iconst 0, 1) := by decide +kernel
theorem d_M_likeliest_6 : decode b_M_likeliest 6 = .ok (.istore 4, 2) := by decide +kernel
theorem d_M_likeliest_8 : decode b_M_likeliest 8 = .ok (.iload 4, 2) := by decide +kernel
theorem d_M_likeliest_10 : decode b_M_likeliest 10 = .ok (.bipush 6, 2) := by decide +kernel
theorem d_M_likeliest_12 : decode b_M_likeliest 12 = .ok (.if_icmp .ge 65, 3) := by decide +kernel
theorem d_M_likeliest_15 : decode b_M_likeliest 15 = .ok (.iload_n 1, 1) := by decide +kernel
theorem d_M_likeliest_16 : decode b_M_likeliest 16 = .ok (.iload 4, 2) := by decide +kernel
theorem d_M_likeliest_18 : decode b_M_likeliest 18 = .ok (.invokestatic 85, 3) := by decide +kernel
theorem d_M_likeliest_21 : decode b_M_likeliest 21 = .ok (.ifCond .eq 18, 3) := by decide +kernel
theorem d_M_likeliest_24 : decode b_M_likeliest 24 = .ok (.aload_n 0, 1) := by decide +kernel
theorem d_M_likeliest_25 : decode b_M_likeliest 25 = .ok (.getfield 7, 3) := by decide +kernel
theorem d_M_likeliest_28 : decode b_M_likeliest 28 = .ok (.iload 4, 2) := by decide +kernel
theorem d_M_likeliest_30 : decode b_M_likeliest 30 = .ok (.iaload, 1) := by decide +kernel
theorem d_M_likeliest_31 : decode b_M_likeliest 31 = .ok (.iload_n 3, 1) := by decide +kernel
theorem d_M_likeliest_32 : decode b_M_likeliest 32 = .ok (.if_icmp .le 7, 3) := by decide +kernel
theorem d_M_likeliest_35 : decode b_M_likeliest 35 = .ok (.iconst 1, 1) := by decide +kernel
theorem d_M_likeliest_36 : decode b_M_likeliest 36 = .ok (.goto 4, 3) := by decide +kernel
theorem d_M_likeliest_39 : decode b_M_likeliest 39 = .ok (.iconst 0, 1) := by decide +kernel
theorem d_M_likeliest_40 : decode b_M_likeliest 40 = .ok (.istore 5, 2) := by decide +kernel
theorem d_M_likeliest_42 : decode b_M_likeliest 42 = .ok (.iload 5, 2) := by decide +kernel
theorem d_M_likeliest_44 : decode b_M_likeliest 44 = .ok (.ifCond .eq 8, 3) := by decide +kernel
theorem d_M_likeliest_47 : decode b_M_likeliest 47 = .ok (.iload 4, 2) := by decide +kernel
theorem d_M_likeliest_49 : decode b_M_likeliest 49 = .ok (.goto 4, 3) := by decide +kernel
theorem d_M_likeliest_52 : decode b_M_likeliest 52 = .ok (.iload_n 2, 1) := by decide +kernel
theorem d_M_likeliest_53 : decode b_M_likeliest 53 = .ok (.istore_n 2, 1) := by decide +kernel
theorem d_M_likeliest_54 : decode b_M_likeliest 54 = .ok (.iload 5, 2) := by decide +kernel
theorem d_M_likeliest_56 : decode b_M_likeliest 56 = .ok (.ifCond .eq 13, 3) := by decide +kernel
theorem d_M_likeliest_59 : decode b_M_likeliest 59 = .ok (.aload_n 0, 1) := by decide +kernel
theorem d_M_likeliest_60 : decode b_M_likeliest 60 = .ok (.getfield 7, 3) := by decide +kernel
theorem d_M_likeliest_63 : decode b_M_likeliest 63 = .ok (.iload 4, 2) := by decide +kernel
theorem d_M_likeliest_65 : decode b_M_likeliest 65 = .ok (.iaload, 1) := by decide +kernel
theorem d_M_likeliest_66 : decode b_M_likeliest 66 = .ok (.goto 4, 3) := by decide +kernel
theorem d_M_likeliest_69 : decode b_M_likeliest 69 = .ok (.iload_n 3, 1) := by decide +kernel
theorem d_M_likeliest_70 : decode b_M_likeliest 70 = .ok (.istore_n 3, 1) := by decide +kernel
theorem d_M_likeliest_71 : decode b_M_likeliest 71 = .ok (.iinc 4 1, 3) := by decide +kernel
theorem d_M_likeliest_74 : decode b_M_likeliest 74 = .ok (.goto (-66), 3) := by decide +kernel
theorem d_M_likeliest_77 : decode b_M_likeliest 77 = .ok (.iload_n 2, 1) := by decide +kernel
theorem d_M_likeliest_78 : decode b_M_likeliest 78 = .ok (.ireturn, 1) := by decide +kernel
theorem d_M_likelyOn_0 : decode b_M_likelyOn 0 = .ok (.aload_n 0, 1) := by decide +kernel
theorem d_M_likelyOn_1 : decode b_M_likelyOn 1 = .ok (.aload_n 0, 1) := by decide +kernel
theorem d_M_likelyOn_2 : decode b_M_likelyOn 2 = .ok (.aload_n 0, 1) := by decide +kernel
theorem d_M_likelyOn_3 : decode b_M_likelyOn 3 = .ok (.getfield 19, 3) := by decide +kernel
theorem d_M_likelyOn_6 : decode b_M_likelyOn 6 = .ok (.iload_n 1, 1) := by decide +kernel
theorem d_M_likelyOn_7 : decode b_M_likelyOn 7 = .ok (.iaload, 1) := by decide +kernel
theorem d_M_likelyOn_8 : decode b_M_likelyOn 8 = .ok (.invokevirtual 99, 3) := by decide +kernel
theorem d_M_likelyOn_11 : decode b_M_likelyOn 11 = .ok (.invokevirtual 102, 3) := by decide +kernel
theorem d_M_likelyOn_14 : decode b_M_likelyOn 14 = .ok (.ireturn, 1) := by decide +kernel
theorem d_M_spendWith_0 : decode b_M_spendWith 0 = .ok (.iconst 0, 1) := by decide +kernel
theorem d_M_spendWith_1 : decode b_M_spendWith 1 = .ok (.istore_n 2, 1) := by decide +kernel
theorem d_M_spendWith_2 : decode b_M_spendWith 2 = .ok (.iload_n 2, 1) := by decide +kernel
theorem d_M_spendWith_3 : decode b_M_spendWith 3 = .ok (.iconst 4, 1) := by decide +kernel
theorem d_M_spendWith_4 : decode b_M_spendWith 4 = .ok (.if_icmp .ge 71, 3) := by decide +kernel
theorem d_M_spendWith_7 : decode b_M_spendWith 7 = .ok (.iload_n 1, 1) := by decide +kernel
theorem d_M_spendWith_8 : decode b_M_spendWith 8 = .ok (.ifCond .lt 67, 3) := by decide +kernel
theorem d_M_spendWith_11 : decode b_M_spendWith 11 = .ok (.aload_n 0, 1) := by decide +kernel
theorem d_M_spendWith_12 : decode b_M_spendWith 12 = .ok (.getfield 25, 3) := by decide +kernel
theorem d_M_spendWith_15 : decode b_M_spendWith 15 = .ok (.iload_n 2, 1) := by decide +kernel
theorem d_M_spendWith_16 : decode b_M_spendWith 16 = .ok (.iaload, 1) := by decide +kernel
theorem d_M_spendWith_17 : decode b_M_spendWith 17 = .ok (.ifCond .le 52, 3) := by decide +kernel
theorem d_M_spendWith_20 : decode b_M_spendWith 20 = .ok (.aload_n 0, 1) := by decide +kernel
theorem d_M_spendWith_21 : decode b_M_spendWith 21 = .ok (.getfield 22, 3) := by decide +kernel
theorem d_M_spendWith_24 : decode b_M_spendWith 24 = .ok (.iload_n 2, 1) := by decide +kernel
theorem d_M_spendWith_25 : decode b_M_spendWith 25 = .ok (.iaload, 1) := by decide +kernel
theorem d_M_spendWith_26 : decode b_M_spendWith 26 = .ok (.iload_n 1, 1) := by decide +kernel
theorem d_M_spendWith_27 : decode b_M_spendWith 27 = .ok (.invokestatic 85, 3) := by decide +kernel
theorem d_M_spendWith_30 : decode b_M_spendWith 30 = .ok (.ifCond .eq 39, 3) := by decide +kernel
theorem d_M_spendWith_33 : decode b_M_spendWith 33 = .ok (.aload_n 0, 1) := by decide +kernel
theorem d_M_spendWith_34 : decode b_M_spendWith 34 = .ok (.getfield 25, 3) := by decide +kernel
theorem d_M_spendWith_37 : decode b_M_spendWith 37 = .ok (.iload_n 2, 1) := by decide +kernel
theorem d_M_spendWith_38 : decode b_M_spendWith 38 = .ok (.dup2, 1) := by decide +kernel
theorem d_M_spendWith_39 : decode b_M_spendWith 39 = .ok (.iaload, 1) := by decide +kernel
theorem d_M_spendWith_40 : decode b_M_spendWith 40 = .ok (.iconst 1, 1) := by decide +kernel
theorem d_M_spendWith_41 : decode b_M_spendWith 41 = .ok (.isub, 1) := by decide +kernel
theorem d_M_spendWith_42 : decode b_M_spendWith 42 = .ok (.iastore, 1) := by decide +kernel
theorem d_M_spendWith_43 : decode b_M_spendWith 43 = .ok (.aload_n 0, 1) := by decide +kernel
theorem d_M_spendWith_44 : decode b_M_spendWith 44 = .ok (.dup, 1) := by decide +kernel
theorem d_M_spendWith_45 : decode b_M_spendWith 45 = .ok (.getfield 105, 3) := by decide +kernel
theorem d_M_spendWith_48 : decode b_M_spendWith 48 = .ok (.aload_n 0, 1) := by decide +kernel
theorem d_M_spendWith_49 : decode b_M_spendWith 49 = .ok (.getfield 105, 3) := by decide +kernel
theorem d_M_spendWith_52 : decode b_M_spendWith 52 = .ok (.sipush 999, 3) := by decide +kernel
theorem d_M_spendWith_55 : decode b_M_spendWith 55 = .ok (.if_icmp .ge 7, 3) := by decide +kernel
theorem d_M_spendWith_58 : decode b_M_spendWith 58 = .ok (.iconst 1, 1) := by decide +kernel
theorem d_M_spendWith_59 : decode b_M_spendWith 59 = .ok (.goto 4, 3) := by decide +kernel
theorem d_M_spendWith_62 : decode b_M_spendWith 62 = .ok (.iconst 0, 1) := by decide +kernel
theorem d_M_spendWith_63 : decode b_M_spendWith 63 = .ok (.iadd, 1) := by decide +kernel
theorem d_M_spendWith_64 : decode b_M_spendWith 64 = .ok (.putfield 105, 3) := by decide +kernel
theorem d_M_spendWith_67 : decode b_M_spendWith 67 = .ok (.iload_n 2, 1) := by decide +kernel
theorem d_M_spendWith_68 : decode b_M_spendWith 68 = .ok (.ireturn, 1) := by decide +kernel
theorem d_M_spendWith_69 : decode b_M_spendWith 69 = .ok (.iinc 2 1, 3) := by decide +kernel
theorem d_M_spendWith_72 : decode b_M_spendWith 72 = .ok (.goto (-70), 3) := by decide +kernel
theorem d_M_spendWith_75 : decode b_M_spendWith 75 = .ok (.bipush (-9), 2) := by decide +kernel
theorem d_M_spendWith_77 : decode b_M_spendWith 77 = .ok (.ireturn, 1) := by decide +kernel
theorem d_M_thingComes_0 : decode b_M_thingComes 0 = .ok (.aload_n 0, 1) := by decide +kernel
theorem d_M_thingComes_1 : decode b_M_thingComes 1 = .ok (.getfield 13, 3) := by decide +kernel
theorem d_M_thingComes_4 : decode b_M_thingComes 4 = .ok (.aload_n 0, 1) := by decide +kernel
theorem d_M_thingComes_5 : decode b_M_thingComes 5 = .ok (.getfield 71, 3) := by decide +kernel
theorem d_M_thingComes_8 : decode b_M_thingComes 8 = .ok (.iload_n 1, 1) := by decide +kernel
theorem d_M_thingComes_9 : decode b_M_thingComes 9 = .ok (.iastore, 1) := by decide +kernel
theorem d_M_thingComes_10 : decode b_M_thingComes 10 = .ok (.aload_n 0, 1) := by decide +kernel
theorem d_M_thingComes_11 : decode b_M_thingComes 11 = .ok (.getfield 16, 3) := by decide +kernel
theorem d_M_thingComes_14 : decode b_M_thingComes 14 = .ok (.aload_n 0, 1) := by decide +kernel
theorem d_M_thingComes_15 : decode b_M_thingComes 15 = .ok (.getfield 71, 3) := by decide +kernel
theorem d_M_thingComes_18 : decode b_M_thingComes 18 = .ok (.iload_n 2, 1) := by decide +kernel
theorem d_M_thingComes_19 : decode b_M_thingComes 19 = .ok (.iastore, 1) := by decide +kernel
theorem d_M_thingComes_20 : decode b_M_thingComes 20 = .ok (.aload_n 0, 1) := by decide +kernel
theorem d_M_thingComes_21 : decode b_M_thingComes 21 = .ok (.dup, 1) := by decide +kernel
theorem d_M_thingComes_22 : decode b_M_thingComes 22 = .ok (.getfield 71, 3) := by decide +kernel
theorem d_M_thingComes_25 : decode b_M_thingComes 25 = .ok (.iconst 1, 1) := by decide +kernel
theorem d_M_thingComes_26 : decode b_M_thingComes 26 = .ok (.iadd, 1) := by decide +kernel
theorem d_M_thingComes_27 : decode b_M_thingComes 27 = .ok (.putfield 71, 3) := by decide +kernel
theorem d_M_thingComes_30 : decode b_M_thingComes 30 = .ok (.return_, 1) := by decide +kernel
theorem d_M_comesTold_0 : decode b_M_comesTold 0 = .ok (.aload_n 0, 1) := by decide +kernel
theorem d_M_comesTold_1 : decode b_M_comesTold 1 = .ok (.getfield 40, 3) := by decide +kernel
theorem d_M_comesTold_4 : decode b_M_comesTold 4 = .ok (.iconst 3, 1) := by decide +kernel
theorem d_M_comesTold_5 : decode b_M_comesTold 5 = .ok (.iload_n 1, 1) := by decide +kernel
theorem d_M_comesTold_6 : decode b_M_comesTold 6 = .ok (.imul, 1) := by decide +kernel
theorem d_M_comesTold_7 : decode b_M_comesTold 7 = .ok (.iaload, 1) := by decide +kernel
theorem d_M_comesTold_8 : decode b_M_comesTold 8 = .ok (.istore_n 2, 1) := by decide +kernel
theorem d_M_comesTold_9 : decode b_M_comesTold 9 = .ok (.aload_n 0, 1) := by decide +kernel
theorem d_M_comesTold_10 : decode b_M_comesTold 10 = .ok (.getfield 40, 3) := by decide +kernel
theorem d_M_comesTold_13 : decode b_M_comesTold 13 = .ok (.iconst 3, 1) := by decide +kernel
theorem d_M_comesTold_14 : decode b_M_comesTold 14 = .ok (.iload_n 1, 1) := by decide +kernel
theorem d_M_comesTold_15 : decode b_M_comesTold 15 = .ok (.imul, 1) := by decide +kernel
theorem d_M_comesTold_16 : decode b_M_comesTold 16 = .ok (.iconst 1, 1) := by decide +kernel
theorem d_M_comesTold_17 : decode b_M_comesTold 17 = .ok (.iadd, 1) := by decide +kernel
theorem d_M_comesTold_18 : decode b_M_comesTold 18 = .ok (.iaload, 1) := by decide +kernel
theorem d_M_comesTold_19 : decode b_M_comesTold 19 = .ok (.istore_n 3, 1) := by decide +kernel
theorem d_M_comesTold_20 : decode b_M_comesTold 20 = .ok (.aload_n 0, 1) := by decide +kernel
theorem d_M_comesTold_21 : decode b_M_comesTold 21 = .ok (.getfield 40, 3) := by decide +kernel
theorem d_M_comesTold_24 : decode b_M_comesTold 24 = .ok (.iconst 3, 1) := by decide +kernel
theorem d_M_comesTold_25 : decode b_M_comesTold 25 = .ok (.iload_n 1, 1) := by decide +kernel
theorem d_M_comesTold_26 : decode b_M_comesTold 26 = .ok (.imul, 1) := by decide +kernel
theorem d_M_comesTold_27 : decode b_M_comesTold 27 = .ok (.iconst 2, 1) := by decide +kernel
theorem d_M_comesTold_28 : decode b_M_comesTold 28 = .ok (.iadd, 1) := by decide +kernel
theorem d_M_comesTold_29 : decode b_M_comesTold 29 = .ok (.iaload, 1) := by decide +kernel
theorem d_M_comesTold_30 : decode b_M_comesTold 30 = .ok (.istore 4, 2) := by decide +kernel
theorem d_M_comesTold_32 : decode b_M_comesTold 32 = .ok (.iconst 1, 1) := by decide +kernel
theorem d_M_comesTold_33 : decode b_M_comesTold 33 = .ok (.istore 5, 2) := by decide +kernel
theorem d_M_comesTold_35 : decode b_M_comesTold 35 = .ok (.aload_n 0, 1) := by decide +kernel
theorem d_M_comesTold_36 : decode b_M_comesTold 36 = .ok (.getfield 37, 3) := by decide +kernel
theorem d_M_comesTold_39 : decode b_M_comesTold 39 = .ok (.iload_n 1, 1) := by decide +kernel
theorem d_M_comesTold_40 : decode b_M_comesTold 40 = .ok (.iaload, 1) := by decide +kernel
theorem d_M_comesTold_41 : decode b_M_comesTold 41 = .ok (.lookupswitch 220 #[(100, 87), (102, 154), (115, 195), (116, 51), (119, 126)], 51) := by decide +kernel
theorem d_M_comesTold_92 : decode b_M_comesTold 92 = .ok (.iload_n 2, 1) := by decide +kernel
theorem d_M_comesTold_93 : decode b_M_comesTold 93 = .ok (.bipush 6, 2) := by decide +kernel
theorem d_M_comesTold_95 : decode b_M_comesTold 95 = .ok (.if_icmp .ge 16, 3) := by decide +kernel
theorem d_M_comesTold_98 : decode b_M_comesTold 98 = .ok (.aload_n 0, 1) := by decide +kernel
theorem d_M_comesTold_99 : decode b_M_comesTold 99 = .ok (.getfield 71, 3) := by decide +kernel
theorem d_M_comesTold_102 : decode b_M_comesTold 102 = .ok (.bipush 8, 2) := by decide +kernel
theorem d_M_comesTold_104 : decode b_M_comesTold 104 = .ok (.if_icmp .ge 7, 3) := by decide +kernel
theorem d_M_comesTold_107 : decode b_M_comesTold 107 = .ok (.iconst 1, 1) := by decide +kernel
theorem d_M_comesTold_108 : decode b_M_comesTold 108 = .ok (.goto 4, 3) := by decide +kernel
theorem d_M_comesTold_111 : decode b_M_comesTold 111 = .ok (.iconst 0, 1) := by decide +kernel
theorem d_M_comesTold_112 : decode b_M_comesTold 112 = .ok (.istore 5, 2) := by decide +kernel
theorem d_M_comesTold_114 : decode b_M_comesTold 114 = .ok (.iload 5, 2) := by decide +kernel
theorem d_M_comesTold_116 : decode b_M_comesTold 116 = .ok (.ifCond .eq 9, 3) := by decide +kernel
theorem d_M_comesTold_119 : decode b_M_comesTold 119 = .ok (.aload_n 0, 1) := by decide +kernel
theorem d_M_comesTold_120 : decode b_M_comesTold 120 = .ok (.iload_n 2, 1) := by decide +kernel
theorem d_M_comesTold_121 : decode b_M_comesTold 121 = .ok (.iload_n 3, 1) := by decide +kernel
theorem d_M_comesTold_122 : decode b_M_comesTold 122 = .ok (.invokevirtual 143, 3) := by decide +kernel
theorem d_M_comesTold_125 : decode b_M_comesTold 125 = .ok (.iload 5, 2) := by decide +kernel
theorem d_M_comesTold_127 : decode b_M_comesTold 127 = .ok (.ireturn, 1) := by decide +kernel
theorem d_M_comesTold_128 : decode b_M_comesTold 128 = .ok (.iload_n 2, 1) := by decide +kernel
theorem d_M_comesTold_129 : decode b_M_comesTold 129 = .ok (.iconst 1, 1) := by decide +kernel
theorem d_M_comesTold_130 : decode b_M_comesTold 130 = .ok (.aload_n 0, 1) := by decide +kernel
theorem d_M_comesTold_131 : decode b_M_comesTold 131 = .ok (.getfield 71, 3) := by decide +kernel
theorem d_M_comesTold_134 : decode b_M_comesTold 134 = .ok (.ishl, 1) := by decide +kernel
theorem d_M_comesTold_135 : decode b_M_comesTold 135 = .ok (.if_icmp .ge 16, 3) := by decide +kernel
theorem d_M_comesTold_138 : decode b_M_comesTold 138 = .ok (.aload_n 0, 1) := by decide +kernel
theorem d_M_comesTold_139 : decode b_M_comesTold 139 = .ok (.getfield 78, 3) := by decide +kernel
theorem d_M_comesTold_142 : decode b_M_comesTold 142 = .ok (.bipush 8, 2) := by decide +kernel
theorem d_M_comesTold_144 : decode b_M_comesTold 144 = .ok (.if_icmp .ge 7, 3) := by decide +kernel
theorem d_M_comesTold_147 : decode b_M_comesTold 147 = .ok (.iconst 1, 1) := by decide +kernel
theorem d_M_comesTold_148 : decode b_M_comesTold 148 = .ok (.goto 4, 3) := by decide +kernel
theorem d_M_comesTold_151 : decode b_M_comesTold 151 = .ok (.iconst 0, 1) := by decide +kernel
theorem d_M_comesTold_152 : decode b_M_comesTold 152 = .ok (.istore 5, 2) := by decide +kernel
theorem d_M_comesTold_154 : decode b_M_comesTold 154 = .ok (.iload 5, 2) := by decide +kernel
theorem d_M_comesTold_156 : decode b_M_comesTold 156 = .ok (.ifCond .eq 8, 3) := by decide +kernel
theorem d_M_comesTold_159 : decode b_M_comesTold 159 = .ok (.aload_n 0, 1) := by decide +kernel
theorem d_M_comesTold_160 : decode b_M_comesTold 160 = .ok (.iload_n 2, 1) := by decide +kernel
theorem d_M_comesTold_161 : decode b_M_comesTold 161 = .ok (.invokevirtual 146, 3) := by decide +kernel
theorem d_M_comesTold_164 : decode b_M_comesTold 164 = .ok (.iload 5, 2) := by decide +kernel
theorem d_M_comesTold_166 : decode b_M_comesTold 166 = .ok (.ireturn, 1) := by decide +kernel
theorem d_M_comesTold_167 : decode b_M_comesTold 167 = .ok (.iload_n 2, 1) := by decide +kernel
theorem d_M_comesTold_168 : decode b_M_comesTold 168 = .ok (.bipush 6, 2) := by decide +kernel
theorem d_M_comesTold_170 : decode b_M_comesTold 170 = .ok (.if_icmp .ge 7, 3) := by decide +kernel
theorem d_M_comesTold_173 : decode b_M_comesTold 173 = .ok (.iconst 1, 1) := by decide +kernel
theorem d_M_comesTold_174 : decode b_M_comesTold 174 = .ok (.goto 4, 3) := by decide +kernel
theorem d_M_comesTold_177 : decode b_M_comesTold 177 = .ok (.iconst 0, 1) := by decide +kernel
theorem d_M_comesTold_178 : decode b_M_comesTold 178 = .ok (.istore 5, 2) := by decide +kernel
theorem d_M_comesTold_180 : decode b_M_comesTold 180 = .ok (.iload 5, 2) := by decide +kernel
theorem d_M_comesTold_182 : decode b_M_comesTold 182 = .ok (.ifCond .eq 10, 3) := by decide +kernel
theorem d_M_comesTold_185 : decode b_M_comesTold 185 = .ok (.aload_n 0, 1) := by decide +kernel
theorem d_M_comesTold_186 : decode b_M_comesTold 186 = .ok (.getfield 7, 3) := by decide +kernel
theorem d_M_comesTold_189 : decode b_M_comesTold 189 = .ok (.iload_n 2, 1) := by decide +kernel
theorem d_M_comesTold_190 : decode b_M_comesTold 190 = .ok (.iload_n 3, 1) := by decide +kernel
theorem d_M_comesTold_191 : decode b_M_comesTold 191 = .ok (.iastore, 1) := by decide +kernel
theorem d_M_comesTold_192 : decode b_M_comesTold 192 = .ok (.iload 5, 2) := by decide +kernel
theorem d_M_comesTold_194 : decode b_M_comesTold 194 = .ok (.ireturn, 1) := by decide +kernel
theorem d_M_comesTold_195 : decode b_M_comesTold 195 = .ok (.iload_n 2, 1) := by decide +kernel
theorem d_M_comesTold_196 : decode b_M_comesTold 196 = .ok (.iconst 4, 1) := by decide +kernel
theorem d_M_comesTold_197 : decode b_M_comesTold 197 = .ok (.if_icmp .ge 13, 3) := by decide +kernel
theorem d_M_comesTold_200 : decode b_M_comesTold 200 = .ok (.iload_n 3, 1) := by decide +kernel
theorem d_M_comesTold_201 : decode b_M_comesTold 201 = .ok (.bipush 64, 2) := by decide +kernel
theorem d_M_comesTold_203 : decode b_M_comesTold 203 = .ok (.if_icmp .ge 7, 3) := by decide +kernel
theorem d_M_comesTold_206 : decode b_M_comesTold 206 = .ok (.iconst 1, 1) := by decide +kernel
theorem d_M_comesTold_207 : decode b_M_comesTold 207 = .ok (.goto 4, 3) := by decide +kernel
theorem d_M_comesTold_210 : decode b_M_comesTold 210 = .ok (.iconst 0, 1) := by decide +kernel
theorem d_M_comesTold_211 : decode b_M_comesTold 211 = .ok (.istore 5, 2) := by decide +kernel
theorem d_M_comesTold_213 : decode b_M_comesTold 213 = .ok (.iload 5, 2) := by decide +kernel
theorem d_M_comesTold_215 : decode b_M_comesTold 215 = .ok (.ifCond .eq 18, 3) := by decide +kernel
theorem d_M_comesTold_218 : decode b_M_comesTold 218 = .ok (.aload_n 0, 1) := by decide +kernel
theorem d_M_comesTold_219 : decode b_M_comesTold 219 = .ok (.getfield 22, 3) := by decide +kernel
theorem d_M_comesTold_222 : decode b_M_comesTold 222 = .ok (.iload_n 2, 1) := by decide +kernel
theorem d_M_comesTold_223 : decode b_M_comesTold 223 = .ok (.iload_n 3, 1) := by decide +kernel
theorem d_M_comesTold_224 : decode b_M_comesTold 224 = .ok (.iastore, 1) := by decide +kernel
theorem d_M_comesTold_225 : decode b_M_comesTold 225 = .ok (.aload_n 0, 1) := by decide +kernel
theorem d_M_comesTold_226 : decode b_M_comesTold 226 = .ok (.getfield 25, 3) := by decide +kernel
theorem d_M_comesTold_229 : decode b_M_comesTold 229 = .ok (.iload_n 2, 1) := by decide +kernel
theorem d_M_comesTold_230 : decode b_M_comesTold 230 = .ok (.iload 4, 2) := by decide +kernel
theorem d_M_comesTold_232 : decode b_M_comesTold 232 = .ok (.iastore, 1) := by decide +kernel
theorem d_M_comesTold_233 : decode b_M_comesTold 233 = .ok (.iload 5, 2) := by decide +kernel
theorem d_M_comesTold_235 : decode b_M_comesTold 235 = .ok (.ireturn, 1) := by decide +kernel
theorem d_M_comesTold_236 : decode b_M_comesTold 236 = .ok (.aload_n 0, 1) := by decide +kernel
theorem d_M_comesTold_237 : decode b_M_comesTold 237 = .ok (.iload_n 2, 1) := by decide +kernel
theorem d_M_comesTold_238 : decode b_M_comesTold 238 = .ok (.invokevirtual 150, 3) := by decide +kernel
theorem d_M_comesTold_241 : decode b_M_comesTold 241 = .ok (.istore 5, 2) := by decide +kernel
theorem d_M_comesTold_243 : decode b_M_comesTold 243 = .ok (.iload 5, 2) := by decide +kernel
theorem d_M_comesTold_245 : decode b_M_comesTold 245 = .ok (.ifCond .eq 13, 3) := by decide +kernel
theorem d_M_comesTold_248 : decode b_M_comesTold 248 = .ok (.aload_n 0, 1) := by decide +kernel
theorem d_M_comesTold_249 : decode b_M_comesTold 249 = .ok (.aload_n 0, 1) := by decide +kernel
theorem d_M_comesTold_250 : decode b_M_comesTold 250 = .ok (.iload_n 2, 1) := by decide +kernel
theorem d_M_comesTold_251 : decode b_M_comesTold 251 = .ok (.invokevirtual 153, 3) := by decide +kernel
theorem d_M_comesTold_254 : decode b_M_comesTold 254 = .ok (.invokevirtual 156, 3) := by decide +kernel
theorem d_M_comesTold_257 : decode b_M_comesTold 257 = .ok (.pop, 1) := by decide +kernel
theorem d_M_comesTold_258 : decode b_M_comesTold 258 = .ok (.iload 5, 2) := by decide +kernel
theorem d_M_comesTold_260 : decode b_M_comesTold 260 = .ok (.ireturn, 1) := by decide +kernel
theorem d_M_comesTold_261 : decode b_M_comesTold 261 = .ok (.aload_n 0, 1) := by decide +kernel
theorem d_M_comesTold_262 : decode b_M_comesTold 262 = .ok (.iload_n 2, 1) := by decide +kernel
theorem d_M_comesTold_263 : decode b_M_comesTold 263 = .ok (.invokevirtual 150, 3) := by decide +kernel
theorem d_M_comesTold_266 : decode b_M_comesTold 266 = .ok (.ifCond .eq 15, 3) := by decide +kernel
theorem d_M_comesTold_269 : decode b_M_comesTold 269 = .ok (.aload_n 0, 1) := by decide +kernel
theorem d_M_comesTold_270 : decode b_M_comesTold 270 = .ok (.iload_n 3, 1) := by decide +kernel
theorem d_M_comesTold_271 : decode b_M_comesTold 271 = .ok (.invokevirtual 159, 3) := by decide +kernel
theorem d_M_comesTold_274 : decode b_M_comesTold 274 = .ok (.ifCond .eq 7, 3) := by decide +kernel
theorem d_M_comesTold_277 : decode b_M_comesTold 277 = .ok (.iconst 1, 1) := by decide +kernel
theorem d_M_comesTold_278 : decode b_M_comesTold 278 = .ok (.goto 4, 3) := by decide +kernel
theorem d_M_comesTold_281 : decode b_M_comesTold 281 = .ok (.iconst 0, 1) := by decide +kernel
theorem d_M_comesTold_282 : decode b_M_comesTold 282 = .ok (.istore 5, 2) := by decide +kernel
theorem d_M_comesTold_284 : decode b_M_comesTold 284 = .ok (.iload 5, 2) := by decide +kernel
theorem d_M_comesTold_286 : decode b_M_comesTold 286 = .ok (.ifCond .eq 15, 3) := by decide +kernel
theorem d_M_comesTold_289 : decode b_M_comesTold 289 = .ok (.aload_n 0, 1) := by decide +kernel
theorem d_M_comesTold_290 : decode b_M_comesTold 290 = .ok (.getfield 19, 3) := by decide +kernel
theorem d_M_comesTold_293 : decode b_M_comesTold 293 = .ok (.iload_n 2, 1) := by decide +kernel
theorem d_M_comesTold_294 : decode b_M_comesTold 294 = .ok (.dup2, 1) := by decide +kernel
theorem d_M_comesTold_295 : decode b_M_comesTold 295 = .ok (.iaload, 1) := by decide +kernel
theorem d_M_comesTold_296 : decode b_M_comesTold 296 = .ok (.iconst 1, 1) := by decide +kernel
theorem d_M_comesTold_297 : decode b_M_comesTold 297 = .ok (.iload_n 3, 1) := by decide +kernel
theorem d_M_comesTold_298 : decode b_M_comesTold 298 = .ok (.ishl, 1) := by decide +kernel
theorem d_M_comesTold_299 : decode b_M_comesTold 299 = .ok (.ixor, 1) := by decide +kernel
theorem d_M_comesTold_300 : decode b_M_comesTold 300 = .ok (.iastore, 1) := by decide +kernel
theorem d_M_comesTold_301 : decode b_M_comesTold 301 = .ok (.iload 5, 2) := by decide +kernel
theorem d_M_comesTold_303 : decode b_M_comesTold 303 = .ok (.ireturn, 1) := by decide +kernel
theorem d_M_onesOf_0 : decode b_M_onesOf 0 = .ok (.iconst 0, 1) := by decide +kernel
theorem d_M_onesOf_1 : decode b_M_onesOf 1 = .ok (.istore_n 1, 1) := by decide +kernel
theorem d_M_onesOf_2 : decode b_M_onesOf 2 = .ok (.iload_n 0, 1) := by decide +kernel
theorem d_M_onesOf_3 : decode b_M_onesOf 3 = .ok (.istore_n 2, 1) := by decide +kernel
theorem d_M_onesOf_4 : decode b_M_onesOf 4 = .ok (.iload_n 2, 1) := by decide +kernel
theorem d_M_onesOf_5 : decode b_M_onesOf 5 = .ok (.ifCond .eq 15, 3) := by decide +kernel
theorem d_M_onesOf_8 : decode b_M_onesOf 8 = .ok (.iinc 1 1, 3) := by decide +kernel
theorem d_M_onesOf_11 : decode b_M_onesOf 11 = .ok (.iload_n 2, 1) := by decide +kernel
theorem d_M_onesOf_12 : decode b_M_onesOf 12 = .ok (.iload_n 2, 1) := by decide +kernel
theorem d_M_onesOf_13 : decode b_M_onesOf 13 = .ok (.iconst 1, 1) := by decide +kernel
theorem d_M_onesOf_14 : decode b_M_onesOf 14 = .ok (.isub, 1) := by decide +kernel
theorem d_M_onesOf_15 : decode b_M_onesOf 15 = .ok (.iand, 1) := by decide +kernel
theorem d_M_onesOf_16 : decode b_M_onesOf 16 = .ok (.istore_n 2, 1) := by decide +kernel
theorem d_M_onesOf_17 : decode b_M_onesOf 17 = .ok (.goto (-13), 3) := by decide +kernel
theorem d_M_onesOf_20 : decode b_M_onesOf 20 = .ok (.iload_n 1, 1) := by decide +kernel
theorem d_M_onesOf_21 : decode b_M_onesOf 21 = .ok (.ireturn, 1) := by decide +kernel
theorem d_M_weightOf_0 : decode b_M_weightOf 0 = .ok (.iconst 0, 1) := by decide +kernel
theorem d_M_weightOf_1 : decode b_M_weightOf 1 = .ok (.istore_n 2, 1) := by decide +kernel
theorem d_M_weightOf_2 : decode b_M_weightOf 2 = .ok (.iconst 0, 1) := by decide +kernel
theorem d_M_weightOf_3 : decode b_M_weightOf 3 = .ok (.istore_n 3, 1) := by decide +kernel
theorem d_M_weightOf_4 : decode b_M_weightOf 4 = .ok (.iload_n 3, 1) := by decide +kernel
theorem d_M_weightOf_5 : decode b_M_weightOf 5 = .ok (.bipush 6, 2) := by decide +kernel
theorem d_M_weightOf_7 : decode b_M_weightOf 7 = .ok (.if_icmp .ge 30, 3) := by decide +kernel
theorem d_M_weightOf_10 : decode b_M_weightOf 10 = .ok (.iload_n 2, 1) := by decide +kernel
theorem d_M_weightOf_11 : decode b_M_weightOf 11 = .ok (.iload_n 1, 1) := by decide +kernel
theorem d_M_weightOf_12 : decode b_M_weightOf 12 = .ok (.iload_n 3, 1) := by decide +kernel
theorem d_M_weightOf_13 : decode b_M_weightOf 13 = .ok (.invokestatic 85, 3) := by decide +kernel
theorem d_M_weightOf_16 : decode b_M_weightOf 16 = .ok (.ifCond .eq 12, 3) := by decide +kernel
theorem d_M_weightOf_19 : decode b_M_weightOf 19 = .ok (.aload_n 0, 1) := by decide +kernel
theorem d_M_weightOf_20 : decode b_M_weightOf 20 = .ok (.getfield 7, 3) := by decide +kernel
theorem d_M_weightOf_23 : decode b_M_weightOf 23 = .ok (.iload_n 3, 1) := by decide +kernel
theorem d_M_weightOf_24 : decode b_M_weightOf 24 = .ok (.iaload, 1) := by decide +kernel
theorem d_M_weightOf_25 : decode b_M_weightOf 25 = .ok (.goto 4, 3) := by decide +kernel
theorem d_M_weightOf_28 : decode b_M_weightOf 28 = .ok (.iconst 0, 1) := by decide +kernel
theorem d_M_weightOf_29 : decode b_M_weightOf 29 = .ok (.iadd, 1) := by decide +kernel
theorem d_M_weightOf_30 : decode b_M_weightOf 30 = .ok (.istore_n 2, 1) := by decide +kernel
theorem d_M_weightOf_31 : decode b_M_weightOf 31 = .ok (.iinc 3 1, 3) := by decide +kernel
theorem d_M_weightOf_34 : decode b_M_weightOf 34 = .ok (.goto (-30), 3) := by decide +kernel
theorem d_M_weightOf_37 : decode b_M_weightOf 37 = .ok (.iload_n 2, 1) := by decide +kernel
theorem d_M_weightOf_38 : decode b_M_weightOf 38 = .ok (.ireturn, 1) := by decide +kernel
theorem d_M_count_0 : decode b_M_count 0 = .ok (.aload_n 0, 1) := by decide +kernel
theorem d_M_count_1 : decode b_M_count 1 = .ok (.iconst 0, 1) := by decide +kernel
theorem d_M_count_2 : decode b_M_count 2 = .ok (.putfield 67, 3) := by decide +kernel
theorem d_M_count_5 : decode b_M_count 5 = .ok (.iconst 0, 1) := by decide +kernel
theorem d_M_count_6 : decode b_M_count 6 = .ok (.istore_n 2, 1) := by decide +kernel
theorem d_M_count_7 : decode b_M_count 7 = .ok (.iload_n 1, 1) := by decide +kernel
theorem d_M_count_8 : decode b_M_count 8 = .ok (.tableswitch 115 0 7 #[48, 53, 58, 63, 70, 100, 105, 110], 48) := by decide +kernel
theorem d_M_count_56 : decode b_M_count 56 = .ok (.aload_n 0, 1) := by decide +kernel
theorem d_M_count_57 : decode b_M_count 57 = .ok (.getfield 71, 3) := by decide +kernel
theorem d_M_count_60 : decode b_M_count 60 = .ok (.ireturn, 1) := by decide +kernel
theorem d_M_count_61 : decode b_M_count 61 = .ok (.aload_n 0, 1) := by decide +kernel
theorem d_M_count_62 : decode b_M_count 62 = .ok (.getfield 78, 3) := by decide +kernel
theorem d_M_count_65 : decode b_M_count 65 = .ok (.ireturn, 1) := by decide +kernel
theorem d_M_count_66 : decode b_M_count 66 = .ok (.aload_n 0, 1) := by decide +kernel
theorem d_M_count_67 : decode b_M_count 67 = .ok (.getfield 105, 3) := by decide +kernel
theorem d_M_count_70 : decode b_M_count 70 = .ok (.ireturn, 1) := by decide +kernel
theorem d_M_count_71 : decode b_M_count 71 = .ok (.aload_n 0, 1) := by decide +kernel
theorem d_M_count_72 : decode b_M_count 72 = .ok (.bipush 63, 2) := by decide +kernel
theorem d_M_count_74 : decode b_M_count 74 = .ok (.invokevirtual 224, 3) := by decide +kernel
theorem d_M_count_77 : decode b_M_count 77 = .ok (.ireturn, 1) := by decide +kernel
theorem d_M_count_78 : decode b_M_count 78 = .ok (.iconst 0, 1) := by decide +kernel
theorem d_M_count_79 : decode b_M_count 79 = .ok (.istore_n 3, 1) := by decide +kernel
theorem d_M_count_80 : decode b_M_count 80 = .ok (.iload_n 3, 1) := by decide +kernel
theorem d_M_count_81 : decode b_M_count 81 = .ok (.aload_n 0, 1) := by decide +kernel
theorem d_M_count_82 : decode b_M_count 82 = .ok (.getfield 78, 3) := by decide +kernel
theorem d_M_count_85 : decode b_M_count 85 = .ok (.if_icmp .ge 21, 3) := by decide +kernel
theorem d_M_count_88 : decode b_M_count 88 = .ok (.iload_n 2, 1) := by decide +kernel
theorem d_M_count_89 : decode b_M_count 89 = .ok (.aload_n 0, 1) := by decide +kernel
theorem d_M_count_90 : decode b_M_count 90 = .ok (.getfield 19, 3) := by decide +kernel
theorem d_M_count_93 : decode b_M_count 93 = .ok (.iload_n 3, 1) := by decide +kernel
theorem d_M_count_94 : decode b_M_count 94 = .ok (.iaload, 1) := by decide +kernel
theorem d_M_count_95 : decode b_M_count 95 = .ok (.invokestatic 231, 3) := by decide +kernel
theorem d_M_count_98 : decode b_M_count 98 = .ok (.iadd, 1) := by decide +kernel
theorem d_M_count_99 : decode b_M_count 99 = .ok (.istore_n 2, 1) := by decide +kernel
theorem d_M_count_100 : decode b_M_count 100 = .ok (.iinc 3 1, 3) := by decide +kernel
theorem d_M_count_103 : decode b_M_count 103 = .ok (.goto (-23), 3) := by decide +kernel
theorem d_M_count_106 : decode b_M_count 106 = .ok (.iload_n 2, 1) := by decide +kernel
theorem d_M_count_107 : decode b_M_count 107 = .ok (.ireturn, 1) := by decide +kernel
theorem d_M_count_108 : decode b_M_count 108 = .ok (.aload_n 0, 1) := by decide +kernel
theorem d_M_count_109 : decode b_M_count 109 = .ok (.getfield 111, 3) := by decide +kernel
theorem d_M_count_112 : decode b_M_count 112 = .ok (.ireturn, 1) := by decide +kernel
theorem d_M_count_113 : decode b_M_count 113 = .ok (.aload_n 0, 1) := by decide +kernel
theorem d_M_count_114 : decode b_M_count 114 = .ok (.getfield 252, 3) := by decide +kernel
theorem d_M_count_117 : decode b_M_count 117 = .ok (.ireturn, 1) := by decide +kernel
theorem d_M_count_118 : decode b_M_count 118 = .ok (.aload_n 0, 1) := by decide +kernel
theorem d_M_count_119 : decode b_M_count 119 = .ok (.getfield 174, 3) := by decide +kernel
theorem d_M_count_122 : decode b_M_count 122 = .ok (.ireturn, 1) := by decide +kernel
theorem d_M_count_123 : decode b_M_count 123 = .ok (.iload_n 1, 1) := by decide +kernel
theorem d_M_count_124 : decode b_M_count 124 = .ok (.i2l, 1) := by decide +kernel
theorem d_M_count_125 : decode b_M_count 125 = .ok (.ldc2_w 276, 3) := by decide +kernel
theorem d_M_count_128 : decode b_M_count 128 = .ok (.ldc2_w 278, 3) := by decide +kernel
theorem d_M_count_131 : decode b_M_count 131 = .ok (.invokestatic 74, 3) := by decide +kernel
theorem d_M_count_134 : decode b_M_count 134 = .ok (.ifCond .eq 15, 3) := by decide +kernel
theorem d_M_count_137 : decode b_M_count 137 = .ok (.aload_n 0, 1) := by decide +kernel
theorem d_M_count_138 : decode b_M_count 138 = .ok (.getfield 28, 3) := by decide +kernel
theorem d_M_count_141 : decode b_M_count 141 = .ok (.iload_n 1, 1) := by decide +kernel
theorem d_M_count_142 : decode b_M_count 142 = .ok (.bipush 10, 2) := by decide +kernel
theorem d_M_count_144 : decode b_M_count 144 = .ok (.isub, 1) := by decide +kernel
theorem d_M_count_145 : decode b_M_count 145 = .ok (.iaload, 1) := by decide +kernel
theorem d_M_count_146 : decode b_M_count 146 = .ok (.goto 5, 3) := by decide +kernel
theorem d_M_count_149 : decode b_M_count 149 = .ok (.bipush (-9), 2) := by decide +kernel
theorem d_M_count_151 : decode b_M_count 151 = .ok (.ireturn, 1) := by decide +kernel
theorem d_M_wrongNumber_0 : decode b_M_wrongNumber 0 = .ok (.iload_n 0, 1) := by decide +kernel
theorem d_M_wrongNumber_1 : decode b_M_wrongNumber 1 = .ok (.iload_n 1, 1) := by decide +kernel
theorem d_M_wrongNumber_2 : decode b_M_wrongNumber 2 = .ok (.if_icmp .ge 8, 3) := by decide +kernel
theorem d_M_wrongNumber_5 : decode b_M_wrongNumber 5 = .ok (.bipush (-4), 2) := by decide +kernel
theorem d_M_wrongNumber_7 : decode b_M_wrongNumber 7 = .ok (.goto 14, 3) := by decide +kernel
theorem d_M_wrongNumber_10 : decode b_M_wrongNumber 10 = .ok (.iload_n 0, 1) := by decide +kernel
theorem d_M_wrongNumber_11 : decode b_M_wrongNumber 11 = .ok (.iload_n 2, 1) := by decide +kernel
theorem d_M_wrongNumber_12 : decode b_M_wrongNumber 12 = .ok (.if_icmp .le 8, 3) := by decide +kernel
theorem d_M_wrongNumber_15 : decode b_M_wrongNumber 15 = .ok (.bipush (-6), 2) := by decide +kernel
theorem d_M_wrongNumber_17 : decode b_M_wrongNumber 17 = .ok (.goto 4, 3) := by decide +kernel
theorem d_M_wrongNumber_20 : decode b_M_wrongNumber 20 = .ok (.iconst 0, 1) := by decide +kernel
theorem d_M_wrongNumber_21 : decode b_M_wrongNumber 21 = .ok (.ireturn, 1) := by decide +kernel
theorem d_M_day_0 : decode b_M_day 0 = .ok (.aload_n 0, 1) := by decide +kernel
theorem d_M_day_1 : decode b_M_day 1 = .ok (.iconst 0, 1) := by decide +kernel
theorem d_M_day_2 : decode b_M_day 2 = .ok (.putfield 67, 3) := by decide +kernel
theorem d_M_day_5 : decode b_M_day 5 = .ok (.iload_n 1, 1) := by decide +kernel
theorem d_M_day_6 : decode b_M_day 6 = .ok (.iconst 0, 1) := by decide +kernel
theorem d_M_day_7 : decode b_M_day 7 = .ok (.iconst 1, 1) := by decide +kernel
theorem d_M_day_8 : decode b_M_day 8 = .ok (.aload_n 0, 1) := by decide +kernel
theorem d_M_day_9 : decode b_M_day 9 = .ok (.getfield 71, 3) := by decide +kernel
theorem d_M_day_12 : decode b_M_day 12 = .ok (.ishl, 1) := by decide +kernel
theorem d_M_day_13 : decode b_M_day 13 = .ok (.iconst 1, 1) := by decide +kernel
theorem d_M_day_14 : decode b_M_day 14 = .ok (.isub, 1) := by decide +kernel
theorem d_M_day_15 : decode b_M_day 15 = .ok (.invokestatic 208, 3) := by decide +kernel
theorem d_M_day_18 : decode b_M_day 18 = .ok (.istore_n 2, 1) := by decide +kernel
theorem d_M_day_19 : decode b_M_day 19 = .ok (.iload_n 2, 1) := by decide +kernel
theorem d_M_day_20 : decode b_M_day 20 = .ok (.ifCond .ne 17, 3) := by decide +kernel
theorem d_M_day_23 : decode b_M_day 23 = .ok (.aload_n 0, 1) := by decide +kernel
theorem d_M_day_24 : decode b_M_day 24 = .ok (.getfield 78, 3) := by decide +kernel
theorem d_M_day_27 : decode b_M_day 27 = .ok (.bipush 8, 2) := by decide +kernel
theorem d_M_day_29 : decode b_M_day 29 = .ok (.if_icmp .ne 8, 3) := by decide +kernel
theorem d_M_day_32 : decode b_M_day 32 = .ok (.bipush (-6), 2) := by decide +kernel
theorem d_M_day_34 : decode b_M_day 34 = .ok (.goto 4, 3) := by decide +kernel
theorem d_M_day_37 : decode b_M_day 37 = .ok (.iload_n 2, 1) := by decide +kernel
theorem d_M_day_38 : decode b_M_day 38 = .ok (.istore_n 2, 1) := by decide +kernel
theorem d_M_day_39 : decode b_M_day 39 = .ok (.iload_n 2, 1) := by decide +kernel
theorem d_M_day_40 : decode b_M_day 40 = .ok (.ifCond .ge 9, 3) := by decide +kernel
theorem d_M_day_43 : decode b_M_day 43 = .ok (.aload_n 0, 1) := by decide +kernel
theorem d_M_day_44 : decode b_M_day 44 = .ok (.iload_n 2, 1) := by decide +kernel
theorem d_M_day_45 : decode b_M_day 45 = .ok (.invokevirtual 108, 3) := by decide +kernel
theorem d_M_day_48 : decode b_M_day 48 = .ok (.ireturn, 1) := by decide +kernel
theorem d_M_day_49 : decode b_M_day 49 = .ok (.aload_n 0, 1) := by decide +kernel
theorem d_M_day_50 : decode b_M_day 50 = .ok (.iload_n 1, 1) := by decide +kernel
theorem d_M_day_51 : decode b_M_day 51 = .ok (.invokevirtual 146, 3) := by decide +kernel
theorem d_M_day_54 : decode b_M_day 54 = .ok (.aload_n 0, 1) := by decide +kernel
theorem d_M_day_55 : decode b_M_day 55 = .ok (.iconst 0, 1) := by decide +kernel
theorem d_M_day_56 : decode b_M_day 56 = .ok (.putfield 174, 3) := by decide +kernel
theorem d_M_day_59 : decode b_M_day 59 = .ok (.aload_n 0, 1) := by decide +kernel
theorem d_M_day_60 : decode b_M_day 60 = .ok (.getfield 78, 3) := by decide +kernel
theorem d_M_day_63 : decode b_M_day 63 = .ok (.iconst 1, 1) := by decide +kernel
theorem d_M_day_64 : decode b_M_day 64 = .ok (.isub, 1) := by decide +kernel
theorem d_M_day_65 : decode b_M_day 65 = .ok (.ireturn, 1) := by decide +kernel
theorem d_M_dayOf_0 : decode b_M_dayOf 0 = .ok (.aload_n 0, 1) := by decide +kernel
theorem d_M_dayOf_1 : decode b_M_dayOf 1 = .ok (.iconst 0, 1) := by decide +kernel
theorem d_M_dayOf_2 : decode b_M_dayOf 2 = .ok (.putfield 67, 3) := by decide +kernel
theorem d_M_dayOf_5 : decode b_M_dayOf 5 = .ok (.aload_n 0, 1) := by decide +kernel
theorem d_M_dayOf_6 : decode b_M_dayOf 6 = .ok (.iload_n 1, 1) := by decide +kernel
theorem d_M_dayOf_7 : decode b_M_dayOf 7 = .ok (.invokevirtual 150, 3) := by decide +kernel
theorem d_M_dayOf_10 : decode b_M_dayOf 10 = .ok (.ifCond .eq 15, 3) := by decide +kernel
theorem d_M_dayOf_13 : decode b_M_dayOf 13 = .ok (.iload_n 2, 1) := by decide +kernel
theorem d_M_dayOf_14 : decode b_M_dayOf 14 = .ok (.i2l, 1) := by decide +kernel
theorem d_M_dayOf_15 : decode b_M_dayOf 15 = .ok (.lconst 0, 1) := by decide +kernel
theorem d_M_dayOf_16 : decode b_M_dayOf 16 = .ok (.ldc2_w 196, 3) := by decide +kernel
theorem d_M_dayOf_19 : decode b_M_dayOf 19 = .ok (.invokestatic 74, 3) := by decide +kernel
theorem d_M_dayOf_22 : decode b_M_dayOf 22 = .ok (.ifCond .ne 22, 3) := by decide +kernel
theorem d_M_dayOf_25 : decode b_M_dayOf 25 = .ok (.aload_n 0, 1) := by decide +kernel
theorem d_M_dayOf_26 : decode b_M_dayOf 26 = .ok (.aload_n 0, 1) := by decide +kernel
theorem d_M_dayOf_27 : decode b_M_dayOf 27 = .ok (.iload_n 1, 1) := by decide +kernel
theorem d_M_dayOf_28 : decode b_M_dayOf 28 = .ok (.invokevirtual 150, 3) := by decide +kernel
theorem d_M_dayOf_31 : decode b_M_dayOf 31 = .ok (.ifCond .eq 8, 3) := by decide +kernel
theorem d_M_dayOf_34 : decode b_M_dayOf 34 = .ok (.bipush (-2), 2) := by decide +kernel
theorem d_M_dayOf_36 : decode b_M_dayOf 36 = .ok (.goto 4, 3) := by decide +kernel
theorem d_M_dayOf_39 : decode b_M_dayOf 39 = .ok (.iconst (-1), 1) := by decide +kernel
theorem d_M_dayOf_40 : decode b_M_dayOf 40 = .ok (.invokevirtual 108, 3) := by decide +kernel
theorem d_M_dayOf_43 : decode b_M_dayOf 43 = .ok (.ireturn, 1) := by decide +kernel
theorem d_M_dayOf_44 : decode b_M_dayOf 44 = .ok (.iload_n 2, 1) := by decide +kernel
theorem d_M_dayOf_45 : decode b_M_dayOf 45 = .ok (.tableswitch 66 0 3 #[31, 38, 49, 55], 31) := by decide +kernel
theorem d_M_dayOf_76 : decode b_M_dayOf 76 = .ok (.aload_n 0, 1) := by decide +kernel
theorem d_M_dayOf_77 : decode b_M_dayOf 77 = .ok (.getfield 19, 3) := by decide +kernel
theorem d_M_dayOf_80 : decode b_M_dayOf 80 = .ok (.iload_n 1, 1) := by decide +kernel
theorem d_M_dayOf_81 : decode b_M_dayOf 81 = .ok (.iaload, 1) := by decide +kernel
theorem d_M_dayOf_82 : decode b_M_dayOf 82 = .ok (.ireturn, 1) := by decide +kernel
theorem d_M_dayOf_83 : decode b_M_dayOf 83 = .ok (.aload_n 0, 1) := by decide +kernel
theorem d_M_dayOf_84 : decode b_M_dayOf 84 = .ok (.aload_n 0, 1) := by decide +kernel
theorem d_M_dayOf_85 : decode b_M_dayOf 85 = .ok (.getfield 19, 3) := by decide +kernel
theorem d_M_dayOf_88 : decode b_M_dayOf 88 = .ok (.iload_n 1, 1) := by decide +kernel
theorem d_M_dayOf_89 : decode b_M_dayOf 89 = .ok (.iaload, 1) := by decide +kernel
theorem d_M_dayOf_90 : decode b_M_dayOf 90 = .ok (.invokevirtual 99, 3) := by decide +kernel
theorem d_M_dayOf_93 : decode b_M_dayOf 93 = .ok (.ireturn, 1) := by decide +kernel
theorem d_M_dayOf_94 : decode b_M_dayOf 94 = .ok (.aload_n 0, 1) := by decide +kernel
theorem d_M_dayOf_95 : decode b_M_dayOf 95 = .ok (.iload_n 1, 1) := by decide +kernel
theorem d_M_dayOf_96 : decode b_M_dayOf 96 = .ok (.invokevirtual 153, 3) := by decide +kernel
theorem d_M_dayOf_99 : decode b_M_dayOf 99 = .ok (.ireturn, 1) := by decide +kernel
theorem d_M_dayOf_100 : decode b_M_dayOf 100 = .ok (.aload_n 0, 1) := by decide +kernel
theorem d_M_dayOf_101 : decode b_M_dayOf 101 = .ok (.aload_n 0, 1) := by decide +kernel
theorem d_M_dayOf_102 : decode b_M_dayOf 102 = .ok (.getfield 19, 3) := by decide +kernel
theorem d_M_dayOf_105 : decode b_M_dayOf 105 = .ok (.iload_n 1, 1) := by decide +kernel
theorem d_M_dayOf_106 : decode b_M_dayOf 106 = .ok (.iaload, 1) := by decide +kernel
theorem d_M_dayOf_107 : decode b_M_dayOf 107 = .ok (.invokevirtual 198, 3) := by decide +kernel
theorem d_M_dayOf_110 : decode b_M_dayOf 110 = .ok (.ireturn, 1) := by decide +kernel
theorem d_M_dayOf_111 : decode b_M_dayOf 111 = .ok (.aload_n 0, 1) := by decide +kernel
theorem d_M_dayOf_112 : decode b_M_dayOf 112 = .ok (.aload_n 0, 1) := by decide +kernel
theorem d_M_dayOf_113 : decode b_M_dayOf 113 = .ok (.getfield 19, 3) := by decide +kernel
theorem d_M_dayOf_116 : decode b_M_dayOf 116 = .ok (.iload_n 1, 1) := by decide +kernel
theorem d_M_dayOf_117 : decode b_M_dayOf 117 = .ok (.iaload, 1) := by decide +kernel
theorem d_M_dayOf_118 : decode b_M_dayOf 118 = .ok (.invokevirtual 201, 3) := by decide +kernel
theorem d_M_dayOf_121 : decode b_M_dayOf 121 = .ok (.ireturn, 1) := by decide +kernel
theorem d_M_divisor_0 : decode b_M_divisor 0 = .ok (.lload_n 0, 1) := by decide +kernel
theorem d_M_divisor_1 : decode b_M_divisor 1 = .ok (.lstore 4, 2) := by decide +kernel
theorem d_M_divisor_3 : decode b_M_divisor 3 = .ok (.lload_n 2, 1) := by decide +kernel
theorem d_M_divisor_4 : decode b_M_divisor 4 = .ok (.lstore 6, 2) := by decide +kernel
theorem d_M_divisor_6 : decode b_M_divisor 6 = .ok (.lload 6, 2) := by decide +kernel
theorem d_M_divisor_8 : decode b_M_divisor 8 = .ok (.lconst 0, 1) := by decide +kernel
theorem d_M_divisor_9 : decode b_M_divisor 9 = .ok (.lcmp, 1) := by decide +kernel
theorem d_M_divisor_10 : decode b_M_divisor 10 = .ok (.ifCond .eq 21, 3) := by decide +kernel
theorem d_M_divisor_13 : decode b_M_divisor 13 = .ok (.lload 4, 2) := by decide +kernel
theorem d_M_divisor_15 : decode b_M_divisor 15 = .ok (.lload 6, 2) := by decide +kernel
theorem d_M_divisor_17 : decode b_M_divisor 17 = .ok (.lrem, 1) := by decide +kernel
theorem d_M_divisor_18 : decode b_M_divisor 18 = .ok (.lstore 8, 2) := by decide +kernel
theorem d_M_divisor_20 : decode b_M_divisor 20 = .ok (.lload 6, 2) := by decide +kernel
theorem d_M_divisor_22 : decode b_M_divisor 22 = .ok (.lstore 4, 2) := by decide +kernel
theorem d_M_divisor_24 : decode b_M_divisor 24 = .ok (.lload 8, 2) := by decide +kernel
theorem d_M_divisor_26 : decode b_M_divisor 26 = .ok (.lstore 6, 2) := by decide +kernel
theorem d_M_divisor_28 : decode b_M_divisor 28 = .ok (.goto (-22), 3) := by decide +kernel
theorem d_M_divisor_31 : decode b_M_divisor 31 = .ok (.lload 4, 2) := by decide +kernel
theorem d_M_divisor_33 : decode b_M_divisor 33 = .ok (.lreturn, 1) := by decide +kernel
theorem d_M_doneBy_0 : decode b_M_doneBy 0 = .ok (.iconst 0, 1) := by decide +kernel
theorem d_M_doneBy_1 : decode b_M_doneBy 1 = .ok (.istore_n 2, 1) := by decide +kernel
theorem d_M_doneBy_2 : decode b_M_doneBy 2 = .ok (.iload_n 2, 1) := by decide +kernel
theorem d_M_doneBy_3 : decode b_M_doneBy 3 = .ok (.iconst 4, 1) := by decide +kernel
theorem d_M_doneBy_4 : decode b_M_doneBy 4 = .ok (.if_icmp .ge 21, 3) := by decide +kernel
theorem d_M_doneBy_7 : decode b_M_doneBy 7 = .ok (.aload_n 0, 1) := by decide +kernel
theorem d_M_doneBy_8 : decode b_M_doneBy 8 = .ok (.getfield 61, 3) := by decide +kernel
theorem d_M_doneBy_11 : decode b_M_doneBy 11 = .ok (.iload_n 2, 1) := by decide +kernel
theorem d_M_doneBy_12 : decode b_M_doneBy 12 = .ok (.aload_n 0, 1) := by decide +kernel
theorem d_M_doneBy_13 : decode b_M_doneBy 13 = .ok (.getfield 25, 3) := by decide +kernel
theorem d_M_doneBy_16 : decode b_M_doneBy 16 = .ok (.iload_n 2, 1) := by decide +kernel
theorem d_M_doneBy_17 : decode b_M_doneBy 17 = .ok (.iaload, 1) := by decide +kernel
theorem d_M_doneBy_18 : decode b_M_doneBy 18 = .ok (.iastore, 1) := by decide +kernel
theorem d_M_doneBy_19 : decode b_M_doneBy 19 = .ok (.iinc 2 1, 3) := by decide +kernel
theorem d_M_doneBy_22 : decode b_M_doneBy 22 = .ok (.goto (-20), 3) := by decide +kernel
theorem d_M_doneBy_25 : decode b_M_doneBy 25 = .ok (.iconst 0, 1) := by decide +kernel
theorem d_M_doneBy_26 : decode b_M_doneBy 26 = .ok (.istore_n 2, 1) := by decide +kernel
theorem d_M_doneBy_27 : decode b_M_doneBy 27 = .ok (.iconst 0, 1) := by decide +kernel
theorem d_M_doneBy_28 : decode b_M_doneBy 28 = .ok (.istore_n 3, 1) := by decide +kernel
theorem d_M_doneBy_29 : decode b_M_doneBy 29 = .ok (.iload_n 3, 1) := by decide +kernel
theorem d_M_doneBy_30 : decode b_M_doneBy 30 = .ok (.aload_n 0, 1) := by decide +kernel
theorem d_M_doneBy_31 : decode b_M_doneBy 31 = .ok (.getfield 78, 3) := by decide +kernel
theorem d_M_doneBy_34 : decode b_M_doneBy 34 = .ok (.if_icmp .ge 103, 3) := by decide +kernel
theorem d_M_doneBy_37 : decode b_M_doneBy 37 = .ok (.iload_n 3, 1) := by decide +kernel
theorem d_M_doneBy_38 : decode b_M_doneBy 38 = .ok (.iload_n 1, 1) := by decide +kernel
theorem d_M_doneBy_39 : decode b_M_doneBy 39 = .ok (.if_icmp .ge 98, 3) := by decide +kernel
theorem d_M_doneBy_42 : decode b_M_doneBy 42 = .ok (.aload_n 0, 1) := by decide +kernel
theorem d_M_doneBy_43 : decode b_M_doneBy 43 = .ok (.getfield 58, 3) := by decide +kernel
theorem d_M_doneBy_46 : decode b_M_doneBy 46 = .ok (.aload_n 0, 1) := by decide +kernel
theorem d_M_doneBy_47 : decode b_M_doneBy 47 = .ok (.getfield 55, 3) := by decide +kernel
theorem d_M_doneBy_50 : decode b_M_doneBy 50 = .ok (.iload_n 3, 1) := by decide +kernel
theorem d_M_doneBy_51 : decode b_M_doneBy 51 = .ok (.iaload, 1) := by decide +kernel
theorem d_M_doneBy_52 : decode b_M_doneBy 52 = .ok (.iaload, 1) := by decide +kernel
theorem d_M_doneBy_53 : decode b_M_doneBy 53 = .ok (.istore 4, 2) := by decide +kernel
theorem d_M_doneBy_55 : decode b_M_doneBy 55 = .ok (.bipush (-9), 2) := by decide +kernel
theorem d_M_doneBy_57 : decode b_M_doneBy 57 = .ok (.istore 5, 2) := by decide +kernel
theorem d_M_doneBy_59 : decode b_M_doneBy 59 = .ok (.iconst 3, 1) := by decide +kernel
theorem d_M_doneBy_60 : decode b_M_doneBy 60 = .ok (.istore 6, 2) := by decide +kernel
theorem d_M_doneBy_62 : decode b_M_doneBy 62 = .ok (.iload 6, 2) := by decide +kernel
theorem d_M_doneBy_64 : decode b_M_doneBy 64 = .ok (.ifCond .lt 48, 3) := by decide +kernel
theorem d_M_doneBy_67 : decode b_M_doneBy 67 = .ok (.iload 4, 2) := by decide +kernel
theorem d_M_doneBy_69 : decode b_M_doneBy 69 = .ok (.ifCond .lt 43, 3) := by decide +kernel
theorem d_M_doneBy_72 : decode b_M_doneBy 72 = .ok (.aload_n 0, 1) := by decide +kernel
theorem d_M_doneBy_73 : decode b_M_doneBy 73 = .ok (.getfield 61, 3) := by decide +kernel
theorem d_M_doneBy_76 : decode b_M_doneBy 76 = .ok (.iload 6, 2) := by decide +kernel
theorem d_M_doneBy_78 : decode b_M_doneBy 78 = .ok (.iaload, 1) := by decide +kernel
theorem d_M_doneBy_79 : decode b_M_doneBy 79 = .ok (.ifCond .le 23, 3) := by decide +kernel
theorem d_M_doneBy_82 : decode b_M_doneBy 82 = .ok (.aload_n 0, 1) := by decide +kernel
theorem d_M_doneBy_83 : decode b_M_doneBy 83 = .ok (.getfield 22, 3) := by decide +kernel
theorem d_M_doneBy_86 : decode b_M_doneBy 86 = .ok (.iload 6, 2) := by decide +kernel
theorem d_M_doneBy_88 : decode b_M_doneBy 88 = .ok (.iaload, 1) := by decide +kernel
theorem d_M_doneBy_89 : decode b_M_doneBy 89 = .ok (.iload 4, 2) := by decide +kernel
theorem d_M_doneBy_91 : decode b_M_doneBy 91 = .ok (.invokestatic 85, 3) := by decide +kernel
theorem d_M_doneBy_94 : decode b_M_doneBy 94 = .ok (.ifCond .eq 8, 3) := by decide +kernel
theorem d_M_doneBy_97 : decode b_M_doneBy 97 = .ok (.iload 6, 2) := by decide +kernel
theorem d_M_doneBy_99 : decode b_M_doneBy 99 = .ok (.goto 5, 3) := by decide +kernel
theorem d_M_doneBy_102 : decode b_M_doneBy 102 = .ok (.iload 5, 2) := by decide +kernel
theorem d_M_doneBy_104 : decode b_M_doneBy 104 = .ok (.istore 5, 2) := by decide +kernel
theorem d_M_doneBy_106 : decode b_M_doneBy 106 = .ok (.iinc 6 (-1), 3) := by decide +kernel
theorem d_M_doneBy_109 : decode b_M_doneBy 109 = .ok (.goto (-47), 3) := by decide +kernel
theorem d_M_doneBy_112 : decode b_M_doneBy 112 = .ok (.iload 5, 2) := by decide +kernel
theorem d_M_doneBy_114 : decode b_M_doneBy 114 = .ok (.ifCond .lt 17, 3) := by decide +kernel
theorem d_M_doneBy_117 : decode b_M_doneBy 117 = .ok (.aload_n 0, 1) := by decide +kernel
theorem d_M_doneBy_118 : decode b_M_doneBy 118 = .ok (.getfield 61, 3) := by decide +kernel
theorem d_M_doneBy_121 : decode b_M_doneBy 121 = .ok (.iload 5, 2) := by decide +kernel
theorem d_M_doneBy_123 : decode b_M_doneBy 123 = .ok (.dup2, 1) := by decide +kernel
theorem d_M_doneBy_124 : decode b_M_doneBy 124 = .ok (.iaload, 1) := by decide +kernel
theorem d_M_doneBy_125 : decode b_M_doneBy 125 = .ok (.iconst 1, 1) := by decide +kernel
theorem d_M_doneBy_126 : decode b_M_doneBy 126 = .ok (.isub, 1) := by decide +kernel
theorem d_M_doneBy_127 : decode b_M_doneBy 127 = .ok (.iastore, 1) := by decide +kernel
theorem d_M_doneBy_128 : decode b_M_doneBy 128 = .ok (.iinc 2 1, 3) := by decide +kernel
theorem d_M_doneBy_131 : decode b_M_doneBy 131 = .ok (.iinc 3 1, 3) := by decide +kernel
theorem d_M_doneBy_134 : decode b_M_doneBy 134 = .ok (.goto (-105), 3) := by decide +kernel
theorem d_M_doneBy_137 : decode b_M_doneBy 137 = .ok (.iload_n 2, 1) := by decide +kernel
theorem d_M_doneBy_138 : decode b_M_doneBy 138 = .ok (.ireturn, 1) := by decide +kernel
theorem d_M_drawBelow_0 : decode b_M_drawBelow 0 = .ok (.aload_n 0, 1) := by decide +kernel
theorem d_M_drawBelow_1 : decode b_M_drawBelow 1 = .ok (.aload_n 0, 1) := by decide +kernel
theorem d_M_drawBelow_2 : decode b_M_drawBelow 2 = .ok (.getfield 267, 3) := by decide +kernel
theorem d_M_drawBelow_5 : decode b_M_drawBelow 5 = .ok (.ldc_w 270, 3) := by decide +kernel
theorem d_M_drawBelow_8 : decode b_M_drawBelow 8 = .ok (.imul, 1) := by decide +kernel
theorem d_M_drawBelow_9 : decode b_M_drawBelow 9 = .ok (.sipush 12345, 3) := by decide +kernel
theorem d_M_drawBelow_12 : decode b_M_drawBelow 12 = .ok (.iadd, 1) := by decide +kernel
theorem d_M_drawBelow_13 : decode b_M_drawBelow 13 = .ok (.putfield 267, 3) := by decide +kernel
theorem d_M_drawBelow_16 : decode b_M_drawBelow 16 = .ok (.aload_n 0, 1) := by decide +kernel
theorem d_M_drawBelow_17 : decode b_M_drawBelow 17 = .ok (.getfield 267, 3) := by decide +kernel
theorem d_M_drawBelow_20 : decode b_M_drawBelow 20 = .ok (.ldc_w 271, 3) := by decide +kernel
theorem d_M_drawBelow_23 : decode b_M_drawBelow 23 = .ok (.iand, 1) := by decide +kernel
theorem d_M_drawBelow_24 : decode b_M_drawBelow 24 = .ok (.ldc_w 272, 3) := by decide +kernel
theorem d_M_drawBelow_27 : decode b_M_drawBelow 27 = .ok (.idiv, 1) := by decide +kernel
theorem d_M_drawBelow_28 : decode b_M_drawBelow 28 = .ok (.iload_n 1, 1) := by decide +kernel
theorem d_M_drawBelow_29 : decode b_M_drawBelow 29 = .ok (.irem, 1) := by decide +kernel
theorem d_M_drawBelow_30 : decode b_M_drawBelow 30 = .ok (.ireturn, 1) := by decide +kernel
theorem d_M_likelyDays_0 : decode b_M_likelyDays 0 = .ok (.iconst 0, 1) := by decide +kernel
theorem d_M_likelyDays_1 : decode b_M_likelyDays 1 = .ok (.istore_n 1, 1) := by decide +kernel
theorem d_M_likelyDays_2 : decode b_M_likelyDays 2 = .ok (.iconst 0, 1) := by decide +kernel
theorem d_M_likelyDays_3 : decode b_M_likelyDays 3 = .ok (.istore_n 2, 1) := by decide +kernel
theorem d_M_likelyDays_4 : decode b_M_likelyDays 4 = .ok (.iload_n 2, 1) := by decide +kernel
theorem d_M_likelyDays_5 : decode b_M_likelyDays 5 = .ok (.aload_n 0, 1) := by decide +kernel
theorem d_M_likelyDays_6 : decode b_M_likelyDays 6 = .ok (.getfield 78, 3) := by decide +kernel
theorem d_M_likelyDays_9 : decode b_M_likelyDays 9 = .ok (.if_icmp .ge 25, 3) := by decide +kernel
theorem d_M_likelyDays_12 : decode b_M_likelyDays 12 = .ok (.iload_n 1, 1) := by decide +kernel
theorem d_M_likelyDays_13 : decode b_M_likelyDays 13 = .ok (.aload_n 0, 1) := by decide +kernel
theorem d_M_likelyDays_14 : decode b_M_likelyDays 14 = .ok (.iload_n 2, 1) := by decide +kernel
theorem d_M_likelyDays_15 : decode b_M_likelyDays 15 = .ok (.invokevirtual 153, 3) := by decide +kernel
theorem d_M_likelyDays_18 : decode b_M_likelyDays 18 = .ok (.ifCond .lt 7, 3) := by decide +kernel
theorem d_M_likelyDays_21 : decode b_M_likelyDays 21 = .ok (.iconst 1, 1) := by decide +kernel
theorem d_M_likelyDays_22 : decode b_M_likelyDays 22 = .ok (.goto 4, 3) := by decide +kernel
theorem d_M_likelyDays_25 : decode b_M_likelyDays 25 = .ok (.iconst 0, 1) := by decide +kernel
theorem d_M_likelyDays_26 : decode b_M_likelyDays 26 = .ok (.iadd, 1) := by decide +kernel
theorem d_M_likelyDays_27 : decode b_M_likelyDays 27 = .ok (.istore_n 1, 1) := by decide +kernel
theorem d_M_likelyDays_28 : decode b_M_likelyDays 28 = .ok (.iinc 2 1, 3) := by decide +kernel
theorem d_M_likelyDays_31 : decode b_M_likelyDays 31 = .ok (.goto (-27), 3) := by decide +kernel
theorem d_M_likelyDays_34 : decode b_M_likelyDays 34 = .ok (.iload_n 1, 1) := by decide +kernel
theorem d_M_likelyDays_35 : decode b_M_likelyDays 35 = .ok (.ireturn, 1) := by decide +kernel
theorem d_M_think_0 : decode b_M_think 0 = .ok (.aload_n 0, 1) := by decide +kernel
theorem d_M_think_1 : decode b_M_think 1 = .ok (.aload_n 0, 1) := by decide +kernel
theorem d_M_think_2 : decode b_M_think 2 = .ok (.getfield 43, 3) := by decide +kernel
theorem d_M_think_5 : decode b_M_think 5 = .ok (.iconst 1, 1) := by decide +kernel
theorem d_M_think_6 : decode b_M_think 6 = .ok (.invokevirtual 189, 3) := by decide +kernel
theorem d_M_think_9 : decode b_M_think 9 = .ok (.return_, 1) := by decide +kernel
theorem d_M_drop_0 : decode b_M_drop 0 = .ok (.aload_n 0, 1) := by decide +kernel
theorem d_M_drop_1 : decode b_M_drop 1 = .ok (.iconst 0, 1) := by decide +kernel
theorem d_M_drop_2 : decode b_M_drop 2 = .ok (.putfield 67, 3) := by decide +kernel
theorem d_M_drop_5 : decode b_M_drop 5 = .ok (.bipush (-9), 2) := by decide +kernel
theorem d_M_drop_7 : decode b_M_drop 7 = .ok (.istore_n 1, 1) := by decide +kernel
theorem d_M_drop_8 : decode b_M_drop 8 = .ok (.iconst (-1), 1) := by decide +kernel
theorem d_M_drop_9 : decode b_M_drop 9 = .ok (.istore_n 2, 1) := by decide +kernel
theorem d_M_drop_10 : decode b_M_drop 10 = .ok (.aload_n 0, 1) := by decide +kernel
theorem d_M_drop_11 : decode b_M_drop 11 = .ok (.invokevirtual 165, 3) := by decide +kernel
theorem d_M_drop_14 : decode b_M_drop 14 = .ok (.iconst 0, 1) := by decide +kernel
theorem d_M_drop_15 : decode b_M_drop 15 = .ok (.istore_n 3, 1) := by decide +kernel
theorem d_M_drop_16 : decode b_M_drop 16 = .ok (.iload_n 3, 1) := by decide +kernel
theorem d_M_drop_17 : decode b_M_drop 17 = .ok (.aload_n 0, 1) := by decide +kernel
theorem d_M_drop_18 : decode b_M_drop 18 = .ok (.getfield 71, 3) := by decide +kernel
theorem d_M_drop_21 : decode b_M_drop 21 = .ok (.if_icmp .ge 77, 3) := by decide +kernel
theorem d_M_drop_24 : decode b_M_drop 24 = .ok (.iconst 0, 1) := by decide +kernel
theorem d_M_drop_25 : decode b_M_drop 25 = .ok (.istore 4, 2) := by decide +kernel
theorem d_M_drop_27 : decode b_M_drop 27 = .ok (.iload 4, 2) := by decide +kernel
theorem d_M_drop_29 : decode b_M_drop 29 = .ok (.aload_n 0, 1) := by decide +kernel
theorem d_M_drop_30 : decode b_M_drop 30 = .ok (.getfield 78, 3) := by decide +kernel
theorem d_M_drop_33 : decode b_M_drop 33 = .ok (.if_icmp .ge 24, 3) := by decide +kernel
theorem d_M_drop_36 : decode b_M_drop 36 = .ok (.aload_n 0, 1) := by decide +kernel
theorem d_M_drop_37 : decode b_M_drop 37 = .ok (.getfield 19, 3) := by decide +kernel
theorem d_M_drop_40 : decode b_M_drop 40 = .ok (.iload 4, 2) := by decide +kernel
theorem d_M_drop_42 : decode b_M_drop 42 = .ok (.dup2, 1) := by decide +kernel
theorem d_M_drop_43 : decode b_M_drop 43 = .ok (.iaload, 1) := by decide +kernel
theorem d_M_drop_44 : decode b_M_drop 44 = .ok (.iconst 1, 1) := by decide +kernel
theorem d_M_drop_45 : decode b_M_drop 45 = .ok (.iload_n 3, 1) := by decide +kernel
theorem d_M_drop_46 : decode b_M_drop 46 = .ok (.ishl, 1) := by decide +kernel
theorem d_M_drop_47 : decode b_M_drop 47 = .ok (.iconst (-1), 1) := by decide +kernel
theorem d_M_drop_48 : decode b_M_drop 48 = .ok (.ixor, 1) := by decide +kernel
theorem d_M_drop_49 : decode b_M_drop 49 = .ok (.iand, 1) := by decide +kernel
theorem d_M_drop_50 : decode b_M_drop 50 = .ok (.iastore, 1) := by decide +kernel
theorem d_M_drop_51 : decode b_M_drop 51 = .ok (.iinc 4 1, 3) := by decide +kernel
theorem d_M_drop_54 : decode b_M_drop 54 = .ok (.goto (-27), 3) := by decide +kernel
theorem d_M_drop_57 : decode b_M_drop 57 = .ok (.aload_n 0, 1) := by decide +kernel
theorem d_M_drop_58 : decode b_M_drop 58 = .ok (.invokevirtual 262, 3) := by decide +kernel
theorem d_M_drop_61 : decode b_M_drop 61 = .ok (.istore 4, 2) := by decide +kernel
theorem d_M_drop_63 : decode b_M_drop 63 = .ok (.aload_n 0, 1) := by decide +kernel
theorem d_M_drop_64 : decode b_M_drop 64 = .ok (.invokevirtual 171, 3) := by decide +kernel
theorem d_M_drop_67 : decode b_M_drop 67 = .ok (.iload 4, 2) := by decide +kernel
theorem d_M_drop_69 : decode b_M_drop 69 = .ok (.iload_n 2, 1) := by decide +kernel
theorem d_M_drop_70 : decode b_M_drop 70 = .ok (.if_icmp .le 7, 3) := by decide +kernel
theorem d_M_drop_73 : decode b_M_drop 73 = .ok (.iload_n 3, 1) := by decide +kernel
theorem d_M_drop_74 : decode b_M_drop 74 = .ok (.goto 4, 3) := by decide +kernel
theorem d_M_drop_77 : decode b_M_drop 77 = .ok (.iload_n 1, 1) := by decide +kernel
theorem d_M_drop_78 : decode b_M_drop 78 = .ok (.istore_n 1, 1) := by decide +kernel
theorem d_M_drop_79 : decode b_M_drop 79 = .ok (.iload 4, 2) := by decide +kernel
theorem d_M_drop_81 : decode b_M_drop 81 = .ok (.iload_n 2, 1) := by decide +kernel
theorem d_M_drop_82 : decode b_M_drop 82 = .ok (.if_icmp .le 8, 3) := by decide +kernel
theorem d_M_drop_85 : decode b_M_drop 85 = .ok (.iload 4, 2) := by decide +kernel
theorem d_M_drop_87 : decode b_M_drop 87 = .ok (.goto 4, 3) := by decide +kernel
theorem d_M_drop_90 : decode b_M_drop 90 = .ok (.iload_n 2, 1) := by decide +kernel
theorem d_M_drop_91 : decode b_M_drop 91 = .ok (.istore_n 2, 1) := by decide +kernel
theorem d_M_drop_92 : decode b_M_drop 92 = .ok (.iinc 3 1, 3) := by decide +kernel
theorem d_M_drop_95 : decode b_M_drop 95 = .ok (.goto (-79), 3) := by decide +kernel
theorem d_M_drop_98 : decode b_M_drop 98 = .ok (.iload_n 1, 1) := by decide +kernel
theorem d_M_drop_99 : decode b_M_drop 99 = .ok (.ireturn, 1) := by decide +kernel
theorem d_M_eggAndRope_0 : decode b_M_eggAndRope 0 = .ok (.aload_n 0, 1) := by decide +kernel
theorem d_M_eggAndRope_1 : decode b_M_eggAndRope 1 = .ok (.iconst 0, 1) := by decide +kernel
theorem d_M_eggAndRope_2 : decode b_M_eggAndRope 2 = .ok (.putfield 67, 3) := by decide +kernel
theorem d_M_eggAndRope_5 : decode b_M_eggAndRope 5 = .ok (.bipush (-9), 2) := by decide +kernel
theorem d_M_eggAndRope_7 : decode b_M_eggAndRope 7 = .ok (.istore_n 1, 1) := by decide +kernel
theorem d_M_eggAndRope_8 : decode b_M_eggAndRope 8 = .ok (.bipush 7, 2) := by decide +kernel
theorem d_M_eggAndRope_10 : decode b_M_eggAndRope 10 = .ok (.istore_n 2, 1) := by decide +kernel
theorem d_M_eggAndRope_11 : decode b_M_eggAndRope 11 = .ok (.iconst 0, 1) := by decide +kernel
theorem d_M_eggAndRope_12 : decode b_M_eggAndRope 12 = .ok (.istore_n 3, 1) := by decide +kernel
theorem d_M_eggAndRope_13 : decode b_M_eggAndRope 13 = .ok (.iload_n 3, 1) := by decide +kernel
theorem d_M_eggAndRope_14 : decode b_M_eggAndRope 14 = .ok (.aload_n 0, 1) := by decide +kernel
theorem d_M_eggAndRope_15 : decode b_M_eggAndRope 15 = .ok (.getfield 71, 3) := by decide +kernel
theorem d_M_eggAndRope_18 : decode b_M_eggAndRope 18 = .ok (.if_icmp .ge 93, 3) := by decide +kernel
theorem d_M_eggAndRope_21 : decode b_M_eggAndRope 21 = .ok (.iload_n 3, 1) := by decide +kernel
theorem d_M_eggAndRope_22 : decode b_M_eggAndRope 22 = .ok (.iconst 1, 1) := by decide +kernel
theorem d_M_eggAndRope_23 : decode b_M_eggAndRope 23 = .ok (.iadd, 1) := by decide +kernel
theorem d_M_eggAndRope_24 : decode b_M_eggAndRope 24 = .ok (.istore 4, 2) := by decide +kernel
theorem d_M_eggAndRope_26 : decode b_M_eggAndRope 26 = .ok (.iload 4, 2) := by decide +kernel
theorem d_M_eggAndRope_28 : decode b_M_eggAndRope 28 = .ok (.aload_n 0, 1) := by decide +kernel
theorem d_M_eggAndRope_29 : decode b_M_eggAndRope 29 = .ok (.getfield 71, 3) := by decide +kernel
theorem d_M_eggAndRope_32 : decode b_M_eggAndRope 32 = .ok (.if_icmp .ge 73, 3) := by decide +kernel
theorem d_M_eggAndRope_35 : decode b_M_eggAndRope 35 = .ok (.aload_n 0, 1) := by decide +kernel
theorem d_M_eggAndRope_36 : decode b_M_eggAndRope 36 = .ok (.iload_n 3, 1) := by decide +kernel
theorem d_M_eggAndRope_37 : decode b_M_eggAndRope 37 = .ok (.invokevirtual 96, 3) := by decide +kernel
theorem d_M_eggAndRope_40 : decode b_M_eggAndRope 40 = .ok (.aload_n 0, 1) := by decide +kernel
theorem d_M_eggAndRope_41 : decode b_M_eggAndRope 41 = .ok (.iload 4, 2) := by decide +kernel
theorem d_M_eggAndRope_43 : decode b_M_eggAndRope 43 = .ok (.invokevirtual 96, 3) := by decide +kernel
theorem d_M_eggAndRope_46 : decode b_M_eggAndRope 46 = .ok (.iand, 1) := by decide +kernel
theorem d_M_eggAndRope_47 : decode b_M_eggAndRope 47 = .ok (.invokestatic 231, 3) := by decide +kernel
theorem d_M_eggAndRope_50 : decode b_M_eggAndRope 50 = .ok (.istore 5, 2) := by decide +kernel
theorem d_M_eggAndRope_52 : decode b_M_eggAndRope 52 = .ok (.iload 5, 2) := by decide +kernel
theorem d_M_eggAndRope_54 : decode b_M_eggAndRope 54 = .ok (.ifCond .le 13, 3) := by decide +kernel
theorem d_M_eggAndRope_57 : decode b_M_eggAndRope 57 = .ok (.iload 5, 2) := by decide +kernel
theorem d_M_eggAndRope_59 : decode b_M_eggAndRope 59 = .ok (.iload_n 2, 1) := by decide +kernel
theorem d_M_eggAndRope_60 : decode b_M_eggAndRope 60 = .ok (.if_icmp .ge 7, 3) := by decide +kernel
theorem d_M_eggAndRope_63 : decode b_M_eggAndRope 63 = .ok (.iconst 1, 1) := by decide +kernel
theorem d_M_eggAndRope_64 : decode b_M_eggAndRope 64 = .ok (.goto 4, 3) := by decide +kernel
theorem d_M_eggAndRope_67 : decode b_M_eggAndRope 67 = .ok (.iconst 0, 1) := by decide +kernel
theorem d_M_eggAndRope_68 : decode b_M_eggAndRope 68 = .ok (.istore 6, 2) := by decide +kernel
theorem d_M_eggAndRope_70 : decode b_M_eggAndRope 70 = .ok (.iload 6, 2) := by decide +kernel
theorem d_M_eggAndRope_72 : decode b_M_eggAndRope 72 = .ok (.ifCond .eq 13, 3) := by decide +kernel
theorem d_M_eggAndRope_75 : decode b_M_eggAndRope 75 = .ok (.bipush 10, 2) := by decide +kernel
theorem d_M_eggAndRope_77 : decode b_M_eggAndRope 77 = .ok (.iload_n 3, 1) := by decide +kernel
theorem d_M_eggAndRope_78 : decode b_M_eggAndRope 78 = .ok (.imul, 1) := by decide +kernel
theorem d_M_eggAndRope_79 : decode b_M_eggAndRope 79 = .ok (.iload 4, 2) := by decide +kernel
theorem d_M_eggAndRope_81 : decode b_M_eggAndRope 81 = .ok (.iadd, 1) := by decide +kernel
theorem d_M_eggAndRope_82 : decode b_M_eggAndRope 82 = .ok (.goto 4, 3) := by decide +kernel
theorem d_M_eggAndRope_85 : decode b_M_eggAndRope 85 = .ok (.iload_n 1, 1) := by decide +kernel
theorem d_M_eggAndRope_86 : decode b_M_eggAndRope 86 = .ok (.istore_n 1, 1) := by decide +kernel
theorem d_M_eggAndRope_87 : decode b_M_eggAndRope 87 = .ok (.iload 6, 2) := by decide +kernel
theorem d_M_eggAndRope_89 : decode b_M_eggAndRope 89 = .ok (.ifCond .eq 8, 3) := by decide +kernel
theorem d_M_eggAndRope_92 : decode b_M_eggAndRope 92 = .ok (.iload 5, 2) := by decide +kernel
theorem d_M_eggAndRope_94 : decode b_M_eggAndRope 94 = .ok (.goto 4, 3) := by decide +kernel
theorem d_M_eggAndRope_97 : decode b_M_eggAndRope 97 = .ok (.iload_n 2, 1) := by decide +kernel
theorem d_M_eggAndRope_98 : decode b_M_eggAndRope 98 = .ok (.istore_n 2, 1) := by decide +kernel
theorem d_M_eggAndRope_99 : decode b_M_eggAndRope 99 = .ok (.iinc 4 1, 3) := by decide +kernel
theorem d_M_eggAndRope_102 : decode b_M_eggAndRope 102 = .ok (.goto (-76), 3) := by decide +kernel
theorem d_M_eggAndRope_105 : decode b_M_eggAndRope 105 = .ok (.iinc 3 1, 3) := by decide +kernel
theorem d_M_eggAndRope_108 : decode b_M_eggAndRope 108 = .ok (.goto (-95), 3) := by decide +kernel
theorem d_M_eggAndRope_111 : decode b_M_eggAndRope 111 = .ok (.iload_n 1, 1) := by decide +kernel
theorem d_M_eggAndRope_112 : decode b_M_eggAndRope 112 = .ok (.ireturn, 1) := by decide +kernel
theorem d_M_emptyFields_0 : decode b_M_emptyFields 0 = .ok (.iconst 0, 1) := by decide +kernel
theorem d_M_emptyFields_1 : decode b_M_emptyFields 1 = .ok (.istore_n 1, 1) := by decide +kernel
theorem d_M_emptyFields_2 : decode b_M_emptyFields 2 = .ok (.iconst 0, 1) := by decide +kernel
theorem d_M_emptyFields_3 : decode b_M_emptyFields 3 = .ok (.istore_n 2, 1) := by decide +kernel
theorem d_M_emptyFields_4 : decode b_M_emptyFields 4 = .ok (.iload_n 2, 1) := by decide +kernel
theorem d_M_emptyFields_5 : decode b_M_emptyFields 5 = .ok (.iconst 4, 1) := by decide +kernel
theorem d_M_emptyFields_6 : decode b_M_emptyFields 6 = .ok (.if_icmp .ge 28, 3) := by decide +kernel
theorem d_M_emptyFields_9 : decode b_M_emptyFields 9 = .ok (.iload_n 1, 1) := by decide +kernel
theorem d_M_emptyFields_10 : decode b_M_emptyFields 10 = .ok (.aload_n 0, 1) := by decide +kernel
theorem d_M_emptyFields_11 : decode b_M_emptyFields 11 = .ok (.getfield 25, 3) := by decide +kernel
theorem d_M_emptyFields_14 : decode b_M_emptyFields 14 = .ok (.iload_n 2, 1) := by decide +kernel
theorem d_M_emptyFields_15 : decode b_M_emptyFields 15 = .ok (.iaload, 1) := by decide +kernel
theorem d_M_emptyFields_16 : decode b_M_emptyFields 16 = .ok (.ifCond .ne 9, 3) := by decide +kernel
theorem d_M_emptyFields_19 : decode b_M_emptyFields 19 = .ok (.iconst 1, 1) := by decide +kernel
theorem d_M_emptyFields_20 : decode b_M_emptyFields 20 = .ok (.iload_n 2, 1) := by decide +kernel
theorem d_M_emptyFields_21 : decode b_M_emptyFields 21 = .ok (.ishl, 1) := by decide +kernel
theorem d_M_emptyFields_22 : decode b_M_emptyFields 22 = .ok (.goto 4, 3) := by decide +kernel
theorem d_M_emptyFields_25 : decode b_M_emptyFields 25 = .ok (.iconst 0, 1) := by decide +kernel
theorem d_M_emptyFields_26 : decode b_M_emptyFields 26 = .ok (.ior, 1) := by decide +kernel
theorem d_M_emptyFields_27 : decode b_M_emptyFields 27 = .ok (.istore_n 1, 1) := by decide +kernel
theorem d_M_emptyFields_28 : decode b_M_emptyFields 28 = .ok (.iinc 2 1, 3) := by decide +kernel
theorem d_M_emptyFields_31 : decode b_M_emptyFields 31 = .ok (.goto (-27), 3) := by decide +kernel
theorem d_M_emptyFields_34 : decode b_M_emptyFields 34 = .ok (.iload_n 1, 1) := by decide +kernel
theorem d_M_emptyFields_35 : decode b_M_emptyFields 35 = .ok (.ireturn, 1) := by decide +kernel
theorem d_M_feed_0 : decode b_M_feed 0 = .ok (.aload_n 0, 1) := by decide +kernel
theorem d_M_feed_1 : decode b_M_feed 1 = .ok (.iconst 0, 1) := by decide +kernel
theorem d_M_feed_2 : decode b_M_feed 2 = .ok (.putfield 67, 3) := by decide +kernel
theorem d_M_feed_5 : decode b_M_feed 5 = .ok (.iload_n 1, 1) := by decide +kernel
theorem d_M_feed_6 : decode b_M_feed 6 = .ok (.ifCond .ge 10, 3) := by decide +kernel
theorem d_M_feed_9 : decode b_M_feed 9 = .ok (.aload_n 0, 1) := by decide +kernel
theorem d_M_feed_10 : decode b_M_feed 10 = .ok (.bipush (-4), 2) := by decide +kernel
theorem d_M_feed_12 : decode b_M_feed 12 = .ok (.invokevirtual 108, 3) := by decide +kernel
theorem d_M_feed_15 : decode b_M_feed 15 = .ok (.ireturn, 1) := by decide +kernel
theorem d_M_feed_16 : decode b_M_feed 16 = .ok (.iload_n 1, 1) := by decide +kernel
theorem d_M_feed_17 : decode b_M_feed 17 = .ok (.sipush 255, 3) := by decide +kernel
theorem d_M_feed_20 : decode b_M_feed 20 = .ok (.if_icmp .gt 12, 3) := by decide +kernel
theorem d_M_feed_23 : decode b_M_feed 23 = .ok (.aload_n 0, 1) := by decide +kernel
theorem d_M_feed_24 : decode b_M_feed 24 = .ok (.getfield 111, 3) := by decide +kernel
theorem d_M_feed_27 : decode b_M_feed 27 = .ok (.bipush 96, 2) := by decide +kernel
theorem d_M_feed_29 : decode b_M_feed 29 = .ok (.if_icmp .ne 10, 3) := by decide +kernel
theorem d_M_feed_32 : decode b_M_feed 32 = .ok (.aload_n 0, 1) := by decide +kernel
theorem d_M_feed_33 : decode b_M_feed 33 = .ok (.bipush (-6), 2) := by decide +kernel
theorem d_M_feed_35 : decode b_M_feed 35 = .ok (.invokevirtual 108, 3) := by decide +kernel
theorem d_M_feed_38 : decode b_M_feed 38 = .ok (.ireturn, 1) := by decide +kernel
theorem d_M_feed_39 : decode b_M_feed 39 = .ok (.aload_n 0, 1) := by decide +kernel
theorem d_M_feed_40 : decode b_M_feed 40 = .ok (.getfield 31, 3) := by decide +kernel
theorem d_M_feed_43 : decode b_M_feed 43 = .ok (.aload_n 0, 1) := by decide +kernel
theorem d_M_feed_44 : decode b_M_feed 44 = .ok (.getfield 111, 3) := by decide +kernel
theorem d_M_feed_47 : decode b_M_feed 47 = .ok (.iload_n 1, 1) := by decide +kernel
theorem d_M_feed_48 : decode b_M_feed 48 = .ok (.iastore, 1) := by decide +kernel
theorem d_M_feed_49 : decode b_M_feed 49 = .ok (.aload_n 0, 1) := by decide +kernel
theorem d_M_feed_50 : decode b_M_feed 50 = .ok (.dup, 1) := by decide +kernel
theorem d_M_feed_51 : decode b_M_feed 51 = .ok (.getfield 111, 3) := by decide +kernel
theorem d_M_feed_54 : decode b_M_feed 54 = .ok (.iconst 1, 1) := by decide +kernel
theorem d_M_feed_55 : decode b_M_feed 55 = .ok (.iadd, 1) := by decide +kernel
theorem d_M_feed_56 : decode b_M_feed 56 = .ok (.putfield 111, 3) := by decide +kernel
theorem d_M_feed_59 : decode b_M_feed 59 = .ok (.aload_n 0, 1) := by decide +kernel
theorem d_M_feed_60 : decode b_M_feed 60 = .ok (.getfield 111, 3) := by decide +kernel
theorem d_M_feed_63 : decode b_M_feed 63 = .ok (.ireturn, 1) := by decide +kernel
theorem d_M_fieldOf_0 : decode b_M_fieldOf 0 = .ok (.aload_n 0, 1) := by decide +kernel
theorem d_M_fieldOf_1 : decode b_M_fieldOf 1 = .ok (.iconst 0, 1) := by decide +kernel
theorem d_M_fieldOf_2 : decode b_M_fieldOf 2 = .ok (.putfield 67, 3) := by decide +kernel
theorem d_M_fieldOf_5 : decode b_M_fieldOf 5 = .ok (.iload_n 1, 1) := by decide +kernel
theorem d_M_fieldOf_6 : decode b_M_fieldOf 6 = .ok (.i2l, 1) := by decide +kernel
theorem d_M_fieldOf_7 : decode b_M_fieldOf 7 = .ok (.lconst 0, 1) := by decide +kernel
theorem d_M_fieldOf_8 : decode b_M_fieldOf 8 = .ok (.ldc2_w 204, 3) := by decide +kernel
theorem d_M_fieldOf_11 : decode b_M_fieldOf 11 = .ok (.invokestatic 74, 3) := by decide +kernel
theorem d_M_fieldOf_14 : decode b_M_fieldOf 14 = .ok (.istore_n 3, 1) := by decide +kernel
theorem d_M_fieldOf_15 : decode b_M_fieldOf 15 = .ok (.iload_n 3, 1) := by decide +kernel
theorem d_M_fieldOf_16 : decode b_M_fieldOf 16 = .ok (.ifCond .eq 13, 3) := by decide +kernel
theorem d_M_fieldOf_19 : decode b_M_fieldOf 19 = .ok (.iload_n 2, 1) := by decide +kernel
theorem d_M_fieldOf_20 : decode b_M_fieldOf 20 = .ok (.i2l, 1) := by decide +kernel
theorem d_M_fieldOf_21 : decode b_M_fieldOf 21 = .ok (.lconst 0, 1) := by decide +kernel
theorem d_M_fieldOf_22 : decode b_M_fieldOf 22 = .ok (.lconst 1, 1) := by decide +kernel
theorem d_M_fieldOf_23 : decode b_M_fieldOf 23 = .ok (.invokestatic 74, 3) := by decide +kernel
theorem d_M_fieldOf_26 : decode b_M_fieldOf 26 = .ok (.ifCond .ne 18, 3) := by decide +kernel
theorem d_M_fieldOf_29 : decode b_M_fieldOf 29 = .ok (.aload_n 0, 1) := by decide +kernel
theorem d_M_fieldOf_30 : decode b_M_fieldOf 30 = .ok (.iload_n 3, 1) := by decide +kernel
theorem d_M_fieldOf_31 : decode b_M_fieldOf 31 = .ok (.ifCond .eq 8, 3) := by decide +kernel
theorem d_M_fieldOf_34 : decode b_M_fieldOf 34 = .ok (.bipush (-2), 2) := by decide +kernel
theorem d_M_fieldOf_36 : decode b_M_fieldOf 36 = .ok (.goto 4, 3) := by decide +kernel
theorem d_M_fieldOf_39 : decode b_M_fieldOf 39 = .ok (.iconst (-1), 1) := by decide +kernel
theorem d_M_fieldOf_40 : decode b_M_fieldOf 40 = .ok (.invokevirtual 108, 3) := by decide +kernel
theorem d_M_fieldOf_43 : decode b_M_fieldOf 43 = .ok (.ireturn, 1) := by decide +kernel
theorem d_M_fieldOf_44 : decode b_M_fieldOf 44 = .ok (.iload_n 2, 1) := by decide +kernel
theorem d_M_fieldOf_45 : decode b_M_fieldOf 45 = .ok (.ifCond .ne 12, 3) := by decide +kernel
theorem d_M_fieldOf_48 : decode b_M_fieldOf 48 = .ok (.aload_n 0, 1) := by decide +kernel
theorem d_M_fieldOf_49 : decode b_M_fieldOf 49 = .ok (.getfield 22, 3) := by decide +kernel
theorem d_M_fieldOf_52 : decode b_M_fieldOf 52 = .ok (.iload_n 1, 1) := by decide +kernel
theorem d_M_fieldOf_53 : decode b_M_fieldOf 53 = .ok (.iaload, 1) := by decide +kernel
theorem d_M_fieldOf_54 : decode b_M_fieldOf 54 = .ok (.goto 9, 3) := by decide +kernel
theorem d_M_fieldOf_57 : decode b_M_fieldOf 57 = .ok (.aload_n 0, 1) := by decide +kernel
theorem d_M_fieldOf_58 : decode b_M_fieldOf 58 = .ok (.getfield 25, 3) := by decide +kernel
theorem d_M_fieldOf_61 : decode b_M_fieldOf 61 = .ok (.iload_n 1, 1) := by decide +kernel
theorem d_M_fieldOf_62 : decode b_M_fieldOf 62 = .ok (.iaload, 1) := by decide +kernel
theorem d_M_fieldOf_63 : decode b_M_fieldOf 63 = .ok (.ireturn, 1) := by decide +kernel
theorem d_M_gotWithout_0 : decode b_M_gotWithout 0 = .ok (.aload_n 0, 1) := by decide +kernel
theorem d_M_gotWithout_1 : decode b_M_gotWithout 1 = .ok (.invokevirtual 234, 3) := by decide +kernel
theorem d_M_gotWithout_4 : decode b_M_gotWithout 4 = .ok (.istore_n 2, 1) := by decide +kernel
theorem d_M_gotWithout_5 : decode b_M_gotWithout 5 = .ok (.aload_n 0, 1) := by decide +kernel
theorem d_M_gotWithout_6 : decode b_M_gotWithout 6 = .ok (.invokevirtual 165, 3) := by decide +kernel
theorem d_M_gotWithout_9 : decode b_M_gotWithout 9 = .ok (.iconst 0, 1) := by decide +kernel
theorem d_M_gotWithout_10 : decode b_M_gotWithout 10 = .ok (.istore_n 3, 1) := by decide +kernel
theorem d_M_gotWithout_11 : decode b_M_gotWithout 11 = .ok (.iload_n 3, 1) := by decide +kernel
theorem d_M_gotWithout_12 : decode b_M_gotWithout 12 = .ok (.aload_n 0, 1) := by decide +kernel
theorem d_M_gotWithout_13 : decode b_M_gotWithout 13 = .ok (.getfield 78, 3) := by decide +kernel
theorem d_M_gotWithout_16 : decode b_M_gotWithout 16 = .ok (.if_icmp .ge 24, 3) := by decide +kernel
theorem d_M_gotWithout_19 : decode b_M_gotWithout 19 = .ok (.iload_n 3, 1) := by decide +kernel
theorem d_M_gotWithout_20 : decode b_M_gotWithout 20 = .ok (.iload_n 1, 1) := by decide +kernel
theorem d_M_gotWithout_21 : decode b_M_gotWithout 21 = .ok (.if_icmp .eq 13, 3) := by decide +kernel
theorem d_M_gotWithout_24 : decode b_M_gotWithout 24 = .ok (.aload_n 0, 1) := by decide +kernel
theorem d_M_gotWithout_25 : decode b_M_gotWithout 25 = .ok (.aload_n 0, 1) := by decide +kernel
theorem d_M_gotWithout_26 : decode b_M_gotWithout 26 = .ok (.iload_n 3, 1) := by decide +kernel
theorem d_M_gotWithout_27 : decode b_M_gotWithout 27 = .ok (.invokevirtual 153, 3) := by decide +kernel
theorem d_M_gotWithout_30 : decode b_M_gotWithout 30 = .ok (.invokevirtual 156, 3) := by decide +kernel
theorem d_M_gotWithout_33 : decode b_M_gotWithout 33 = .ok (.pop, 1) := by decide +kernel
theorem d_M_gotWithout_34 : decode b_M_gotWithout 34 = .ok (.iinc 3 1, 3) := by decide +kernel
theorem d_M_gotWithout_37 : decode b_M_gotWithout 37 = .ok (.goto (-26), 3) := by decide +kernel
theorem d_M_gotWithout_40 : decode b_M_gotWithout 40 = .ok (.iload_n 2, 1) := by decide +kernel
theorem d_M_gotWithout_41 : decode b_M_gotWithout 41 = .ok (.aload_n 0, 1) := by decide +kernel
theorem d_M_gotWithout_42 : decode b_M_gotWithout 42 = .ok (.invokevirtual 234, 3) := by decide +kernel
theorem d_M_gotWithout_45 : decode b_M_gotWithout 45 = .ok (.isub, 1) := by decide +kernel
theorem d_M_gotWithout_46 : decode b_M_gotWithout 46 = .ok (.istore_n 3, 1) := by decide +kernel
theorem d_M_gotWithout_47 : decode b_M_gotWithout 47 = .ok (.aload_n 0, 1) := by decide +kernel
theorem d_M_gotWithout_48 : decode b_M_gotWithout 48 = .ok (.invokevirtual 171, 3) := by decide +kernel
theorem d_M_gotWithout_51 : decode b_M_gotWithout 51 = .ok (.iload_n 3, 1) := by decide +kernel
theorem d_M_gotWithout_52 : decode b_M_gotWithout 52 = .ok (.ireturn, 1) := by decide +kernel
theorem d_M_gotIn_0 : decode b_M_gotIn 0 = .ok (.aload_n 0, 1) := by decide +kernel
theorem d_M_gotIn_1 : decode b_M_gotIn 1 = .ok (.iconst 0, 1) := by decide +kernel
theorem d_M_gotIn_2 : decode b_M_gotIn 2 = .ok (.putfield 67, 3) := by decide +kernel
theorem d_M_gotIn_5 : decode b_M_gotIn 5 = .ok (.iload_n 1, 1) := by decide +kernel
theorem d_M_gotIn_6 : decode b_M_gotIn 6 = .ok (.i2l, 1) := by decide +kernel
theorem d_M_gotIn_7 : decode b_M_gotIn 7 = .ok (.lconst 0, 1) := by decide +kernel
theorem d_M_gotIn_8 : decode b_M_gotIn 8 = .ok (.lconst 1, 1) := by decide +kernel
theorem d_M_gotIn_9 : decode b_M_gotIn 9 = .ok (.invokestatic 74, 3) := by decide +kernel
theorem d_M_gotIn_12 : decode b_M_gotIn 12 = .ok (.ifCond .ne 10, 3) := by decide +kernel
theorem d_M_gotIn_15 : decode b_M_gotIn 15 = .ok (.aload_n 0, 1) := by decide +kernel
theorem d_M_gotIn_16 : decode b_M_gotIn 16 = .ok (.bipush (-2), 2) := by decide +kernel
theorem d_M_gotIn_18 : decode b_M_gotIn 18 = .ok (.invokevirtual 108, 3) := by decide +kernel
theorem d_M_gotIn_21 : decode b_M_gotIn 21 = .ok (.ireturn, 1) := by decide +kernel
theorem d_M_gotIn_22 : decode b_M_gotIn 22 = .ok (.iload_n 1, 1) := by decide +kernel
theorem d_M_gotIn_23 : decode b_M_gotIn 23 = .ok (.ifCond .ne 10, 3) := by decide +kernel
theorem d_M_gotIn_26 : decode b_M_gotIn 26 = .ok (.aload_n 0, 1) := by decide +kernel
theorem d_M_gotIn_27 : decode b_M_gotIn 27 = .ok (.bipush (-9), 2) := by decide +kernel
theorem d_M_gotIn_29 : decode b_M_gotIn 29 = .ok (.invokevirtual 237, 3) := by decide +kernel
theorem d_M_gotIn_32 : decode b_M_gotIn 32 = .ok (.ireturn, 1) := by decide +kernel
theorem d_M_gotIn_33 : decode b_M_gotIn 33 = .ok (.aload_n 0, 1) := by decide +kernel
theorem d_M_gotIn_34 : decode b_M_gotIn 34 = .ok (.invokevirtual 165, 3) := by decide +kernel
theorem d_M_gotIn_37 : decode b_M_gotIn 37 = .ok (.iconst 0, 1) := by decide +kernel
theorem d_M_gotIn_38 : decode b_M_gotIn 38 = .ok (.istore_n 2, 1) := by decide +kernel
theorem d_M_gotIn_39 : decode b_M_gotIn 39 = .ok (.iload_n 2, 1) := by decide +kernel
theorem d_M_gotIn_40 : decode b_M_gotIn 40 = .ok (.aload_n 0, 1) := by decide +kernel
theorem d_M_gotIn_41 : decode b_M_gotIn 41 = .ok (.getfield 78, 3) := by decide +kernel
theorem d_M_gotIn_44 : decode b_M_gotIn 44 = .ok (.if_icmp .ge 19, 3) := by decide +kernel
theorem d_M_gotIn_47 : decode b_M_gotIn 47 = .ok (.aload_n 0, 1) := by decide +kernel
theorem d_M_gotIn_48 : decode b_M_gotIn 48 = .ok (.aload_n 0, 1) := by decide +kernel
theorem d_M_gotIn_49 : decode b_M_gotIn 49 = .ok (.iload_n 2, 1) := by decide +kernel
theorem d_M_gotIn_50 : decode b_M_gotIn 50 = .ok (.invokevirtual 153, 3) := by decide +kernel
theorem d_M_gotIn_53 : decode b_M_gotIn 53 = .ok (.invokevirtual 156, 3) := by decide +kernel
theorem d_M_gotIn_56 : decode b_M_gotIn 56 = .ok (.pop, 1) := by decide +kernel
theorem d_M_gotIn_57 : decode b_M_gotIn 57 = .ok (.iinc 2 1, 3) := by decide +kernel
theorem d_M_gotIn_60 : decode b_M_gotIn 60 = .ok (.goto (-21), 3) := by decide +kernel
theorem d_M_gotIn_63 : decode b_M_gotIn 63 = .ok (.aload_n 0, 1) := by decide +kernel
theorem d_M_gotIn_64 : decode b_M_gotIn 64 = .ok (.invokevirtual 240, 3) := by decide +kernel
theorem d_M_gotIn_67 : decode b_M_gotIn 67 = .ok (.istore_n 2, 1) := by decide +kernel
theorem d_M_gotIn_68 : decode b_M_gotIn 68 = .ok (.aload_n 0, 1) := by decide +kernel
theorem d_M_gotIn_69 : decode b_M_gotIn 69 = .ok (.invokevirtual 171, 3) := by decide +kernel
theorem d_M_gotIn_72 : decode b_M_gotIn 72 = .ok (.iload_n 2, 1) := by decide +kernel
theorem d_M_gotIn_73 : decode b_M_gotIn 73 = .ok (.ireturn, 1) := by decide +kernel
theorem d_M_here_0 : decode b_M_here 0 = .ok (.aload_n 0, 1) := by decide +kernel
theorem d_M_here_1 : decode b_M_here 1 = .ok (.getfield 114, 3) := by decide +kernel
theorem d_M_here_4 : decode b_M_here 4 = .ok (.aload_n 0, 1) := by decide +kernel
theorem d_M_here_5 : decode b_M_here 5 = .ok (.getfield 111, 3) := by decide +kernel
theorem d_M_here_8 : decode b_M_here 8 = .ok (.if_icmp .ge 15, 3) := by decide +kernel
theorem d_M_here_11 : decode b_M_here 11 = .ok (.aload_n 0, 1) := by decide +kernel
theorem d_M_here_12 : decode b_M_here 12 = .ok (.getfield 31, 3) := by decide +kernel
theorem d_M_here_15 : decode b_M_here 15 = .ok (.aload_n 0, 1) := by decide +kernel
theorem d_M_here_16 : decode b_M_here 16 = .ok (.getfield 114, 3) := by decide +kernel
theorem d_M_here_19 : decode b_M_here 19 = .ok (.iaload, 1) := by decide +kernel
theorem d_M_here_20 : decode b_M_here 20 = .ok (.goto 4, 3) := by decide +kernel
theorem d_M_here_23 : decode b_M_here 23 = .ok (.iconst (-1), 1) := by decide +kernel
theorem d_M_here_24 : decode b_M_here 24 = .ok (.ireturn, 1) := by decide +kernel
theorem d_M_isLetter_0 : decode b_M_isLetter 0 = .ok (.iload_n 0, 1) := by decide +kernel
theorem d_M_isLetter_1 : decode b_M_isLetter 1 = .ok (.bipush 116, 2) := by decide +kernel
theorem d_M_isLetter_3 : decode b_M_isLetter 3 = .ok (.if_icmp .eq 33, 3) := by decide +kernel
theorem d_M_isLetter_6 : decode b_M_isLetter 6 = .ok (.iload_n 0, 1) := by decide +kernel
theorem d_M_isLetter_7 : decode b_M_isLetter 7 = .ok (.bipush 100, 2) := by decide +kernel
theorem d_M_isLetter_9 : decode b_M_isLetter 9 = .ok (.if_icmp .eq 27, 3) := by decide +kernel
theorem d_M_isLetter_12 : decode b_M_isLetter 12 = .ok (.iload_n 0, 1) := by decide +kernel
theorem d_M_isLetter_13 : decode b_M_isLetter 13 = .ok (.bipush 119, 2) := by decide +kernel
theorem d_M_isLetter_15 : decode b_M_isLetter 15 = .ok (.if_icmp .eq 21, 3) := by decide +kernel
theorem d_M_isLetter_18 : decode b_M_isLetter 18 = .ok (.iload_n 0, 1) := by decide +kernel
theorem d_M_isLetter_19 : decode b_M_isLetter 19 = .ok (.bipush 102, 2) := by decide +kernel
theorem d_M_isLetter_21 : decode b_M_isLetter 21 = .ok (.if_icmp .eq 15, 3) := by decide +kernel
theorem d_M_isLetter_24 : decode b_M_isLetter 24 = .ok (.iload_n 0, 1) := by decide +kernel
theorem d_M_isLetter_25 : decode b_M_isLetter 25 = .ok (.bipush 115, 2) := by decide +kernel
theorem d_M_isLetter_27 : decode b_M_isLetter 27 = .ok (.if_icmp .eq 9, 3) := by decide +kernel
theorem d_M_isLetter_30 : decode b_M_isLetter 30 = .ok (.iload_n 0, 1) := by decide +kernel
theorem d_M_isLetter_31 : decode b_M_isLetter 31 = .ok (.bipush 112, 2) := by decide +kernel
theorem d_M_isLetter_33 : decode b_M_isLetter 33 = .ok (.if_icmp .ne 7, 3) := by decide +kernel
theorem d_M_isLetter_36 : decode b_M_isLetter 36 = .ok (.iconst 1, 1) := by decide +kernel
theorem d_M_isLetter_37 : decode b_M_isLetter 37 = .ok (.goto 4, 3) := by decide +kernel
theorem d_M_isLetter_40 : decode b_M_isLetter 40 = .ok (.iconst 0, 1) := by decide +kernel
theorem d_M_isLetter_41 : decode b_M_isLetter 41 = .ok (.ireturn, 1) := by decide +kernel
theorem d_M_readDigits_0 : decode b_M_readDigits 0 = .ok (.iconst 0, 1) := by decide +kernel
theorem d_M_readDigits_1 : decode b_M_readDigits 1 = .ok (.istore_n 2, 1) := by decide +kernel
theorem d_M_readDigits_2 : decode b_M_readDigits 2 = .ok (.iconst 0, 1) := by decide +kernel
theorem d_M_readDigits_3 : decode b_M_readDigits 3 = .ok (.istore_n 3, 1) := by decide +kernel
theorem d_M_readDigits_4 : decode b_M_readDigits 4 = .ok (.iload_n 3, 1) := by decide +kernel
theorem d_M_readDigits_5 : decode b_M_readDigits 5 = .ok (.iload_n 1, 1) := by decide +kernel
theorem d_M_readDigits_6 : decode b_M_readDigits 6 = .ok (.if_icmp .ge 92, 3) := by decide +kernel
theorem d_M_readDigits_9 : decode b_M_readDigits 9 = .ok (.aload_n 0, 1) := by decide +kernel
theorem d_M_readDigits_10 : decode b_M_readDigits 10 = .ok (.aload_n 0, 1) := by decide +kernel
theorem d_M_readDigits_11 : decode b_M_readDigits 11 = .ok (.getfield 117, 3) := by decide +kernel
theorem d_M_readDigits_14 : decode b_M_readDigits 14 = .ok (.ifCond .ne 20, 3) := by decide +kernel
theorem d_M_readDigits_17 : decode b_M_readDigits 17 = .ok (.aload_n 0, 1) := by decide +kernel
theorem d_M_readDigits_18 : decode b_M_readDigits 18 = .ok (.invokevirtual 121, 3) := by decide +kernel
theorem d_M_readDigits_21 : decode b_M_readDigits 21 = .ok (.i2l, 1) := by decide +kernel
theorem d_M_readDigits_22 : decode b_M_readDigits 22 = .ok (.ldc2_w 125, 3) := by decide +kernel
theorem d_M_readDigits_25 : decode b_M_readDigits 25 = .ok (.ldc2_w 127, 3) := by decide +kernel
theorem d_M_readDigits_28 : decode b_M_readDigits 28 = .ok (.invokestatic 74, 3) := by decide +kernel
theorem d_M_readDigits_31 : decode b_M_readDigits 31 = .ok (.ifCond .ne 7, 3) := by decide +kernel
theorem d_M_readDigits_34 : decode b_M_readDigits 34 = .ok (.iconst 1, 1) := by decide +kernel
theorem d_M_readDigits_35 : decode b_M_readDigits 35 = .ok (.goto 4, 3) := by decide +kernel
theorem d_M_readDigits_38 : decode b_M_readDigits 38 = .ok (.iconst 0, 1) := by decide +kernel
theorem d_M_readDigits_39 : decode b_M_readDigits 39 = .ok (.putfield 117, 3) := by decide +kernel
theorem d_M_readDigits_42 : decode b_M_readDigits 42 = .ok (.aload_n 0, 1) := by decide +kernel
theorem d_M_readDigits_43 : decode b_M_readDigits 43 = .ok (.getfield 117, 3) := by decide +kernel
theorem d_M_readDigits_46 : decode b_M_readDigits 46 = .ok (.ifCond .eq 7, 3) := by decide +kernel
theorem d_M_readDigits_49 : decode b_M_readDigits 49 = .ok (.iconst 0, 1) := by decide +kernel
theorem d_M_readDigits_50 : decode b_M_readDigits 50 = .ok (.goto 20, 3) := by decide +kernel
theorem d_M_readDigits_53 : decode b_M_readDigits 53 = .ok (.bipush 10, 2) := by decide +kernel
theorem d_M_readDigits_55 : decode b_M_readDigits 55 = .ok (.iload_n 2, 1) := by decide +kernel
theorem d_M_readDigits_56 : decode b_M_readDigits 56 = .ok (.imul, 1) := by decide +kernel
theorem d_M_readDigits_57 : decode b_M_readDigits 57 = .ok (.aload_n 0, 1) := by decide +kernel
theorem d_M_readDigits_58 : decode b_M_readDigits 58 = .ok (.getfield 31, 3) := by decide +kernel
theorem d_M_readDigits_61 : decode b_M_readDigits 61 = .ok (.aload_n 0, 1) := by decide +kernel
theorem d_M_readDigits_62 : decode b_M_readDigits 62 = .ok (.getfield 114, 3) := by decide +kernel
theorem d_M_readDigits_65 : decode b_M_readDigits 65 = .ok (.iaload, 1) := by decide +kernel
theorem d_M_readDigits_66 : decode b_M_readDigits 66 = .ok (.iadd, 1) := by decide +kernel
theorem d_M_readDigits_67 : decode b_M_readDigits 67 = .ok (.bipush 48, 2) := by decide +kernel
theorem d_M_readDigits_69 : decode b_M_readDigits 69 = .ok (.isub, 1) := by decide +kernel
theorem d_M_readDigits_70 : decode b_M_readDigits 70 = .ok (.istore_n 2, 1) := by decide +kernel
theorem d_M_readDigits_71 : decode b_M_readDigits 71 = .ok (.aload_n 0, 1) := by decide +kernel
theorem d_M_readDigits_72 : decode b_M_readDigits 72 = .ok (.dup, 1) := by decide +kernel
theorem d_M_readDigits_73 : decode b_M_readDigits 73 = .ok (.getfield 114, 3) := by decide +kernel
theorem d_M_readDigits_76 : decode b_M_readDigits 76 = .ok (.aload_n 0, 1) := by decide +kernel
theorem d_M_readDigits_77 : decode b_M_readDigits 77 = .ok (.getfield 117, 3) := by decide +kernel
theorem d_M_readDigits_80 : decode b_M_readDigits 80 = .ok (.ifCond .eq 7, 3) := by decide +kernel
theorem d_M_readDigits_83 : decode b_M_readDigits 83 = .ok (.iconst 0, 1) := by decide +kernel
theorem d_M_readDigits_84 : decode b_M_readDigits 84 = .ok (.goto 4, 3) := by decide +kernel
theorem d_M_readDigits_87 : decode b_M_readDigits 87 = .ok (.iconst 1, 1) := by decide +kernel
theorem d_M_readDigits_88 : decode b_M_readDigits 88 = .ok (.iadd, 1) := by decide +kernel
theorem d_M_readDigits_89 : decode b_M_readDigits 89 = .ok (.putfield 114, 3) := by decide +kernel
theorem d_M_readDigits_92 : decode b_M_readDigits 92 = .ok (.iinc 3 1, 3) := by decide +kernel
theorem d_M_readDigits_95 : decode b_M_readDigits 95 = .ok (.goto (-91), 3) := by decide +kernel
theorem d_M_readDigits_98 : decode b_M_readDigits 98 = .ok (.iload_n 2, 1) := by decide +kernel
theorem d_M_readDigits_99 : decode b_M_readDigits 99 = .ok (.ireturn, 1) := by decide +kernel
theorem d_M_readNumbers_0 : decode b_M_readNumbers 0 = .ok (.aload_n 0, 1) := by decide +kernel
theorem d_M_readNumbers_1 : decode b_M_readNumbers 1 = .ok (.getfield 40, 3) := by decide +kernel
theorem d_M_readNumbers_4 : decode b_M_readNumbers 4 = .ok (.iload_n 2, 1) := by decide +kernel
theorem d_M_readNumbers_5 : decode b_M_readNumbers 5 = .ok (.aload_n 0, 1) := by decide +kernel
theorem d_M_readNumbers_6 : decode b_M_readNumbers 6 = .ok (.iload_n 1, 1) := by decide +kernel
theorem d_M_readNumbers_7 : decode b_M_readNumbers 7 = .ok (.bipush 100, 2) := by decide +kernel
theorem d_M_readNumbers_9 : decode b_M_readNumbers 9 = .ok (.if_icmp .ne 7, 3) := by decide +kernel
theorem d_M_readNumbers_12 : decode b_M_readNumbers 12 = .ok (.iconst 3, 1) := by decide +kernel
theorem d_M_readNumbers_13 : decode b_M_readNumbers 13 = .ok (.goto 4, 3) := by decide +kernel
theorem d_M_readNumbers_16 : decode b_M_readNumbers 16 = .ok (.iconst 1, 1) := by decide +kernel
theorem d_M_readNumbers_17 : decode b_M_readNumbers 17 = .ok (.invokevirtual 129, 3) := by decide +kernel
theorem d_M_readNumbers_20 : decode b_M_readNumbers 20 = .ok (.iastore, 1) := by decide +kernel
theorem d_M_readNumbers_21 : decode b_M_readNumbers 21 = .ok (.iload_n 1, 1) := by decide +kernel
theorem d_M_readNumbers_22 : decode b_M_readNumbers 22 = .ok (.bipush 102, 2) := by decide +kernel
theorem d_M_readNumbers_24 : decode b_M_readNumbers 24 = .ok (.if_icmp .ne 32, 3) := by decide +kernel
theorem d_M_readNumbers_27 : decode b_M_readNumbers 27 = .ok (.aload_n 0, 1) := by decide +kernel
theorem d_M_readNumbers_28 : decode b_M_readNumbers 28 = .ok (.getfield 40, 3) := by decide +kernel
theorem d_M_readNumbers_31 : decode b_M_readNumbers 31 = .ok (.iload_n 2, 1) := by decide +kernel
theorem d_M_readNumbers_32 : decode b_M_readNumbers 32 = .ok (.iconst 1, 1) := by decide +kernel
theorem d_M_readNumbers_33 : decode b_M_readNumbers 33 = .ok (.iadd, 1) := by decide +kernel
theorem d_M_readNumbers_34 : decode b_M_readNumbers 34 = .ok (.aload_n 0, 1) := by decide +kernel
theorem d_M_readNumbers_35 : decode b_M_readNumbers 35 = .ok (.iconst 2, 1) := by decide +kernel
theorem d_M_readNumbers_36 : decode b_M_readNumbers 36 = .ok (.invokevirtual 129, 3) := by decide +kernel
theorem d_M_readNumbers_39 : decode b_M_readNumbers 39 = .ok (.iastore, 1) := by decide +kernel
theorem d_M_readNumbers_40 : decode b_M_readNumbers 40 = .ok (.aload_n 0, 1) := by decide +kernel
theorem d_M_readNumbers_41 : decode b_M_readNumbers 41 = .ok (.getfield 40, 3) := by decide +kernel
theorem d_M_readNumbers_44 : decode b_M_readNumbers 44 = .ok (.iload_n 2, 1) := by decide +kernel
theorem d_M_readNumbers_45 : decode b_M_readNumbers 45 = .ok (.iconst 2, 1) := by decide +kernel
theorem d_M_readNumbers_46 : decode b_M_readNumbers 46 = .ok (.iadd, 1) := by decide +kernel
theorem d_M_readNumbers_47 : decode b_M_readNumbers 47 = .ok (.aload_n 0, 1) := by decide +kernel
theorem d_M_readNumbers_48 : decode b_M_readNumbers 48 = .ok (.iconst 1, 1) := by decide +kernel
theorem d_M_readNumbers_49 : decode b_M_readNumbers 49 = .ok (.invokevirtual 129, 3) := by decide +kernel
theorem d_M_readNumbers_52 : decode b_M_readNumbers 52 = .ok (.iastore, 1) := by decide +kernel
theorem d_M_readNumbers_53 : decode b_M_readNumbers 53 = .ok (.goto 34, 3) := by decide +kernel
theorem d_M_readNumbers_56 : decode b_M_readNumbers 56 = .ok (.iload_n 1, 1) := by decide +kernel
theorem d_M_readNumbers_57 : decode b_M_readNumbers 57 = .ok (.bipush 116, 2) := by decide +kernel
theorem d_M_readNumbers_59 : decode b_M_readNumbers 59 = .ok (.if_icmp .eq 15, 3) := by decide +kernel
theorem d_M_readNumbers_62 : decode b_M_readNumbers 62 = .ok (.iload_n 1, 1) := by decide +kernel
theorem d_M_readNumbers_63 : decode b_M_readNumbers 63 = .ok (.bipush 119, 2) := by decide +kernel
theorem d_M_readNumbers_65 : decode b_M_readNumbers 65 = .ok (.if_icmp .eq 9, 3) := by decide +kernel
theorem d_M_readNumbers_68 : decode b_M_readNumbers 68 = .ok (.iload_n 1, 1) := by decide +kernel
theorem d_M_readNumbers_69 : decode b_M_readNumbers 69 = .ok (.bipush 112, 2) := by decide +kernel
theorem d_M_readNumbers_71 : decode b_M_readNumbers 71 = .ok (.if_icmp .ne 16, 3) := by decide +kernel
theorem d_M_readNumbers_74 : decode b_M_readNumbers 74 = .ok (.aload_n 0, 1) := by decide +kernel
theorem d_M_readNumbers_75 : decode b_M_readNumbers 75 = .ok (.getfield 40, 3) := by decide +kernel
theorem d_M_readNumbers_78 : decode b_M_readNumbers 78 = .ok (.iload_n 2, 1) := by decide +kernel
theorem d_M_readNumbers_79 : decode b_M_readNumbers 79 = .ok (.iconst 1, 1) := by decide +kernel
theorem d_M_readNumbers_80 : decode b_M_readNumbers 80 = .ok (.iadd, 1) := by decide +kernel
theorem d_M_readNumbers_81 : decode b_M_readNumbers 81 = .ok (.aload_n 0, 1) := by decide +kernel
theorem d_M_readNumbers_82 : decode b_M_readNumbers 82 = .ok (.iconst 1, 1) := by decide +kernel
theorem d_M_readNumbers_83 : decode b_M_readNumbers 83 = .ok (.invokevirtual 129, 3) := by decide +kernel
theorem d_M_readNumbers_86 : decode b_M_readNumbers 86 = .ok (.iastore, 1) := by decide +kernel
theorem d_M_readNumbers_87 : decode b_M_readNumbers 87 = .ok (.return_, 1) := by decide +kernel
theorem d_M_readStatement_0 : decode b_M_readStatement 0 = .ok (.aload_n 0, 1) := by decide +kernel
theorem d_M_readStatement_1 : decode b_M_readStatement 1 = .ok (.getfield 132, 3) := by decide +kernel
theorem d_M_readStatement_4 : decode b_M_readStatement 4 = .ok (.istore_n 1, 1) := by decide +kernel
theorem d_M_readStatement_5 : decode b_M_readStatement 5 = .ok (.aload_n 0, 1) := by decide +kernel
theorem d_M_readStatement_6 : decode b_M_readStatement 6 = .ok (.invokevirtual 121, 3) := by decide +kernel
theorem d_M_readStatement_9 : decode b_M_readStatement 9 = .ok (.istore_n 2, 1) := by decide +kernel
theorem d_M_readStatement_10 : decode b_M_readStatement 10 = .ok (.aload_n 0, 1) := by decide +kernel
theorem d_M_readStatement_11 : decode b_M_readStatement 11 = .ok (.getfield 34, 3) := by decide +kernel
theorem d_M_readStatement_14 : decode b_M_readStatement 14 = .ok (.iload_n 1, 1) := by decide +kernel
theorem d_M_readStatement_15 : decode b_M_readStatement 15 = .ok (.aload_n 0, 1) := by decide +kernel
theorem d_M_readStatement_16 : decode b_M_readStatement 16 = .ok (.getfield 114, 3) := by decide +kernel
theorem d_M_readStatement_19 : decode b_M_readStatement 19 = .ok (.iastore, 1) := by decide +kernel
theorem d_M_readStatement_20 : decode b_M_readStatement 20 = .ok (.aload_n 0, 1) := by decide +kernel
theorem d_M_readStatement_21 : decode b_M_readStatement 21 = .ok (.getfield 37, 3) := by decide +kernel
theorem d_M_readStatement_24 : decode b_M_readStatement 24 = .ok (.iload_n 1, 1) := by decide +kernel
theorem d_M_readStatement_25 : decode b_M_readStatement 25 = .ok (.iload_n 2, 1) := by decide +kernel
theorem d_M_readStatement_26 : decode b_M_readStatement 26 = .ok (.iastore, 1) := by decide +kernel
theorem d_M_readStatement_27 : decode b_M_readStatement 27 = .ok (.aload_n 0, 1) := by decide +kernel
theorem d_M_readStatement_28 : decode b_M_readStatement 28 = .ok (.aload_n 0, 1) := by decide +kernel
theorem d_M_readStatement_29 : decode b_M_readStatement 29 = .ok (.getfield 117, 3) := by decide +kernel
theorem d_M_readStatement_32 : decode b_M_readStatement 32 = .ok (.ifCond .ne 10, 3) := by decide +kernel
theorem d_M_readStatement_35 : decode b_M_readStatement 35 = .ok (.iload_n 2, 1) := by decide +kernel
theorem d_M_readStatement_36 : decode b_M_readStatement 36 = .ok (.invokestatic 135, 3) := by decide +kernel
theorem d_M_readStatement_39 : decode b_M_readStatement 39 = .ok (.ifCond .ne 7, 3) := by decide +kernel
theorem d_M_readStatement_42 : decode b_M_readStatement 42 = .ok (.iconst 1, 1) := by decide +kernel
theorem d_M_readStatement_43 : decode b_M_readStatement 43 = .ok (.goto 4, 3) := by decide +kernel
theorem d_M_readStatement_46 : decode b_M_readStatement 46 = .ok (.iconst 0, 1) := by decide +kernel
theorem d_M_readStatement_47 : decode b_M_readStatement 47 = .ok (.putfield 117, 3) := by decide +kernel
theorem d_M_readStatement_50 : decode b_M_readStatement 50 = .ok (.aload_n 0, 1) := by decide +kernel
theorem d_M_readStatement_51 : decode b_M_readStatement 51 = .ok (.dup, 1) := by decide +kernel
theorem d_M_readStatement_52 : decode b_M_readStatement 52 = .ok (.getfield 114, 3) := by decide +kernel
theorem d_M_readStatement_55 : decode b_M_readStatement 55 = .ok (.aload_n 0, 1) := by decide +kernel
theorem d_M_readStatement_56 : decode b_M_readStatement 56 = .ok (.getfield 117, 3) := by decide +kernel
theorem d_M_readStatement_59 : decode b_M_readStatement 59 = .ok (.ifCond .eq 7, 3) := by decide +kernel
theorem d_M_readStatement_62 : decode b_M_readStatement 62 = .ok (.iconst 0, 1) := by decide +kernel
theorem d_M_readStatement_63 : decode b_M_readStatement 63 = .ok (.goto 4, 3) := by decide +kernel
theorem d_M_readStatement_66 : decode b_M_readStatement 66 = .ok (.iconst 1, 1) := by decide +kernel
theorem d_M_readStatement_67 : decode b_M_readStatement 67 = .ok (.iadd, 1) := by decide +kernel
theorem d_M_readStatement_68 : decode b_M_readStatement 68 = .ok (.putfield 114, 3) := by decide +kernel
theorem d_M_readStatement_71 : decode b_M_readStatement 71 = .ok (.aload_n 0, 1) := by decide +kernel
theorem d_M_readStatement_72 : decode b_M_readStatement 72 = .ok (.getfield 117, 3) := by decide +kernel
theorem d_M_readStatement_75 : decode b_M_readStatement 75 = .ok (.ifCond .ne 11, 3) := by decide +kernel
theorem d_M_readStatement_78 : decode b_M_readStatement 78 = .ok (.aload_n 0, 1) := by decide +kernel
theorem d_M_readStatement_79 : decode b_M_readStatement 79 = .ok (.iload_n 2, 1) := by decide +kernel
theorem d_M_readStatement_80 : decode b_M_readStatement 80 = .ok (.iconst 3, 1) := by decide +kernel
theorem d_M_readStatement_81 : decode b_M_readStatement 81 = .ok (.iload_n 1, 1) := by decide +kernel
theorem d_M_readStatement_82 : decode b_M_readStatement 82 = .ok (.imul, 1) := by decide +kernel
theorem d_M_readStatement_83 : decode b_M_readStatement 83 = .ok (.invokevirtual 139, 3) := by decide +kernel
theorem d_M_readStatement_86 : decode b_M_readStatement 86 = .ok (.aload_n 0, 1) := by decide +kernel
theorem d_M_readStatement_87 : decode b_M_readStatement 87 = .ok (.aload_n 0, 1) := by decide +kernel
theorem d_M_readStatement_88 : decode b_M_readStatement 88 = .ok (.getfield 117, 3) := by decide +kernel
theorem d_M_readStatement_91 : decode b_M_readStatement 91 = .ok (.ifCond .ne 12, 3) := by decide +kernel
theorem d_M_readStatement_94 : decode b_M_readStatement 94 = .ok (.aload_n 0, 1) := by decide +kernel
theorem d_M_readStatement_95 : decode b_M_readStatement 95 = .ok (.invokevirtual 121, 3) := by decide +kernel
theorem d_M_readStatement_98 : decode b_M_readStatement 98 = .ok (.bipush 59, 2) := by decide +kernel
theorem d_M_readStatement_100 : decode b_M_readStatement 100 = .ok (.if_icmp .eq 7, 3) := by decide +kernel
theorem d_M_readStatement_103 : decode b_M_readStatement 103 = .ok (.iconst 1, 1) := by decide +kernel
theorem d_M_readStatement_104 : decode b_M_readStatement 104 = .ok (.goto 4, 3) := by decide +kernel
theorem d_M_readStatement_107 : decode b_M_readStatement 107 = .ok (.iconst 0, 1) := by decide +kernel
theorem d_M_readStatement_108 : decode b_M_readStatement 108 = .ok (.putfield 117, 3) := by decide +kernel
theorem d_M_readStatement_111 : decode b_M_readStatement 111 = .ok (.aload_n 0, 1) := by decide +kernel
theorem d_M_readStatement_112 : decode b_M_readStatement 112 = .ok (.dup, 1) := by decide +kernel
theorem d_M_readStatement_113 : decode b_M_readStatement 113 = .ok (.getfield 114, 3) := by decide +kernel
theorem d_M_readStatement_116 : decode b_M_readStatement 116 = .ok (.aload_n 0, 1) := by decide +kernel
theorem d_M_readStatement_117 : decode b_M_readStatement 117 = .ok (.getfield 117, 3) := by decide +kernel
theorem d_M_readStatement_120 : decode b_M_readStatement 120 = .ok (.ifCond .eq 7, 3) := by decide +kernel
theorem d_M_readStatement_123 : decode b_M_readStatement 123 = .ok (.iconst 0, 1) := by decide +kernel
theorem d_M_readStatement_124 : decode b_M_readStatement 124 = .ok (.goto 4, 3) := by decide +kernel
theorem d_M_readStatement_127 : decode b_M_readStatement 127 = .ok (.iconst 1, 1) := by decide +kernel
theorem d_M_readStatement_128 : decode b_M_readStatement 128 = .ok (.iadd, 1) := by decide +kernel
theorem d_M_readStatement_129 : decode b_M_readStatement 129 = .ok (.putfield 114, 3) := by decide +kernel
theorem d_M_readStatement_132 : decode b_M_readStatement 132 = .ok (.aload_n 0, 1) := by decide +kernel
theorem d_M_readStatement_133 : decode b_M_readStatement 133 = .ok (.dup, 1) := by decide +kernel
theorem d_M_readStatement_134 : decode b_M_readStatement 134 = .ok (.getfield 132, 3) := by decide +kernel
theorem d_M_readStatement_137 : decode b_M_readStatement 137 = .ok (.iconst 1, 1) := by decide +kernel
theorem d_M_readStatement_138 : decode b_M_readStatement 138 = .ok (.iadd, 1) := by decide +kernel
theorem d_M_readStatement_139 : decode b_M_readStatement 139 = .ok (.putfield 132, 3) := by decide +kernel
theorem d_M_readStatement_142 : decode b_M_readStatement 142 = .ok (.return_, 1) := by decide +kernel
theorem d_M_hall_0 : decode b_M_hall 0 = .ok (.aload_n 0, 1) := by decide +kernel
theorem d_M_hall_1 : decode b_M_hall 1 = .ok (.iconst 0, 1) := by decide +kernel
theorem d_M_hall_2 : decode b_M_hall 2 = .ok (.putfield 67, 3) := by decide +kernel
theorem d_M_hall_5 : decode b_M_hall 5 = .ok (.aload_n 0, 1) := by decide +kernel
theorem d_M_hall_6 : decode b_M_hall 6 = .ok (.iconst 0, 1) := by decide +kernel
theorem d_M_hall_7 : decode b_M_hall 7 = .ok (.putfield 114, 3) := by decide +kernel
theorem d_M_hall_10 : decode b_M_hall 10 = .ok (.aload_n 0, 1) := by decide +kernel
theorem d_M_hall_11 : decode b_M_hall 11 = .ok (.iconst 0, 1) := by decide +kernel
theorem d_M_hall_12 : decode b_M_hall 12 = .ok (.putfield 117, 3) := by decide +kernel
theorem d_M_hall_15 : decode b_M_hall 15 = .ok (.aload_n 0, 1) := by decide +kernel
theorem d_M_hall_16 : decode b_M_hall 16 = .ok (.iconst 0, 1) := by decide +kernel
theorem d_M_hall_17 : decode b_M_hall 17 = .ok (.putfield 132, 3) := by decide +kernel
theorem d_M_hall_20 : decode b_M_hall 20 = .ok (.aload_n 0, 1) := by decide +kernel
theorem d_M_hall_21 : decode b_M_hall 21 = .ok (.getfield 117, 3) := by decide +kernel
theorem d_M_hall_24 : decode b_M_hall 24 = .ok (.ifCond .ne 28, 3) := by decide +kernel
theorem d_M_hall_27 : decode b_M_hall 27 = .ok (.aload_n 0, 1) := by decide +kernel
theorem d_M_hall_28 : decode b_M_hall 28 = .ok (.getfield 132, 3) := by decide +kernel
theorem d_M_hall_31 : decode b_M_hall 31 = .ok (.ifCond .eq 14, 3) := by decide +kernel
theorem d_M_hall_34 : decode b_M_hall 34 = .ok (.aload_n 0, 1) := by decide +kernel
theorem d_M_hall_35 : decode b_M_hall 35 = .ok (.getfield 114, 3) := by decide +kernel
theorem d_M_hall_38 : decode b_M_hall 38 = .ok (.aload_n 0, 1) := by decide +kernel
theorem d_M_hall_39 : decode b_M_hall 39 = .ok (.getfield 111, 3) := by decide +kernel
theorem d_M_hall_42 : decode b_M_hall 42 = .ok (.if_icmp .ge 10, 3) := by decide +kernel
theorem d_M_hall_45 : decode b_M_hall 45 = .ok (.aload_n 0, 1) := by decide +kernel
theorem d_M_hall_46 : decode b_M_hall 46 = .ok (.invokevirtual 162, 3) := by decide +kernel
theorem d_M_hall_49 : decode b_M_hall 49 = .ok (.goto (-29), 3) := by decide +kernel
theorem d_M_hall_52 : decode b_M_hall 52 = .ok (.aload_n 0, 1) := by decide +kernel
theorem d_M_hall_53 : decode b_M_hall 53 = .ok (.iconst 0, 1) := by decide +kernel
theorem d_M_hall_54 : decode b_M_hall 54 = .ok (.putfield 111, 3) := by decide +kernel
theorem d_M_hall_57 : decode b_M_hall 57 = .ok (.aload_n 0, 1) := by decide +kernel
theorem d_M_hall_58 : decode b_M_hall 58 = .ok (.getfield 117, 3) := by decide +kernel
theorem d_M_hall_61 : decode b_M_hall 61 = .ok (.ifCond .eq 12, 3) := by decide +kernel
theorem d_M_hall_64 : decode b_M_hall 64 = .ok (.sipush (-1000), 3) := by decide +kernel
theorem d_M_hall_67 : decode b_M_hall 67 = .ok (.aload_n 0, 1) := by decide +kernel
theorem d_M_hall_68 : decode b_M_hall 68 = .ok (.getfield 114, 3) := by decide +kernel
theorem d_M_hall_71 : decode b_M_hall 71 = .ok (.isub, 1) := by decide +kernel
theorem d_M_hall_72 : decode b_M_hall 72 = .ok (.ireturn, 1) := by decide +kernel
theorem d_M_hall_73 : decode b_M_hall 73 = .ok (.aload_n 0, 1) := by decide +kernel
theorem d_M_hall_74 : decode b_M_hall 74 = .ok (.invokevirtual 165, 3) := by decide +kernel
theorem d_M_hall_77 : decode b_M_hall 77 = .ok (.iconst 0, 1) := by decide +kernel
theorem d_M_hall_78 : decode b_M_hall 78 = .ok (.istore_n 1, 1) := by decide +kernel
theorem d_M_hall_79 : decode b_M_hall 79 = .ok (.iload_n 1, 1) := by decide +kernel
theorem d_M_hall_80 : decode b_M_hall 80 = .ok (.aload_n 0, 1) := by decide +kernel
theorem d_M_hall_81 : decode b_M_hall 81 = .ok (.getfield 132, 3) := by decide +kernel
theorem d_M_hall_84 : decode b_M_hall 84 = .ok (.if_icmp .ge 32, 3) := by decide +kernel
theorem d_M_hall_87 : decode b_M_hall 87 = .ok (.aload_n 0, 1) := by decide +kernel
theorem d_M_hall_88 : decode b_M_hall 88 = .ok (.iload_n 1, 1) := by decide +kernel
theorem d_M_hall_89 : decode b_M_hall 89 = .ok (.invokevirtual 168, 3) := by decide +kernel
theorem d_M_hall_92 : decode b_M_hall 92 = .ok (.ifCond .ne 18, 3) := by decide +kernel
theorem d_M_hall_95 : decode b_M_hall 95 = .ok (.aload_n 0, 1) := by decide +kernel
theorem d_M_hall_96 : decode b_M_hall 96 = .ok (.invokevirtual 171, 3) := by decide +kernel
theorem d_M_hall_99 : decode b_M_hall 99 = .ok (.sipush (-2000), 3) := by decide +kernel
theorem d_M_hall_102 : decode b_M_hall 102 = .ok (.aload_n 0, 1) := by decide +kernel
theorem d_M_hall_103 : decode b_M_hall 103 = .ok (.getfield 34, 3) := by decide +kernel
theorem d_M_hall_106 : decode b_M_hall 106 = .ok (.iload_n 1, 1) := by decide +kernel
theorem d_M_hall_107 : decode b_M_hall 107 = .ok (.iaload, 1) := by decide +kernel
theorem d_M_hall_108 : decode b_M_hall 108 = .ok (.isub, 1) := by decide +kernel
theorem d_M_hall_109 : decode b_M_hall 109 = .ok (.ireturn, 1) := by decide +kernel
theorem d_M_hall_110 : decode b_M_hall 110 = .ok (.iinc 1 1, 3) := by decide +kernel
theorem d_M_hall_113 : decode b_M_hall 113 = .ok (.goto (-34), 3) := by decide +kernel
theorem d_M_hall_116 : decode b_M_hall 116 = .ok (.aload_n 0, 1) := by decide +kernel
theorem d_M_hall_117 : decode b_M_hall 117 = .ok (.iconst 0, 1) := by decide +kernel
theorem d_M_hall_118 : decode b_M_hall 118 = .ok (.putfield 174, 3) := by decide +kernel
theorem d_M_hall_121 : decode b_M_hall 121 = .ok (.aload_n 0, 1) := by decide +kernel
theorem d_M_hall_122 : decode b_M_hall 122 = .ok (.getfield 132, 3) := by decide +kernel
theorem d_M_hall_125 : decode b_M_hall 125 = .ok (.ireturn, 1) := by decide +kernel
theorem d_M_image_0 : decode b_M_image 0 = .ok (.aload_n 0, 1) := by decide +kernel
theorem d_M_image_1 : decode b_M_image 1 = .ok (.iconst 0, 1) := by decide +kernel
theorem d_M_image_2 : decode b_M_image 2 = .ok (.putfield 67, 3) := by decide +kernel
theorem d_M_image_5 : decode b_M_image 5 = .ok (.aload_n 0, 1) := by decide +kernel
theorem d_M_image_6 : decode b_M_image 6 = .ok (.iconst 1, 1) := by decide +kernel
theorem d_M_image_7 : decode b_M_image 7 = .ok (.putfield 193, 3) := by decide +kernel
theorem d_M_image_10 : decode b_M_image 10 = .ok (.aload_n 0, 1) := by decide +kernel
theorem d_M_image_11 : decode b_M_image 11 = .ok (.aload_n 0, 1) := by decide +kernel
theorem d_M_image_12 : decode b_M_image 12 = .ok (.getfield 46, 3) := by decide +kernel
theorem d_M_image_15 : decode b_M_image 15 = .ok (.iconst 1, 1) := by decide +kernel
theorem d_M_image_16 : decode b_M_image 16 = .ok (.invokevirtual 189, 3) := by decide +kernel
theorem d_M_image_19 : decode b_M_image 19 = .ok (.aload_n 0, 1) := by decide +kernel
theorem d_M_image_20 : decode b_M_image 20 = .ok (.getfield 105, 3) := by decide +kernel
theorem d_M_image_23 : decode b_M_image 23 = .ok (.ireturn, 1) := by decide +kernel
theorem d_M_isRow_0 : decode b_M_isRow 0 = .ok (.iconst 1, 1) := by decide +kernel
theorem d_M_isRow_1 : decode b_M_isRow 1 = .ok (.istore_n 3, 1) := by decide +kernel
theorem d_M_isRow_2 : decode b_M_isRow 2 = .ok (.iconst 0, 1) := by decide +kernel
theorem d_M_isRow_3 : decode b_M_isRow 3 = .ok (.istore 4, 2) := by decide +kernel
theorem d_M_isRow_5 : decode b_M_isRow 5 = .ok (.iload 4, 2) := by decide +kernel
theorem d_M_isRow_7 : decode b_M_isRow 7 = .ok (.aload_n 0, 1) := by decide +kernel
theorem d_M_isRow_8 : decode b_M_isRow 8 = .ok (.getfield 252, 3) := by decide +kernel
theorem d_M_isRow_11 : decode b_M_isRow 11 = .ok (.if_icmp .ge 56, 3) := by decide +kernel
theorem d_M_isRow_14 : decode b_M_isRow 14 = .ok (.iload_n 3, 1) := by decide +kernel
theorem d_M_isRow_15 : decode b_M_isRow 15 = .ok (.ifCond .eq 44, 3) := by decide +kernel
theorem d_M_isRow_18 : decode b_M_isRow 18 = .ok (.aload_n 0, 1) := by decide +kernel
theorem d_M_isRow_19 : decode b_M_isRow 19 = .ok (.getfield 64, 3) := by decide +kernel
theorem d_M_isRow_22 : decode b_M_isRow 22 = .ok (.iload 4, 2) := by decide +kernel
theorem d_M_isRow_24 : decode b_M_isRow 24 = .ok (.iaload, 1) := by decide +kernel
theorem d_M_isRow_25 : decode b_M_isRow 25 = .ok (.iconst 2, 1) := by decide +kernel
theorem d_M_isRow_26 : decode b_M_isRow 26 = .ok (.if_icmp .eq 29, 3) := by decide +kernel
theorem d_M_isRow_29 : decode b_M_isRow 29 = .ok (.aload_n 0, 1) := by decide +kernel
theorem d_M_isRow_30 : decode b_M_isRow 30 = .ok (.getfield 64, 3) := by decide +kernel
theorem d_M_isRow_33 : decode b_M_isRow 33 = .ok (.iload 4, 2) := by decide +kernel
theorem d_M_isRow_35 : decode b_M_isRow 35 = .ok (.iaload, 1) := by decide +kernel
theorem d_M_isRow_36 : decode b_M_isRow 36 = .ok (.iconst 1, 1) := by decide +kernel
theorem d_M_isRow_37 : decode b_M_isRow 37 = .ok (.if_icmp .ne 7, 3) := by decide +kernel
theorem d_M_isRow_40 : decode b_M_isRow 40 = .ok (.iconst 1, 1) := by decide +kernel
theorem d_M_isRow_41 : decode b_M_isRow 41 = .ok (.goto 4, 3) := by decide +kernel
theorem d_M_isRow_44 : decode b_M_isRow 44 = .ok (.iconst 0, 1) := by decide +kernel
theorem d_M_isRow_45 : decode b_M_isRow 45 = .ok (.iload_n 1, 1) := by decide +kernel
theorem d_M_isRow_46 : decode b_M_isRow 46 = .ok (.iload_n 2, 1) := by decide +kernel
theorem d_M_isRow_47 : decode b_M_isRow 47 = .ok (.iload 4, 2) := by decide +kernel
theorem d_M_isRow_49 : decode b_M_isRow 49 = .ok (.invokestatic 81, 3) := by decide +kernel
theorem d_M_isRow_52 : decode b_M_isRow 52 = .ok (.if_icmp .ne 7, 3) := by decide +kernel
theorem d_M_isRow_55 : decode b_M_isRow 55 = .ok (.iconst 1, 1) := by decide +kernel
theorem d_M_isRow_56 : decode b_M_isRow 56 = .ok (.goto 4, 3) := by decide +kernel
theorem d_M_isRow_59 : decode b_M_isRow 59 = .ok (.iconst 0, 1) := by decide +kernel
theorem d_M_isRow_60 : decode b_M_isRow 60 = .ok (.istore_n 3, 1) := by decide +kernel
theorem d_M_isRow_61 : decode b_M_isRow 61 = .ok (.iinc 4 1, 3) := by decide +kernel
theorem d_M_isRow_64 : decode b_M_isRow 64 = .ok (.goto (-59), 3) := by decide +kernel
theorem d_M_isRow_67 : decode b_M_isRow 67 = .ok (.iload_n 3, 1) := by decide +kernel
theorem d_M_isRow_68 : decode b_M_isRow 68 = .ok (.ireturn, 1) := by decide +kernel
theorem d_M_judge_0 : decode b_M_judge 0 = .ok (.aload_n 0, 1) := by decide +kernel
theorem d_M_judge_1 : decode b_M_judge 1 = .ok (.iconst 0, 1) := by decide +kernel
theorem d_M_judge_2 : decode b_M_judge 2 = .ok (.putfield 67, 3) := by decide +kernel
theorem d_M_judge_5 : decode b_M_judge 5 = .ok (.aload_n 0, 1) := by decide +kernel
theorem d_M_judge_6 : decode b_M_judge 6 = .ok (.getfield 252, 3) := by decide +kernel
theorem d_M_judge_9 : decode b_M_judge 9 = .ok (.istore_n 1, 1) := by decide +kernel
theorem d_M_judge_10 : decode b_M_judge 10 = .ok (.aload_n 0, 1) := by decide +kernel
theorem d_M_judge_11 : decode b_M_judge 11 = .ok (.iconst 0, 1) := by decide +kernel
theorem d_M_judge_12 : decode b_M_judge 12 = .ok (.putfield 252, 3) := by decide +kernel
theorem d_M_judge_15 : decode b_M_judge 15 = .ok (.iconst 0, 1) := by decide +kernel
theorem d_M_judge_16 : decode b_M_judge 16 = .ok (.istore_n 2, 1) := by decide +kernel
theorem d_M_judge_17 : decode b_M_judge 17 = .ok (.iload_n 2, 1) := by decide +kernel
