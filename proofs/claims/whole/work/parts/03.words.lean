theorem qc_Jint_265 : Cond.constant "java/lang/Integer" 265 1431655765 ∈ lw_g := q_at (i := 624) (by decide +kernel) rfl
theorem qc_Jint_266 : Cond.constant "java/lang/Integer" 266 858993459 ∈ lw_g := q_at (i := 625) (by decide +kernel) rfl
theorem qc_Jint_267 : Cond.constant "java/lang/Integer" 267 252645135 ∈ lw_g := q_at (i := 626) (by decide +kernel) rfl
theorem qc_Jlong_314 : Cond.constantLong "java/lang/Long" 314 6148914691236517205 ∈ lw_g := q_at (i := 686) (by decide +kernel) rfl
theorem qc_Jlong_316 : Cond.constantLong "java/lang/Long" 316 3689348814741910323 ∈ lw_g := q_at (i := 687) (by decide +kernel) rfl
theorem qc_Jlong_318 : Cond.constantLong "java/lang/Long" 318 1085102592571150095 ∈ lw_g := q_at (i := 688) (by decide +kernel) rfl
theorem qf_Sta_47 : Cond.fieldLink R_Sta 47 R_Sta "days" "I" ∈ lw_g := q_at (i := 116) (by decide +kernel) rfl
abbrev b_Sta_hasDay : ByteArray := prog_10_method_4_code
def y_Sta_hasDay : MethodName := ⟨R_Sta, "hasDay", "(I)Z"⟩
set_option maxRecDepth 40000 in
theorem mw_Sta_hasDay : mW y_Sta_hasDay b_Sta_hasDay 2 (some FieldType.boolean) 1 := ⟨q_at (i := 382) rfl rfl, q_at (i := 49) (by decide +kernel) rfl, by decide, by decide, by decide +kernel⟩
theorem mv_Sta_hasDay : mV y_Sta_hasDay := ⟨q_at (i := 380) (by decide +kernel) rfl, q_at (i := 381) (by decide +kernel) rfl⟩
theorem qm_Sta_65 : Cond.methodLink R_Sta 65 y_Sta_hasDay ∈ lw_g := q_at (i := 379) (by decide +kernel) rfl
theorem qf_Sta_24 : Cond.fieldLink R_Sta 24 R_Sta "hampers" "[I" ∈ lw_g := q_at (i := 112) (by decide +kernel) rfl
abbrev b_H_holds : ByteArray := prog_1_method_52_code
def y_H_holds : MethodName := ⟨R_H, "holds", "(II)Z"⟩
set_option maxRecDepth 40000 in
theorem mw_H_holds : mW y_H_holds b_H_holds 2 (some FieldType.boolean) 2 := ⟨q_at (i := 441) rfl rfl, q_at (i := 48) (by decide +kernel) rfl, by decide, by decide, by decide +kernel⟩
theorem ms_H_holds : Cond.static y_H_holds ∈ lw_g := q_at (i := 440) (by decide +kernel) rfl
theorem qm_Sta_77 : Cond.methodLinkNest R_Sta 77 y_H_holds "HamperByWeather" ∈ lw_tbl := List.mem_of_getElem? (i := 439) (by decide +kernel)
theorem qf_Sta_21 : Cond.fieldLink R_Sta 21 R_Sta "goes" "[I" ∈ lw_g := q_at (i := 105) (by decide +kernel) rfl
theorem qf_Sta_9 : Cond.fieldLink R_Sta 9 R_Sta "weights" "[I" ∈ lw_g := q_at (i := 98) (by decide +kernel) rfl
abbrev b_Sta_couldBe : ByteArray := prog_10_method_18_code
def y_Sta_couldBe : MethodName := ⟨R_Sta, "couldBe", "(I)I"⟩
set_option maxRecDepth 40000 in
theorem mw_Sta_couldBe : mW y_Sta_couldBe b_Sta_couldBe 4 (some FieldType.int) 1 := ⟨q_at (i := 438) rfl rfl, q_at (i := 49) (by decide +kernel) rfl, by decide, by decide, by decide +kernel⟩
theorem mv_Sta_couldBe : mV y_Sta_couldBe := ⟨q_at (i := 436) (by decide +kernel) rfl, q_at (i := 437) (by decide +kernel) rfl⟩
theorem qm_Sta_91 : Cond.methodLink R_Sta 91 y_Sta_couldBe ∈ lw_g := q_at (i := 435) (by decide +kernel) rfl
abbrev b_Sta_likeliestOf : ByteArray := prog_10_method_21_code
def y_Sta_likeliestOf : MethodName := ⟨R_Sta, "likeliestOf", "(I)I"⟩
set_option maxRecDepth 40000 in
theorem mw_Sta_likeliestOf : mW y_Sta_likeliestOf b_Sta_likeliestOf 5 (some FieldType.int) 1 := ⟨q_at (i := 445) rfl rfl, q_at (i := 49) (by decide +kernel) rfl, by decide, by decide, by decide +kernel⟩
theorem mv_Sta_likeliestOf : mV y_Sta_likeliestOf := ⟨q_at (i := 443) (by decide +kernel) rfl, q_at (i := 444) (by decide +kernel) rfl⟩
theorem qm_Sta_94 : Cond.methodLink R_Sta 94 y_Sta_likeliestOf ∈ lw_g := q_at (i := 442) (by decide +kernel) rfl
theorem qm_Dia_23 : Cond.methodLink R_Dia 23 y_Sta_hasDay ∈ lw_g := q_at (i := 656) (by decide +kernel) rfl
abbrev b_Sta_hamperOf : ByteArray := prog_10_method_17_code
def y_Sta_hamperOf : MethodName := ⟨R_Sta, "hamperOf", "(I)I"⟩
set_option maxRecDepth 40000 in
theorem mw_Sta_hamperOf : mW y_Sta_hamperOf b_Sta_hamperOf 2 (some FieldType.int) 1 := ⟨q_at (i := 430) rfl rfl, q_at (i := 49) (by decide +kernel) rfl, by decide, by decide, by decide +kernel⟩
theorem mv_Sta_hamperOf : mV y_Sta_hamperOf := ⟨q_at (i := 428) (by decide +kernel) rfl, q_at (i := 429) (by decide +kernel) rfl⟩
theorem qm_Dia_9 : Cond.methodLink R_Dia 9 y_Sta_hamperOf ∈ lw_g := q_at (i := 647) (by decide +kernel) rfl
abbrev b_Sta_likeliestBy : ByteArray := prog_10_method_22_code
def y_Sta_likeliestBy : MethodName := ⟨R_Sta, "likeliestBy", "(I)I"⟩
set_option maxRecDepth 40000 in
theorem mw_Sta_likeliestBy : mW y_Sta_likeliestBy b_Sta_likeliestBy 2 (some FieldType.int) 1 := ⟨q_at (i := 434) rfl rfl, q_at (i := 49) (by decide +kernel) rfl, by decide, by decide, by decide +kernel⟩
theorem mv_Sta_likeliestBy : mV y_Sta_likeliestBy := ⟨q_at (i := 432) (by decide +kernel) rfl, q_at (i := 433) (by decide +kernel) rfl⟩
theorem qm_Dia_54 : Cond.methodLink R_Dia 54 y_Sta_likeliestBy ∈ lw_g := q_at (i := 863) (by decide +kernel) rfl
theorem qf_Dia_42 : Cond.fieldLinkNest R_Dia 42 R_Sta "things" "I" "HamperByWeather" ∈ lw_tbl := List.mem_of_getElem? (i := 110) (by decide +kernel)
abbrev b_Dia_likelyWithout : ByteArray := prog_2_method_11_code
def y_Dia_likelyWithout : MethodName := ⟨R_Dia, "likelyWithout", "(LHamperByWeather$State;I)I"⟩
set_option maxRecDepth 40000 in
theorem mw_Dia_likelyWithout : mW y_Dia_likelyWithout b_Dia_likelyWithout 4 (some FieldType.int) 2 := ⟨q_at (i := 913) rfl rfl, q_at (i := 63) (by decide +kernel) rfl, by decide, by decide, by decide +kernel⟩
theorem ms_Dia_likelyWithout : Cond.static y_Dia_likelyWithout ∈ lw_g := q_at (i := 912) (by decide +kernel) rfl
theorem qm_Dia_51 : Cond.methodLink R_Dia 51 y_Dia_likelyWithout ∈ lw_g := q_at (i := 911) (by decide +kernel) rfl
abbrev b_Dia_winsBy : ByteArray := prog_2_method_16_code
def y_Dia_winsBy : MethodName := ⟨R_Dia, "winsBy", "(IIII)I"⟩
set_option maxRecDepth 40000 in
theorem mw_Dia_winsBy : mW y_Dia_winsBy b_Dia_winsBy 6 (some FieldType.int) 4 := ⟨q_at (i := 821) rfl rfl, q_at (i := 63) (by decide +kernel) rfl, by decide, by decide, by decide +kernel⟩
theorem ms_Dia_winsBy : Cond.static y_Dia_winsBy ∈ lw_g := q_at (i := 820) (by decide +kernel) rfl
theorem qm_Dia_64 : Cond.methodLink R_Dia 64 y_Dia_winsBy ∈ lw_g := q_at (i := 819) (by decide +kernel) rfl
abbrev b_Dia_likelyOfTwo : ByteArray := prog_2_method_14_code
def y_Dia_likelyOfTwo : MethodName := ⟨R_Dia, "likelyOfTwo", "(LHamperByWeather$State;II)I"⟩
set_option maxRecDepth 40000 in
theorem mw_Dia_likelyOfTwo : mW y_Dia_likelyOfTwo b_Dia_likelyOfTwo 5 (some FieldType.int) 3 := ⟨q_at (i := 862) rfl rfl, q_at (i := 63) (by decide +kernel) rfl, by decide, by decide, by decide +kernel⟩
theorem ms_Dia_likelyOfTwo : Cond.static y_Dia_likelyOfTwo ∈ lw_g := q_at (i := 861) (by decide +kernel) rfl
theorem qm_Dia_61 : Cond.methodLink R_Dia 61 y_Dia_likelyOfTwo ∈ lw_g := q_at (i := 860) (by decide +kernel) rfl
theorem qm_Dia_15 : Cond.methodLinkNest R_Dia 15 y_H_holds "HamperByWeather" ∈ lw_tbl := List.mem_of_getElem? (i := 648) (by decide +kernel)
theorem qf_Dia_30 : Cond.fieldLinkNest R_Dia 30 R_Sta "days" "I" "HamperByWeather" ∈ lw_tbl := List.mem_of_getElem? (i := 117) (by decide +kernel)
abbrev b_Dia_firstSwapOf : ByteArray := prog_2_method_13_code
def y_Dia_firstSwapOf : MethodName := ⟨R_Dia, "firstSwapOf", "(LHamperByWeather$State;II)I"⟩
set_option maxRecDepth 40000 in
theorem mw_Dia_firstSwapOf : mW y_Dia_firstSwapOf b_Dia_firstSwapOf 8 (some FieldType.int) 3 := ⟨q_at (i := 859) rfl rfl, q_at (i := 63) (by decide +kernel) rfl, by decide, by decide, by decide +kernel⟩
theorem ms_Dia_firstSwapOf : Cond.static y_Dia_firstSwapOf ∈ lw_g := q_at (i := 858) (by decide +kernel) rfl
theorem qm_Dia_57 : Cond.methodLink R_Dia 57 y_Dia_firstSwapOf ∈ lw_g := q_at (i := 857) (by decide +kernel) rfl
theorem qf_Dia_19 : Cond.fieldLinkNest R_Dia 19 R_Sta "kinds" "[I" "HamperByWeather" ∈ lw_tbl := List.mem_of_getElem? (i := 101) (by decide +kernel)
theorem qf_Sta_15 : Cond.fieldLink R_Sta 15 R_Sta "kinds" "[I" ∈ lw_g := q_at (i := 100) (by decide +kernel) rfl
theorem qf_Sta_18 : Cond.fieldLink R_Sta 18 R_Sta "figures" "[I" ∈ lw_g := q_at (i := 103) (by decide +kernel) rfl
abbrev b_Kin_heavy : ByteArray := prog_6_method_6_code
def y_Kin_heavy : MethodName := ⟨R_Kin, "heavy", "(II)I"⟩
set_option maxRecDepth 40000 in
theorem mw_Kin_heavy : mW y_Kin_heavy b_Kin_heavy 5 (some FieldType.int) 2 := ⟨q_at (i := 471) rfl rfl, q_at (i := 59) (by decide +kernel) rfl, by decide, by decide, by decide +kernel⟩
theorem ms_Kin_heavy : Cond.static y_Kin_heavy ∈ lw_g := q_at (i := 470) (by decide +kernel) rfl
theorem qm_Sta_85 : Cond.methodLink R_Sta 85 y_Kin_heavy ∈ lw_g := q_at (i := 489) (by decide +kernel) rfl
abbrev b_Sta_heavyOf : ByteArray := prog_10_method_19_code
def y_Sta_heavyOf : MethodName := ⟨R_Sta, "heavyOf", "(I)I"⟩
set_option maxRecDepth 40000 in
theorem mw_Sta_heavyOf : mW y_Sta_heavyOf b_Sta_heavyOf 4 (some FieldType.int) 1 := ⟨q_at (i := 488) rfl rfl, q_at (i := 49) (by decide +kernel) rfl, by decide, by decide, by decide +kernel⟩
theorem mv_Sta_heavyOf : mV y_Sta_heavyOf := ⟨q_at (i := 486) (by decide +kernel) rfl, q_at (i := 487) (by decide +kernel) rfl⟩
theorem qm_Dia_39 : Cond.methodLink R_Dia 39 y_Sta_heavyOf ∈ lw_g := q_at (i := 848) (by decide +kernel) rfl
abbrev b_Dia_timesPacked : ByteArray := prog_2_method_8_code
def y_Dia_timesPacked : MethodName := ⟨R_Dia, "timesPacked", "(LHamperByWeather$State;I)I"⟩
set_option maxRecDepth 40000 in
theorem mw_Dia_timesPacked : mW y_Dia_timesPacked b_Dia_timesPacked 4 (some FieldType.int) 2 := ⟨q_at (i := 873) rfl rfl, q_at (i := 63) (by decide +kernel) rfl, by decide, by decide, by decide +kernel⟩
theorem ms_Dia_timesPacked : Cond.static y_Dia_timesPacked ∈ lw_g := q_at (i := 872) (by decide +kernel) rfl
theorem qm_Dia_45 : Cond.methodLink R_Dia 45 y_Dia_timesPacked ∈ lw_g := q_at (i := 871) (by decide +kernel) rfl
theorem qm_Dia_27 : Cond.methodLink R_Dia 27 y_Sta_couldBe ∈ lw_g := q_at (i := 657) (by decide +kernel) rfl
abbrev b_Jint_bitCount : ByteArray := prog_15_method_49_code
def y_Jint_bitCount : MethodName := ⟨R_Jint, "bitCount", "(I)I"⟩
set_option maxRecDepth 40000 in
theorem mw_Jint_bitCount : mW y_Jint_bitCount b_Jint_bitCount 1 (some FieldType.int) 1 := ⟨q_at (i := 623) rfl rfl, q_at (i := 62) (by decide +kernel) rfl, by decide, by decide, by decide +kernel⟩
theorem ms_Jint_bitCount : Cond.static y_Jint_bitCount ∈ lw_g := q_at (i := 622) (by decide +kernel) rfl
theorem qm_Dia_34 : Cond.methodLink R_Dia 34 y_Jint_bitCount ∈ lw_g := q_at (i := 882) (by decide +kernel) rfl
theorem qm_Fld_22 : Cond.methodLinkNest R_Fld 22 y_H_holds "HamperByWeather" ∈ lw_tbl := List.mem_of_getElem? (i := 458) (by decide +kernel)
theorem qf_Fld_15 : Cond.fieldLink R_Fld 15 R_Fld "lefts" "[I" ∈ lw_g := q_at (i := 89) (by decide +kernel) rfl
abbrev b_Fld_leftAmong : ByteArray := prog_3_method_11_code
def y_Fld_leftAmong : MethodName := ⟨R_Fld, "leftAmong", "(I)I"⟩
set_option maxRecDepth 40000 in
theorem mw_Fld_leftAmong : mW y_Fld_leftAmong b_Fld_leftAmong 4 (some FieldType.int) 1 := ⟨q_at (i := 740) rfl rfl, q_at (i := 50) (by decide +kernel) rfl, by decide, by decide, by decide +kernel⟩
theorem mv_Fld_leftAmong : mV y_Fld_leftAmong := ⟨q_at (i := 738) (by decide +kernel) rfl, q_at (i := 739) (by decide +kernel) rfl⟩
theorem qm_Fld_30 : Cond.methodLink R_Fld 30 y_Fld_leftAmong ∈ lw_g := q_at (i := 837) (by decide +kernel) rfl
abbrev b_H_isField : ByteArray := prog_1_method_50_code
def y_H_isField : MethodName := ⟨R_H, "isField", "(I)Z"⟩
set_option maxRecDepth 40000 in
theorem mw_H_isField : mW y_H_isField b_H_isField 1 (some FieldType.boolean) 1 := ⟨q_at (i := 374) rfl rfl, q_at (i := 48) (by decide +kernel) rfl, by decide, by decide, by decide +kernel⟩
theorem ms_H_isField : Cond.static y_H_isField ∈ lw_g := q_at (i := 373) (by decide +kernel) rfl
theorem qm_Fld_18 : Cond.methodLinkNest R_Fld 18 y_H_isField "HamperByWeather" ∈ lw_tbl := List.mem_of_getElem? (i := 372) (by decide +kernel)
theorem qf_Fld_9 : Cond.fieldLink R_Fld 9 R_Fld "wishes" "[I" ∈ lw_g := q_at (i := 85) (by decide +kernel) rfl
abbrev b_Fld_leftOf : ByteArray := prog_3_method_5_code
def y_Fld_leftOf : MethodName := ⟨R_Fld, "leftOf", "(I)I"⟩
set_option maxRecDepth 40000 in
theorem mw_Fld_leftOf : mW y_Fld_leftOf b_Fld_leftOf 2 (some FieldType.int) 1 := ⟨q_at (i := 901) rfl rfl, q_at (i := 50) (by decide +kernel) rfl, by decide, by decide, by decide +kernel⟩
theorem mv_Fld_leftOf : mV y_Fld_leftOf := ⟨q_at (i := 899) (by decide +kernel) rfl, q_at (i := 900) (by decide +kernel) rfl⟩
theorem qm_Fld_33 : Cond.methodLink R_Fld 33 y_Fld_leftOf ∈ lw_g := q_at (i := 898) (by decide +kernel) rfl
abbrev b_Fld_fieldFor : ByteArray := prog_3_method_6_code
def y_Fld_fieldFor : MethodName := ⟨R_Fld, "fieldFor", "(I)I"⟩
set_option maxRecDepth 40000 in
theorem mw_Fld_fieldFor : mW y_Fld_fieldFor b_Fld_fieldFor 3 (some FieldType.int) 1 := ⟨q_at (i := 457) rfl rfl, q_at (i := 50) (by decide +kernel) rfl, by decide, by decide, by decide +kernel⟩
theorem mv_Fld_fieldFor : mV y_Fld_fieldFor := ⟨q_at (i := 455) (by decide +kernel) rfl, q_at (i := 456) (by decide +kernel) rfl⟩
theorem qm_Fld_26 : Cond.methodLink R_Fld 26 y_Fld_fieldFor ∈ lw_g := q_at (i := 454) (by decide +kernel) rfl
theorem qf_Frc_7 : Cond.fieldLink R_Frc 7 R_Frc "above" "J" ∈ lw_g := q_at (i := 263) (by decide +kernel) rfl
theorem qf_Frc_13 : Cond.fieldLink R_Frc 13 R_Frc "below" "J" ∈ lw_g := q_at (i := 264) (by decide +kernel) rfl
abbrev b_Frc_greatestShared : ByteArray := prog_4_method_4_code
def y_Frc_greatestShared : MethodName := ⟨R_Frc, "greatestShared", "(JJ)J"⟩
set_option maxRecDepth 40000 in
theorem mw_Frc_greatestShared : mW y_Frc_greatestShared b_Frc_greatestShared 11 (some FieldType.long) 2 := ⟨q_at (i := 608) rfl rfl, q_at (i := 56) (by decide +kernel) rfl, by decide, by decide, by decide +kernel⟩
theorem ms_Frc_greatestShared : Cond.static y_Frc_greatestShared ∈ lw_g := q_at (i := 607) (by decide +kernel) rfl
theorem qm_Frc_16 : Cond.methodLink R_Frc 16 y_Frc_greatestShared ∈ lw_g := q_at (i := 606) (by decide +kernel) rfl
theorem qf_Har_48 : Cond.fieldLink R_Har 48 R_Har "days" "I" ∈ lw_g := q_at (i := 222) (by decide +kernel) rfl
theorem qm_Har_64 : Cond.methodLinkNest R_Har 64 y_H_holds "HamperByWeather" ∈ lw_tbl := List.mem_of_getElem? (i := 719) (by decide +kernel)
theorem qf_Har_12 : Cond.fieldLink R_Har 12 R_Har "fields" "LHamperByWeather$Fields;" ∈ lw_g := q_at (i := 219) (by decide +kernel) rfl
theorem qf_Har_18 : Cond.fieldLink R_Har 18 R_Har "weathers" "[I" ∈ lw_g := q_at (i := 221) (by decide +kernel) rfl
theorem qm_Har_108 : Cond.methodLink R_Har 108 y_Fld_fieldFor ∈ lw_g := q_at (i := 756) (by decide +kernel) rfl
theorem qf_Har_28 : Cond.fieldLinkNest R_Har 28 R_Sta "fields" "LHamperByWeather$Fields;" "HamperByWeather" ∈ lw_tbl := List.mem_of_getElem? (i := 120) (by decide +kernel)
abbrev b_Fld_copyFrom : ByteArray := prog_3_method_3_code
def y_Fld_copyFrom : MethodName := ⟨R_Fld, "copyFrom", "(LHamperByWeather$Fields;)V"⟩
set_option maxRecDepth 40000 in
theorem mw_Fld_copyFrom : mW y_Fld_copyFrom b_Fld_copyFrom 3 none 1 := ⟨q_at (i := 342) rfl rfl, q_at (i := 50) (by decide +kernel) rfl, by decide, by decide, by decide +kernel⟩
theorem mv_Fld_copyFrom : mV y_Fld_copyFrom := ⟨q_at (i := 340) (by decide +kernel) rfl, q_at (i := 341) (by decide +kernel) rfl⟩
theorem qm_Har_31 : Cond.methodLink R_Har 31 y_Fld_copyFrom ∈ lw_g := q_at (i := 713) (by decide +kernel) rfl
theorem qf_Har_35 : Cond.fieldLinkNest R_Har 35 R_Sta "days" "I" "HamperByWeather" ∈ lw_tbl := List.mem_of_getElem? (i := 115) (by decide +kernel)
theorem qm_Har_39 : Cond.methodLink R_Har 39 Lib.Math.min.name ∈ lw_g := q_at (i := 714) (by decide +kernel) rfl
theorem qm_Har_45 : Cond.methodLink R_Har 45 Lib.Math.max.name ∈ lw_g := q_at (i := 715) (by decide +kernel) rfl
theorem qm_Har_49 : Cond.methodLink R_Har 49 y_Sta_hasDay ∈ lw_g := q_at (i := 716) (by decide +kernel) rfl
theorem qm_Har_53 : Cond.methodLink R_Har 53 y_Sta_hamperOf ∈ lw_g := q_at (i := 717) (by decide +kernel) rfl
theorem qm_Har_57 : Cond.methodLink R_Har 57 y_Sta_likeliestBy ∈ lw_g := q_at (i := 718) (by decide +kernel) rfl
theorem qc_Har_134 : Cond.constant "HamperByWeather$Harvest" 134 2147483647 ∈ lw_g := q_at (i := 949) (by decide +kernel) rfl
theorem qc_Har_135 : Cond.constant "HamperByWeather$Harvest" 135 65536 ∈ lw_g := q_at (i := 950) (by decide +kernel) rfl
theorem qf_Har_85 : Cond.fieldLink R_Har 85 R_Har "counted" "I" ∈ lw_g := q_at (i := 225) (by decide +kernel) rfl
theorem qf_Har_25 : Cond.fieldLink R_Har 25 R_Har "best" "[I" ∈ lw_g := q_at (i := 224) (by decide +kernel) rfl
theorem qf_Har_22 : Cond.fieldLink R_Har 22 R_Har "path" "[I" ∈ lw_g := q_at (i := 223) (by decide +kernel) rfl
theorem qf_Har_91 : Cond.fieldLink R_Har 91 R_Har "most" "I" ∈ lw_g := q_at (i := 227) (by decide +kernel) rfl
abbrev b_Har_keepPath : ByteArray := prog_5_method_10_code
def y_Har_keepPath : MethodName := ⟨R_Har, "keepPath", "(I)V"⟩
set_option maxRecDepth 40000 in
theorem mw_Har_keepPath : mW y_Har_keepPath b_Har_keepPath 4 none 1 := ⟨q_at (i := 751) rfl rfl, q_at (i := 55) (by decide +kernel) rfl, by decide, by decide, by decide +kernel⟩
theorem mv_Har_keepPath : mV y_Har_keepPath := ⟨q_at (i := 750) (by decide +kernel) rfl, q_at (i := 11) (by decide +kernel) rfl⟩
theorem qm_Har_98 : Cond.methodLink R_Har 98 y_Har_keepPath ∈ lw_g := q_at (i := 748) (by decide +kernel) rfl
abbrev b_Har_ableWithout : ByteArray := prog_5_method_9_code
def y_Har_ableWithout : MethodName := ⟨R_Har, "ableWithout", "(I)I"⟩
set_option maxRecDepth 40000 in
theorem mw_Har_ableWithout : mW y_Har_ableWithout b_Har_ableWithout 4 (some FieldType.int) 1 := ⟨q_at (i := 755) rfl rfl, q_at (i := 55) (by decide +kernel) rfl, by decide, by decide, by decide +kernel⟩
theorem mv_Har_ableWithout : mV y_Har_ableWithout := ⟨q_at (i := 754) (by decide +kernel) rfl, q_at (i := 12) (by decide +kernel) rfl⟩
theorem qm_Har_102 : Cond.methodLink R_Har 102 y_Har_ableWithout ∈ lw_g := q_at (i := 752) (by decide +kernel) rfl
theorem qf_Har_88 : Cond.fieldLink R_Har 88 R_Har "atMost" "I" ∈ lw_g := q_at (i := 226) (by decide +kernel) rfl
abbrev b_Fld_work : ByteArray := prog_3_method_7_code
def y_Fld_work : MethodName := ⟨R_Fld, "work", "(I)I"⟩
set_option maxRecDepth 40000 in
theorem mw_Fld_work : mW y_Fld_work b_Fld_work 3 (some FieldType.int) 1 := ⟨q_at (i := 453) rfl rfl, q_at (i := 50) (by decide +kernel) rfl, by decide, by decide, by decide +kernel⟩
theorem mv_Fld_work : mV y_Fld_work := ⟨q_at (i := 451) (by decide +kernel) rfl, q_at (i := 452) (by decide +kernel) rfl⟩
theorem qm_Har_68 : Cond.methodLink R_Har 68 y_Fld_work ∈ lw_g := q_at (i := 720) (by decide +kernel) rfl
abbrev b_Har_extendPath : ByteArray := prog_5_method_8_code
def y_Har_extendPath : MethodName := ⟨R_Har, "extendPath", "(LHamperByWeather$Harvest;III)V"⟩
set_option maxRecDepth 40000 in
theorem mw_Har_extendPath : mW y_Har_extendPath b_Har_extendPath 8 none 4 := ⟨q_at (i := 747) rfl rfl, q_at (i := 55) (by decide +kernel) rfl, by decide, by decide, by decide +kernel⟩
theorem ms_Har_extendPath : Cond.static y_Har_extendPath ∈ lw_g := q_at (i := 746) (by decide +kernel) rfl
theorem qm_Har_94 : Cond.methodLink R_Har 94 y_Har_extendPath ∈ lw_g := q_at (i := 745) (by decide +kernel) rfl
abbrev b_Fld_undoWork : ByteArray := prog_3_method_8_code
def y_Fld_undoWork : MethodName := ⟨R_Fld, "undoWork", "(I)V"⟩
set_option maxRecDepth 40000 in
theorem mw_Fld_undoWork : mW y_Fld_undoWork b_Fld_undoWork 2 none 1 := ⟨q_at (i := 760) rfl rfl, q_at (i := 50) (by decide +kernel) rfl, by decide, by decide, by decide +kernel⟩
theorem mv_Fld_undoWork : mV y_Fld_undoWork := ⟨q_at (i := 758) (by decide +kernel) rfl, q_at (i := 759) (by decide +kernel) rfl⟩
theorem qm_Har_105 : Cond.methodLink R_Har 105 y_Fld_undoWork ∈ lw_g := q_at (i := 757) (by decide +kernel) rfl
theorem qm_Har_79 : Cond.methodLink R_Har 79 y_Fld_leftAmong ∈ lw_g := q_at (i := 737) (by decide +kernel) rfl
abbrev b_Fld_wishersOf : ByteArray := prog_3_method_12_code
def y_Fld_wishersOf : MethodName := ⟨R_Fld, "wishersOf", "(I)I"⟩
set_option maxRecDepth 40000 in
theorem mw_Fld_wishersOf : mW y_Fld_wishersOf b_Fld_wishersOf 4 (some FieldType.int) 1 := ⟨q_at (i := 744) rfl rfl, q_at (i := 50) (by decide +kernel) rfl, by decide, by decide, by decide +kernel⟩
theorem mv_Fld_wishersOf : mV y_Fld_wishersOf := ⟨q_at (i := 742) (by decide +kernel) rfl, q_at (i := 743) (by decide +kernel) rfl⟩
theorem qm_Har_82 : Cond.methodLink R_Har 82 y_Fld_wishersOf ∈ lw_g := q_at (i := 741) (by decide +kernel) rfl
abbrev b_Har_begin : ByteArray := prog_5_method_2_code
def y_Har_begin : MethodName := ⟨R_Har, "begin", "(LHamperByWeather$State;)V"⟩
set_option maxRecDepth 40000 in
theorem mw_Har_begin : mW y_Har_begin b_Har_begin 3 none 1 := ⟨q_at (i := 712) rfl rfl, q_at (i := 55) (by decide +kernel) rfl, by decide, by decide, by decide +kernel⟩
theorem mv_Har_begin : mV y_Har_begin := ⟨q_at (i := 711) (by decide +kernel) rfl, q_at (i := 9) (by decide +kernel) rfl⟩
theorem qm_Har_60 : Cond.methodLink R_Har 60 y_Har_begin ∈ lw_g := q_at (i := 709) (by decide +kernel) rfl
abbrev b_Har_leastCut : ByteArray := prog_5_method_6_code
def y_Har_leastCut : MethodName := ⟨R_Har, "leastCut", "()I"⟩
set_option maxRecDepth 40000 in
theorem mw_Har_leastCut : mW y_Har_leastCut b_Har_leastCut 5 (some FieldType.int) 0 := ⟨q_at (i := 736) rfl rfl, q_at (i := 55) (by decide +kernel) rfl, by decide, by decide, by decide +kernel⟩
theorem mv_Har_leastCut : mV y_Har_leastCut := ⟨q_at (i := 735) (by decide +kernel) rfl, q_at (i := 10) (by decide +kernel) rfl⟩
theorem qm_Har_75 : Cond.methodLink R_Har 75 y_Har_leastCut ∈ lw_g := q_at (i := 733) (by decide +kernel) rfl
abbrev b_Har_gather : ByteArray := prog_5_method_3_code
def y_Har_gather : MethodName := ⟨R_Har, "gather", "(LHamperByWeather$State;I)I"⟩
set_option maxRecDepth 40000 in
theorem mw_Har_gather : mW y_Har_gather b_Har_gather 5 (some FieldType.int) 2 := ⟨q_at (i := 708) rfl rfl, q_at (i := 55) (by decide +kernel) rfl, by decide, by decide, by decide +kernel⟩
theorem mv_Har_gather : mV y_Har_gather := ⟨q_at (i := 706) (by decide +kernel) rfl, q_at (i := 707) (by decide +kernel) rfl⟩
theorem qm_Har_71 : Cond.methodLink R_Har 71 y_Har_gather ∈ lw_g := q_at (i := 781) (by decide +kernel) rfl
theorem qf_Sta_43 : Cond.fieldLink R_Sta 43 R_Sta "things" "I" ∈ lw_g := q_at (i := 108) (by decide +kernel) rfl
theorem qf_Har_121 : Cond.fieldLink R_Har 121 R_Har "lotsDone" "I" ∈ lw_g := q_at (i := 230) (by decide +kernel) rfl
theorem qf_Har_124 : Cond.fieldLink R_Har 124 R_Har "lotsNone" "I" ∈ lw_g := q_at (i := 232) (by decide +kernel) rfl
theorem qc_Har_127 : Cond.constant "HamperByWeather$Harvest" 127 1103515245 ∈ lw_g := q_at (i := 944) (by decide +kernel) rfl
abbrev b_Sta_allThings : ByteArray := prog_10_method_5_code
def y_Sta_allThings : MethodName := ⟨R_Sta, "allThings", "()I"⟩
set_option maxRecDepth 40000 in
theorem mw_Sta_allThings : mW y_Sta_allThings b_Sta_allThings 1 (some FieldType.int) 0 := ⟨q_at (i := 362) rfl rfl, q_at (i := 49) (by decide +kernel) rfl, by decide, by decide, by decide +kernel⟩
theorem mv_Sta_allThings : mV y_Sta_allThings := ⟨q_at (i := 360) (by decide +kernel) rfl, q_at (i := 361) (by decide +kernel) rfl⟩
theorem qm_Har_128 : Cond.methodLink R_Har 128 y_Sta_allThings ∈ lw_g := q_at (i := 945) (by decide +kernel) rfl
abbrev b_Har_drawn : ByteArray := prog_5_method_15_code
def y_Har_drawn : MethodName := ⟨R_Har, "drawn", "(II)I"⟩
set_option maxRecDepth 40000 in
theorem mw_Har_drawn : mW y_Har_drawn b_Har_drawn 2 (some FieldType.int) 2 := ⟨q_at (i := 948) rfl rfl, q_at (i := 55) (by decide +kernel) rfl, by decide, by decide, by decide +kernel⟩
theorem ms_Har_drawn : Cond.static y_Har_drawn ∈ lw_g := q_at (i := 947) (by decide +kernel) rfl
theorem qm_Har_131 : Cond.methodLink R_Har 131 y_Har_drawn ∈ lw_g := q_at (i := 946) (by decide +kernel) rfl
abbrev b_Fld_allLeft : ByteArray := prog_3_method_10_code
def y_Fld_allLeft : MethodName := ⟨R_Fld, "allLeft", "()I"⟩
set_option maxRecDepth 40000 in
theorem mw_Fld_allLeft : mW y_Fld_allLeft b_Fld_allLeft 1 (some FieldType.int) 0 := ⟨q_at (i := 836) rfl rfl, q_at (i := 50) (by decide +kernel) rfl, by decide, by decide, by decide +kernel⟩
theorem mv_Fld_allLeft : mV y_Fld_allLeft := ⟨q_at (i := 834) (by decide +kernel) rfl, q_at (i := 835) (by decide +kernel) rfl⟩
theorem qm_Har_118 : Cond.methodLink R_Har 118 y_Fld_allLeft ∈ lw_g := q_at (i := 833) (by decide +kernel) rfl
abbrev b_Har_waysFrom : ByteArray := prog_5_method_13_code
def y_Har_waysFrom : MethodName := ⟨R_Har, "waysFrom", "(LHamperByWeather$Harvest;I)J"⟩
set_option maxRecDepth 40000 in
theorem mw_Har_waysFrom : mW y_Har_waysFrom b_Har_waysFrom 7 (some FieldType.long) 2 := ⟨q_at (i := 832) rfl rfl, q_at (i := 55) (by decide +kernel) rfl, by decide, by decide, by decide +kernel⟩
theorem ms_Har_waysFrom : Cond.static y_Har_waysFrom ∈ lw_g := q_at (i := 831) (by decide +kernel) rfl
theorem qm_Har_114 : Cond.methodLink R_Har 114 y_Har_waysFrom ∈ lw_g := q_at (i := 830) (by decide +kernel) rfl
theorem qf_Har_111 : Cond.fieldLink R_Har 111 R_Har "oneIn" "I" ∈ lw_g := q_at (i := 229) (by decide +kernel) rfl
theorem qm_Kin_23 : Cond.methodLink R_Kin 23 Lib.Math.max.name ∈ lw_g := q_at (i := 475) (by decide +kernel) rfl
abbrev b_Kin_suitsDish : ByteArray := prog_6_method_3_code
def y_Kin_suitsDish : MethodName := ⟨R_Kin, "suitsDish", "(II)Z"⟩
set_option maxRecDepth 40000 in
theorem mw_Kin_suitsDish : mW y_Kin_suitsDish b_Kin_suitsDish 2 (some FieldType.boolean) 2 := ⟨q_at (i := 407) rfl rfl, q_at (i := 59) (by decide +kernel) rfl, by decide, by decide, by decide +kernel⟩
theorem ms_Kin_suitsDish : Cond.static y_Kin_suitsDish ∈ lw_g := q_at (i := 406) (by decide +kernel) rfl
theorem qm_Kin_9 : Cond.methodLink R_Kin 9 y_Kin_suitsDish ∈ lw_g := q_at (i := 405) (by decide +kernel) rfl
abbrev b_Kin_suitsCoat : ByteArray := prog_6_method_4_code
def y_Kin_suitsCoat : MethodName := ⟨R_Kin, "suitsCoat", "(I)Z"⟩
set_option maxRecDepth 40000 in
theorem mw_Kin_suitsCoat : mW y_Kin_suitsCoat b_Kin_suitsCoat 1 (some FieldType.boolean) 1 := ⟨q_at (i := 410) rfl rfl, q_at (i := 59) (by decide +kernel) rfl, by decide, by decide, by decide +kernel⟩
theorem ms_Kin_suitsCoat : Cond.static y_Kin_suitsCoat ∈ lw_g := q_at (i := 409) (by decide +kernel) rfl
theorem qm_Kin_15 : Cond.methodLink R_Kin 15 y_Kin_suitsCoat ∈ lw_g := q_at (i := 408) (by decide +kernel) rfl
abbrev b_Kin_goesWith : ByteArray := prog_6_method_2_code
def y_Kin_goesWith : MethodName := ⟨R_Kin, "goesWith", "(III)Z"⟩
set_option maxRecDepth 40000 in
theorem mw_Kin_goesWith : mW y_Kin_goesWith b_Kin_goesWith 3 (some FieldType.boolean) 3 := ⟨q_at (i := 404) rfl rfl, q_at (i := 59) (by decide +kernel) rfl, by decide, by decide, by decide +kernel⟩
theorem ms_Kin_goesWith : Cond.static y_Kin_goesWith ∈ lw_g := q_at (i := 403) (by decide +kernel) rfl
theorem qm_Kin_19 : Cond.methodLink R_Kin 19 y_Kin_goesWith ∈ lw_g := q_at (i := 402) (by decide +kernel) rfl
theorem qf_Let_15 : Cond.fieldLink R_Let 15 R_Let "count" "I" ∈ lw_g := q_at (i := 190) (by decide +kernel) rfl
theorem qf_Let_9 : Cond.fieldLink R_Let 9 R_Let "letters" "[I" ∈ lw_g := q_at (i := 189) (by decide +kernel) rfl
abbrev b_Let_letterAt : ByteArray := prog_7_method_4_code
def y_Let_letterAt : MethodName := ⟨R_Let, "letterAt", "(I)I"⟩
set_option maxRecDepth 40000 in
theorem mw_Let_letterAt : mW y_Let_letterAt b_Let_letterAt 2 (some FieldType.int) 1 := ⟨q_at (i := 328) rfl rfl, q_at (i := 53) (by decide +kernel) rfl, by decide, by decide, by decide +kernel⟩
theorem mv_Let_letterAt : mV y_Let_letterAt := ⟨q_at (i := 327) (by decide +kernel) rfl, q_at (i := 2) (by decide +kernel) rfl⟩
theorem qm_Let_29 : Cond.methodLink R_Let 29 y_Let_letterAt ∈ lw_g := q_at (i := 325) (by decide +kernel) rfl
abbrev b_Kin_goesWithAll : ByteArray := prog_6_method_5_code
def y_Kin_goesWithAll : MethodName := ⟨R_Kin, "goesWithAll", "(II)I"⟩
set_option maxRecDepth 40000 in
theorem mw_Kin_goesWithAll : mW y_Kin_goesWithAll b_Kin_goesWithAll 4 (some FieldType.int) 2 := ⟨q_at (i := 401) rfl rfl, q_at (i := 59) (by decide +kernel) rfl, by decide, by decide, by decide +kernel⟩
theorem ms_Kin_goesWithAll : Cond.static y_Kin_goesWithAll ∈ lw_g := q_at (i := 400) (by decide +kernel) rfl
theorem qm_Sta_71 : Cond.methodLink R_Sta 71 y_Kin_goesWithAll ∈ lw_g := q_at (i := 399) (by decide +kernel) rfl
theorem qm_Sta_97 : Cond.methodLink R_Sta 97 y_Sta_hamperOf ∈ lw_g := q_at (i := 427) (by decide +kernel) rfl
theorem qm_Sta_100 : Cond.methodLink R_Sta 100 y_Sta_likeliestBy ∈ lw_g := q_at (i := 431) (by decide +kernel) rfl
abbrev b_H_isWeather : ByteArray := prog_1_method_49_code
def y_H_isWeather : MethodName := ⟨R_H, "isWeather", "(I)Z"⟩
set_option maxRecDepth 40000 in
theorem mw_H_isWeather : mW y_H_isWeather b_H_isWeather 1 (some FieldType.boolean) 1 := ⟨q_at (i := 368) rfl rfl, q_at (i := 48) (by decide +kernel) rfl, by decide, by decide, by decide +kernel⟩
theorem ms_H_isWeather : Cond.static y_H_isWeather ∈ lw_g := q_at (i := 367) (by decide +kernel) rfl
theorem qm_Sta_61 : Cond.methodLinkNest R_Sta 61 y_H_isWeather "HamperByWeather" ∈ lw_tbl := List.mem_of_getElem? (i := 366) (by decide +kernel)
theorem qf_Sta_30 : Cond.fieldLink R_Sta 30 R_Sta "fields" "LHamperByWeather$Fields;" ∈ lw_g := q_at (i := 119) (by decide +kernel) rfl
theorem qm_Sta_81 : Cond.methodLink R_Sta 81 y_Fld_work ∈ lw_g := q_at (i := 450) (by decide +kernel) rfl
theorem qf_Sta_54 : Cond.fieldLink R_Sta 54 R_Sta "done" "I" ∈ lw_g := q_at (i := 124) (by decide +kernel) rfl
abbrev b_Let_number : ByteArray := prog_7_method_7_code
def y_Let_number : MethodName := ⟨R_Let, "number", "(II)I"⟩
set_option maxRecDepth 40000 in
theorem mw_Let_number : mW y_Let_number b_Let_number 5 (some FieldType.int) 2 := ⟨q_at (i := 350) rfl rfl, q_at (i := 53) (by decide +kernel) rfl, by decide, by decide, by decide +kernel⟩
theorem mv_Let_number : mV y_Let_number := ⟨q_at (i := 349) (by decide +kernel) rfl, q_at (i := 4) (by decide +kernel) rfl⟩
theorem qm_Let_44 : Cond.methodLink R_Let 44 y_Let_number ∈ lw_g := q_at (i := 347) (by decide +kernel) rfl
abbrev b_Sta_addDay : ByteArray := prog_10_method_12_code
def y_Sta_addDay : MethodName := ⟨R_Sta, "addDay", "(I)I"⟩
set_option maxRecDepth 40000 in
theorem mw_Sta_addDay : mW y_Sta_addDay b_Sta_addDay 3 (some FieldType.int) 1 := ⟨q_at (i := 414) rfl rfl, q_at (i := 49) (by decide +kernel) rfl, by decide, by decide, by decide +kernel⟩
theorem mv_Sta_addDay : mV y_Sta_addDay := ⟨q_at (i := 412) (by decide +kernel) rfl, q_at (i := 413) (by decide +kernel) rfl⟩
theorem qm_Let_72 : Cond.methodLink R_Let 72 y_Sta_addDay ∈ lw_g := q_at (i := 411) (by decide +kernel) rfl
theorem qf_Let_79 : Cond.fieldLinkNest R_Let 79 R_Sta "fields" "LHamperByWeather$Fields;" "HamperByWeather" ∈ lw_tbl := List.mem_of_getElem? (i := 123) (by decide +kernel)
abbrev b_Fld_become : ByteArray := prog_3_method_4_code
def y_Fld_become : MethodName := ⟨R_Fld, "become", "(III)V"⟩
set_option maxRecDepth 40000 in
theorem mw_Fld_become : mW y_Fld_become b_Fld_become 4 none 3 := ⟨q_at (i := 422) rfl rfl, q_at (i := 50) (by decide +kernel) rfl, by decide, by decide, by decide +kernel⟩
theorem mv_Fld_become : mV y_Fld_become := ⟨q_at (i := 420) (by decide +kernel) rfl, q_at (i := 421) (by decide +kernel) rfl⟩
theorem qm_Let_83 : Cond.methodLink R_Let 83 y_Fld_become ∈ lw_g := q_at (i := 419) (by decide +kernel) rfl
abbrev b_Sta_packOrUnpack : ByteArray := prog_10_method_15_code
def y_Sta_packOrUnpack : MethodName := ⟨R_Sta, "packOrUnpack", "(II)I"⟩
set_option maxRecDepth 40000 in
theorem mw_Sta_packOrUnpack : mW y_Sta_packOrUnpack b_Sta_packOrUnpack 3 (some FieldType.int) 2 := ⟨q_at (i := 462) rfl rfl, q_at (i := 49) (by decide +kernel) rfl, by decide, by decide, by decide +kernel⟩
theorem mv_Sta_packOrUnpack : mV y_Sta_packOrUnpack := ⟨q_at (i := 460) (by decide +kernel) rfl, q_at (i := 461) (by decide +kernel) rfl⟩
theorem qm_Let_93 : Cond.methodLink R_Let 93 y_Sta_packOrUnpack ∈ lw_g := q_at (i := 459) (by decide +kernel) rfl
abbrev b_Sta_likeliestOn : ByteArray := prog_10_method_23_code
def y_Sta_likeliestOn : MethodName := ⟨R_Sta, "likeliestOn", "(I)I"⟩
set_option maxRecDepth 40000 in
theorem mw_Sta_likeliestOn : mW y_Sta_likeliestOn b_Sta_likeliestOn 2 (some FieldType.int) 1 := ⟨q_at (i := 426) rfl rfl, q_at (i := 49) (by decide +kernel) rfl, by decide, by decide, by decide +kernel⟩
theorem mv_Sta_likeliestOn : mV y_Sta_likeliestOn := ⟨q_at (i := 424) (by decide +kernel) rfl, q_at (i := 425) (by decide +kernel) rfl⟩
theorem qm_Let_87 : Cond.methodLink R_Let 87 y_Sta_likeliestOn ∈ lw_g := q_at (i := 423) (by decide +kernel) rfl
abbrev b_Sta_spend : ByteArray := prog_10_method_16_code
def y_Sta_spend : MethodName := ⟨R_Sta, "spend", "(I)I"⟩
set_option maxRecDepth 40000 in
theorem mw_Sta_spend : mW y_Sta_spend b_Sta_spend 3 (some FieldType.int) 1 := ⟨q_at (i := 449) rfl rfl, q_at (i := 49) (by decide +kernel) rfl, by decide, by decide, by decide +kernel⟩
theorem mv_Sta_spend : mV y_Sta_spend := ⟨q_at (i := 447) (by decide +kernel) rfl, q_at (i := 448) (by decide +kernel) rfl⟩
theorem qm_Let_90 : Cond.methodLink R_Let 90 y_Sta_spend ∈ lw_g := q_at (i := 446) (by decide +kernel) rfl
abbrev b_Sta_addThing : ByteArray := prog_10_method_11_code
def y_Sta_addThing : MethodName := ⟨R_Sta, "addThing", "(II)I"⟩
set_option maxRecDepth 40000 in
theorem mw_Sta_addThing : mW y_Sta_addThing b_Sta_addThing 4 (some FieldType.int) 2 := ⟨q_at (i := 398) rfl rfl, q_at (i := 49) (by decide +kernel) rfl, by decide, by decide, by decide +kernel⟩
theorem mv_Sta_addThing : mV y_Sta_addThing := ⟨q_at (i := 396) (by decide +kernel) rfl, q_at (i := 397) (by decide +kernel) rfl⟩
theorem qm_Let_69 : Cond.methodLink R_Let 69 y_Sta_addThing ∈ lw_g := q_at (i := 395) (by decide +kernel) rfl
abbrev b_Sta_reweigh : ByteArray := prog_10_method_14_code
def y_Sta_reweigh : MethodName := ⟨R_Sta, "reweigh", "(II)V"⟩
set_option maxRecDepth 40000 in
theorem mw_Sta_reweigh : mW y_Sta_reweigh b_Sta_reweigh 3 none 2 := ⟨q_at (i := 418) rfl rfl, q_at (i := 49) (by decide +kernel) rfl, by decide, by decide, by decide +kernel⟩
theorem mv_Sta_reweigh : mV y_Sta_reweigh := ⟨q_at (i := 416) (by decide +kernel) rfl, q_at (i := 417) (by decide +kernel) rfl⟩
theorem qm_Let_75 : Cond.methodLink R_Let 75 y_Sta_reweigh ∈ lw_g := q_at (i := 415) (by decide +kernel) rfl
abbrev b_Let_digitsBehind : ByteArray := prog_7_method_5_code
def y_Let_digitsBehind : MethodName := ⟨R_Let, "digitsBehind", "(I)I"⟩
set_option maxRecDepth 40000 in
theorem mw_Let_digitsBehind : mW y_Let_digitsBehind b_Let_digitsBehind 1 (some FieldType.int) 1 := ⟨q_at (i := 331) rfl rfl, q_at (i := 53) (by decide +kernel) rfl, by decide, by decide, by decide +kernel⟩
theorem ms_Let_digitsBehind : Cond.static y_Let_digitsBehind ∈ lw_g := q_at (i := 330) (by decide +kernel) rfl
theorem qm_Let_41 : Cond.methodLink R_Let 41 y_Let_digitsBehind ∈ lw_g := q_at (i := 329) (by decide +kernel) rfl
theorem qm_Sta_57 : Cond.methodLink R_Sta 57 y_Sta_allThings ∈ lw_g := q_at (i := 359) (by decide +kernel) rfl
abbrev b_Sta_hasThing : ByteArray := prog_10_method_3_code
def y_Sta_hasThing : MethodName := ⟨R_Sta, "hasThing", "(I)Z"⟩
set_option maxRecDepth 40000 in
theorem mw_Sta_hasThing : mW y_Sta_hasThing b_Sta_hasThing 2 (some FieldType.boolean) 1 := ⟨q_at (i := 390) rfl rfl, q_at (i := 49) (by decide +kernel) rfl, by decide, by decide, by decide +kernel⟩
theorem mv_Sta_hasThing : mV y_Sta_hasThing := ⟨q_at (i := 388) (by decide +kernel) rfl, q_at (i := 389) (by decide +kernel) rfl⟩
theorem qm_Sta_68 : Cond.methodLink R_Sta 68 y_Sta_hasThing ∈ lw_g := q_at (i := 387) (by decide +kernel) rfl
abbrev b_Sta_dayRefusal : ByteArray := prog_10_method_7_code
def y_Sta_dayRefusal : MethodName := ⟨R_Sta, "dayRefusal", "(I)I"⟩
set_option maxRecDepth 40000 in
theorem mw_Sta_dayRefusal : mW y_Sta_dayRefusal b_Sta_dayRefusal 2 (some FieldType.int) 1 := ⟨q_at (i := 358) rfl rfl, q_at (i := 49) (by decide +kernel) rfl, by decide, by decide, by decide +kernel⟩
theorem mv_Sta_dayRefusal : mV y_Sta_dayRefusal := ⟨q_at (i := 356) (by decide +kernel) rfl, q_at (i := 357) (by decide +kernel) rfl⟩
theorem qm_Let_51 : Cond.methodLink R_Let 51 y_Sta_dayRefusal ∈ lw_g := q_at (i := 355) (by decide +kernel) rfl
abbrev b_Fld_wishRefusal : ByteArray := prog_3_method_2_code
def y_Fld_wishRefusal : MethodName := ⟨R_Fld, "wishRefusal", "(III)I"⟩
set_option maxRecDepth 40000 in
theorem mw_Fld_wishRefusal : mW y_Fld_wishRefusal b_Fld_wishRefusal 3 (some FieldType.int) 3 := ⟨q_at (i := 371) rfl rfl, q_at (i := 50) (by decide +kernel) rfl, by decide, by decide, by decide +kernel⟩
theorem ms_Fld_wishRefusal : Cond.static y_Fld_wishRefusal ∈ lw_g := q_at (i := 370) (by decide +kernel) rfl
theorem qm_Let_57 : Cond.methodLink R_Let 57 y_Fld_wishRefusal ∈ lw_g := q_at (i := 369) (by decide +kernel) rfl
abbrev b_Sta_packRefusal : ByteArray := prog_10_method_9_code
def y_Sta_packRefusal : MethodName := ⟨R_Sta, "packRefusal", "(II)I"⟩
set_option maxRecDepth 40000 in
theorem mw_Sta_packRefusal : mW y_Sta_packRefusal b_Sta_packRefusal 3 (some FieldType.int) 2 := ⟨q_at (i := 386) rfl rfl, q_at (i := 49) (by decide +kernel) rfl, by decide, by decide, by decide +kernel⟩
theorem mv_Sta_packRefusal : mV y_Sta_packRefusal := ⟨q_at (i := 384) (by decide +kernel) rfl, q_at (i := 385) (by decide +kernel) rfl⟩
theorem qm_Let_66 : Cond.methodLink R_Let 66 y_Sta_packRefusal ∈ lw_g := q_at (i := 383) (by decide +kernel) rfl
abbrev b_Sta_spendRefusal : ByteArray := prog_10_method_10_code
def y_Sta_spendRefusal : MethodName := ⟨R_Sta, "spendRefusal", "(II)I"⟩
set_option maxRecDepth 40000 in
theorem mw_Sta_spendRefusal : mW y_Sta_spendRefusal b_Sta_spendRefusal 3 (some FieldType.int) 2 := ⟨q_at (i := 378) rfl rfl, q_at (i := 49) (by decide +kernel) rfl, by decide, by decide, by decide +kernel⟩
theorem mv_Sta_spendRefusal : mV y_Sta_spendRefusal := ⟨q_at (i := 376) (by decide +kernel) rfl, q_at (i := 377) (by decide +kernel) rfl⟩
theorem qm_Let_63 : Cond.methodLink R_Let 63 y_Sta_spendRefusal ∈ lw_g := q_at (i := 375) (by decide +kernel) rfl
abbrev b_Sta_thingRefusal : ByteArray := prog_10_method_6_code
def y_Sta_thingRefusal : MethodName := ⟨R_Sta, "thingRefusal", "(II)I"⟩
set_option maxRecDepth 40000 in
theorem mw_Sta_thingRefusal : mW y_Sta_thingRefusal b_Sta_thingRefusal 3 (some FieldType.int) 2 := ⟨q_at (i := 354) rfl rfl, q_at (i := 49) (by decide +kernel) rfl, by decide, by decide, by decide +kernel⟩
theorem mv_Sta_thingRefusal : mV y_Sta_thingRefusal := ⟨q_at (i := 352) (by decide +kernel) rfl, q_at (i := 353) (by decide +kernel) rfl⟩
theorem qm_Let_48 : Cond.methodLink R_Let 48 y_Sta_thingRefusal ∈ lw_g := q_at (i := 351) (by decide +kernel) rfl
abbrev b_Sta_weightRefusal : ByteArray := prog_10_method_8_code
def y_Sta_weightRefusal : MethodName := ⟨R_Sta, "weightRefusal", "(II)I"⟩
set_option maxRecDepth 40000 in
theorem mw_Sta_weightRefusal : mW y_Sta_weightRefusal b_Sta_weightRefusal 2 (some FieldType.int) 2 := ⟨q_at (i := 365) rfl rfl, q_at (i := 49) (by decide +kernel) rfl, by decide, by decide, by decide +kernel⟩
theorem ms_Sta_weightRefusal : Cond.static y_Sta_weightRefusal ∈ lw_g := q_at (i := 364) (by decide +kernel) rfl
theorem qm_Let_54 : Cond.methodLink R_Let 54 y_Sta_weightRefusal ∈ lw_g := q_at (i := 363) (by decide +kernel) rfl
theorem qm_Sta_37 : Cond.methodLink R_Sta 37 arraycopyName ∈ lw_g := q_at (i := 336) (by decide +kernel) rfl
theorem qm_Sta_50 : Cond.methodLink R_Sta 50 y_Fld_copyFrom ∈ lw_g := q_at (i := 339) (by decide +kernel) rfl
abbrev b_Let_firstUnfit : ByteArray := prog_7_method_6_code
def y_Let_firstUnfit : MethodName := ⟨R_Let, "firstUnfit", "()I"⟩
set_option maxRecDepth 40000 in
theorem mw_Let_firstUnfit : mW y_Let_firstUnfit b_Let_firstUnfit 4 (some FieldType.int) 0 := ⟨q_at (i := 324) rfl rfl, q_at (i := 53) (by decide +kernel) rfl, by decide, by decide, by decide +kernel⟩
theorem mv_Let_firstUnfit : mV y_Let_firstUnfit := ⟨q_at (i := 323) (by decide +kernel) rfl, q_at (i := 1) (by decide +kernel) rfl⟩
theorem qm_Let_19 : Cond.methodLink R_Let 19 y_Let_firstUnfit ∈ lw_g := q_at (i := 321) (by decide +kernel) rfl
abbrev b_Sta_copyFrom : ByteArray := prog_10_method_2_code
def y_Sta_copyFrom : MethodName := ⟨R_Sta, "copyFrom", "(LHamperByWeather$State;)V"⟩
set_option maxRecDepth 40000 in
theorem mw_Sta_copyFrom : mW y_Sta_copyFrom b_Sta_copyFrom 2 none 1 := ⟨q_at (i := 335) rfl rfl, q_at (i := 49) (by decide +kernel) rfl, by decide, by decide, by decide +kernel⟩
theorem mv_Sta_copyFrom : mV y_Sta_copyFrom := ⟨q_at (i := 333) (by decide +kernel) rfl, q_at (i := 334) (by decide +kernel) rfl⟩
theorem qm_Let_23 : Cond.methodLink R_Let 23 y_Sta_copyFrom ∈ lw_g := q_at (i := 332) (by decide +kernel) rfl
abbrev b_Let_refusalAt : ByteArray := prog_7_method_8_code
def y_Let_refusalAt : MethodName := ⟨R_Let, "refusalAt", "(LHamperByWeather$State;I)I"⟩
set_option maxRecDepth 40000 in
theorem mw_Let_refusalAt : mW y_Let_refusalAt b_Let_refusalAt 5 (some FieldType.int) 2 := ⟨q_at (i := 346) rfl rfl, q_at (i := 53) (by decide +kernel) rfl, by decide, by decide, by decide +kernel⟩
theorem mv_Let_refusalAt : mV y_Let_refusalAt := ⟨q_at (i := 345) (by decide +kernel) rfl, q_at (i := 3) (by decide +kernel) rfl⟩
theorem qm_Let_33 : Cond.methodLink R_Let 33 y_Let_refusalAt ∈ lw_g := q_at (i := 343) (by decide +kernel) rfl
abbrev b_Let_bring : ByteArray := prog_7_method_9_code
def y_Let_bring : MethodName := ⟨R_Let, "bring", "(LHamperByWeather$State;I)V"⟩
set_option maxRecDepth 40000 in
theorem mw_Let_bring : mW y_Let_bring b_Let_bring 5 none 2 := ⟨q_at (i := 394) rfl rfl, q_at (i := 53) (by decide +kernel) rfl, by decide, by decide, by decide +kernel⟩
theorem mv_Let_bring : mV y_Let_bring := ⟨q_at (i := 393) (by decide +kernel) rfl, q_at (i := 5) (by decide +kernel) rfl⟩
theorem qm_Let_37 : Cond.methodLink R_Let 37 y_Let_bring ∈ lw_g := q_at (i := 391) (by decide +kernel) rfl
theorem qf_Num_15 : Cond.fieldLink R_Num 15 R_Num "count" "I" ∈ lw_g := q_at (i := 204) (by decide +kernel) rfl
theorem qf_Num_9 : Cond.fieldLink R_Num 9 R_Num "numbers" "[I" ∈ lw_g := q_at (i := 203) (by decide +kernel) rfl
theorem qm_Num_19 : Cond.methodLink R_Num 19 y_Kin_goesWith ∈ lw_g := q_at (i := 798) (by decide +kernel) rfl
abbrev b_Num_isSo : ByteArray := prog_8_method_4_code
def y_Num_isSo : MethodName := ⟨R_Num, "isSo", "(II)Z"⟩
set_option maxRecDepth 40000 in
theorem mw_Num_isSo : mW y_Num_isSo b_Num_isSo 5 (some FieldType.boolean) 2 := ⟨q_at (i := 797) rfl rfl, q_at (i := 54) (by decide +kernel) rfl, by decide, by decide, by decide +kernel⟩
theorem mv_Num_isSo : mV y_Num_isSo := ⟨q_at (i := 796) (by decide +kernel) rfl, q_at (i := 13) (by decide +kernel) rfl⟩
theorem qm_Num_25 : Cond.methodLink R_Num 25 y_Num_isSo ∈ lw_g := q_at (i := 794) (by decide +kernel) rfl
theorem qm_Num_29 : Cond.methodLink R_Num 29 y_Sta_likeliestOn ∈ lw_g := q_at (i := 930) (by decide +kernel) rfl
theorem qm_Num_35 : Cond.methodLink R_Num 35 y_Sta_hasDay ∈ lw_g := q_at (i := 931) (by decide +kernel) rfl
theorem qf_Set_35 : Cond.fieldLinkNest R_Set 35 R_Sta "things" "I" "HamperByWeather" ∈ lw_tbl := List.mem_of_getElem? (i := 109) (by decide +kernel)
theorem qf_Set_39 : Cond.fieldLinkNest R_Set 39 R_Sta "goes" "[I" "HamperByWeather" ∈ lw_tbl := List.mem_of_getElem? (i := 107) (by decide +kernel)
abbrev b_Sta_weightOfAll : ByteArray := prog_10_method_24_code
def y_Sta_weightOfAll : MethodName := ⟨R_Sta, "weightOfAll", "(I)I"⟩
set_option maxRecDepth 40000 in
theorem mw_Sta_weightOfAll : mW y_Sta_weightOfAll b_Sta_weightOfAll 4 (some FieldType.int) 1 := ⟨q_at (i := 601) rfl rfl, q_at (i := 49) (by decide +kernel) rfl, by decide, by decide, by decide +kernel⟩
theorem mv_Sta_weightOfAll : mV y_Sta_weightOfAll := ⟨q_at (i := 599) (by decide +kernel) rfl, q_at (i := 600) (by decide +kernel) rfl⟩
theorem qm_Set_43 : Cond.methodLink R_Set 43 y_Sta_weightOfAll ∈ lw_g := q_at (i := 672) (by decide +kernel) rfl
theorem qm_Set_46 : Cond.methodLink R_Set 46 Lib.Math.abs.name ∈ lw_g := q_at (i := 673) (by decide +kernel) rfl
theorem qm_Set_9 : Cond.methodLink R_Set 9 y_Sta_allThings ∈ lw_g := q_at (i := 620) (by decide +kernel) rfl
theorem qm_Set_15 : Cond.methodLink R_Set 15 y_Jint_bitCount ∈ lw_g := q_at (i := 621) (by decide +kernel) rfl
theorem qm_Set_21 : Cond.methodLink R_Set 21 y_Sta_couldBe ∈ lw_g := q_at (i := 627) (by decide +kernel) rfl
theorem qm_Set_24 : Cond.methodLink R_Set 24 y_Sta_heavyOf ∈ lw_g := q_at (i := 635) (by decide +kernel) rfl
abbrev b_Kin_dear : ByteArray := prog_6_method_7_code
def y_Kin_dear : MethodName := ⟨R_Kin, "dear", "(II)I"⟩
set_option maxRecDepth 40000 in
theorem mw_Kin_dear : mW y_Kin_dear b_Kin_dear 3 (some FieldType.int) 2 := ⟨q_at (i := 474) rfl rfl, q_at (i := 59) (by decide +kernel) rfl, by decide, by decide, by decide +kernel⟩
theorem ms_Kin_dear : Cond.static y_Kin_dear ∈ lw_g := q_at (i := 473) (by decide +kernel) rfl
theorem qm_Sta_88 : Cond.methodLink R_Sta 88 y_Kin_dear ∈ lw_g := q_at (i := 494) (by decide +kernel) rfl
abbrev b_Sta_dearOf : ByteArray := prog_10_method_20_code
def y_Sta_dearOf : MethodName := ⟨R_Sta, "dearOf", "(I)I"⟩
set_option maxRecDepth 40000 in
theorem mw_Sta_dearOf : mW y_Sta_dearOf b_Sta_dearOf 4 (some FieldType.int) 1 := ⟨q_at (i := 493) rfl rfl, q_at (i := 49) (by decide +kernel) rfl, by decide, by decide, by decide +kernel⟩
theorem mv_Sta_dearOf : mV y_Sta_dearOf := ⟨q_at (i := 491) (by decide +kernel) rfl, q_at (i := 492) (by decide +kernel) rfl⟩
theorem qm_Set_27 : Cond.methodLink R_Set 27 y_Sta_dearOf ∈ lw_g := q_at (i := 639) (by decide +kernel) rfl
abbrev b_Jlong_bitCount : ByteArray := prog_16_method_50_code
def y_Jlong_bitCount : MethodName := ⟨R_Jlong, "bitCount", "(J)I"⟩
set_option maxRecDepth 40000 in
theorem mw_Jlong_bitCount : mW y_Jlong_bitCount b_Jlong_bitCount 2 (some FieldType.int) 1 := ⟨q_at (i := 685) rfl rfl, q_at (i := 64) (by decide +kernel) rfl, by decide, by decide, by decide +kernel⟩
theorem ms_Jlong_bitCount : Cond.static y_Jlong_bitCount ∈ lw_g := q_at (i := 684) (by decide +kernel) rfl
theorem qm_Set_30 : Cond.methodLink R_Set 30 y_Jlong_bitCount ∈ lw_g := q_at (i := 683) (by decide +kernel) rfl
theorem qm_Sta_108 : Cond.methodLink R_Sta 108 y_Jint_bitCount ∈ lw_g := q_at (i := 967) (by decide +kernel) rfl
theorem qm_Sta_103 : Cond.methodLink R_Sta 103 Lib.Math.max.name ∈ lw_g := q_at (i := 811) (by decide +kernel) rfl
theorem qf_Sps_11 : Cond.fieldLink R_Sps 11 R_Sps "steps" "[LHamperByWeather$Step;" ∈ lw_g := q_at (i := 175) (by decide +kernel) rfl
theorem qf_Sps_18 : Cond.fieldLink R_Sps 18 R_Sps "count" "I" ∈ lw_g := q_at (i := 176) (by decide +kernel) rfl
theorem qm_Sps_61 : Cond.methodLink R_Sps 61 Lib.Math.min.name ∈ lw_g := q_at (i := 538) (by decide +kernel) rfl
theorem qm_Sps_67 : Cond.methodLink R_Sps 67 Lib.Math.max.name ∈ lw_g := q_at (i := 541) (by decide +kernel) rfl
theorem qf_Sps_70 : Cond.fieldLinkNest R_Sps 70 R_Stp "part" "I" "HamperByWeather" ∈ lw_tbl := List.mem_of_getElem? (i := 159) (by decide +kernel)
theorem qf_Sps_73 : Cond.fieldLinkNest R_Sps 73 R_Stp "place" "I" "HamperByWeather" ∈ lw_tbl := List.mem_of_getElem? (i := 160) (by decide +kernel)
theorem qf_Sps_76 : Cond.fieldLinkNest R_Sps 76 R_Sta "done" "I" "HamperByWeather" ∈ lw_tbl := List.mem_of_getElem? (i := 125) (by decide +kernel)
theorem qf_Sps_79 : Cond.fieldLinkNest R_Sps 79 R_Stp "doneBefore" "I" "HamperByWeather" ∈ lw_tbl := List.mem_of_getElem? (i := 163) (by decide +kernel)
abbrev b_Sps_forgetOldest : ByteArray := prog_12_method_6_code
def y_Sps_forgetOldest : MethodName := ⟨R_Sps, "forgetOldest", "()V"⟩
set_option maxRecDepth 40000 in
theorem mw_Sps_forgetOldest : mW y_Sps_forgetOldest b_Sps_forgetOldest 3 none 0 := ⟨q_at (i := 537) rfl rfl, q_at (i := 51) (by decide +kernel) rfl, by decide, by decide, by decide +kernel⟩
theorem mv_Sps_forgetOldest : mV y_Sps_forgetOldest := ⟨q_at (i := 536) (by decide +kernel) rfl, q_at (i := 7) (by decide +kernel) rfl⟩
theorem qm_Sps_58 : Cond.methodLink R_Sps 58 y_Sps_forgetOldest ∈ lw_g := q_at (i := 534) (by decide +kernel) rfl
abbrev b_Sps_note : ByteArray := prog_12_method_5_code
def y_Sps_note : MethodName := ⟨R_Sps, "note", "(LHamperByWeather$State;II)LHamperByWeather$Step;"⟩
set_option maxRecDepth 40000 in
theorem mw_Sps_note : mW y_Sps_note b_Sps_note 6 (some (FieldType.object "HamperByWeather$Step")) 3 := ⟨q_at (i := 533) rfl rfl, q_at (i := 51) (by decide +kernel) rfl, by decide, by decide, by decide +kernel⟩
theorem mv_Sps_note : mV y_Sps_note := ⟨q_at (i := 532) (by decide +kernel) rfl, q_at (i := 6) (by decide +kernel) rfl⟩
theorem qm_Sps_22 : Cond.methodLink R_Sps 22 y_Sps_note ∈ lw_g := q_at (i := 530) (by decide +kernel) rfl
theorem qm_Sps_38 : Cond.methodLinkNest R_Sps 38 y_H_isField "HamperByWeather" ∈ lw_tbl := List.mem_of_getElem? (i := 564) (by decide +kernel)
theorem qf_Sps_42 : Cond.fieldLinkNest R_Sps 42 R_Sta "fields" "LHamperByWeather$Fields;" "HamperByWeather" ∈ lw_tbl := List.mem_of_getElem? (i := 121) (by decide +kernel)
theorem qf_Sps_46 : Cond.fieldLinkNest R_Sps 46 R_Fld "wishes" "[I" "HamperByWeather" ∈ lw_tbl := List.mem_of_getElem? (i := 87) (by decide +kernel)
theorem qf_Sps_32 : Cond.fieldLinkNest R_Sps 32 R_Stp "before" "I" "HamperByWeather" ∈ lw_tbl := List.mem_of_getElem? (i := 161) (by decide +kernel)
theorem qf_Sps_52 : Cond.fieldLinkNest R_Sps 52 R_Fld "lefts" "[I" "HamperByWeather" ∈ lw_tbl := List.mem_of_getElem? (i := 90) (by decide +kernel)
theorem qf_Sps_55 : Cond.fieldLinkNest R_Sps 55 R_Stp "leftBefore" "I" "HamperByWeather" ∈ lw_tbl := List.mem_of_getElem? (i := 162) (by decide +kernel)
theorem qm_Sps_35 : Cond.methodLink R_Sps 35 y_Sta_hamperOf ∈ lw_g := q_at (i := 553) (by decide +kernel) rfl
abbrev b_Sta_weightOf : ByteArray := prog_10_method_13_code
def y_Sta_weightOf : MethodName := ⟨R_Sta, "weightOf", "(I)I"⟩
set_option maxRecDepth 40000 in
theorem mw_Sta_weightOf : mW y_Sta_weightOf b_Sta_weightOf 2 (some FieldType.int) 1 := ⟨q_at (i := 525) rfl rfl, q_at (i := 49) (by decide +kernel) rfl, by decide, by decide, by decide +kernel⟩
theorem mv_Sta_weightOf : mV y_Sta_weightOf := ⟨q_at (i := 523) (by decide +kernel) rfl, q_at (i := 524) (by decide +kernel) rfl⟩
theorem qm_Sps_26 : Cond.methodLink R_Sps 26 y_Sta_weightOf ∈ lw_g := q_at (i := 542) (by decide +kernel) rfl
theorem qm_Sps_92 : Cond.methodLink R_Sps 92 y_Fld_become ∈ lw_g := q_at (i := 584) (by decide +kernel) rfl
theorem qm_Sps_86 : Cond.methodLink R_Sps 86 y_Sta_hasDay ∈ lw_g := q_at (i := 583) (by decide +kernel) rfl
theorem qf_Sps_89 : Cond.fieldLinkNest R_Sps 89 R_Sta "hampers" "[I" "HamperByWeather" ∈ lw_tbl := List.mem_of_getElem? (i := 114) (by decide +kernel)
theorem qm_Sps_82 : Cond.methodLink R_Sps 82 y_Sta_reweigh ∈ lw_g := q_at (i := 582) (by decide +kernel) rfl
theorem qf_H_10 : Cond.fieldLink R_H 10 R_H "now" "LHamperByWeather$State;" ∈ lw_g := q_at (i := 270) (by decide +kernel) rfl
abbrev b_Dia_twosApart : ByteArray := prog_2_method_4_code
def y_Dia_twosApart : MethodName := ⟨R_Dia, "twosApart", "(LHamperByWeather$State;)I"⟩
set_option maxRecDepth 40000 in
theorem mw_Dia_twosApart : mW y_Dia_twosApart b_Dia_twosApart 5 (some FieldType.int) 1 := ⟨q_at (i := 664) rfl rfl, q_at (i := 63) (by decide +kernel) rfl, by decide, by decide, by decide +kernel⟩
theorem ms_Dia_twosApart : Cond.static y_Dia_twosApart ∈ lw_g := q_at (i := 663) (by decide +kernel) rfl
theorem qm_H_249 : Cond.methodLink R_H 249 y_Dia_twosApart ∈ lw_g := q_at (i := 662) (by decide +kernel) rfl
theorem qf_H_61 : Cond.fieldLink R_H 61 R_H "refusals" "[I" ∈ lw_g := q_at (i := 279) (by decide +kernel) rfl
theorem qf_H_29 : Cond.fieldLink R_H 29 R_H "steps" "LHamperByWeather$Steps;" ∈ lw_g := q_at (i := 274) (by decide +kernel) rfl
theorem qf_H_84 : Cond.fieldLinkNest R_H 84 R_Sps "count" "I" "HamperByWeather" ∈ lw_tbl := List.mem_of_getElem? (i := 177) (by decide +kernel)
abbrev b_Sps_takeBack : ByteArray := prog_12_method_7_code
def y_Sps_takeBack : MethodName := ⟨R_Sps, "takeBack", "(LHamperByWeather$State;)I"⟩
set_option maxRecDepth 40000 in
theorem mw_Sps_takeBack : mW y_Sps_takeBack b_Sps_takeBack 3 (some FieldType.int) 1 := ⟨q_at (i := 581) rfl rfl, q_at (i := 51) (by decide +kernel) rfl, by decide, by decide, by decide +kernel⟩
theorem mv_Sps_takeBack : mV y_Sps_takeBack := ⟨q_at (i := 579) (by decide +kernel) rfl, q_at (i := 580) (by decide +kernel) rfl⟩
theorem qm_H_204 : Cond.methodLink R_H 204 y_Sps_takeBack ∈ lw_g := q_at (i := 578) (by decide +kernel) rfl
abbrev b_H_refused : ByteArray := prog_1_method_47_code
def y_H_refused : MethodName := ⟨R_H, "refused", "(I)I"⟩
set_option maxRecDepth 40000 in
theorem mw_H_refused : mW y_H_refused b_H_refused 3 (some FieldType.int) 1 := ⟨q_at (i := 308) rfl rfl, q_at (i := 48) (by decide +kernel) rfl, by decide, by decide, by decide +kernel⟩
theorem mv_H_refused : mV y_H_refused := ⟨q_at (i := 307) (by decide +kernel) rfl, q_at (i := 0) (by decide +kernel) rfl⟩
theorem qm_H_65 : Cond.methodLink R_H 65 y_H_refused ∈ lw_g := q_at (i := 305) (by decide +kernel) rfl
theorem qm_H_107 : Cond.methodLink R_H 107 y_Sta_hasDay ∈ lw_g := q_at (i := 482) (by decide +kernel) rfl
theorem qf_H_110 : Cond.fieldLinkNest R_H 110 R_Sta "hampers" "[I" "HamperByWeather" ∈ lw_tbl := List.mem_of_getElem? (i := 113) (by decide +kernel)
theorem qm_H_122 : Cond.methodLink R_H 122 y_Sta_dearOf ∈ lw_g := q_at (i := 490) (by decide +kernel) rfl
abbrev b_Dia_firstSettledBet : ByteArray := prog_2_method_15_code
def y_Dia_firstSettledBet : MethodName := ⟨R_Dia, "firstSettledBet", "(II)I"⟩
set_option maxRecDepth 40000 in
theorem mw_Dia_firstSettledBet : mW y_Dia_firstSettledBet b_Dia_firstSettledBet 8 (some FieldType.int) 2 := ⟨q_at (i := 818) rfl rfl, q_at (i := 63) (by decide +kernel) rfl, by decide, by decide, by decide +kernel⟩
theorem ms_Dia_firstSettledBet : Cond.static y_Dia_firstSettledBet ∈ lw_g := q_at (i := 817) (by decide +kernel) rfl
theorem qm_H_303 : Cond.methodLink R_H 303 y_Dia_firstSettledBet ∈ lw_g := q_at (i := 816) (by decide +kernel) rfl
theorem qf_H_43 : Cond.fieldLink R_H 43 R_H "numbers" "LHamperByWeather$Numbers;" ∈ lw_g := q_at (i := 276) (by decide +kernel) rfl
theorem qf_H_347 : Cond.fieldLinkNest R_H 347 R_Num "count" "I" "HamperByWeather" ∈ lw_tbl := List.mem_of_getElem? (i := 205) (by decide +kernel)
abbrev b_Set_unlikeCodes : ByteArray := prog_9_method_5_code
def y_Set_unlikeCodes : MethodName := ⟨R_Set, "unlikeCodes", "(LHamperByWeather$State;)I"⟩
set_option maxRecDepth 40000 in
theorem mw_Set_unlikeCodes : mW y_Set_unlikeCodes b_Set_unlikeCodes 4 (some FieldType.int) 1 := ⟨q_at (i := 682) rfl rfl, q_at (i := 61) (by decide +kernel) rfl, by decide, by decide, by decide +kernel⟩
theorem ms_Set_unlikeCodes : Cond.static y_Set_unlikeCodes ∈ lw_g := q_at (i := 681) (by decide +kernel) rfl
theorem qm_H_255 : Cond.methodLink R_H 255 y_Set_unlikeCodes ∈ lw_g := q_at (i := 680) (by decide +kernel) rfl
theorem qf_H_365 : Cond.fieldLinkNest R_H 365 R_Sta "things" "I" "HamperByWeather" ∈ lw_tbl := List.mem_of_getElem? (i := 111) (by decide +kernel)
theorem qf_H_272 : Cond.fieldLinkNest R_H 272 R_Sta "days" "I" "HamperByWeather" ∈ lw_tbl := List.mem_of_getElem? (i := 118) (by decide +kernel)
theorem qf_H_362 : Cond.fieldLinkNest R_H 362 R_Sta "done" "I" "HamperByWeather" ∈ lw_tbl := List.mem_of_getElem? (i := 126) (by decide +kernel)
theorem qm_H_219 : Cond.methodLink R_H 219 y_Sta_weightOfAll ∈ lw_g := q_at (i := 598) (by decide +kernel) rfl
abbrev b_Sta_allPacked : ByteArray := prog_10_method_26_code
def y_Sta_allPacked : MethodName := ⟨R_Sta, "allPacked", "()I"⟩
set_option maxRecDepth 40000 in
theorem mw_Sta_allPacked : mW y_Sta_allPacked b_Sta_allPacked 3 (some FieldType.int) 0 := ⟨q_at (i := 966) rfl rfl, q_at (i := 49) (by decide +kernel) rfl, by decide, by decide, by decide +kernel⟩
theorem mv_Sta_allPacked : mV y_Sta_allPacked := ⟨q_at (i := 964) (by decide +kernel) rfl, q_at (i := 965) (by decide +kernel) rfl⟩
theorem qm_H_368 : Cond.methodLink R_H 368 y_Sta_allPacked ∈ lw_g := q_at (i := 963) (by decide +kernel) rfl
theorem qf_H_36 : Cond.fieldLink R_H 36 R_H "letters" "LHamperByWeather$Letters;" ∈ lw_g := q_at (i := 275) (by decide +kernel) rfl
theorem qf_H_69 : Cond.fieldLinkNest R_H 69 R_Let "count" "I" "HamperByWeather" ∈ lw_tbl := List.mem_of_getElem? (i := 191) (by decide +kernel)
theorem qm_H_152 : Cond.methodLink R_H 152 y_Sta_dayRefusal ∈ lw_g := q_at (i := 515) (by decide +kernel) rfl
theorem qm_H_155 : Cond.methodLink R_H 155 y_Sta_addDay ∈ lw_g := q_at (i := 516) (by decide +kernel) rfl
theorem qm_H_113 : Cond.methodLink R_H 113 y_Sta_couldBe ∈ lw_g := q_at (i := 483) (by decide +kernel) rfl
theorem qm_H_116 : Cond.methodLink R_H 116 y_Sta_likeliestBy ∈ lw_g := q_at (i := 484) (by decide +kernel) rfl
theorem qm_H_119 : Cond.methodLink R_H 119 y_Sta_heavyOf ∈ lw_g := q_at (i := 485) (by decide +kernel) rfl
abbrev b_Dia_bestDropped : ByteArray := prog_2_method_10_code
def y_Dia_bestDropped : MethodName := ⟨R_Dia, "bestDropped", "(LHamperByWeather$State;)I"⟩
set_option maxRecDepth 40000 in
theorem mw_Dia_bestDropped : mW y_Dia_bestDropped b_Dia_bestDropped 5 (some FieldType.int) 1 := ⟨q_at (i := 910) rfl rfl, q_at (i := 63) (by decide +kernel) rfl, by decide, by decide, by decide +kernel⟩
theorem ms_Dia_bestDropped : Cond.static y_Dia_bestDropped ∈ lw_g := q_at (i := 909) (by decide +kernel) rfl
theorem qm_H_344 : Cond.methodLink R_H 344 y_Dia_bestDropped ∈ lw_g := q_at (i := 908) (by decide +kernel) rfl
abbrev b_Set_nearestTwo : ByteArray := prog_9_method_7_code
def y_Set_nearestTwo : MethodName := ⟨R_Set, "nearestTwo", "(LHamperByWeather$State;)I"⟩
set_option maxRecDepth 40000 in
theorem mw_Set_nearestTwo : mW y_Set_nearestTwo b_Set_nearestTwo 6 (some FieldType.int) 1 := ⟨q_at (i := 700) rfl rfl, q_at (i := 61) (by decide +kernel) rfl, by decide, by decide, by decide +kernel⟩
theorem ms_Set_nearestTwo : Cond.static y_Set_nearestTwo ∈ lw_g := q_at (i := 699) (by decide +kernel) rfl
theorem qm_H_262 : Cond.methodLink R_H 262 y_Set_nearestTwo ∈ lw_g := q_at (i := 698) (by decide +kernel) rfl
abbrev b_Let_append : ByteArray := prog_7_method_2_code
def y_Let_append : MethodName := ⟨R_Let, "append", "(I)I"⟩
set_option maxRecDepth 40000 in
theorem mw_Let_append : mW y_Let_append b_Let_append 2 (some FieldType.int) 1 := ⟨q_at (i := 312) rfl rfl, q_at (i := 53) (by decide +kernel) rfl, by decide, by decide, by decide +kernel⟩
theorem mv_Let_append : mV y_Let_append := ⟨q_at (i := 310) (by decide +kernel) rfl, q_at (i := 311) (by decide +kernel) rfl⟩
theorem qm_H_73 : Cond.methodLink R_H 73 y_Let_append ∈ lw_g := q_at (i := 309) (by decide +kernel) rfl
theorem qm_H_125 : Cond.methodLink R_H 125 y_H_isField ∈ lw_g := q_at (i := 499) (by decide +kernel) rfl
theorem qf_H_128 : Cond.fieldLinkNest R_H 128 R_Sta "fields" "LHamperByWeather$Fields;" "HamperByWeather" ∈ lw_tbl := List.mem_of_getElem? (i := 122) (by decide +kernel)
theorem qf_H_132 : Cond.fieldLinkNest R_H 132 R_Fld "wishes" "[I" "HamperByWeather" ∈ lw_tbl := List.mem_of_getElem? (i := 88) (by decide +kernel)
theorem qf_H_137 : Cond.fieldLinkNest R_H 137 R_Fld "lefts" "[I" "HamperByWeather" ∈ lw_tbl := List.mem_of_getElem? (i := 91) (by decide +kernel)
theorem qf_H_50 : Cond.fieldLink R_H 50 R_H "harvest" "LHamperByWeather$Harvest;" ∈ lw_g := q_at (i := 277) (by decide +kernel) rfl
theorem qm_H_265 : Cond.methodLink R_H 265 y_Har_gather ∈ lw_g := q_at (i := 705) (by decide +kernel) rfl
theorem qf_H_268 : Cond.fieldLinkNest R_H 268 R_Har "fields" "LHamperByWeather$Fields;" "HamperByWeather" ∈ lw_tbl := List.mem_of_getElem? (i := 220) (by decide +kernel)
abbrev b_Fld_emptied : ByteArray := prog_3_method_9_code
def y_Fld_emptied : MethodName := ⟨R_Fld, "emptied", "()I"⟩
set_option maxRecDepth 40000 in
theorem mw_Fld_emptied : mW y_Fld_emptied b_Fld_emptied 3 (some FieldType.int) 0 := ⟨q_at (i := 724) rfl rfl, q_at (i := 50) (by decide +kernel) rfl, by decide, by decide, by decide +kernel⟩
theorem mv_Fld_emptied : mV y_Fld_emptied := ⟨q_at (i := 722) (by decide +kernel) rfl, q_at (i := 723) (by decide +kernel) rfl⟩
theorem qm_H_269 : Cond.methodLink R_H 269 y_Fld_emptied ∈ lw_g := q_at (i := 721) (by decide +kernel) rfl
theorem qf_H_19 : Cond.fieldLink R_H 19 R_H "trial" "LHamperByWeather$State;" ∈ lw_g := q_at (i := 272) (by decide +kernel) rfl
abbrev b_Let_tellInto : ByteArray := prog_7_method_3_code
def y_Let_tellInto : MethodName := ⟨R_Let, "tellInto", "(LHamperByWeather$State;LHamperByWeather$State;)I"⟩
set_option maxRecDepth 40000 in
theorem mw_Let_tellInto : mW y_Let_tellInto b_Let_tellInto 7 (some FieldType.int) 2 := ⟨q_at (i := 320) rfl rfl, q_at (i := 53) (by decide +kernel) rfl, by decide, by decide, by decide +kernel⟩
theorem mv_Let_tellInto : mV y_Let_tellInto := ⟨q_at (i := 318) (by decide +kernel) rfl, q_at (i := 319) (by decide +kernel) rfl⟩
theorem qm_H_76 : Cond.methodLink R_H 76 y_Let_tellInto ∈ lw_g := q_at (i := 317) (by decide +kernel) rfl
theorem qm_H_80 : Cond.methodLink R_H 80 y_Sta_copyFrom ∈ lw_g := q_at (i := 463) (by decide +kernel) rfl
theorem qf_H_16 : Cond.fieldLink R_H 16 R_H "kept" "LHamperByWeather$State;" ∈ lw_g := q_at (i := 271) (by decide +kernel) rfl
theorem qf_H_22 : Cond.fieldLink R_H 22 R_H "hasKept" "Z" ∈ lw_g := q_at (i := 273) (by decide +kernel) rfl
abbrev b_Num_firstWrong : ByteArray := prog_8_method_7_code
def y_Num_firstWrong : MethodName := ⟨R_Num, "firstWrong", "(LHamperByWeather$State;)I"⟩
set_option maxRecDepth 40000 in
theorem mw_Num_firstWrong : mW y_Num_firstWrong b_Num_firstWrong 5 (some FieldType.int) 1 := ⟨q_at (i := 929) rfl rfl, q_at (i := 54) (by decide +kernel) rfl, by decide, by decide, by decide +kernel⟩
theorem mv_Num_firstWrong : mV y_Num_firstWrong := ⟨q_at (i := 927) (by decide +kernel) rfl, q_at (i := 928) (by decide +kernel) rfl⟩
theorem qm_H_349 : Cond.methodLink R_H 349 y_Num_firstWrong ∈ lw_g := q_at (i := 926) (by decide +kernel) rfl
abbrev b_Dia_lightestDay : ByteArray := prog_2_method_6_code
def y_Dia_lightestDay : MethodName := ⟨R_Dia, "lightestDay", "(LHamperByWeather$State;)I"⟩
set_option maxRecDepth 40000 in
theorem mw_Dia_lightestDay : mW y_Dia_lightestDay b_Dia_lightestDay 5 (some FieldType.int) 1 := ⟨q_at (i := 847) rfl rfl, q_at (i := 63) (by decide +kernel) rfl, by decide, by decide, by decide +kernel⟩
theorem ms_Dia_lightestDay : Cond.static y_Dia_lightestDay ∈ lw_g := q_at (i := 846) (by decide +kernel) rfl
theorem qm_H_314 : Cond.methodLink R_H 314 y_Dia_lightestDay ∈ lw_g := q_at (i := 845) (by decide +kernel) rfl
theorem qm_H_317 : Cond.methodLink R_H 317 y_Sta_hamperOf ∈ lw_g := q_at (i := 849) (by decide +kernel) rfl
abbrev b_Set_fewest : ByteArray := prog_9_method_2_code
def y_Set_fewest : MethodName := ⟨R_Set, "fewest", "(LHamperByWeather$State;II)I"⟩
set_option maxRecDepth 40000 in
theorem mw_Set_fewest : mW y_Set_fewest b_Set_fewest 6 (some FieldType.int) 3 := ⟨q_at (i := 619) rfl rfl, q_at (i := 61) (by decide +kernel) rfl, by decide, by decide, by decide +kernel⟩
theorem ms_Set_fewest : Cond.static y_Set_fewest ∈ lw_g := q_at (i := 618) (by decide +kernel) rfl
theorem qm_H_228 : Cond.methodLink R_H 228 y_Set_fewest ∈ lw_g := q_at (i := 617) (by decide +kernel) rfl
abbrev b_Har_summersByLot : ByteArray := prog_5_method_14_code
def y_Har_summersByLot : MethodName := ⟨R_Har, "summersByLot", "(LHamperByWeather$State;II)V"⟩
set_option maxRecDepth 40000 in
theorem mw_Har_summersByLot : mW y_Har_summersByLot b_Har_summersByLot 8 none 3 := ⟨q_at (i := 943) rfl rfl, q_at (i := 55) (by decide +kernel) rfl, by decide, by decide, by decide +kernel⟩
theorem mv_Har_summersByLot : mV y_Har_summersByLot := ⟨q_at (i := 941) (by decide +kernel) rfl, q_at (i := 942) (by decide +kernel) rfl⟩
theorem qm_H_352 : Cond.methodLink R_H 352 y_Har_summersByLot ∈ lw_g := q_at (i := 940) (by decide +kernel) rfl
theorem qf_H_359 : Cond.fieldLinkNest R_H 359 R_Har "lotsNone" "I" "HamperByWeather" ∈ lw_tbl := List.mem_of_getElem? (i := 233) (by decide +kernel)
theorem qf_H_356 : Cond.fieldLinkNest R_H 356 R_Har "lotsDone" "I" "HamperByWeather" ∈ lw_tbl := List.mem_of_getElem? (i := 231) (by decide +kernel)
theorem qc_H_371 : Cond.constantLong "HamperByWeather" 371 4000000000000000000 ∈ lw_g := q_at (i := 593) (by decide +kernel) rfl
abbrev b_H_isPart : ByteArray := prog_1_method_51_code
def y_H_isPart : MethodName := ⟨R_H, "isPart", "(I)Z"⟩
set_option maxRecDepth 40000 in
theorem mw_H_isPart : mW y_H_isPart b_H_isPart 1 (some FieldType.boolean) 1 := ⟨q_at (i := 596) rfl rfl, q_at (i := 48) (by decide +kernel) rfl, by decide, by decide, by decide +kernel⟩
theorem ms_H_isPart : Cond.static y_H_isPart ∈ lw_g := q_at (i := 595) (by decide +kernel) rfl
theorem qm_H_212 : Cond.methodLink R_H 212 y_H_isPart ∈ lw_g := q_at (i := 594) (by decide +kernel) rfl
theorem qf_H_57 : Cond.fieldLink R_H 57 R_H "fraction" "LHamperByWeather$Fraction;" ∈ lw_g := q_at (i := 278) (by decide +kernel) rfl
abbrev b_Dia_heavyOfAll : ByteArray := prog_2_method_7_code
def y_Dia_heavyOfAll : MethodName := ⟨R_Dia, "heavyOfAll", "(LHamperByWeather$State;)I"⟩
set_option maxRecDepth 40000 in
theorem mw_Dia_heavyOfAll : mW y_Dia_heavyOfAll b_Dia_heavyOfAll 3 (some FieldType.int) 1 := ⟨q_at (i := 889) rfl rfl, q_at (i := 63) (by decide +kernel) rfl, by decide, by decide, by decide +kernel⟩
theorem ms_Dia_heavyOfAll : Cond.static y_Dia_heavyOfAll ∈ lw_g := q_at (i := 888) (by decide +kernel) rfl
theorem qm_H_332 : Cond.methodLink R_H 332 y_Dia_heavyOfAll ∈ lw_g := q_at (i := 887) (by decide +kernel) rfl
abbrev b_Frc_become : ByteArray := prog_4_method_2_code
def y_Frc_become : MethodName := ⟨R_Frc, "become", "(JJ)V"⟩
set_option maxRecDepth 40000 in
theorem mw_Frc_become : mW y_Frc_become b_Frc_become 7 none 2 := ⟨q_at (i := 605) rfl rfl, q_at (i := 56) (by decide +kernel) rfl, by decide, by decide, by decide +kernel⟩
theorem mv_Frc_become : mV y_Frc_become := ⟨q_at (i := 603) (by decide +kernel) rfl, q_at (i := 604) (by decide +kernel) rfl⟩
theorem qm_H_222 : Cond.methodLink R_H 222 y_Frc_become ∈ lw_g := q_at (i := 602) (by decide +kernel) rfl
abbrev b_Frc_told : ByteArray := prog_4_method_3_code
def y_Frc_told : MethodName := ⟨R_Frc, "told", "(I)J"⟩
set_option maxRecDepth 40000 in
theorem mw_Frc_told : mW y_Frc_told b_Frc_told 2 (some FieldType.long) 1 := ⟨q_at (i := 612) rfl rfl, q_at (i := 56) (by decide +kernel) rfl, by decide, by decide, by decide +kernel⟩
theorem mv_Frc_told : mV y_Frc_told := ⟨q_at (i := 610) (by decide +kernel) rfl, q_at (i := 611) (by decide +kernel) rfl⟩
theorem qm_H_225 : Cond.methodLink R_H 225 y_Frc_told ∈ lw_g := q_at (i := 609) (by decide +kernel) rfl
abbrev b_H_refusedLong : ByteArray := prog_1_method_48_code
def y_H_refusedLong : MethodName := ⟨R_H, "refusedLong", "(I)J"⟩
set_option maxRecDepth 40000 in
theorem mw_H_refusedLong : mW y_H_refusedLong b_H_refusedLong 2 (some FieldType.long) 1 := ⟨q_at (i := 592) rfl rfl, q_at (i := 48) (by decide +kernel) rfl, by decide, by decide, by decide +kernel⟩
theorem mv_H_refusedLong : mV y_H_refusedLong := ⟨q_at (i := 591) (by decide +kernel) rfl, q_at (i := 8) (by decide +kernel) rfl⟩
theorem qm_H_208 : Cond.methodLink R_H 208 y_H_refusedLong ∈ lw_g := q_at (i := 589) (by decide +kernel) rfl
abbrev b_Fld_neediest : ByteArray := prog_3_method_13_code
def y_Fld_neediest : MethodName := ⟨R_Fld, "neediest", "()I"⟩
set_option maxRecDepth 40000 in
theorem mw_Fld_neediest : mW y_Fld_neediest b_Fld_neediest 3 (some FieldType.int) 0 := ⟨q_at (i := 897) rfl rfl, q_at (i := 50) (by decide +kernel) rfl, by decide, by decide, by decide +kernel⟩
theorem mv_Fld_neediest : mV y_Fld_neediest := ⟨q_at (i := 895) (by decide +kernel) rfl, q_at (i := 896) (by decide +kernel) rfl⟩
theorem qm_H_335 : Cond.methodLink R_H 335 y_Fld_neediest ∈ lw_g := q_at (i := 894) (by decide +kernel) rfl
theorem qm_H_338 : Cond.methodLink R_H 338 y_Fld_leftOf ∈ lw_g := q_at (i := 902) (by decide +kernel) rfl
theorem qm_H_341 : Cond.methodLink R_H 341 y_Fld_allLeft ∈ lw_g := q_at (i := 903) (by decide +kernel) rfl
theorem qm_H_140 : Cond.methodLink R_H 140 y_H_isWeather ∈ lw_g := q_at (i := 504) (by decide +kernel) rfl
theorem qm_H_215 : Cond.methodLink R_H 215 y_H_holds ∈ lw_g := q_at (i := 597) (by decide +kernel) rfl
theorem qm_H_161 : Cond.methodLink R_H 161 y_Sta_weightOf ∈ lw_g := q_at (i := 522) (by decide +kernel) rfl
abbrev b_Dia_mostPacked : ByteArray := prog_2_method_9_code
def y_Dia_mostPacked : MethodName := ⟨R_Dia, "mostPacked", "(LHamperByWeather$State;)I"⟩
set_option maxRecDepth 40000 in
theorem mw_Dia_mostPacked : mW y_Dia_mostPacked b_Dia_mostPacked 5 (some FieldType.int) 1 := ⟨q_at (i := 870) rfl rfl, q_at (i := 63) (by decide +kernel) rfl, by decide, by decide, by decide +kernel⟩
theorem ms_Dia_mostPacked : Cond.static y_Dia_mostPacked ∈ lw_g := q_at (i := 869) (by decide +kernel) rfl
theorem qm_H_323 : Cond.methodLink R_H 323 y_Dia_mostPacked ∈ lw_g := q_at (i := 868) (by decide +kernel) rfl
theorem qm_H_326 : Cond.methodLink R_H 326 y_Dia_timesPacked ∈ lw_g := q_at (i := 874) (by decide +kernel) rfl
abbrev b_Har_findOrder : ByteArray := prog_5_method_7_code
def y_Har_findOrder : MethodName := ⟨R_Har, "findOrder", "(LHamperByWeather$State;I)V"⟩
set_option maxRecDepth 40000 in
theorem mw_Har_findOrder : mW y_Har_findOrder b_Har_findOrder 3 none 2 := ⟨q_at (i := 732) rfl rfl, q_at (i := 55) (by decide +kernel) rfl, by decide, by decide, by decide +kernel⟩
theorem mv_Har_findOrder : mV y_Har_findOrder := ⟨q_at (i := 730) (by decide +kernel) rfl, q_at (i := 731) (by decide +kernel) rfl⟩
theorem qm_H_275 : Cond.methodLink R_H 275 y_Har_findOrder ∈ lw_g := q_at (i := 729) (by decide +kernel) rfl
abbrev b_Har_orderedDay : ByteArray := prog_5_method_11_code
def y_Har_orderedDay : MethodName := ⟨R_Har, "orderedDay", "(I)I"⟩
set_option maxRecDepth 40000 in
theorem mw_Har_orderedDay : mW y_Har_orderedDay b_Har_orderedDay 2 (some FieldType.int) 1 := ⟨q_at (i := 764) rfl rfl, q_at (i := 55) (by decide +kernel) rfl, by decide, by decide, by decide +kernel⟩
theorem mv_Har_orderedDay : mV y_Har_orderedDay := ⟨q_at (i := 762) (by decide +kernel) rfl, q_at (i := 763) (by decide +kernel) rfl⟩
theorem qm_H_281 : Cond.methodLink R_H 281 y_Har_orderedDay ∈ lw_g := q_at (i := 761) (by decide +kernel) rfl
theorem qf_H_278 : Cond.fieldLinkNest R_H 278 R_Har "most" "I" "HamperByWeather" ∈ lw_tbl := List.mem_of_getElem? (i := 228) (by decide +kernel)
abbrev b_Set_leastHeavy : ByteArray := prog_9_method_3_code
def y_Set_leastHeavy : MethodName := ⟨R_Set, "leastHeavy", "(LHamperByWeather$State;I)I"⟩
set_option maxRecDepth 40000 in
theorem mw_Set_leastHeavy : mW y_Set_leastHeavy b_Set_leastHeavy 5 (some FieldType.int) 2 := ⟨q_at (i := 634) rfl rfl, q_at (i := 61) (by decide +kernel) rfl, by decide, by decide, by decide +kernel⟩
theorem ms_Set_leastHeavy : Cond.static y_Set_leastHeavy ∈ lw_g := q_at (i := 633) (by decide +kernel) rfl
theorem qm_H_234 : Cond.methodLink R_H 234 y_Set_leastHeavy ∈ lw_g := q_at (i := 632) (by decide +kernel) rfl
abbrev b_Set_mostDear : ByteArray := prog_9_method_4_code
def y_Set_mostDear : MethodName := ⟨R_Set, "mostDear", "(LHamperByWeather$State;I)I"⟩
set_option maxRecDepth 40000 in
theorem mw_Set_mostDear : mW y_Set_mostDear b_Set_mostDear 5 (some FieldType.int) 2 := ⟨q_at (i := 638) rfl rfl, q_at (i := 61) (by decide +kernel) rfl, by decide, by decide, by decide +kernel⟩
theorem ms_Set_mostDear : Cond.static y_Set_mostDear ∈ lw_g := q_at (i := 637) (by decide +kernel) rfl
theorem qm_H_238 : Cond.methodLink R_H 238 y_Set_mostDear ∈ lw_g := q_at (i := 636) (by decide +kernel) rfl
theorem qm_H_172 : Cond.methodLink R_H 172 y_Sta_packRefusal ∈ lw_g := q_at (i := 548) (by decide +kernel) rfl
abbrev b_Sps_noteHamper : ByteArray := prog_12_method_3_code
def y_Sps_noteHamper : MethodName := ⟨R_Sps, "noteHamper", "(LHamperByWeather$State;I)V"⟩
set_option maxRecDepth 40000 in
theorem mw_Sps_noteHamper : mW y_Sps_noteHamper b_Sps_noteHamper 3 none 2 := ⟨q_at (i := 552) rfl rfl, q_at (i := 51) (by decide +kernel) rfl, by decide, by decide, by decide +kernel⟩
theorem mv_Sps_noteHamper : mV y_Sps_noteHamper := ⟨q_at (i := 550) (by decide +kernel) rfl, q_at (i := 551) (by decide +kernel) rfl⟩
theorem qm_H_175 : Cond.methodLink R_H 175 y_Sps_noteHamper ∈ lw_g := q_at (i := 549) (by decide +kernel) rfl
theorem qm_H_178 : Cond.methodLink R_H 178 y_Sta_packOrUnpack ∈ lw_g := q_at (i := 554) (by decide +kernel) rfl
abbrev b_Har_mostByPlan : ByteArray := prog_5_method_5_code
def y_Har_mostByPlan : MethodName := ⟨R_Har, "mostByPlan", "(LHamperByWeather$State;)I"⟩
set_option maxRecDepth 40000 in
theorem mw_Har_mostByPlan : mW y_Har_mostByPlan b_Har_mostByPlan 2 (some FieldType.int) 1 := ⟨q_at (i := 772) rfl rfl, q_at (i := 55) (by decide +kernel) rfl, by decide, by decide, by decide +kernel⟩
theorem mv_Har_mostByPlan : mV y_Har_mostByPlan := ⟨q_at (i := 770) (by decide +kernel) rfl, q_at (i := 771) (by decide +kernel) rfl⟩
theorem qm_H_284 : Cond.methodLink R_H 284 y_Har_mostByPlan ∈ lw_g := q_at (i := 769) (by decide +kernel) rfl
abbrev b_Dia_firstWithRope : ByteArray := prog_2_method_2_code
def y_Dia_firstWithRope : MethodName := ⟨R_Dia, "firstWithRope", "(LHamperByWeather$State;)I"⟩
set_option maxRecDepth 40000 in
theorem mw_Dia_firstWithRope : mW y_Dia_firstWithRope b_Dia_firstWithRope 3 (some FieldType.int) 1 := ⟨q_at (i := 646) rfl rfl, q_at (i := 63) (by decide +kernel) rfl, by decide, by decide, by decide +kernel⟩
theorem ms_Dia_firstWithRope : Cond.static y_Dia_firstWithRope ∈ lw_g := q_at (i := 645) (by decide +kernel) rfl
theorem qm_H_241 : Cond.methodLink R_H 241 y_Dia_firstWithRope ∈ lw_g := q_at (i := 644) (by decide +kernel) rfl
abbrev b_Num_append : ByteArray := prog_8_method_2_code
def y_Num_append : MethodName := ⟨R_Num, "append", "(I)I"⟩
set_option maxRecDepth 40000 in
theorem mw_Num_append : mW y_Num_append b_Num_append 2 (some FieldType.int) 1 := ⟨q_at (i := 921) rfl rfl, q_at (i := 54) (by decide +kernel) rfl, by decide, by decide, by decide +kernel⟩
theorem mv_Num_append : mV y_Num_append := ⟨q_at (i := 919) (by decide +kernel) rfl, q_at (i := 920) (by decide +kernel) rfl⟩
theorem qm_H_348 : Cond.methodLink R_H 348 y_Num_append ∈ lw_g := q_at (i := 918) (by decide +kernel) rfl
theorem qm_H_258 : Cond.methodLink R_H 258 y_Sta_allThings ∈ lw_g := q_at (i := 693) (by decide +kernel) rfl
abbrev b_Har_spareDays : ByteArray := prog_5_method_4_code
def y_Har_spareDays : MethodName := ⟨R_Har, "spareDays", "(LHamperByWeather$State;)I"⟩
set_option maxRecDepth 40000 in
theorem mw_Har_spareDays : mW y_Har_spareDays b_Har_spareDays 5 (some FieldType.int) 1 := ⟨q_at (i := 780) rfl rfl, q_at (i := 55) (by decide +kernel) rfl, by decide, by decide, by decide +kernel⟩
theorem mv_Har_spareDays : mV y_Har_spareDays := ⟨q_at (i := 778) (by decide +kernel) rfl, q_at (i := 779) (by decide +kernel) rfl⟩
theorem qm_H_287 : Cond.methodLink R_H 287 y_Har_spareDays ∈ lw_g := q_at (i := 777) (by decide +kernel) rfl
theorem qm_H_192 : Cond.methodLink R_H 192 y_Sta_spendRefusal ∈ lw_g := q_at (i := 570) (by decide +kernel) rfl
theorem qm_H_198 : Cond.methodLink R_H 198 y_Fld_fieldFor ∈ lw_g := q_at (i := 572) (by decide +kernel) rfl
abbrev b_Sps_noteField : ByteArray := prog_12_method_4_code
def y_Sps_noteField : MethodName := ⟨R_Sps, "noteField", "(LHamperByWeather$State;I)V"⟩
set_option maxRecDepth 40000 in
theorem mw_Sps_noteField : mW y_Sps_noteField b_Sps_noteField 4 none 2 := ⟨q_at (i := 563) rfl rfl, q_at (i := 51) (by decide +kernel) rfl, by decide, by decide, by decide +kernel⟩
theorem mv_Sps_noteField : mV y_Sps_noteField := ⟨q_at (i := 561) (by decide +kernel) rfl, q_at (i := 562) (by decide +kernel) rfl⟩
theorem qm_H_185 : Cond.methodLink R_H 185 y_Sps_noteField ∈ lw_g := q_at (i := 560) (by decide +kernel) rfl
theorem qm_H_201 : Cond.methodLink R_H 201 y_Sta_spend ∈ lw_g := q_at (i := 573) (by decide +kernel) rfl
theorem qm_H_195 : Cond.methodLink R_H 195 y_Sta_likeliestOn ∈ lw_g := q_at (i := 571) (by decide +kernel) rfl
abbrev b_Dia_withSoMany : ByteArray := prog_2_method_5_code
def y_Dia_withSoMany : MethodName := ⟨R_Dia, "withSoMany", "(LHamperByWeather$State;I)I"⟩
set_option maxRecDepth 40000 in
theorem mw_Dia_withSoMany : mW y_Dia_withSoMany b_Dia_withSoMany 4 (some FieldType.int) 2 := ⟨q_at (i := 881) rfl rfl, q_at (i := 63) (by decide +kernel) rfl, by decide, by decide, by decide +kernel⟩
theorem ms_Dia_withSoMany : Cond.static y_Dia_withSoMany ∈ lw_g := q_at (i := 880) (by decide +kernel) rfl
theorem qm_H_329 : Cond.methodLink R_H 329 y_Dia_withSoMany ∈ lw_g := q_at (i := 879) (by decide +kernel) rfl
abbrev b_Dia_firstSwap : ByteArray := prog_2_method_12_code
def y_Dia_firstSwap : MethodName := ⟨R_Dia, "firstSwap", "(LHamperByWeather$State;)I"⟩
set_option maxRecDepth 40000 in
theorem mw_Dia_firstSwap : mW y_Dia_firstSwap b_Dia_firstSwap 4 (some FieldType.int) 1 := ⟨q_at (i := 856) rfl rfl, q_at (i := 63) (by decide +kernel) rfl, by decide, by decide, by decide +kernel⟩
theorem ms_Dia_firstSwap : Cond.static y_Dia_firstSwap ∈ lw_g := q_at (i := 855) (by decide +kernel) rfl
theorem qm_H_320 : Cond.methodLink R_H 320 y_Dia_firstSwap ∈ lw_g := q_at (i := 854) (by decide +kernel) rfl
abbrev b_Set_bestTeller : ByteArray := prog_9_method_6_code
def y_Set_bestTeller : MethodName := ⟨R_Set, "bestTeller", "(LHamperByWeather$State;)I"⟩
set_option maxRecDepth 40000 in
theorem mw_Set_bestTeller : mW y_Set_bestTeller b_Set_bestTeller 7 (some FieldType.int) 1 := ⟨q_at (i := 671) rfl rfl, q_at (i := 61) (by decide +kernel) rfl, by decide, by decide, by decide +kernel⟩
theorem ms_Set_bestTeller : Cond.static y_Set_bestTeller ∈ lw_g := q_at (i := 670) (by decide +kernel) rfl
theorem qm_H_252 : Cond.methodLink R_H 252 y_Set_bestTeller ∈ lw_g := q_at (i := 669) (by decide +kernel) rfl
theorem qm_H_146 : Cond.methodLink R_H 146 y_Sta_thingRefusal ∈ lw_g := q_at (i := 509) (by decide +kernel) rfl
theorem qm_H_149 : Cond.methodLink R_H 149 y_Sta_addThing ∈ lw_g := q_at (i := 510) (by decide +kernel) rfl
theorem qm_H_85 : Cond.methodLink R_H 85 y_Sta_hasThing ∈ lw_g := q_at (i := 468) (by decide +kernel) rfl
theorem qf_H_89 : Cond.fieldLinkNest R_H 89 R_Sta "kinds" "[I" "HamperByWeather" ∈ lw_tbl := List.mem_of_getElem? (i := 102) (by decide +kernel)
theorem qf_H_92 : Cond.fieldLinkNest R_H 92 R_Sta "figures" "[I" "HamperByWeather" ∈ lw_tbl := List.mem_of_getElem? (i := 104) (by decide +kernel)
theorem qm_H_95 : Cond.methodLink R_H 95 y_Kin_heavy ∈ lw_g := q_at (i := 469) (by decide +kernel) rfl
theorem qm_H_101 : Cond.methodLink R_H 101 y_Kin_dear ∈ lw_g := q_at (i := 472) (by decide +kernel) rfl
theorem qf_H_104 : Cond.fieldLinkNest R_H 104 R_Sta "goes" "[I" "HamperByWeather" ∈ lw_tbl := List.mem_of_getElem? (i := 106) (by decide +kernel)
abbrev b_Dia_withNoneOf : ByteArray := prog_2_method_3_code
def y_Dia_withNoneOf : MethodName := ⟨R_Dia, "withNoneOf", "(LHamperByWeather$State;I)I"⟩
set_option maxRecDepth 40000 in
theorem mw_Dia_withNoneOf : mW y_Dia_withNoneOf b_Dia_withNoneOf 4 (some FieldType.int) 2 := ⟨q_at (i := 655) rfl rfl, q_at (i := 63) (by decide +kernel) rfl, by decide, by decide, by decide +kernel⟩
theorem ms_Dia_withNoneOf : Cond.static y_Dia_withNoneOf ∈ lw_g := q_at (i := 654) (by decide +kernel) rfl
theorem qm_H_246 : Cond.methodLink R_H 246 y_Dia_withNoneOf ∈ lw_g := q_at (i := 653) (by decide +kernel) rfl
theorem qm_H_181 : Cond.methodLink R_H 181 y_Fld_wishRefusal ∈ lw_g := q_at (i := 559) (by decide +kernel) rfl
theorem qm_H_188 : Cond.methodLink R_H 188 y_Fld_become ∈ lw_g := q_at (i := 565) (by decide +kernel) rfl
theorem qm_H_158 : Cond.methodLink R_H 158 y_Sta_weightRefusal ∈ lw_g := q_at (i := 521) (by decide +kernel) rfl
abbrev b_Sps_noteWeight : ByteArray := prog_12_method_2_code
def y_Sps_noteWeight : MethodName := ⟨R_Sps, "noteWeight", "(LHamperByWeather$State;I)V"⟩
set_option maxRecDepth 40000 in
theorem mw_Sps_noteWeight : mW y_Sps_noteWeight b_Sps_noteWeight 3 none 2 := ⟨q_at (i := 529) rfl rfl, q_at (i := 51) (by decide +kernel) rfl, by decide, by decide, by decide +kernel⟩
theorem mv_Sps_noteWeight : mV y_Sps_noteWeight := ⟨q_at (i := 527) (by decide +kernel) rfl, q_at (i := 528) (by decide +kernel) rfl⟩
theorem qm_H_164 : Cond.methodLink R_H 164 y_Sps_noteWeight ∈ lw_g := q_at (i := 526) (by decide +kernel) rfl
theorem qm_H_168 : Cond.methodLink R_H 168 y_Sta_reweigh ∈ lw_g := q_at (i := 543) (by decide +kernel) rfl
theorem qf_H_143 : Cond.fieldLinkNest R_H 143 R_Sta "weights" "[I" "HamperByWeather" ∈ lw_tbl := List.mem_of_getElem? (i := 99) (by decide +kernel)
abbrev b_Num_tellOfWeathers : ByteArray := prog_8_method_3_code
def y_Num_tellOfWeathers : MethodName := ⟨R_Num, "tellOfWeathers", "()Z"⟩
set_option maxRecDepth 40000 in
theorem mw_Num_tellOfWeathers : mW y_Num_tellOfWeathers b_Num_tellOfWeathers 2 (some FieldType.boolean) 0 := ⟨q_at (i := 789) rfl rfl, q_at (i := 54) (by decide +kernel) rfl, by decide, by decide, by decide +kernel⟩
theorem mv_Num_tellOfWeathers : mV y_Num_tellOfWeathers := ⟨q_at (i := 787) (by decide +kernel) rfl, q_at (i := 788) (by decide +kernel) rfl⟩
theorem qm_H_290 : Cond.methodLink R_H 290 y_Num_tellOfWeathers ∈ lw_g := q_at (i := 786) (by decide +kernel) rfl
abbrev b_Num_figuresSo : ByteArray := prog_8_method_6_code
def y_Num_figuresSo : MethodName := ⟨R_Num, "figuresSo", "(I)I"⟩
set_option maxRecDepth 40000 in
theorem mw_Num_figuresSo : mW y_Num_figuresSo b_Num_figuresSo 4 (some FieldType.int) 1 := ⟨q_at (i := 802) rfl rfl, q_at (i := 54) (by decide +kernel) rfl, by decide, by decide, by decide +kernel⟩
theorem mv_Num_figuresSo : mV y_Num_figuresSo := ⟨q_at (i := 800) (by decide +kernel) rfl, q_at (i := 801) (by decide +kernel) rfl⟩
theorem qm_H_297 : Cond.methodLink R_H 297 y_Num_figuresSo ∈ lw_g := q_at (i := 799) (by decide +kernel) rfl
abbrev b_Num_kindsSo : ByteArray := prog_8_method_5_code
def y_Num_kindsSo : MethodName := ⟨R_Num, "kindsSo", "(I)I"⟩
set_option maxRecDepth 40000 in
theorem mw_Num_kindsSo : mW y_Num_kindsSo b_Num_kindsSo 4 (some FieldType.int) 1 := ⟨q_at (i := 793) rfl rfl, q_at (i := 54) (by decide +kernel) rfl, by decide, by decide, by decide +kernel⟩
theorem mv_Num_kindsSo : mV y_Num_kindsSo := ⟨q_at (i := 791) (by decide +kernel) rfl, q_at (i := 792) (by decide +kernel) rfl⟩
theorem qm_H_294 : Cond.methodLink R_H 294 y_Num_kindsSo ∈ lw_g := q_at (i := 790) (by decide +kernel) rfl
abbrev b_Sta_greatestOf : ByteArray := prog_10_method_25_code
def y_Sta_greatestOf : MethodName := ⟨R_Sta, "greatestOf", "(I)I"⟩
set_option maxRecDepth 40000 in
theorem mw_Sta_greatestOf : mW y_Sta_greatestOf b_Sta_greatestOf 4 (some FieldType.int) 1 := ⟨q_at (i := 810) rfl rfl, q_at (i := 49) (by decide +kernel) rfl, by decide, by decide, by decide +kernel⟩
theorem mv_Sta_greatestOf : mV y_Sta_greatestOf := ⟨q_at (i := 808) (by decide +kernel) rfl, q_at (i := 809) (by decide +kernel) rfl⟩
theorem qm_H_300 : Cond.methodLink R_H 300 y_Sta_greatestOf ∈ lw_g := q_at (i := 807) (by decide +kernel) rfl
abbrev b_Har_waysAllIn : ByteArray := prog_5_method_12_code
def y_Har_waysAllIn : MethodName := ⟨R_Har, "waysAllIn", "(LHamperByWeather$State;II)J"⟩
set_option maxRecDepth 40000 in
theorem mw_Har_waysAllIn : mW y_Har_waysAllIn b_Har_waysAllIn 4 (some FieldType.long) 3 := ⟨q_at (i := 829) rfl rfl, q_at (i := 55) (by decide +kernel) rfl, by decide, by decide, by decide +kernel⟩
theorem mv_Har_waysAllIn : mV y_Har_waysAllIn := ⟨q_at (i := 827) (by decide +kernel) rfl, q_at (i := 828) (by decide +kernel) rfl⟩
theorem qm_H_306 : Cond.methodLink R_H 306 y_Har_waysAllIn ∈ lw_g := q_at (i := 826) (by decide +kernel) rfl
abbrev b_H_power : ByteArray := prog_1_method_53_code
def y_H_power : MethodName := ⟨R_H, "power", "(II)J"⟩
set_option maxRecDepth 40000 in
theorem mw_H_power : mW y_H_power b_H_power 5 (some FieldType.long) 2 := ⟨q_at (i := 840) rfl rfl, q_at (i := 48) (by decide +kernel) rfl, by decide, by decide, by decide +kernel⟩
theorem ms_H_power : Cond.static y_H_power ∈ lw_g := q_at (i := 839) (by decide +kernel) rfl
theorem qm_H_310 : Cond.methodLink R_H 310 y_H_power ∈ lw_g := q_at (i := 838) (by decide +kernel) rfl
theorem qf_M_177 : Cond.fieldLink R_M 177 R_M "isTaking" "Z" ∈ lw_g := q_at (i := 997) (by decide +kernel) rfl
theorem qf_M_183 : Cond.fieldLink R_M 183 R_M "place0" "I" ∈ lw_g := q_at (i := 996) (by decide +kernel) rfl
theorem qf_M_180 : Cond.fieldLink R_M 180 R_M "keptIn" "[I" ∈ lw_g := q_at (i := 998) (by decide +kernel) rfl
theorem qf_M_71 : Cond.fieldLink R_M 71 R_M "things" "I" ∈ lw_g := q_at (i := 975) (by decide +kernel) rfl
abbrev b_M_carry : ByteArray := prog_14_method_34_code
def y_M_carry : MethodName := ⟨R_M, "carry", "(I)I"⟩
set_option maxRecDepth 40000 in
theorem mw_M_carry : mW y_M_carry b_M_carry 2 (some FieldType.int) 1 := ⟨q_at (i := 1124) rfl rfl, q_at (i := 57) (by decide +kernel) rfl, by decide, by decide, by decide +kernel⟩
theorem mv_M_carry : mV y_M_carry := ⟨q_at (i := 1123) (by decide +kernel) rfl, q_at (i := 21) (by decide +kernel) rfl⟩
theorem qm_M_186 : Cond.methodLink R_M 186 y_M_carry ∈ lw_g := q_at (i := 1121) (by decide +kernel) rfl
theorem qf_M_78 : Cond.fieldLink R_M 78 R_M "days" "I" ∈ lw_g := q_at (i := 978) (by decide +kernel) rfl
theorem qf_M_105 : Cond.fieldLink R_M 105 R_M "done0" "I" ∈ lw_g := q_at (i := 982) (by decide +kernel) rfl
theorem qf_M_7 : Cond.fieldLink R_M 7 R_M "weights" "[I" ∈ lw_g := q_at (i := 974) (by decide +kernel) rfl
theorem qf_M_13 : Cond.fieldLink R_M 13 R_M "kinds" "[I" ∈ lw_g := q_at (i := 976) (by decide +kernel) rfl
theorem qf_M_16 : Cond.fieldLink R_M 16 R_M "figures" "[I" ∈ lw_g := q_at (i := 977) (by decide +kernel) rfl
theorem qf_M_19 : Cond.fieldLink R_M 19 R_M "hampers" "[I" ∈ lw_g := q_at (i := 979) (by decide +kernel) rfl
theorem qf_M_22 : Cond.fieldLink R_M 22 R_M "wants0" "[I" ∈ lw_g := q_at (i := 980) (by decide +kernel) rfl
theorem qf_M_25 : Cond.fieldLink R_M 25 R_M "left0" "[I" ∈ lw_g := q_at (i := 981) (by decide +kernel) rfl
theorem qf_M_43 : Cond.fieldLink R_M 43 R_M "kept" "[I" ∈ lw_g := q_at (i := 993) (by decide +kernel) rfl
abbrev b_M_carryAll : ByteArray := prog_14_method_35_code
def y_M_carryAll : MethodName := ⟨R_M, "carryAll", "([IZ)V"⟩
set_option maxRecDepth 40000 in
theorem mw_M_carryAll : mW y_M_carryAll b_M_carryAll 4 none 2 := ⟨q_at (i := 1120) rfl rfl, q_at (i := 57) (by decide +kernel) rfl, by decide, by decide, by decide +kernel⟩
theorem mv_M_carryAll : mV y_M_carryAll := ⟨q_at (i := 1119) (by decide +kernel) rfl, q_at (i := 20) (by decide +kernel) rfl⟩
theorem qm_M_189 : Cond.methodLink R_M 189 y_M_carryAll ∈ lw_g := q_at (i := 1117) (by decide +kernel) rfl
abbrev b_M_hasBit : ByteArray := prog_14_method_9_code
def y_M_hasBit : MethodName := ⟨R_M, "hasBit", "(II)Z"⟩
set_option maxRecDepth 40000 in
theorem mw_M_hasBit : mW y_M_hasBit b_M_hasBit 2 (some FieldType.boolean) 2 := ⟨q_at (i := 1151) rfl rfl, q_at (i := 57) (by decide +kernel) rfl, by decide, by decide, by decide +kernel⟩
theorem ms_M_hasBit : Cond.static y_M_hasBit ∈ lw_g := q_at (i := 1150) (by decide +kernel) rfl
theorem qm_M_85 : Cond.methodLink R_M 85 y_M_hasBit ∈ lw_g := q_at (i := 1149) (by decide +kernel) rfl
abbrev b_M_dearOf : ByteArray := prog_14_method_14_code
def y_M_dearOf : MethodName := ⟨R_M, "dearOf", "(I)I"⟩
set_option maxRecDepth 40000 in
theorem mw_M_dearOf : mW y_M_dearOf b_M_dearOf 2 (some FieldType.int) 1 := ⟨q_at (i := 1199) rfl rfl, q_at (i := 57) (by decide +kernel) rfl, by decide, by decide, by decide +kernel⟩
theorem mv_M_dearOf : mV y_M_dearOf := ⟨q_at (i := 1198) (by decide +kernel) rfl, q_at (i := 34) (by decide +kernel) rfl⟩
theorem qm_M_93 : Cond.methodLink R_M 93 y_M_dearOf ∈ lw_g := q_at (i := 1196) (by decide +kernel) rfl
abbrev b_M_heavyOf : ByteArray := prog_14_method_13_code
def y_M_heavyOf : MethodName := ⟨R_M, "heavyOf", "(I)I"⟩
set_option maxRecDepth 40000 in
theorem mw_M_heavyOf : mW y_M_heavyOf b_M_heavyOf 2 (some FieldType.int) 1 := ⟨q_at (i := 1195) rfl rfl, q_at (i := 57) (by decide +kernel) rfl, by decide, by decide, by decide +kernel⟩
theorem mv_M_heavyOf : mV y_M_heavyOf := ⟨q_at (i := 1194) (by decide +kernel) rfl, q_at (i := 33) (by decide +kernel) rfl⟩
theorem qm_M_89 : Cond.methodLink R_M 89 y_M_heavyOf ∈ lw_g := q_at (i := 1192) (by decide +kernel) rfl
abbrev b_M_goesBy : ByteArray := prog_14_method_11_code
def y_M_goesBy : MethodName := ⟨R_M, "goesBy", "(III)Z"⟩
set_option maxRecDepth 40000 in
theorem mw_M_goesBy : mW y_M_goesBy b_M_goesBy 5 (some FieldType.boolean) 3 := ⟨q_at (i := 1158) rfl rfl, q_at (i := 57) (by decide +kernel) rfl, by decide, by decide, by decide +kernel⟩
theorem ms_M_goesBy : Cond.static y_M_goesBy ∈ lw_g := q_at (i := 1157) (by decide +kernel) rfl
theorem qm_M_81 : Cond.methodLink R_M 81 y_M_goesBy ∈ lw_g := q_at (i := 1156) (by decide +kernel) rfl
abbrev b_M_goesWith : ByteArray := prog_14_method_12_code
def y_M_goesWith : MethodName := ⟨R_M, "goesWith", "(I)I"⟩
set_option maxRecDepth 40000 in
theorem mw_M_goesWith : mW y_M_goesWith b_M_goesWith 4 (some FieldType.int) 1 := ⟨q_at (i := 1155) rfl rfl, q_at (i := 57) (by decide +kernel) rfl, by decide, by decide, by decide +kernel⟩
theorem mv_M_goesWith : mV y_M_goesWith := ⟨q_at (i := 1154) (by decide +kernel) rfl, q_at (i := 28) (by decide +kernel) rfl⟩
theorem qm_M_96 : Cond.methodLink R_M 96 y_M_goesWith ∈ lw_g := q_at (i := 1152) (by decide +kernel) rfl
theorem qf_M_67 : Cond.fieldLink R_M 67 R_M "thrown" "I" ∈ lw_g := q_at (i := 983) (by decide +kernel) rfl
abbrev b_M_couldBe : ByteArray := prog_14_method_17_code
def y_M_couldBe : MethodName := ⟨R_M, "couldBe", "(I)I"⟩
set_option maxRecDepth 40000 in
theorem mw_M_couldBe : mW y_M_couldBe b_M_couldBe 4 (some FieldType.int) 1 := ⟨q_at (i := 1148) rfl rfl, q_at (i := 57) (by decide +kernel) rfl, by decide, by decide, by decide +kernel⟩
theorem mv_M_couldBe : mV y_M_couldBe := ⟨q_at (i := 1147) (by decide +kernel) rfl, q_at (i := 27) (by decide +kernel) rfl⟩
theorem qm_M_99 : Cond.methodLink R_M 99 y_M_couldBe ∈ lw_g := q_at (i := 1145) (by decide +kernel) rfl
theorem qf_M_28 : Cond.fieldLink R_M 28 R_M "refusals" "[I" ∈ lw_g := q_at (i := 984) (by decide +kernel) rfl
theorem qf_M_174 : Cond.fieldLink R_M 174 R_M "turned" "I" ∈ lw_g := q_at (i := 1001) (by decide +kernel) rfl
theorem qf_M_52 : Cond.fieldLink R_M 52 R_M "turnOf" "[I" ∈ lw_g := q_at (i := 1000) (by decide +kernel) rfl
theorem qf_M_49 : Cond.fieldLink R_M 49 R_M "turns0" "[I" ∈ lw_g := q_at (i := 999) (by decide +kernel) rfl
abbrev b_M_refuse : ByteArray := prog_14_method_4_code
def y_M_refuse : MethodName := ⟨R_M, "refuse", "(I)I"⟩
set_option maxRecDepth 40000 in
theorem mw_M_refuse : mW y_M_refuse b_M_refuse 2 (some FieldType.int) 1 := ⟨q_at (i := 1084) rfl rfl, q_at (i := 57) (by decide +kernel) rfl, by decide, by decide, by decide +kernel⟩
theorem mv_M_refuse : mV y_M_refuse := ⟨q_at (i := 1083) (by decide +kernel) rfl, q_at (i := 14) (by decide +kernel) rfl⟩
theorem qm_M_108 : Cond.methodLink R_M 108 y_M_refuse ∈ lw_g := q_at (i := 1081) (by decide +kernel) rfl
abbrev b_M_in : ByteArray := prog_14_method_3_code
def y_M_in : MethodName := ⟨R_M, "in", "(JJJ)Z"⟩
set_option maxRecDepth 40000 in
theorem mw_M_in : mW y_M_in b_M_in 6 (some FieldType.boolean) 3 := ⟨q_at (i := 1112) rfl rfl, q_at (i := 57) (by decide +kernel) rfl, by decide, by decide, by decide +kernel⟩
theorem ms_M_in : Cond.static y_M_in ∈ lw_g := q_at (i := 1111) (by decide +kernel) rfl
theorem qm_M_74 : Cond.methodLink R_M 74 y_M_in ∈ lw_g := q_at (i := 1110) (by decide +kernel) rfl
abbrev b_M_isDay : ByteArray := prog_14_method_6_code
def y_M_isDay : MethodName := ⟨R_M, "isDay", "(I)Z"⟩
set_option maxRecDepth 40000 in
theorem mw_M_isDay : mW y_M_isDay b_M_isDay 2 (some FieldType.boolean) 1 := ⟨q_at (i := 1140) rfl rfl, q_at (i := 57) (by decide +kernel) rfl, by decide, by decide, by decide +kernel⟩
theorem mv_M_isDay : mV y_M_isDay := ⟨q_at (i := 1139) (by decide +kernel) rfl, q_at (i := 25) (by decide +kernel) rfl⟩
theorem qm_M_150 : Cond.methodLink R_M 150 y_M_isDay ∈ lw_g := q_at (i := 1137) (by decide +kernel) rfl
abbrev b_M_allDear : ByteArray := prog_14_method_16_code
def y_M_allDear : MethodName := ⟨R_M, "allDear", "(I)I"⟩
set_option maxRecDepth 40000 in
theorem mw_M_allDear : mW y_M_allDear b_M_allDear 4 (some FieldType.int) 1 := ⟨q_at (i := 1211) rfl rfl, q_at (i := 57) (by decide +kernel) rfl, by decide, by decide, by decide +kernel⟩
theorem mv_M_allDear : mV y_M_allDear := ⟨q_at (i := 1210) (by decide +kernel) rfl, q_at (i := 36) (by decide +kernel) rfl⟩
theorem qm_M_201 : Cond.methodLink R_M 201 y_M_allDear ∈ lw_g := q_at (i := 1208) (by decide +kernel) rfl
abbrev b_M_winBy : ByteArray := prog_14_method_75_code
def y_M_winBy : MethodName := ⟨R_M, "winBy", "(IIII)I"⟩
set_option maxRecDepth 40000 in
theorem mw_M_winBy : mW y_M_winBy b_M_winBy 4 (some FieldType.int) 4 := ⟨q_at (i := 1367) rfl rfl, q_at (i := 57) (by decide +kernel) rfl, by decide, by decide, by decide +kernel⟩
theorem ms_M_winBy : Cond.static y_M_winBy ∈ lw_g := q_at (i := 1366) (by decide +kernel) rfl
theorem qm_M_258 : Cond.methodLink R_M 258 y_M_winBy ∈ lw_g := q_at (i := 1365) (by decide +kernel) rfl
theorem qf_M_252 : Cond.fieldLink R_M 252 R_M "rowMany" "I" ∈ lw_g := q_at (i := 1006) (by decide +kernel) rfl
abbrev b_M_likeliest : ByteArray := prog_14_method_19_code
def y_M_likeliest : MethodName := ⟨R_M, "likeliest", "(I)I"⟩
set_option maxRecDepth 40000 in
theorem mw_M_likeliest : mW y_M_likeliest b_M_likeliest 6 (some FieldType.int) 1 := ⟨q_at (i := 1162) rfl rfl, q_at (i := 57) (by decide +kernel) rfl, by decide, by decide, by decide +kernel⟩
theorem mv_M_likeliest : mV y_M_likeliest := ⟨q_at (i := 1161) (by decide +kernel) rfl, q_at (i := 29) (by decide +kernel) rfl⟩
theorem qm_M_102 : Cond.methodLink R_M 102 y_M_likeliest ∈ lw_g := q_at (i := 1159) (by decide +kernel) rfl
theorem qf_M_40 : Cond.fieldLink R_M 40 R_M "told" "[I" ∈ lw_g := q_at (i := 992) (by decide +kernel) rfl
theorem qf_M_37 : Cond.fieldLink R_M 37 R_M "letterOf" "[I" ∈ lw_g := q_at (i := 991) (by decide +kernel) rfl
abbrev b_M_dayComes : ByteArray := prog_14_method_31_code
def y_M_dayComes : MethodName := ⟨R_M, "dayComes", "(I)V"⟩
set_option maxRecDepth 40000 in
theorem mw_M_dayComes : mW y_M_dayComes b_M_dayComes 2 none 1 := ⟨q_at (i := 1136) rfl rfl, q_at (i := 57) (by decide +kernel) rfl, by decide, by decide, by decide +kernel⟩
theorem mv_M_dayComes : mV y_M_dayComes := ⟨q_at (i := 1135) (by decide +kernel) rfl, q_at (i := 24) (by decide +kernel) rfl⟩
theorem qm_M_146 : Cond.methodLink R_M 146 y_M_dayComes ∈ lw_g := q_at (i := 1133) (by decide +kernel) rfl
abbrev b_M_likelyOn : ByteArray := prog_14_method_20_code
def y_M_likelyOn : MethodName := ⟨R_M, "likelyOn", "(I)I"⟩
set_option maxRecDepth 40000 in
theorem mw_M_likelyOn : mW y_M_likelyOn b_M_likelyOn 2 (some FieldType.int) 1 := ⟨q_at (i := 1144) rfl rfl, q_at (i := 57) (by decide +kernel) rfl, by decide, by decide, by decide +kernel⟩
theorem mv_M_likelyOn : mV y_M_likelyOn := ⟨q_at (i := 1143) (by decide +kernel) rfl, q_at (i := 26) (by decide +kernel) rfl⟩
theorem qm_M_153 : Cond.methodLink R_M 153 y_M_likelyOn ∈ lw_g := q_at (i := 1141) (by decide +kernel) rfl
abbrev b_M_spendWith : ByteArray := prog_14_method_21_code
def y_M_spendWith : MethodName := ⟨R_M, "spendWith", "(I)I"⟩
set_option maxRecDepth 40000 in
theorem mw_M_spendWith : mW y_M_spendWith b_M_spendWith 3 (some FieldType.int) 1 := ⟨q_at (i := 1166) rfl rfl, q_at (i := 57) (by decide +kernel) rfl, by decide, by decide, by decide +kernel⟩
theorem mv_M_spendWith : mV y_M_spendWith := ⟨q_at (i := 1165) (by decide +kernel) rfl, q_at (i := 30) (by decide +kernel) rfl⟩
theorem qm_M_156 : Cond.methodLink R_M 156 y_M_spendWith ∈ lw_g := q_at (i := 1163) (by decide +kernel) rfl
abbrev b_M_thingComes : ByteArray := prog_14_method_30_code
def y_M_thingComes : MethodName := ⟨R_M, "thingComes", "(II)V"⟩
set_option maxRecDepth 40000 in
theorem mw_M_thingComes : mW y_M_thingComes b_M_thingComes 3 none 2 := ⟨q_at (i := 1132) rfl rfl, q_at (i := 57) (by decide +kernel) rfl, by decide, by decide, by decide +kernel⟩
theorem mv_M_thingComes : mV y_M_thingComes := ⟨q_at (i := 1131) (by decide +kernel) rfl, q_at (i := 23) (by decide +kernel) rfl⟩
theorem qm_M_143 : Cond.methodLink R_M 143 y_M_thingComes ∈ lw_g := q_at (i := 1129) (by decide +kernel) rfl
abbrev b_M_isThing : ByteArray := prog_14_method_5_code
def y_M_isThing : MethodName := ⟨R_M, "isThing", "(I)Z"⟩
set_option maxRecDepth 40000 in
theorem mw_M_isThing : mW y_M_isThing b_M_isThing 2 (some FieldType.boolean) 1 := ⟨q_at (i := 1170) rfl rfl, q_at (i := 57) (by decide +kernel) rfl, by decide, by decide, by decide +kernel⟩
theorem mv_M_isThing : mV y_M_isThing := ⟨q_at (i := 1169) (by decide +kernel) rfl, q_at (i := 31) (by decide +kernel) rfl⟩
theorem qm_M_159 : Cond.methodLink R_M 159 y_M_isThing ∈ lw_g := q_at (i := 1167) (by decide +kernel) rfl
abbrev b_M_weightOf : ByteArray := prog_14_method_18_code
def y_M_weightOf : MethodName := ⟨R_M, "weightOf", "(I)I"⟩
set_option maxRecDepth 40000 in
theorem mw_M_weightOf : mW y_M_weightOf b_M_weightOf 4 (some FieldType.int) 1 := ⟨q_at (i := 1264) rfl rfl, q_at (i := 57) (by decide +kernel) rfl, by decide, by decide, by decide +kernel⟩
theorem mv_M_weightOf : mV y_M_weightOf := ⟨q_at (i := 1263) (by decide +kernel) rfl, q_at (i := 38) (by decide +kernel) rfl⟩
theorem qm_M_224 : Cond.methodLink R_M 224 y_M_weightOf ∈ lw_g := q_at (i := 1261) (by decide +kernel) rfl
abbrev b_M_onesOf : ByteArray := prog_14_method_10_code
def y_M_onesOf : MethodName := ⟨R_M, "onesOf", "(I)I"⟩
set_option maxRecDepth 40000 in
theorem mw_M_onesOf : mW y_M_onesOf b_M_onesOf 3 (some FieldType.int) 1 := ⟨q_at (i := 1277) rfl rfl, q_at (i := 57) (by decide +kernel) rfl, by decide, by decide, by decide +kernel⟩
theorem ms_M_onesOf : Cond.static y_M_onesOf ∈ lw_g := q_at (i := 1276) (by decide +kernel) rfl
theorem qm_M_231 : Cond.methodLink R_M 231 y_M_onesOf ∈ lw_g := q_at (i := 1275) (by decide +kernel) rfl
theorem qf_M_111 : Cond.fieldLink R_M 111 R_M "letterMany" "I" ∈ lw_g := q_at (i := 986) (by decide +kernel) rfl
theorem qc_M_276 : Cond.constantLong "HamperByWeatherModel" 276 11 ∈ lw_g := q_at (i := 1432) (by decide +kernel) rfl
theorem qc_M_278 : Cond.constantLong "HamperByWeatherModel" 278 16 ∈ lw_g := q_at (i := 1433) (by decide +kernel) rfl
abbrev b_M_wrongNumber : ByteArray := prog_14_method_7_code
def y_M_wrongNumber : MethodName := ⟨R_M, "wrongNumber", "(III)I"⟩
set_option maxRecDepth 40000 in
theorem mw_M_wrongNumber : mW y_M_wrongNumber b_M_wrongNumber 3 (some FieldType.int) 3 := ⟨q_at (i := 1228) rfl rfl, q_at (i := 57) (by decide +kernel) rfl, by decide, by decide, by decide +kernel⟩
theorem ms_M_wrongNumber : Cond.static y_M_wrongNumber ∈ lw_g := q_at (i := 1227) (by decide +kernel) rfl
theorem qm_M_208 : Cond.methodLink R_M 208 y_M_wrongNumber ∈ lw_g := q_at (i := 1226) (by decide +kernel) rfl
theorem qc_M_196 : Cond.constantLong "HamperByWeatherModel" 196 4 ∈ lw_g := q_at (i := 1191) (by decide +kernel) rfl
abbrev b_M_allHeavy : ByteArray := prog_14_method_15_code
def y_M_allHeavy : MethodName := ⟨R_M, "allHeavy", "(I)I"⟩
set_option maxRecDepth 40000 in
theorem mw_M_allHeavy : mW y_M_allHeavy b_M_allHeavy 4 (some FieldType.int) 1 := ⟨q_at (i := 1207) rfl rfl, q_at (i := 57) (by decide +kernel) rfl, by decide, by decide, by decide +kernel⟩
theorem mv_M_allHeavy : mV y_M_allHeavy := ⟨q_at (i := 1206) (by decide +kernel) rfl, q_at (i := 35) (by decide +kernel) rfl⟩
theorem qm_M_198 : Cond.methodLink R_M 198 y_M_allHeavy ∈ lw_g := q_at (i := 1204) (by decide +kernel) rfl
theorem qf_M_61 : Cond.fieldLink R_M 61 R_M "leftThen" "[I" ∈ lw_g := q_at (i := 1004) (by decide +kernel) rfl
theorem qf_M_58 : Cond.fieldLink R_M 58 R_M "likely0" "[I" ∈ lw_g := q_at (i := 1003) (by decide +kernel) rfl
theorem qf_M_55 : Cond.fieldLink R_M 55 R_M "order0" "[I" ∈ lw_g := q_at (i := 1002) (by decide +kernel) rfl
theorem qf_M_267 : Cond.fieldLink R_M 267 R_M "seed" "I" ∈ lw_g := q_at (i := 1007) (by decide +kernel) rfl
theorem qc_M_270 : Cond.constant "HamperByWeatherModel" 270 1103515245 ∈ lw_g := q_at (i := 1425) (by decide +kernel) rfl
theorem qc_M_271 : Cond.constant "HamperByWeatherModel" 271 2147483647 ∈ lw_g := q_at (i := 1426) (by decide +kernel) rfl
theorem qc_M_272 : Cond.constant "HamperByWeatherModel" 272 65536 ∈ lw_g := q_at (i := 1427) (by decide +kernel) rfl
abbrev b_M_think : ByteArray := prog_14_method_36_code
def y_M_think : MethodName := ⟨R_M, "think", "()V"⟩
set_option maxRecDepth 40000 in
theorem mw_M_think : mW y_M_think b_M_think 1 none 0 := ⟨q_at (i := 1116) rfl rfl, q_at (i := 57) (by decide +kernel) rfl, by decide, by decide, by decide +kernel⟩
theorem mv_M_think : mV y_M_think := ⟨q_at (i := 1115) (by decide +kernel) rfl, q_at (i := 19) (by decide +kernel) rfl⟩
theorem qm_M_165 : Cond.methodLink R_M 165 y_M_think ∈ lw_g := q_at (i := 1113) (by decide +kernel) rfl
abbrev b_M_likelyDays : ByteArray := prog_14_method_79_code
def y_M_likelyDays : MethodName := ⟨R_M, "likelyDays", "()I"⟩
set_option maxRecDepth 40000 in
theorem mw_M_likelyDays : mW y_M_likelyDays b_M_likelyDays 3 (some FieldType.int) 0 := ⟨q_at (i := 1383) rfl rfl, q_at (i := 57) (by decide +kernel) rfl, by decide, by decide, by decide +kernel⟩
theorem mv_M_likelyDays : mV y_M_likelyDays := ⟨q_at (i := 1382) (by decide +kernel) rfl, q_at (i := 45) (by decide +kernel) rfl⟩
theorem qm_M_262 : Cond.methodLink R_M 262 y_M_likelyDays ∈ lw_g := q_at (i := 1380) (by decide +kernel) rfl
abbrev b_M_again : ByteArray := prog_14_method_37_code
def y_M_again : MethodName := ⟨R_M, "again", "()V"⟩
set_option maxRecDepth 40000 in
theorem mw_M_again : mW y_M_again b_M_again 1 none 0 := ⟨q_at (i := 1174) rfl rfl, q_at (i := 57) (by decide +kernel) rfl, by decide, by decide, by decide +kernel⟩
theorem mv_M_again : mV y_M_again := ⟨q_at (i := 1173) (by decide +kernel) rfl, q_at (i := 32) (by decide +kernel) rfl⟩
theorem qm_M_171 : Cond.methodLink R_M 171 y_M_again ∈ lw_g := q_at (i := 1171) (by decide +kernel) rfl
theorem qf_M_31 : Cond.fieldLink R_M 31 R_M "letters" "[I" ∈ lw_g := q_at (i := 985) (by decide +kernel) rfl
theorem qc_M_204 : Cond.constantLong "HamperByWeatherModel" 204 3 ∈ lw_g := q_at (i := 1216) (by decide +kernel) rfl
abbrev b_M_allLeft : ByteArray := prog_14_method_22_code
def y_M_allLeft : MethodName := ⟨R_M, "allLeft", "()I"⟩
set_option maxRecDepth 40000 in
theorem mw_M_allLeft : mW y_M_allLeft b_M_allLeft 1 (some FieldType.int) 0 := ⟨q_at (i := 1321) rfl rfl, q_at (i := 57) (by decide +kernel) rfl, by decide, by decide, by decide +kernel⟩
theorem mv_M_allLeft : mV y_M_allLeft := ⟨q_at (i := 1320) (by decide +kernel) rfl, q_at (i := 40) (by decide +kernel) rfl⟩
theorem qm_M_234 : Cond.methodLink R_M 234 y_M_allLeft ∈ lw_g := q_at (i := 1318) (by decide +kernel) rfl
abbrev b_M_emptyFields : ByteArray := prog_14_method_23_code
def y_M_emptyFields : MethodName := ⟨R_M, "emptyFields", "()I"⟩
set_option maxRecDepth 40000 in
theorem mw_M_emptyFields : mW y_M_emptyFields b_M_emptyFields 3 (some FieldType.int) 0 := ⟨q_at (i := 1325) rfl rfl, q_at (i := 57) (by decide +kernel) rfl, by decide, by decide, by decide +kernel⟩
theorem mv_M_emptyFields : mV y_M_emptyFields := ⟨q_at (i := 1324) (by decide +kernel) rfl, q_at (i := 41) (by decide +kernel) rfl⟩
theorem qm_M_240 : Cond.methodLink R_M 240 y_M_emptyFields ∈ lw_g := q_at (i := 1322) (by decide +kernel) rfl
abbrev b_M_gotWithout : ByteArray := prog_14_method_64_code
def y_M_gotWithout : MethodName := ⟨R_M, "gotWithout", "(I)I"⟩
set_option maxRecDepth 40000 in
theorem mw_M_gotWithout : mW y_M_gotWithout b_M_gotWithout 4 (some FieldType.int) 1 := ⟨q_at (i := 1317) rfl rfl, q_at (i := 57) (by decide +kernel) rfl, by decide, by decide, by decide +kernel⟩
theorem mv_M_gotWithout : mV y_M_gotWithout := ⟨q_at (i := 1316) (by decide +kernel) rfl, q_at (i := 39) (by decide +kernel) rfl⟩
theorem qm_M_237 : Cond.methodLink R_M 237 y_M_gotWithout ∈ lw_g := q_at (i := 1314) (by decide +kernel) rfl
theorem qf_M_114 : Cond.fieldLink R_M 114 R_M "at" "I" ∈ lw_g := q_at (i := 987) (by decide +kernel) rfl
theorem qf_M_117 : Cond.fieldLink R_M 117 R_M "isBad" "Z" ∈ lw_g := q_at (i := 988) (by decide +kernel) rfl
abbrev b_M_here : ByteArray := prog_14_method_25_code
def y_M_here : MethodName := ⟨R_M, "here", "()I"⟩
set_option maxRecDepth 40000 in
theorem mw_M_here : mW y_M_here b_M_here 1 (some FieldType.int) 0 := ⟨q_at (i := 1096) rfl rfl, q_at (i := 57) (by decide +kernel) rfl, by decide, by decide, by decide +kernel⟩
theorem mv_M_here : mV y_M_here := ⟨q_at (i := 1095) (by decide +kernel) rfl, q_at (i := 16) (by decide +kernel) rfl⟩
theorem qm_M_121 : Cond.methodLink R_M 121 y_M_here ∈ lw_g := q_at (i := 1093) (by decide +kernel) rfl
theorem qc_M_125 : Cond.constantLong "HamperByWeatherModel" 125 48 ∈ lw_g := q_at (i := 1108) (by decide +kernel) rfl
theorem qc_M_127 : Cond.constantLong "HamperByWeatherModel" 127 57 ∈ lw_g := q_at (i := 1109) (by decide +kernel) rfl
abbrev b_M_readDigits : ByteArray := prog_14_method_26_code
def y_M_readDigits : MethodName := ⟨R_M, "readDigits", "(I)I"⟩
set_option maxRecDepth 40000 in
theorem mw_M_readDigits : mW y_M_readDigits b_M_readDigits 4 (some FieldType.int) 1 := ⟨q_at (i := 1107) rfl rfl, q_at (i := 57) (by decide +kernel) rfl, by decide, by decide, by decide +kernel⟩
theorem mv_M_readDigits : mV y_M_readDigits := ⟨q_at (i := 1106) (by decide +kernel) rfl, q_at (i := 18) (by decide +kernel) rfl⟩
theorem qm_M_129 : Cond.methodLink R_M 129 y_M_readDigits ∈ lw_g := q_at (i := 1104) (by decide +kernel) rfl
theorem qf_M_132 : Cond.fieldLink R_M 132 R_M "statements" "I" ∈ lw_g := q_at (i := 989) (by decide +kernel) rfl
theorem qf_M_34 : Cond.fieldLink R_M 34 R_M "placeIn" "[I" ∈ lw_g := q_at (i := 990) (by decide +kernel) rfl
abbrev b_M_readNumbers : ByteArray := prog_14_method_28_code
def y_M_readNumbers : MethodName := ⟨R_M, "readNumbers", "(II)V"⟩
set_option maxRecDepth 40000 in
theorem mw_M_readNumbers : mW y_M_readNumbers b_M_readNumbers 3 none 2 := ⟨q_at (i := 1103) rfl rfl, q_at (i := 57) (by decide +kernel) rfl, by decide, by decide, by decide +kernel⟩
theorem mv_M_readNumbers : mV y_M_readNumbers := ⟨q_at (i := 1102) (by decide +kernel) rfl, q_at (i := 17) (by decide +kernel) rfl⟩
theorem qm_M_139 : Cond.methodLink R_M 139 y_M_readNumbers ∈ lw_g := q_at (i := 1100) (by decide +kernel) rfl
abbrev b_M_isLetter : ByteArray := prog_14_method_27_code
def y_M_isLetter : MethodName := ⟨R_M, "isLetter", "(I)Z"⟩
set_option maxRecDepth 40000 in
theorem mw_M_isLetter : mW y_M_isLetter b_M_isLetter 1 (some FieldType.boolean) 1 := ⟨q_at (i := 1099) rfl rfl, q_at (i := 57) (by decide +kernel) rfl, by decide, by decide, by decide +kernel⟩
theorem ms_M_isLetter : Cond.static y_M_isLetter ∈ lw_g := q_at (i := 1098) (by decide +kernel) rfl
theorem qm_M_135 : Cond.methodLink R_M 135 y_M_isLetter ∈ lw_g := q_at (i := 1097) (by decide +kernel) rfl
abbrev b_M_readStatement : ByteArray := prog_14_method_29_code
def y_M_readStatement : MethodName := ⟨R_M, "readStatement", "()V"⟩
set_option maxRecDepth 40000 in
theorem mw_M_readStatement : mW y_M_readStatement b_M_readStatement 3 none 0 := ⟨q_at (i := 1092) rfl rfl, q_at (i := 57) (by decide +kernel) rfl, by decide, by decide, by decide +kernel⟩
theorem mv_M_readStatement : mV y_M_readStatement := ⟨q_at (i := 1091) (by decide +kernel) rfl, q_at (i := 15) (by decide +kernel) rfl⟩
theorem qm_M_162 : Cond.methodLink R_M 162 y_M_readStatement ∈ lw_g := q_at (i := 1089) (by decide +kernel) rfl
abbrev b_M_comesTold : ByteArray := prog_14_method_32_code
def y_M_comesTold : MethodName := ⟨R_M, "comesTold", "(I)Z"⟩
set_option maxRecDepth 40000 in
theorem mw_M_comesTold : mW y_M_comesTold b_M_comesTold 6 (some FieldType.boolean) 1 := ⟨q_at (i := 1128) rfl rfl, q_at (i := 57) (by decide +kernel) rfl, by decide, by decide, by decide +kernel⟩
theorem mv_M_comesTold : mV y_M_comesTold := ⟨q_at (i := 1127) (by decide +kernel) rfl, q_at (i := 22) (by decide +kernel) rfl⟩
theorem qm_M_168 : Cond.methodLink R_M 168 y_M_comesTold ∈ lw_g := q_at (i := 1125) (by decide +kernel) rfl
theorem qf_M_193 : Cond.fieldLink R_M 193 R_M "hasImage" "Z" ∈ lw_g := q_at (i := 995) (by decide +kernel) rfl
theorem qf_M_46 : Cond.fieldLink R_M 46 R_M "imaged" "[I" ∈ lw_g := q_at (i := 994) (by decide +kernel) rfl
theorem qf_M_64 : Cond.fieldLink R_M 64 R_M "row" "[I" ∈ lw_g := q_at (i := 1005) (by decide +kernel) rfl
abbrev b_M_ordersOf : ByteArray := prog_14_method_66_code
def y_M_ordersOf : MethodName := ⟨R_M, "ordersOf", "(I)I"⟩
set_option maxRecDepth 40000 in
theorem mw_M_ordersOf : mW y_M_ordersOf b_M_ordersOf 3 (some FieldType.int) 1 := ⟨q_at (i := 1332) rfl rfl, q_at (i := 57) (by decide +kernel) rfl, by decide, by decide, by decide +kernel⟩
theorem ms_M_ordersOf : Cond.static y_M_ordersOf ∈ lw_g := q_at (i := 1331) (by decide +kernel) rfl
theorem qm_M_243 : Cond.methodLink R_M 243 y_M_ordersOf ∈ lw_g := q_at (i := 1330) (by decide +kernel) rfl
abbrev b_M_wrongBit : ByteArray := prog_14_method_8_code
def y_M_wrongBit : MethodName := ⟨R_M, "wrongBit", "(III)I"⟩
set_option maxRecDepth 40000 in
theorem mw_M_wrongBit : mW y_M_wrongBit b_M_wrongBit 3 (some FieldType.int) 3 := ⟨q_at (i := 1259) rfl rfl, q_at (i := 57) (by decide +kernel) rfl, by decide, by decide, by decide +kernel⟩
theorem ms_M_wrongBit : Cond.static y_M_wrongBit ∈ lw_g := q_at (i := 1258) (by decide +kernel) rfl
theorem qm_M_219 : Cond.methodLink R_M 219 y_M_wrongBit ∈ lw_g := q_at (i := 1257) (by decide +kernel) rfl
abbrev b_M_drawBelow : ByteArray := prog_14_method_89_code
def y_M_drawBelow : MethodName := ⟨R_M, "drawBelow", "(I)I"⟩
set_option maxRecDepth 40000 in
theorem mw_M_drawBelow : mW y_M_drawBelow b_M_drawBelow 2 (some FieldType.int) 1 := ⟨q_at (i := 1424) rfl rfl, q_at (i := 57) (by decide +kernel) rfl, by decide, by decide, by decide +kernel⟩
theorem mv_M_drawBelow : mV y_M_drawBelow := ⟨q_at (i := 1423) (by decide +kernel) rfl, q_at (i := 46) (by decide +kernel) rfl⟩
theorem qm_M_273 : Cond.methodLink R_M 273 y_M_drawBelow ∈ lw_g := q_at (i := 1421) (by decide +kernel) rfl
abbrev b_M_divisor : ByteArray := prog_14_method_52_code
def y_M_divisor : MethodName := ⟨R_M, "divisor", "(JJ)J"⟩
set_option maxRecDepth 40000 in
theorem mw_M_divisor : mW y_M_divisor b_M_divisor 10 (some FieldType.long) 2 := ⟨q_at (i := 1270) rfl rfl, q_at (i := 57) (by decide +kernel) rfl, by decide, by decide, by decide +kernel⟩
theorem ms_M_divisor : Cond.static y_M_divisor ∈ lw_g := q_at (i := 1269) (by decide +kernel) rfl
theorem qm_M_215 : Cond.methodLink R_M 215 y_M_divisor ∈ lw_g := q_at (i := 1268) (by decide +kernel) rfl
abbrev b_M_partOf : ByteArray := prog_14_method_53_code
def y_M_partOf : MethodName := ⟨R_M, "partOf", "(JJI)J"⟩
set_option maxRecDepth 40000 in
theorem mw_M_partOf : mW y_M_partOf b_M_partOf 7 (some FieldType.long) 3 := ⟨q_at (i := 1267) rfl rfl, q_at (i := 57) (by decide +kernel) rfl, by decide, by decide, by decide +kernel⟩
theorem ms_M_partOf : Cond.static y_M_partOf ∈ lw_g := q_at (i := 1266) (by decide +kernel) rfl
theorem qm_M_227 : Cond.methodLink R_M 227 y_M_partOf ∈ lw_g := q_at (i := 1265) (by decide +kernel) rfl
theorem qc_M_222 : Cond.constantLong "HamperByWeatherModel" 222 4000000000000000000 ∈ lw_g := q_at (i := 1260) (by decide +kernel) rfl
theorem qc_M_265 : Cond.constantLong "HamperByWeatherModel" 265 2 ∈ lw_g := q_at (i := 1400) (by decide +kernel) rfl
theorem qc_M_206 : Cond.constantLong "HamperByWeatherModel" 206 5 ∈ lw_g := q_at (i := 1221) (by decide +kernel) rfl
abbrev b_M_layOrder : ByteArray := prog_14_method_67_code
def y_M_layOrder : MethodName := ⟨R_M, "layOrder", "(II)V"⟩
set_option maxRecDepth 40000 in
theorem mw_M_layOrder : mW y_M_layOrder b_M_layOrder 9 none 2 := ⟨q_at (i := 1336) rfl rfl, q_at (i := 57) (by decide +kernel) rfl, by decide, by decide, by decide +kernel⟩
theorem mv_M_layOrder : mV y_M_layOrder := ⟨q_at (i := 1335) (by decide +kernel) rfl, q_at (i := 42) (by decide +kernel) rfl⟩
theorem qm_M_246 : Cond.methodLink R_M 246 y_M_layOrder ∈ lw_g := q_at (i := 1333) (by decide +kernel) rfl
abbrev b_M_doneBy : ByteArray := prog_14_method_68_code
def y_M_doneBy : MethodName := ⟨R_M, "doneBy", "(I)I"⟩
set_option maxRecDepth 40000 in
theorem mw_M_doneBy : mW y_M_doneBy b_M_doneBy 7 (some FieldType.int) 1 := ⟨q_at (i := 1340) rfl rfl, q_at (i := 57) (by decide +kernel) rfl, by decide, by decide, by decide +kernel⟩
theorem mv_M_doneBy : mV y_M_doneBy := ⟨q_at (i := 1339) (by decide +kernel) rfl, q_at (i := 43) (by decide +kernel) rfl⟩
theorem qm_M_249 : Cond.methodLink R_M 249 y_M_doneBy ∈ lw_g := q_at (i := 1337) (by decide +kernel) rfl
abbrev b_M_keepTurn : ByteArray := prog_14_method_40_code
def y_M_keepTurn : MethodName := ⟨R_M, "keepTurn", "()V"⟩
set_option maxRecDepth 40000 in
theorem mw_M_keepTurn : mW y_M_keepTurn b_M_keepTurn 2 none 0 := ⟨q_at (i := 1240) rfl rfl, q_at (i := 57) (by decide +kernel) rfl, by decide, by decide, by decide +kernel⟩
theorem mv_M_keepTurn : mV y_M_keepTurn := ⟨q_at (i := 1239) (by decide +kernel) rfl, q_at (i := 37) (by decide +kernel) rfl⟩
theorem qm_M_212 : Cond.methodLink R_M 212 y_M_keepTurn ∈ lw_g := q_at (i := 1237) (by decide +kernel) rfl
abbrev b_M_isRow : ByteArray := prog_14_method_72_code
def y_M_isRow : MethodName := ⟨R_M, "isRow", "(II)Z"⟩
set_option maxRecDepth 40000 in
theorem mw_M_isRow : mW y_M_isRow b_M_isRow 5 (some FieldType.boolean) 2 := ⟨q_at (i := 1356) rfl rfl, q_at (i := 57) (by decide +kernel) rfl, by decide, by decide, by decide +kernel⟩
theorem mv_M_isRow : mV y_M_isRow := ⟨q_at (i := 1355) (by decide +kernel) rfl, q_at (i := 44) (by decide +kernel) rfl⟩
theorem qm_M_255 : Cond.methodLink R_M 255 y_M_isRow ∈ lw_g := q_at (i := 1353) (by decide +kernel) rfl
abbrev b_H_apart : ByteArray := prog_1_method_20_code
def y_H_apart : MethodName := ⟨R_H, "apart", "()I"⟩
set_option maxRecDepth 40000 in
theorem mw_H_apart : mW y_H_apart b_H_apart 1 (some FieldType.int) 0 := ⟨q_at (i := 661) rfl rfl, q_at (i := 48) (by decide +kernel) rfl, by decide, by decide, by decide +kernel⟩
theorem mv_H_apart : mV y_H_apart := ⟨q_at (i := 659) (by decide +kernel) rfl, q_at (i := 660) (by decide +kernel) rfl⟩
abbrev b_H_back : ByteArray := prog_1_method_14_code
def y_H_back : MethodName := ⟨R_H, "back", "()I"⟩
set_option maxRecDepth 40000 in
theorem mw_H_back : mW y_H_back b_H_back 1 (some FieldType.int) 0 := ⟨q_at (i := 577) rfl rfl, q_at (i := 48) (by decide +kernel) rfl, by decide, by decide, by decide +kernel⟩
theorem mv_H_back : mV y_H_back := ⟨q_at (i := 575) (by decide +kernel) rfl, q_at (i := 576) (by decide +kernel) rfl⟩
abbrev b_H_bet : ByteArray := prog_1_method_31_code
def y_H_bet : MethodName := ⟨R_H, "bet", "(II)I"⟩
set_option maxRecDepth 40000 in
theorem mw_H_bet : mW y_H_bet b_H_bet 3 (some FieldType.int) 2 := ⟨q_at (i := 815) rfl rfl, q_at (i := 48) (by decide +kernel) rfl, by decide, by decide, by decide +kernel⟩
theorem mv_H_bet : mV y_H_bet := ⟨q_at (i := 813) (by decide +kernel) rfl, q_at (i := 814) (by decide +kernel) rfl⟩
abbrev b_H_clear : ByteArray := prog_1_method_42_code
def y_H_clear : MethodName := ⟨R_H, "clear", "()I"⟩
set_option maxRecDepth 40000 in
theorem mw_H_clear : mW y_H_clear b_H_clear 2 (some FieldType.int) 0 := ⟨q_at (i := 935) rfl rfl, q_at (i := 48) (by decide +kernel) rfl, by decide, by decide, by decide +kernel⟩
theorem mv_H_clear : mV y_H_clear := ⟨q_at (i := 933) (by decide +kernel) rfl, q_at (i := 934) (by decide +kernel) rfl⟩
abbrev b_H_codes : ByteArray := prog_1_method_22_code
def y_H_codes : MethodName := ⟨R_H, "codes", "(I)I"⟩
set_option maxRecDepth 40000 in
theorem mw_H_codes : mW y_H_codes b_H_codes 2 (some FieldType.int) 1 := ⟨q_at (i := 679) rfl rfl, q_at (i := 48) (by decide +kernel) rfl, by decide, by decide, by decide +kernel⟩
theorem mv_H_codes : mV y_H_codes := ⟨q_at (i := 677) (by decide +kernel) rfl, q_at (i := 678) (by decide +kernel) rfl⟩
abbrev b_H_count : ByteArray := prog_1_method_46_code
def y_H_count : MethodName := ⟨R_H, "count", "(I)I"⟩
set_option maxRecDepth 40000 in
theorem mw_H_count : mW y_H_count b_H_count 2 (some FieldType.int) 1 := ⟨q_at (i := 962) rfl rfl, q_at (i := 48) (by decide +kernel) rfl, by decide, by decide, by decide +kernel⟩
theorem mv_H_count : mV y_H_count := ⟨q_at (i := 960) (by decide +kernel) rfl, q_at (i := 961) (by decide +kernel) rfl⟩
abbrev b_H_day : ByteArray := prog_1_method_9_code
def y_H_day : MethodName := ⟨R_H, "day", "(I)I"⟩
set_option maxRecDepth 40000 in
theorem mw_H_day : mW y_H_day b_H_day 3 (some FieldType.int) 1 := ⟨q_at (i := 514) rfl rfl, q_at (i := 48) (by decide +kernel) rfl, by decide, by decide, by decide +kernel⟩
theorem mv_H_day : mV y_H_day := ⟨q_at (i := 512) (by decide +kernel) rfl, q_at (i := 513) (by decide +kernel) rfl⟩
abbrev b_H_dayOf : ByteArray := prog_1_method_5_code
def y_H_dayOf : MethodName := ⟨R_H, "dayOf", "(II)I"⟩
set_option maxRecDepth 40000 in
theorem mw_H_dayOf : mW y_H_dayOf b_H_dayOf 4 (some FieldType.int) 2 := ⟨q_at (i := 481) rfl rfl, q_at (i := 48) (by decide +kernel) rfl, by decide, by decide, by decide +kernel⟩
theorem mv_H_dayOf : mV y_H_dayOf := ⟨q_at (i := 479) (by decide +kernel) rfl, q_at (i := 480) (by decide +kernel) rfl⟩
abbrev b_H_drop : ByteArray := prog_1_method_39_code
def y_H_drop : MethodName := ⟨R_H, "drop", "()I"⟩
set_option maxRecDepth 40000 in
theorem mw_H_drop : mW y_H_drop b_H_drop 1 (some FieldType.int) 0 := ⟨q_at (i := 907) rfl rfl, q_at (i := 48) (by decide +kernel) rfl, by decide, by decide, by decide +kernel⟩
theorem mv_H_drop : mV y_H_drop := ⟨q_at (i := 905) (by decide +kernel) rfl, q_at (i := 906) (by decide +kernel) rfl⟩
abbrev b_H_eggAndRope : ByteArray := prog_1_method_24_code
def y_H_eggAndRope : MethodName := ⟨R_H, "eggAndRope", "()I"⟩
set_option maxRecDepth 40000 in
theorem mw_H_eggAndRope : mW y_H_eggAndRope b_H_eggAndRope 1 (some FieldType.int) 0 := ⟨q_at (i := 697) rfl rfl, q_at (i := 48) (by decide +kernel) rfl, by decide, by decide, by decide +kernel⟩
theorem mv_H_eggAndRope : mV y_H_eggAndRope := ⟨q_at (i := 695) (by decide +kernel) rfl, q_at (i := 696) (by decide +kernel) rfl⟩
abbrev b_H_feed : ByteArray := prog_1_method_2_code
def y_H_feed : MethodName := ⟨R_H, "feed", "(I)I"⟩
set_option maxRecDepth 40000 in
theorem mw_H_feed : mW y_H_feed b_H_feed 2 (some FieldType.int) 1 := ⟨q_at (i := 304) rfl rfl, q_at (i := 48) (by decide +kernel) rfl, by decide, by decide, by decide +kernel⟩
theorem mv_H_feed : mV y_H_feed := ⟨q_at (i := 302) (by decide +kernel) rfl, q_at (i := 303) (by decide +kernel) rfl⟩
abbrev b_H_fieldOf : ByteArray := prog_1_method_6_code
def y_H_fieldOf : MethodName := ⟨R_H, "fieldOf", "(II)I"⟩
set_option maxRecDepth 40000 in
theorem mw_H_fieldOf : mW y_H_fieldOf b_H_fieldOf 3 (some FieldType.int) 2 := ⟨q_at (i := 498) rfl rfl, q_at (i := 48) (by decide +kernel) rfl, by decide, by decide, by decide +kernel⟩
theorem mv_H_fieldOf : mV y_H_fieldOf := ⟨q_at (i := 496) (by decide +kernel) rfl, q_at (i := 497) (by decide +kernel) rfl⟩
abbrev b_H_gotIn : ByteArray := prog_1_method_25_code
def y_H_gotIn : MethodName := ⟨R_H, "gotIn", "(I)I"⟩
set_option maxRecDepth 40000 in
theorem mw_H_gotIn : mW y_H_gotIn b_H_gotIn 2 (some FieldType.int) 1 := ⟨q_at (i := 704) rfl rfl, q_at (i := 48) (by decide +kernel) rfl, by decide, by decide, by decide +kernel⟩
theorem mv_H_gotIn : mV y_H_gotIn := ⟨q_at (i := 702) (by decide +kernel) rfl, q_at (i := 703) (by decide +kernel) rfl⟩
abbrev b_H_hall : ByteArray := prog_1_method_3_code
def y_H_hall : MethodName := ⟨R_H, "hall", "()I"⟩
set_option maxRecDepth 40000 in
theorem mw_H_hall : mW y_H_hall b_H_hall 2 (some FieldType.int) 0 := ⟨q_at (i := 316) rfl rfl, q_at (i := 48) (by decide +kernel) rfl, by decide, by decide, by decide +kernel⟩
theorem mv_H_hall : mV y_H_hall := ⟨q_at (i := 314) (by decide +kernel) rfl, q_at (i := 315) (by decide +kernel) rfl⟩
abbrev b_H_image : ByteArray := prog_1_method_44_code
def y_H_image : MethodName := ⟨R_H, "image", "()I"⟩
set_option maxRecDepth 40000 in
theorem mw_H_image : mW y_H_image b_H_image 1 (some FieldType.int) 0 := ⟨q_at (i := 954) rfl rfl, q_at (i := 48) (by decide +kernel) rfl, by decide, by decide, by decide +kernel⟩
theorem mv_H_image : mV y_H_image := ⟨q_at (i := 952) (by decide +kernel) rfl, q_at (i := 953) (by decide +kernel) rfl⟩
abbrev b_H_judge : ByteArray := prog_1_method_41_code
def y_H_judge : MethodName := ⟨R_H, "judge", "()I"⟩
set_option maxRecDepth 40000 in
theorem mw_H_judge : mW y_H_judge b_H_judge 2 (some FieldType.int) 0 := ⟨q_at (i := 925) rfl rfl, q_at (i := 48) (by decide +kernel) rfl, by decide, by decide, by decide +kernel⟩
theorem mv_H_judge : mV y_H_judge := ⟨q_at (i := 923) (by decide +kernel) rfl, q_at (i := 924) (by decide +kernel) rfl⟩
abbrev b_H_lightest : ByteArray := prog_1_method_33_code
def y_H_lightest : MethodName := ⟨R_H, "lightest", "(I)I"⟩
set_option maxRecDepth 40000 in
theorem mw_H_lightest : mW y_H_lightest b_H_lightest 3 (some FieldType.int) 1 := ⟨q_at (i := 844) rfl rfl, q_at (i := 48) (by decide +kernel) rfl, by decide, by decide, by decide +kernel⟩
theorem mv_H_lightest : mV y_H_lightest := ⟨q_at (i := 842) (by decide +kernel) rfl, q_at (i := 843) (by decide +kernel) rfl⟩
abbrev b_H_looks : ByteArray := prog_1_method_16_code
def y_H_looks : MethodName := ⟨R_H, "looks", "(I)I"⟩
set_option maxRecDepth 40000 in
theorem mw_H_looks : mW y_H_looks b_H_looks 3 (some FieldType.int) 1 := ⟨q_at (i := 616) rfl rfl, q_at (i := 48) (by decide +kernel) rfl, by decide, by decide, by decide +kernel⟩
theorem mv_H_looks : mV y_H_looks := ⟨q_at (i := 614) (by decide +kernel) rfl, q_at (i := 615) (by decide +kernel) rfl⟩
abbrev b_H_lots : ByteArray := prog_1_method_43_code
def y_H_lots : MethodName := ⟨R_H, "lots", "(III)I"⟩
set_option maxRecDepth 40000 in
theorem mw_H_lots : mW y_H_lots b_H_lots 4 (some FieldType.int) 3 := ⟨q_at (i := 939) rfl rfl, q_at (i := 48) (by decide +kernel) rfl, by decide, by decide, by decide +kernel⟩
theorem mv_H_lots : mV y_H_lots := ⟨q_at (i := 937) (by decide +kernel) rfl, q_at (i := 938) (by decide +kernel) rfl⟩
abbrev b_H_mean : ByteArray := prog_1_method_37_code
def y_H_mean : MethodName := ⟨R_H, "mean", "(I)J"⟩
set_option maxRecDepth 40000 in
theorem mw_H_mean : mW y_H_mean b_H_mean 2 (some FieldType.long) 1 := ⟨q_at (i := 886) rfl rfl, q_at (i := 48) (by decide +kernel) rfl, by decide, by decide, by decide +kernel⟩
theorem mv_H_mean : mV y_H_mean := ⟨q_at (i := 884) (by decide +kernel) rfl, q_at (i := 885) (by decide +kernel) rfl⟩
abbrev b_H_need : ByteArray := prog_1_method_38_code
def y_H_need : MethodName := ⟨R_H, "need", "(I)I"⟩
set_option maxRecDepth 40000 in
theorem mw_H_need : mW y_H_need b_H_need 3 (some FieldType.int) 1 := ⟨q_at (i := 893) rfl rfl, q_at (i := 48) (by decide +kernel) rfl, by decide, by decide, by decide +kernel⟩
theorem mv_H_need : mV y_H_need := ⟨q_at (i := 891) (by decide +kernel) rfl, q_at (i := 892) (by decide +kernel) rfl⟩
abbrev b_H_odds : ByteArray := prog_1_method_15_code
def y_H_odds : MethodName := ⟨R_H, "odds", "(III)J"⟩
set_option maxRecDepth 40000 in
theorem mw_H_odds : mW y_H_odds b_H_odds 6 (some FieldType.long) 3 := ⟨q_at (i := 588) rfl rfl, q_at (i := 48) (by decide +kernel) rfl, by decide, by decide, by decide +kernel⟩
theorem mv_H_odds : mV y_H_odds := ⟨q_at (i := 586) (by decide +kernel) rfl, q_at (i := 587) (by decide +kernel) rfl⟩
abbrev b_H_often : ByteArray := prog_1_method_35_code
def y_H_often : MethodName := ⟨R_H, "often", "(I)I"⟩
set_option maxRecDepth 40000 in
theorem mw_H_often : mW y_H_often b_H_often 3 (some FieldType.int) 1 := ⟨q_at (i := 867) rfl rfl, q_at (i := 48) (by decide +kernel) rfl, by decide, by decide, by decide +kernel⟩
theorem mv_H_often : mV y_H_often := ⟨q_at (i := 865) (by decide +kernel) rfl, q_at (i := 866) (by decide +kernel) rfl⟩
abbrev b_H_order : ByteArray := prog_1_method_26_code
def y_H_order : MethodName := ⟨R_H, "order", "(II)I"⟩
set_option maxRecDepth 40000 in
theorem mw_H_order : mW y_H_order b_H_order 3 (some FieldType.int) 2 := ⟨q_at (i := 728) rfl rfl, q_at (i := 48) (by decide +kernel) rfl, by decide, by decide, by decide +kernel⟩
theorem mv_H_order : mV y_H_order := ⟨q_at (i := 726) (by decide +kernel) rfl, q_at (i := 727) (by decide +kernel) rfl⟩
abbrev b_H_pack : ByteArray := prog_1_method_17_code
def y_H_pack : MethodName := ⟨R_H, "pack", "(II)I"⟩
set_option maxRecDepth 40000 in
theorem mw_H_pack : mW y_H_pack b_H_pack 3 (some FieldType.int) 2 := ⟨q_at (i := 631) rfl rfl, q_at (i := 48) (by decide +kernel) rfl, by decide, by decide, by decide +kernel⟩
theorem mv_H_pack : mV y_H_pack := ⟨q_at (i := 629) (by decide +kernel) rfl, q_at (i := 630) (by decide +kernel) rfl⟩
abbrev b_H_packs : ByteArray := prog_1_method_11_code
def y_H_packs : MethodName := ⟨R_H, "packs", "(II)I"⟩
set_option maxRecDepth 40000 in
theorem mw_H_packs : mW y_H_packs b_H_packs 4 (some FieldType.int) 2 := ⟨q_at (i := 547) rfl rfl, q_at (i := 48) (by decide +kernel) rfl, by decide, by decide, by decide +kernel⟩
theorem mv_H_packs : mV y_H_packs := ⟨q_at (i := 545) (by decide +kernel) rfl, q_at (i := 546) (by decide +kernel) rfl⟩
abbrev b_H_plan : ByteArray := prog_1_method_27_code
def y_H_plan : MethodName := ⟨R_H, "plan", "()I"⟩
set_option maxRecDepth 40000 in
theorem mw_H_plan : mW y_H_plan b_H_plan 1 (some FieldType.int) 0 := ⟨q_at (i := 768) rfl rfl, q_at (i := 48) (by decide +kernel) rfl, by decide, by decide, by decide +kernel⟩
theorem mv_H_plan : mV y_H_plan := ⟨q_at (i := 766) (by decide +kernel) rfl, q_at (i := 767) (by decide +kernel) rfl⟩
abbrev b_H_restore : ByteArray := prog_1_method_45_code
def y_H_restore : MethodName := ⟨R_H, "restore", "()I"⟩
set_option maxRecDepth 40000 in
theorem mw_H_restore : mW y_H_restore b_H_restore 1 (some FieldType.int) 0 := ⟨q_at (i := 958) rfl rfl, q_at (i := 48) (by decide +kernel) rfl, by decide, by decide, by decide +kernel⟩
theorem mv_H_restore : mV y_H_restore := ⟨q_at (i := 956) (by decide +kernel) rfl, q_at (i := 957) (by decide +kernel) rfl⟩
abbrev b_H_rope : ByteArray := prog_1_method_18_code
def y_H_rope : MethodName := ⟨R_H, "rope", "()I"⟩
set_option maxRecDepth 40000 in
theorem mw_H_rope : mW y_H_rope b_H_rope 1 (some FieldType.int) 0 := ⟨q_at (i := 643) rfl rfl, q_at (i := 48) (by decide +kernel) rfl, by decide, by decide, by decide +kernel⟩
theorem mv_H_rope : mV y_H_rope := ⟨q_at (i := 641) (by decide +kernel) rfl, q_at (i := 642) (by decide +kernel) rfl⟩
abbrev b_H_row : ByteArray := prog_1_method_40_code
def y_H_row : MethodName := ⟨R_H, "row", "(I)I"⟩
set_option maxRecDepth 40000 in
theorem mw_H_row : mW y_H_row b_H_row 2 (some FieldType.int) 1 := ⟨q_at (i := 917) rfl rfl, q_at (i := 48) (by decide +kernel) rfl, by decide, by decide, by decide +kernel⟩
theorem mv_H_row : mV y_H_row := ⟨q_at (i := 915) (by decide +kernel) rfl, q_at (i := 916) (by decide +kernel) rfl⟩
abbrev b_H_smallest : ByteArray := prog_1_method_23_code
def y_H_smallest : MethodName := ⟨R_H, "smallest", "(I)I"⟩
set_option maxRecDepth 40000 in
theorem mw_H_smallest : mW y_H_smallest b_H_smallest 2 (some FieldType.int) 1 := ⟨q_at (i := 692) rfl rfl, q_at (i := 48) (by decide +kernel) rfl, by decide, by decide, by decide +kernel⟩
theorem mv_H_smallest : mV y_H_smallest := ⟨q_at (i := 690) (by decide +kernel) rfl, q_at (i := 691) (by decide +kernel) rfl⟩
abbrev b_H_spare : ByteArray := prog_1_method_28_code
def y_H_spare : MethodName := ⟨R_H, "spare", "()I"⟩
set_option maxRecDepth 40000 in
theorem mw_H_spare : mW y_H_spare b_H_spare 1 (some FieldType.int) 0 := ⟨q_at (i := 776) rfl rfl, q_at (i := 48) (by decide +kernel) rfl, by decide, by decide, by decide +kernel⟩
theorem mv_H_spare : mV y_H_spare := ⟨q_at (i := 774) (by decide +kernel) rfl, q_at (i := 775) (by decide +kernel) rfl⟩
abbrev b_H_spends : ByteArray := prog_1_method_13_code
def y_H_spends : MethodName := ⟨R_H, "spends", "(II)I"⟩
set_option maxRecDepth 40000 in
theorem mw_H_spends : mW y_H_spends b_H_spends 5 (some FieldType.int) 2 := ⟨q_at (i := 569) rfl rfl, q_at (i := 48) (by decide +kernel) rfl, by decide, by decide, by decide +kernel⟩
theorem mv_H_spends : mV y_H_spends := ⟨q_at (i := 567) (by decide +kernel) rfl, q_at (i := 568) (by decide +kernel) rfl⟩
abbrev b_H_sure : ByteArray := prog_1_method_36_code
def y_H_sure : MethodName := ⟨R_H, "sure", "(I)I"⟩
set_option maxRecDepth 40000 in
theorem mw_H_sure : mW y_H_sure b_H_sure 2 (some FieldType.int) 1 := ⟨q_at (i := 878) rfl rfl, q_at (i := 48) (by decide +kernel) rfl, by decide, by decide, by decide +kernel⟩
theorem mv_H_sure : mV y_H_sure := ⟨q_at (i := 876) (by decide +kernel) rfl, q_at (i := 877) (by decide +kernel) rfl⟩
abbrev b_H_swap : ByteArray := prog_1_method_34_code
def y_H_swap : MethodName := ⟨R_H, "swap", "()I"⟩
set_option maxRecDepth 40000 in
theorem mw_H_swap : mW y_H_swap b_H_swap 1 (some FieldType.int) 0 := ⟨q_at (i := 853) rfl rfl, q_at (i := 48) (by decide +kernel) rfl, by decide, by decide, by decide +kernel⟩
theorem mv_H_swap : mV y_H_swap := ⟨q_at (i := 851) (by decide +kernel) rfl, q_at (i := 852) (by decide +kernel) rfl⟩
abbrev b_H_tell : ByteArray := prog_1_method_21_code
def y_H_tell : MethodName := ⟨R_H, "tell", "()I"⟩
set_option maxRecDepth 40000 in
theorem mw_H_tell : mW y_H_tell b_H_tell 1 (some FieldType.int) 0 := ⟨q_at (i := 668) rfl rfl, q_at (i := 48) (by decide +kernel) rfl, by decide, by decide, by decide +kernel⟩
theorem mv_H_tell : mV y_H_tell := ⟨q_at (i := 666) (by decide +kernel) rfl, q_at (i := 667) (by decide +kernel) rfl⟩
abbrev b_H_thing : ByteArray := prog_1_method_8_code
def y_H_thing : MethodName := ⟨R_H, "thing", "(II)I"⟩
set_option maxRecDepth 40000 in
theorem mw_H_thing : mW y_H_thing b_H_thing 4 (some FieldType.int) 2 := ⟨q_at (i := 508) rfl rfl, q_at (i := 48) (by decide +kernel) rfl, by decide, by decide, by decide +kernel⟩
theorem mv_H_thing : mV y_H_thing := ⟨q_at (i := 506) (by decide +kernel) rfl, q_at (i := 507) (by decide +kernel) rfl⟩
abbrev b_H_thingOf : ByteArray := prog_1_method_4_code
def y_H_thingOf : MethodName := ⟨R_H, "thingOf", "(II)I"⟩
set_option maxRecDepth 40000 in
theorem mw_H_thingOf : mW y_H_thingOf b_H_thingOf 5 (some FieldType.int) 2 := ⟨q_at (i := 467) rfl rfl, q_at (i := 48) (by decide +kernel) rfl, by decide, by decide, by decide +kernel⟩
theorem mv_H_thingOf : mV y_H_thingOf := ⟨q_at (i := 465) (by decide +kernel) rfl, q_at (i := 466) (by decide +kernel) rfl⟩
abbrev b_H_wanted : ByteArray := prog_1_method_19_code
def y_H_wanted : MethodName := ⟨R_H, "wanted", "(I)I"⟩
set_option maxRecDepth 40000 in
theorem mw_H_wanted : mW y_H_wanted b_H_wanted 2 (some FieldType.int) 1 := ⟨q_at (i := 652) rfl rfl, q_at (i := 48) (by decide +kernel) rfl, by decide, by decide, by decide +kernel⟩
theorem mv_H_wanted : mV y_H_wanted := ⟨q_at (i := 650) (by decide +kernel) rfl, q_at (i := 651) (by decide +kernel) rfl⟩
abbrev b_H_wants : ByteArray := prog_1_method_12_code
def y_H_wants : MethodName := ⟨R_H, "wants", "(III)I"⟩
set_option maxRecDepth 40000 in
theorem mw_H_wants : mW y_H_wants b_H_wants 6 (some FieldType.int) 3 := ⟨q_at (i := 558) rfl rfl, q_at (i := 48) (by decide +kernel) rfl, by decide, by decide, by decide +kernel⟩
theorem mv_H_wants : mV y_H_wants := ⟨q_at (i := 556) (by decide +kernel) rfl, q_at (i := 557) (by decide +kernel) rfl⟩
abbrev b_H_weighs : ByteArray := prog_1_method_10_code
def y_H_weighs : MethodName := ⟨R_H, "weighs", "(II)I"⟩
set_option maxRecDepth 40000 in
theorem mw_H_weighs : mW y_H_weighs b_H_weighs 5 (some FieldType.int) 2 := ⟨q_at (i := 520) rfl rfl, q_at (i := 48) (by decide +kernel) rfl, by decide, by decide, by decide +kernel⟩
theorem mv_H_weighs : mV y_H_weighs := ⟨q_at (i := 518) (by decide +kernel) rfl, q_at (i := 519) (by decide +kernel) rfl⟩
abbrev b_H_weight : ByteArray := prog_1_method_7_code
def y_H_weight : MethodName := ⟨R_H, "weight", "(I)I"⟩
set_option maxRecDepth 40000 in
theorem mw_H_weight : mW y_H_weight b_H_weight 2 (some FieldType.int) 1 := ⟨q_at (i := 503) rfl rfl, q_at (i := 48) (by decide +kernel) rfl, by decide, by decide, by decide +kernel⟩
theorem mv_H_weight : mV y_H_weight := ⟨q_at (i := 501) (by decide +kernel) rfl, q_at (i := 502) (by decide +kernel) rfl⟩
abbrev b_H_whatKind : ByteArray := prog_1_method_29_code
def y_H_whatKind : MethodName := ⟨R_H, "whatKind", "(II)I"⟩
set_option maxRecDepth 40000 in
theorem mw_H_whatKind : mW y_H_whatKind b_H_whatKind 3 (some FieldType.int) 2 := ⟨q_at (i := 785) rfl rfl, q_at (i := 48) (by decide +kernel) rfl, by decide, by decide, by decide +kernel⟩
theorem mv_H_whatKind : mV y_H_whatKind := ⟨q_at (i := 783) (by decide +kernel) rfl, q_at (i := 784) (by decide +kernel) rfl⟩
abbrev b_H_worth : ByteArray := prog_1_method_30_code
def y_H_worth : MethodName := ⟨R_H, "worth", "(II)J"⟩
set_option maxRecDepth 40000 in
theorem mw_H_worth : mW y_H_worth b_H_worth 12 (some FieldType.long) 2 := ⟨q_at (i := 806) rfl rfl, q_at (i := 48) (by decide +kernel) rfl, by decide, by decide, by decide +kernel⟩
theorem mv_H_worth : mV y_H_worth := ⟨q_at (i := 804) (by decide +kernel) rfl, q_at (i := 805) (by decide +kernel) rfl⟩
abbrev b_H_wrong : ByteArray := prog_1_method_32_code
def y_H_wrong : MethodName := ⟨R_H, "wrong", "(III)J"⟩
set_option maxRecDepth 40000 in
theorem mw_H_wrong : mW y_H_wrong b_H_wrong 4 (some FieldType.long) 3 := ⟨q_at (i := 825) rfl rfl, q_at (i := 48) (by decide +kernel) rfl, by decide, by decide, by decide +kernel⟩
theorem mv_H_wrong : mV y_H_wrong := ⟨q_at (i := 823) (by decide +kernel) rfl, q_at (i := 824) (by decide +kernel) rfl⟩
abbrev b_M_apart : ByteArray := prog_14_method_59_code
def y_M_apart : MethodName := ⟨R_M, "apart", "()I"⟩
set_option maxRecDepth 40000 in
theorem mw_M_apart : mW y_M_apart b_M_apart 4 (some FieldType.int) 0 := ⟨q_at (i := 1293) rfl rfl, q_at (i := 57) (by decide +kernel) rfl, by decide, by decide, by decide +kernel⟩
theorem mv_M_apart : mV y_M_apart := ⟨q_at (i := 1291) (by decide +kernel) rfl, q_at (i := 1292) (by decide +kernel) rfl⟩
abbrev b_M_back : ByteArray := prog_14_method_41_code
def y_M_back : MethodName := ⟨R_M, "back", "()I"⟩
set_option maxRecDepth 40000 in
theorem mw_M_back : mW y_M_back b_M_back 2 (some FieldType.int) 0 := ⟨q_at (i := 1186) rfl rfl, q_at (i := 57) (by decide +kernel) rfl, by decide, by decide, by decide +kernel⟩
theorem mv_M_back : mV y_M_back := ⟨q_at (i := 1184) (by decide +kernel) rfl, q_at (i := 1185) (by decide +kernel) rfl⟩
abbrev b_M_bet : ByteArray := prog_14_method_76_code
def y_M_bet : MethodName := ⟨R_M, "bet", "(II)I"⟩
set_option maxRecDepth 40000 in
theorem mw_M_bet : mW y_M_bet b_M_bet 8 (some FieldType.int) 2 := ⟨q_at (i := 1364) rfl rfl, q_at (i := 57) (by decide +kernel) rfl, by decide, by decide, by decide +kernel⟩
theorem mv_M_bet : mV y_M_bet := ⟨q_at (i := 1362) (by decide +kernel) rfl, q_at (i := 1363) (by decide +kernel) rfl⟩
abbrev b_M_clear : ByteArray := prog_14_method_88_code
def y_M_clear : MethodName := ⟨R_M, "clear", "()I"⟩
set_option maxRecDepth 40000 in
theorem mw_M_clear : mW y_M_clear b_M_clear 2 (some FieldType.int) 0 := ⟨q_at (i := 1416) rfl rfl, q_at (i := 57) (by decide +kernel) rfl, by decide, by decide, by decide +kernel⟩
theorem mv_M_clear : mV y_M_clear := ⟨q_at (i := 1414) (by decide +kernel) rfl, q_at (i := 1415) (by decide +kernel) rfl⟩
abbrev b_M_codes : ByteArray := prog_14_method_61_code
def y_M_codes : MethodName := ⟨R_M, "codes", "(I)I"⟩
set_option maxRecDepth 40000 in
theorem mw_M_codes : mW y_M_codes b_M_codes 6 (some FieldType.int) 1 := ⟨q_at (i := 1301) rfl rfl, q_at (i := 57) (by decide +kernel) rfl, by decide, by decide, by decide +kernel⟩
theorem mv_M_codes : mV y_M_codes := ⟨q_at (i := 1299) (by decide +kernel) rfl, q_at (i := 1300) (by decide +kernel) rfl⟩
abbrev b_M_count : ByteArray := prog_14_method_91_code
def y_M_count : MethodName := ⟨R_M, "count", "(I)I"⟩
set_option maxRecDepth 40000 in
theorem mw_M_count : mW y_M_count b_M_count 4 (some FieldType.int) 1 := ⟨q_at (i := 1431) rfl rfl, q_at (i := 57) (by decide +kernel) rfl, by decide, by decide, by decide +kernel⟩
theorem mv_M_count : mV y_M_count := ⟨q_at (i := 1429) (by decide +kernel) rfl, q_at (i := 1430) (by decide +kernel) rfl⟩
abbrev b_M_day : ByteArray := prog_14_method_47_code
def y_M_day : MethodName := ⟨R_M, "day", "(I)I"⟩
set_option maxRecDepth 40000 in
theorem mw_M_day : mW y_M_day b_M_day 3 (some FieldType.int) 1 := ⟨q_at (i := 1232) rfl rfl, q_at (i := 57) (by decide +kernel) rfl, by decide, by decide, by decide +kernel⟩
theorem mv_M_day : mV y_M_day := ⟨q_at (i := 1230) (by decide +kernel) rfl, q_at (i := 1231) (by decide +kernel) rfl⟩
abbrev b_M_dayOf : ByteArray := prog_14_method_43_code
def y_M_dayOf : MethodName := ⟨R_M, "dayOf", "(II)I"⟩
set_option maxRecDepth 40000 in
theorem mw_M_dayOf : mW y_M_dayOf b_M_dayOf 3 (some FieldType.int) 2 := ⟨q_at (i := 1203) rfl rfl, q_at (i := 57) (by decide +kernel) rfl, by decide, by decide, by decide +kernel⟩
theorem mv_M_dayOf : mV y_M_dayOf := ⟨q_at (i := 1201) (by decide +kernel) rfl, q_at (i := 1202) (by decide +kernel) rfl⟩
abbrev b_M_drop : ByteArray := prog_14_method_85_code
def y_M_drop : MethodName := ⟨R_M, "drop", "()I"⟩
set_option maxRecDepth 40000 in
theorem mw_M_drop : mW y_M_drop b_M_drop 5 (some FieldType.int) 0 := ⟨q_at (i := 1404) rfl rfl, q_at (i := 57) (by decide +kernel) rfl, by decide, by decide, by decide +kernel⟩
theorem mv_M_drop : mV y_M_drop := ⟨q_at (i := 1402) (by decide +kernel) rfl, q_at (i := 1403) (by decide +kernel) rfl⟩
abbrev b_M_eggAndRope : ByteArray := prog_14_method_63_code
def y_M_eggAndRope : MethodName := ⟨R_M, "eggAndRope", "()I"⟩
set_option maxRecDepth 40000 in
theorem mw_M_eggAndRope : mW y_M_eggAndRope b_M_eggAndRope 7 (some FieldType.int) 0 := ⟨q_at (i := 1309) rfl rfl, q_at (i := 57) (by decide +kernel) rfl, by decide, by decide, by decide +kernel⟩
theorem mv_M_eggAndRope : mV y_M_eggAndRope := ⟨q_at (i := 1307) (by decide +kernel) rfl, q_at (i := 1308) (by decide +kernel) rfl⟩
abbrev b_M_feed : ByteArray := prog_14_method_24_code
def y_M_feed : MethodName := ⟨R_M, "feed", "(I)I"⟩
set_option maxRecDepth 40000 in
theorem mw_M_feed : mW y_M_feed b_M_feed 2 (some FieldType.int) 1 := ⟨q_at (i := 1080) rfl rfl, q_at (i := 57) (by decide +kernel) rfl, by decide, by decide, by decide +kernel⟩
theorem mv_M_feed : mV y_M_feed := ⟨q_at (i := 1078) (by decide +kernel) rfl, q_at (i := 1079) (by decide +kernel) rfl⟩
abbrev b_M_fieldOf : ByteArray := prog_14_method_44_code
def y_M_fieldOf : MethodName := ⟨R_M, "fieldOf", "(II)I"⟩
set_option maxRecDepth 40000 in
theorem mw_M_fieldOf : mW y_M_fieldOf b_M_fieldOf 4 (some FieldType.int) 2 := ⟨q_at (i := 1215) rfl rfl, q_at (i := 57) (by decide +kernel) rfl, by decide, by decide, by decide +kernel⟩
theorem mv_M_fieldOf : mV y_M_fieldOf := ⟨q_at (i := 1213) (by decide +kernel) rfl, q_at (i := 1214) (by decide +kernel) rfl⟩
abbrev b_M_gotIn : ByteArray := prog_14_method_65_code
def y_M_gotIn : MethodName := ⟨R_M, "gotIn", "(I)I"⟩
set_option maxRecDepth 40000 in
theorem mw_M_gotIn : mW y_M_gotIn b_M_gotIn 3 (some FieldType.int) 1 := ⟨q_at (i := 1313) rfl rfl, q_at (i := 57) (by decide +kernel) rfl, by decide, by decide, by decide +kernel⟩
theorem mv_M_gotIn : mV y_M_gotIn := ⟨q_at (i := 1311) (by decide +kernel) rfl, q_at (i := 1312) (by decide +kernel) rfl⟩
abbrev b_M_hall : ByteArray := prog_14_method_33_code
def y_M_hall : MethodName := ⟨R_M, "hall", "()I"⟩
set_option maxRecDepth 40000 in
theorem mw_M_hall : mW y_M_hall b_M_hall 2 (some FieldType.int) 0 := ⟨q_at (i := 1088) rfl rfl, q_at (i := 57) (by decide +kernel) rfl, by decide, by decide, by decide +kernel⟩
theorem mv_M_hall : mV y_M_hall := ⟨q_at (i := 1086) (by decide +kernel) rfl, q_at (i := 1087) (by decide +kernel) rfl⟩
abbrev b_M_image : ByteArray := prog_14_method_38_code
def y_M_image : MethodName := ⟨R_M, "image", "()I"⟩
set_option maxRecDepth 40000 in
theorem mw_M_image : mW y_M_image b_M_image 1 (some FieldType.int) 0 := ⟨q_at (i := 1178) rfl rfl, q_at (i := 57) (by decide +kernel) rfl, by decide, by decide, by decide +kernel⟩
theorem mv_M_image : mV y_M_image := ⟨q_at (i := 1176) (by decide +kernel) rfl, q_at (i := 1177) (by decide +kernel) rfl⟩
abbrev b_M_judge : ByteArray := prog_14_method_87_code
def y_M_judge : MethodName := ⟨R_M, "judge", "()I"⟩
set_option maxRecDepth 40000 in
theorem mw_M_judge : mW y_M_judge b_M_judge 3 (some FieldType.int) 0 := ⟨q_at (i := 1412) rfl rfl, q_at (i := 57) (by decide +kernel) rfl, by decide, by decide, by decide +kernel⟩
theorem mv_M_judge : mV y_M_judge := ⟨q_at (i := 1410) (by decide +kernel) rfl, q_at (i := 1411) (by decide +kernel) rfl⟩
abbrev b_M_lightest : ByteArray := prog_14_method_78_code
def y_M_lightest : MethodName := ⟨R_M, "lightest", "(I)I"⟩
set_option maxRecDepth 40000 in
theorem mw_M_lightest : mW y_M_lightest b_M_lightest 7 (some FieldType.int) 1 := ⟨q_at (i := 1375) rfl rfl, q_at (i := 57) (by decide +kernel) rfl, by decide, by decide, by decide +kernel⟩
theorem mv_M_lightest : mV y_M_lightest := ⟨q_at (i := 1373) (by decide +kernel) rfl, q_at (i := 1374) (by decide +kernel) rfl⟩
abbrev b_M_looks : ByteArray := prog_14_method_55_code
def y_M_looks : MethodName := ⟨R_M, "looks", "(I)I"⟩
set_option maxRecDepth 40000 in
theorem mw_M_looks : mW y_M_looks b_M_looks 6 (some FieldType.int) 1 := ⟨q_at (i := 1274) rfl rfl, q_at (i := 57) (by decide +kernel) rfl, by decide, by decide, by decide +kernel⟩
theorem mv_M_looks : mV y_M_looks := ⟨q_at (i := 1272) (by decide +kernel) rfl, q_at (i := 1273) (by decide +kernel) rfl⟩
abbrev b_M_lots : ByteArray := prog_14_method_90_code
def y_M_lots : MethodName := ⟨R_M, "lots", "(III)I"⟩
set_option maxRecDepth 40000 in
theorem mw_M_lots : mW y_M_lots b_M_lots 11 (some FieldType.int) 3 := ⟨q_at (i := 1420) rfl rfl, q_at (i := 57) (by decide +kernel) rfl, by decide, by decide, by decide +kernel⟩
theorem mv_M_lots : mV y_M_lots := ⟨q_at (i := 1418) (by decide +kernel) rfl, q_at (i := 1419) (by decide +kernel) rfl⟩
abbrev b_M_mean : ByteArray := prog_14_method_83_code
def y_M_mean : MethodName := ⟨R_M, "mean", "(I)J"⟩
set_option maxRecDepth 40000 in
theorem mw_M_mean : mW y_M_mean b_M_mean 4 (some FieldType.long) 1 := ⟨q_at (i := 1395) rfl rfl, q_at (i := 57) (by decide +kernel) rfl, by decide, by decide, by decide +kernel⟩
theorem mv_M_mean : mV y_M_mean := ⟨q_at (i := 1393) (by decide +kernel) rfl, q_at (i := 1394) (by decide +kernel) rfl⟩
abbrev b_M_need : ByteArray := prog_14_method_84_code
def y_M_need : MethodName := ⟨R_M, "need", "(I)I"⟩
set_option maxRecDepth 40000 in
theorem mw_M_need : mW y_M_need b_M_need 4 (some FieldType.int) 1 := ⟨q_at (i := 1399) rfl rfl, q_at (i := 57) (by decide +kernel) rfl, by decide, by decide, by decide +kernel⟩
theorem mv_M_need : mV y_M_need := ⟨q_at (i := 1397) (by decide +kernel) rfl, q_at (i := 1398) (by decide +kernel) rfl⟩
abbrev b_M_odds : ByteArray := prog_14_method_54_code
def y_M_odds : MethodName := ⟨R_M, "odds", "(III)J"⟩
set_option maxRecDepth 40000 in
theorem mw_M_odds : mW y_M_odds b_M_odds 6 (some FieldType.long) 3 := ⟨q_at (i := 1256) rfl rfl, q_at (i := 57) (by decide +kernel) rfl, by decide, by decide, by decide +kernel⟩
theorem mv_M_odds : mV y_M_odds := ⟨q_at (i := 1254) (by decide +kernel) rfl, q_at (i := 1255) (by decide +kernel) rfl⟩
abbrev b_M_often : ByteArray := prog_14_method_81_code
def y_M_often : MethodName := ⟨R_M, "often", "(I)I"⟩
set_option maxRecDepth 40000 in
theorem mw_M_often : mW y_M_often b_M_often 7 (some FieldType.int) 1 := ⟨q_at (i := 1387) rfl rfl, q_at (i := 57) (by decide +kernel) rfl, by decide, by decide, by decide +kernel⟩
theorem mv_M_often : mV y_M_often := ⟨q_at (i := 1385) (by decide +kernel) rfl, q_at (i := 1386) (by decide +kernel) rfl⟩
abbrev b_M_order : ByteArray := prog_14_method_69_code
def y_M_order : MethodName := ⟨R_M, "order", "(II)I"⟩
set_option maxRecDepth 40000 in
theorem mw_M_order : mW y_M_order b_M_order 9 (some FieldType.int) 2 := ⟨q_at (i := 1329) rfl rfl, q_at (i := 57) (by decide +kernel) rfl, by decide, by decide, by decide +kernel⟩
theorem mv_M_order : mV y_M_order := ⟨q_at (i := 1327) (by decide +kernel) rfl, q_at (i := 1328) (by decide +kernel) rfl⟩
abbrev b_M_pack : ByteArray := prog_14_method_56_code
def y_M_pack : MethodName := ⟨R_M, "pack", "(II)I"⟩
set_option maxRecDepth 40000 in
theorem mw_M_pack : mW y_M_pack b_M_pack 9 (some FieldType.int) 2 := ⟨q_at (i := 1281) rfl rfl, q_at (i := 57) (by decide +kernel) rfl, by decide, by decide, by decide +kernel⟩
theorem mv_M_pack : mV y_M_pack := ⟨q_at (i := 1279) (by decide +kernel) rfl, q_at (i := 1280) (by decide +kernel) rfl⟩
abbrev b_M_packs : ByteArray := prog_14_method_49_code
def y_M_packs : MethodName := ⟨R_M, "packs", "(II)I"⟩
set_option maxRecDepth 40000 in
theorem mw_M_packs : mW y_M_packs b_M_packs 3 (some FieldType.int) 2 := ⟨q_at (i := 1244) rfl rfl, q_at (i := 57) (by decide +kernel) rfl, by decide, by decide, by decide +kernel⟩
theorem mv_M_packs : mV y_M_packs := ⟨q_at (i := 1242) (by decide +kernel) rfl, q_at (i := 1243) (by decide +kernel) rfl⟩
abbrev b_M_plan : ByteArray := prog_14_method_70_code
def y_M_plan : MethodName := ⟨R_M, "plan", "()I"⟩
set_option maxRecDepth 40000 in
theorem mw_M_plan : mW y_M_plan b_M_plan 8 (some FieldType.int) 0 := ⟨q_at (i := 1344) rfl rfl, q_at (i := 57) (by decide +kernel) rfl, by decide, by decide, by decide +kernel⟩
theorem mv_M_plan : mV y_M_plan := ⟨q_at (i := 1342) (by decide +kernel) rfl, q_at (i := 1343) (by decide +kernel) rfl⟩
abbrev b_M_restore : ByteArray := prog_14_method_39_code
def y_M_restore : MethodName := ⟨R_M, "restore", "()I"⟩
set_option maxRecDepth 40000 in
theorem mw_M_restore : mW y_M_restore b_M_restore 1 (some FieldType.int) 0 := ⟨q_at (i := 1182) rfl rfl, q_at (i := 57) (by decide +kernel) rfl, by decide, by decide, by decide +kernel⟩
theorem mv_M_restore : mV y_M_restore := ⟨q_at (i := 1180) (by decide +kernel) rfl, q_at (i := 1181) (by decide +kernel) rfl⟩
abbrev b_M_rope : ByteArray := prog_14_method_57_code
def y_M_rope : MethodName := ⟨R_M, "rope", "()I"⟩
set_option maxRecDepth 40000 in
theorem mw_M_rope : mW y_M_rope b_M_rope 3 (some FieldType.int) 0 := ⟨q_at (i := 1285) rfl rfl, q_at (i := 57) (by decide +kernel) rfl, by decide, by decide, by decide +kernel⟩
theorem mv_M_rope : mV y_M_rope := ⟨q_at (i := 1283) (by decide +kernel) rfl, q_at (i := 1284) (by decide +kernel) rfl⟩
abbrev b_M_row : ByteArray := prog_14_method_86_code
def y_M_row : MethodName := ⟨R_M, "row", "(I)I"⟩
set_option maxRecDepth 40000 in
theorem mw_M_row : mW y_M_row b_M_row 2 (some FieldType.int) 1 := ⟨q_at (i := 1408) rfl rfl, q_at (i := 57) (by decide +kernel) rfl, by decide, by decide, by decide +kernel⟩
theorem mv_M_row : mV y_M_row := ⟨q_at (i := 1406) (by decide +kernel) rfl, q_at (i := 1407) (by decide +kernel) rfl⟩
abbrev b_M_smallest : ByteArray := prog_14_method_62_code
def y_M_smallest : MethodName := ⟨R_M, "smallest", "(I)I"⟩
set_option maxRecDepth 40000 in
theorem mw_M_smallest : mW y_M_smallest b_M_smallest 5 (some FieldType.int) 1 := ⟨q_at (i := 1305) rfl rfl, q_at (i := 57) (by decide +kernel) rfl, by decide, by decide, by decide +kernel⟩
theorem mv_M_smallest : mV y_M_smallest := ⟨q_at (i := 1303) (by decide +kernel) rfl, q_at (i := 1304) (by decide +kernel) rfl⟩
abbrev b_M_spare : ByteArray := prog_14_method_71_code
def y_M_spare : MethodName := ⟨R_M, "spare", "()I"⟩
set_option maxRecDepth 40000 in
theorem mw_M_spare : mW y_M_spare b_M_spare 4 (some FieldType.int) 0 := ⟨q_at (i := 1348) rfl rfl, q_at (i := 57) (by decide +kernel) rfl, by decide, by decide, by decide +kernel⟩
theorem mv_M_spare : mV y_M_spare := ⟨q_at (i := 1346) (by decide +kernel) rfl, q_at (i := 1347) (by decide +kernel) rfl⟩
abbrev b_M_spends : ByteArray := prog_14_method_51_code
def y_M_spends : MethodName := ⟨R_M, "spends", "(II)I"⟩
set_option maxRecDepth 40000 in
theorem mw_M_spends : mW y_M_spends b_M_spends 3 (some FieldType.int) 2 := ⟨q_at (i := 1252) rfl rfl, q_at (i := 57) (by decide +kernel) rfl, by decide, by decide, by decide +kernel⟩
theorem mv_M_spends : mV y_M_spends := ⟨q_at (i := 1250) (by decide +kernel) rfl, q_at (i := 1251) (by decide +kernel) rfl⟩
abbrev b_M_sure : ByteArray := prog_14_method_82_code
def y_M_sure : MethodName := ⟨R_M, "sure", "(I)I"⟩
set_option maxRecDepth 40000 in
theorem mw_M_sure : mW y_M_sure b_M_sure 4 (some FieldType.int) 1 := ⟨q_at (i := 1391) rfl rfl, q_at (i := 57) (by decide +kernel) rfl, by decide, by decide, by decide +kernel⟩
theorem mv_M_sure : mV y_M_sure := ⟨q_at (i := 1389) (by decide +kernel) rfl, q_at (i := 1390) (by decide +kernel) rfl⟩
abbrev b_M_swap : ByteArray := prog_14_method_80_code
def y_M_swap : MethodName := ⟨R_M, "swap", "()I"⟩
set_option maxRecDepth 40000 in
theorem mw_M_swap : mW y_M_swap b_M_swap 10 (some FieldType.int) 0 := ⟨q_at (i := 1379) rfl rfl, q_at (i := 57) (by decide +kernel) rfl, by decide, by decide, by decide +kernel⟩
theorem mv_M_swap : mV y_M_swap := ⟨q_at (i := 1377) (by decide +kernel) rfl, q_at (i := 1378) (by decide +kernel) rfl⟩
abbrev b_M_tell : ByteArray := prog_14_method_60_code
def y_M_tell : MethodName := ⟨R_M, "tell", "()I"⟩
set_option maxRecDepth 40000 in
theorem mw_M_tell : mW y_M_tell b_M_tell 5 (some FieldType.int) 0 := ⟨q_at (i := 1297) rfl rfl, q_at (i := 57) (by decide +kernel) rfl, by decide, by decide, by decide +kernel⟩
theorem mv_M_tell : mV y_M_tell := ⟨q_at (i := 1295) (by decide +kernel) rfl, q_at (i := 1296) (by decide +kernel) rfl⟩
abbrev b_M_thing : ByteArray := prog_14_method_46_code
def y_M_thing : MethodName := ⟨R_M, "thing", "(II)I"⟩
set_option maxRecDepth 40000 in
theorem mw_M_thing : mW y_M_thing b_M_thing 4 (some FieldType.int) 2 := ⟨q_at (i := 1225) rfl rfl, q_at (i := 57) (by decide +kernel) rfl, by decide, by decide, by decide +kernel⟩
theorem mv_M_thing : mV y_M_thing := ⟨q_at (i := 1223) (by decide +kernel) rfl, q_at (i := 1224) (by decide +kernel) rfl⟩
abbrev b_M_thingOf : ByteArray := prog_14_method_42_code
def y_M_thingOf : MethodName := ⟨R_M, "thingOf", "(II)I"⟩
set_option maxRecDepth 40000 in
theorem mw_M_thingOf : mW y_M_thingOf b_M_thingOf 3 (some FieldType.int) 2 := ⟨q_at (i := 1190) rfl rfl, q_at (i := 57) (by decide +kernel) rfl, by decide, by decide, by decide +kernel⟩
theorem mv_M_thingOf : mV y_M_thingOf := ⟨q_at (i := 1188) (by decide +kernel) rfl, q_at (i := 1189) (by decide +kernel) rfl⟩
abbrev b_M_wanted : ByteArray := prog_14_method_58_code
def y_M_wanted : MethodName := ⟨R_M, "wanted", "(I)I"⟩
set_option maxRecDepth 40000 in
theorem mw_M_wanted : mW y_M_wanted b_M_wanted 4 (some FieldType.int) 1 := ⟨q_at (i := 1289) rfl rfl, q_at (i := 57) (by decide +kernel) rfl, by decide, by decide, by decide +kernel⟩
theorem mv_M_wanted : mV y_M_wanted := ⟨q_at (i := 1287) (by decide +kernel) rfl, q_at (i := 1288) (by decide +kernel) rfl⟩
abbrev b_M_wants : ByteArray := prog_14_method_50_code
def y_M_wants : MethodName := ⟨R_M, "wants", "(III)I"⟩
set_option maxRecDepth 40000 in
theorem mw_M_wants : mW y_M_wants b_M_wants 6 (some FieldType.int) 3 := ⟨q_at (i := 1248) rfl rfl, q_at (i := 57) (by decide +kernel) rfl, by decide, by decide, by decide +kernel⟩
theorem mv_M_wants : mV y_M_wants := ⟨q_at (i := 1246) (by decide +kernel) rfl, q_at (i := 1247) (by decide +kernel) rfl⟩
abbrev b_M_weighs : ByteArray := prog_14_method_48_code
def y_M_weighs : MethodName := ⟨R_M, "weighs", "(II)I"⟩
set_option maxRecDepth 40000 in
theorem mw_M_weighs : mW y_M_weighs b_M_weighs 5 (some FieldType.int) 2 := ⟨q_at (i := 1236) rfl rfl, q_at (i := 57) (by decide +kernel) rfl, by decide, by decide, by decide +kernel⟩
theorem mv_M_weighs : mV y_M_weighs := ⟨q_at (i := 1234) (by decide +kernel) rfl, q_at (i := 1235) (by decide +kernel) rfl⟩
abbrev b_M_weight : ByteArray := prog_14_method_45_code
def y_M_weight : MethodName := ⟨R_M, "weight", "(I)I"⟩
set_option maxRecDepth 40000 in
theorem mw_M_weight : mW y_M_weight b_M_weight 2 (some FieldType.int) 1 := ⟨q_at (i := 1220) rfl rfl, q_at (i := 57) (by decide +kernel) rfl, by decide, by decide, by decide +kernel⟩
theorem mv_M_weight : mV y_M_weight := ⟨q_at (i := 1218) (by decide +kernel) rfl, q_at (i := 1219) (by decide +kernel) rfl⟩
abbrev b_M_whatKind : ByteArray := prog_14_method_73_code
def y_M_whatKind : MethodName := ⟨R_M, "whatKind", "(II)I"⟩
set_option maxRecDepth 40000 in
theorem mw_M_whatKind : mW y_M_whatKind b_M_whatKind 7 (some FieldType.int) 2 := ⟨q_at (i := 1352) rfl rfl, q_at (i := 57) (by decide +kernel) rfl, by decide, by decide, by decide +kernel⟩
theorem mv_M_whatKind : mV y_M_whatKind := ⟨q_at (i := 1350) (by decide +kernel) rfl, q_at (i := 1351) (by decide +kernel) rfl⟩
abbrev b_M_worth : ByteArray := prog_14_method_74_code
def y_M_worth : MethodName := ⟨R_M, "worth", "(II)J"⟩
set_option maxRecDepth 40000 in
theorem mw_M_worth : mW y_M_worth b_M_worth 11 (some FieldType.long) 2 := ⟨q_at (i := 1360) rfl rfl, q_at (i := 57) (by decide +kernel) rfl, by decide, by decide, by decide +kernel⟩
theorem mv_M_worth : mV y_M_worth := ⟨q_at (i := 1358) (by decide +kernel) rfl, q_at (i := 1359) (by decide +kernel) rfl⟩
abbrev b_M_wrong : ByteArray := prog_14_method_77_code
def y_M_wrong : MethodName := ⟨R_M, "wrong", "(III)J"⟩
set_option maxRecDepth 40000 in
theorem mw_M_wrong : mW y_M_wrong b_M_wrong 13 (some FieldType.long) 3 := ⟨q_at (i := 1371) rfl rfl, q_at (i := 57) (by decide +kernel) rfl, by decide, by decide, by decide +kernel⟩
theorem mv_M_wrong : mV y_M_wrong := ⟨q_at (i := 1369) (by decide +kernel) rfl, q_at (i := 1370) (by decide +kernel) rfl⟩
