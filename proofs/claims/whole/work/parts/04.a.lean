theorem qf_Fld_15 : Cond.fieldLink R_Fld 15 R_Fld "lefts" "[I" ∈ lw_g := q_at (i := 87) (by decide +kernel) rfl
theorem qf_Fld_9 : Cond.fieldLink R_Fld 9 R_Fld "wishes" "[I" ∈ lw_g := q_at (i := 83) (by decide +kernel) rfl
abbrev b_H_holds : ByteArray := prog_1_method_52_code
def y_H_holds : MethodName := ⟨R_H, "holds", "(II)Z"⟩
set_option maxRecDepth 40000 in
theorem mw_H_holds : mW y_H_holds b_H_holds 2 (some FieldType.boolean) 2 := ⟨q_at (i := 439) rfl rfl, q_at (i := 46) (by decide +kernel) rfl, by decide, by decide, by decide +kernel⟩
theorem ms_H_holds : Cond.static y_H_holds ∈ lw_g := q_at (i := 438) (by decide +kernel) rfl
theorem qm_Fld_22 : Cond.methodLinkNest R_Fld 22 y_H_holds "HamperByWeather" ∈ lw_tbl := List.mem_of_getElem? (i := 456) (by decide +kernel)
abbrev b_Fld_fieldFor : ByteArray := prog_3_method_6_code
def y_Fld_fieldFor : MethodName := ⟨R_Fld, "fieldFor", "(I)I"⟩
set_option maxRecDepth 40000 in
theorem mw_Fld_fieldFor : mW y_Fld_fieldFor b_Fld_fieldFor 3 (some FieldType.int) 1 := ⟨q_at (i := 455) rfl rfl, q_at (i := 48) (by decide +kernel) rfl, by decide, by decide, by decide +kernel⟩
theorem mv_Fld_fieldFor : mV y_Fld_fieldFor := ⟨q_at (i := 453) (by decide +kernel) rfl, q_at (i := 454) (by decide +kernel) rfl⟩
theorem qm_Fld_26 : Cond.methodLink R_Fld 26 y_Fld_fieldFor ∈ lw_g := q_at (i := 452) (by decide +kernel) rfl
abbrev b_H_isField : ByteArray := prog_1_method_50_code
def y_H_isField : MethodName := ⟨R_H, "isField", "(I)Z"⟩
set_option maxRecDepth 40000 in
theorem mw_H_isField : mW y_H_isField b_H_isField 1 (some FieldType.boolean) 1 := ⟨q_at (i := 372) rfl rfl, q_at (i := 46) (by decide +kernel) rfl, by decide, by decide, by decide +kernel⟩
theorem ms_H_isField : Cond.static y_H_isField ∈ lw_g := q_at (i := 371) (by decide +kernel) rfl
theorem qm_Fld_18 : Cond.methodLinkNest R_Fld 18 y_H_isField "HamperByWeather" ∈ lw_tbl := List.mem_of_getElem? (i := 370) (by decide +kernel)
theorem qm_Sta_77 : Cond.methodLinkNest R_Sta 77 y_H_holds "HamperByWeather" ∈ lw_tbl := List.mem_of_getElem? (i := 437) (by decide +kernel)
theorem qf_Sta_21 : Cond.fieldLink R_Sta 21 R_Sta "goes" "[I" ∈ lw_g := q_at (i := 103) (by decide +kernel) rfl
theorem qf_Sta_9 : Cond.fieldLink R_Sta 9 R_Sta "weights" "[I" ∈ lw_g := q_at (i := 96) (by decide +kernel) rfl
abbrev b_Fld_work : ByteArray := prog_3_method_7_code
def y_Fld_work : MethodName := ⟨R_Fld, "work", "(I)I"⟩
set_option maxRecDepth 40000 in
theorem mw_Fld_work : mW y_Fld_work b_Fld_work 3 (some FieldType.int) 1 := ⟨q_at (i := 451) rfl rfl, q_at (i := 48) (by decide +kernel) rfl, by decide, by decide, by decide +kernel⟩
theorem mv_Fld_work : mV y_Fld_work := ⟨q_at (i := 449) (by decide +kernel) rfl, q_at (i := 450) (by decide +kernel) rfl⟩
abbrev b_Sta_couldBe : ByteArray := prog_10_method_18_code
def y_Sta_couldBe : MethodName := ⟨R_Sta, "couldBe", "(I)I"⟩
set_option maxRecDepth 40000 in
theorem mw_Sta_couldBe : mW y_Sta_couldBe b_Sta_couldBe 4 (some FieldType.int) 1 := ⟨q_at (i := 436) rfl rfl, q_at (i := 47) (by decide +kernel) rfl, by decide, by decide, by decide +kernel⟩
theorem mv_Sta_couldBe : mV y_Sta_couldBe := ⟨q_at (i := 434) (by decide +kernel) rfl, q_at (i := 435) (by decide +kernel) rfl⟩
abbrev b_Sta_weightOfAll : ByteArray := prog_10_method_24_code
def y_Sta_weightOfAll : MethodName := ⟨R_Sta, "weightOfAll", "(I)I"⟩
set_option maxRecDepth 40000 in
theorem mw_Sta_weightOfAll : mW y_Sta_weightOfAll b_Sta_weightOfAll 4 (some FieldType.int) 1 := ⟨q_at (i := 599) rfl rfl, q_at (i := 47) (by decide +kernel) rfl, by decide, by decide, by decide +kernel⟩
theorem mv_Sta_weightOfAll : mV y_Sta_weightOfAll := ⟨q_at (i := 597) (by decide +kernel) rfl, q_at (i := 598) (by decide +kernel) rfl⟩
theorem d_H_isField_0 : decode b_H_isField 0 = .ok (.iload_n 0, 1) := by decide +kernel
theorem d_H_isField_1 : decode b_H_isField 1 = .ok (.ifCond .lt 12, 3) := by decide +kernel
theorem d_H_isField_4 : decode b_H_isField 4 = .ok (.iload_n 0, 1) := by decide +kernel
theorem d_H_isField_5 : decode b_H_isField 5 = .ok (.iconst 4, 1) := by decide +kernel
theorem d_H_isField_6 : decode b_H_isField 6 = .ok (.if_icmp .ge 7, 3) := by decide +kernel
theorem d_H_isField_9 : decode b_H_isField 9 = .ok (.iconst 1, 1) := by decide +kernel
theorem d_H_isField_10 : decode b_H_isField 10 = .ok (.goto 4, 3) := by decide +kernel
theorem d_H_isField_13 : decode b_H_isField 13 = .ok (.iconst 0, 1) := by decide +kernel
theorem d_H_isField_14 : decode b_H_isField 14 = .ok (.ireturn, 1) := by decide +kernel
theorem d_H_holds_0 : decode b_H_holds 0 = .ok (.iload_n 1, 1) := by decide +kernel
theorem d_H_holds_1 : decode b_H_holds 1 = .ok (.ifCond .lt 22, 3) := by decide +kernel
theorem d_H_holds_4 : decode b_H_holds 4 = .ok (.iload_n 1, 1) := by decide +kernel
theorem d_H_holds_5 : decode b_H_holds 5 = .ok (.bipush 31, 2) := by decide +kernel
theorem d_H_holds_7 : decode b_H_holds 7 = .ok (.if_icmp .ge 16, 3) := by decide +kernel
theorem d_H_holds_10 : decode b_H_holds 10 = .ok (.iload_n 0, 1) := by decide +kernel
theorem d_H_holds_11 : decode b_H_holds 11 = .ok (.iload_n 1, 1) := by decide +kernel
theorem d_H_holds_12 : decode b_H_holds 12 = .ok (.ishr, 1) := by decide +kernel
theorem d_H_holds_13 : decode b_H_holds 13 = .ok (.iconst 1, 1) := by decide +kernel
theorem d_H_holds_14 : decode b_H_holds 14 = .ok (.iand, 1) := by decide +kernel
theorem d_H_holds_15 : decode b_H_holds 15 = .ok (.iconst 1, 1) := by decide +kernel
theorem d_H_holds_16 : decode b_H_holds 16 = .ok (.if_icmp .ne 7, 3) := by decide +kernel
theorem d_H_holds_19 : decode b_H_holds 19 = .ok (.iconst 1, 1) := by decide +kernel
theorem d_H_holds_20 : decode b_H_holds 20 = .ok (.goto 4, 3) := by decide +kernel
theorem d_H_holds_23 : decode b_H_holds 23 = .ok (.iconst 0, 1) := by decide +kernel
theorem d_H_holds_24 : decode b_H_holds 24 = .ok (.ireturn, 1) := by decide +kernel
theorem d_Fld_fieldFor_0 : decode b_Fld_fieldFor 0 = .ok (.iconst 0, 1) := by decide +kernel
theorem d_Fld_fieldFor_1 : decode b_Fld_fieldFor 1 = .ok (.istore_n 2, 1) := by decide +kernel
theorem d_Fld_fieldFor_2 : decode b_Fld_fieldFor 2 = .ok (.iload_n 2, 1) := by decide +kernel
theorem d_Fld_fieldFor_3 : decode b_Fld_fieldFor 3 = .ok (.iconst 4, 1) := by decide +kernel
theorem d_Fld_fieldFor_4 : decode b_Fld_fieldFor 4 = .ok (.if_icmp .ge 33, 3) := by decide +kernel
theorem d_Fld_fieldFor_7 : decode b_Fld_fieldFor 7 = .ok (.aload_n 0, 1) := by decide +kernel
theorem d_Fld_fieldFor_8 : decode b_Fld_fieldFor 8 = .ok (.getfield 15, 3) := by decide +kernel
theorem d_Fld_fieldFor_11 : decode b_Fld_fieldFor 11 = .ok (.iload_n 2, 1) := by decide +kernel
theorem d_Fld_fieldFor_12 : decode b_Fld_fieldFor 12 = .ok (.iaload, 1) := by decide +kernel
theorem d_Fld_fieldFor_13 : decode b_Fld_fieldFor 13 = .ok (.ifCond .le 18, 3) := by decide +kernel
theorem d_Fld_fieldFor_16 : decode b_Fld_fieldFor 16 = .ok (.aload_n 0, 1) := by decide +kernel
theorem d_Fld_fieldFor_17 : decode b_Fld_fieldFor 17 = .ok (.getfield 9, 3) := by decide +kernel
theorem d_Fld_fieldFor_20 : decode b_Fld_fieldFor 20 = .ok (.iload_n 2, 1) := by decide +kernel
theorem d_Fld_fieldFor_21 : decode b_Fld_fieldFor 21 = .ok (.iaload, 1) := by decide +kernel
theorem d_Fld_fieldFor_22 : decode b_Fld_fieldFor 22 = .ok (.iload_n 1, 1) := by decide +kernel
theorem d_Fld_fieldFor_23 : decode b_Fld_fieldFor 23 = .ok (.invokestatic 22, 3) := by decide +kernel
theorem d_Fld_fieldFor_26 : decode b_Fld_fieldFor 26 = .ok (.ifCond .eq 5, 3) := by decide +kernel
theorem d_Fld_fieldFor_29 : decode b_Fld_fieldFor 29 = .ok (.iload_n 2, 1) := by decide +kernel
theorem d_Fld_fieldFor_30 : decode b_Fld_fieldFor 30 = .ok (.ireturn, 1) := by decide +kernel
theorem d_Fld_fieldFor_31 : decode b_Fld_fieldFor 31 = .ok (.iinc 2 1, 3) := by decide +kernel
theorem d_Fld_fieldFor_34 : decode b_Fld_fieldFor 34 = .ok (.goto (-32), 3) := by decide +kernel
theorem d_Fld_fieldFor_37 : decode b_Fld_fieldFor 37 = .ok (.bipush (-9), 2) := by decide +kernel
theorem d_Fld_fieldFor_39 : decode b_Fld_fieldFor 39 = .ok (.ireturn, 1) := by decide +kernel
theorem d_Fld_work_0 : decode b_Fld_work 0 = .ok (.aload_n 0, 1) := by decide +kernel
theorem d_Fld_work_1 : decode b_Fld_work 1 = .ok (.iload_n 1, 1) := by decide +kernel
theorem d_Fld_work_2 : decode b_Fld_work 2 = .ok (.invokevirtual 26, 3) := by decide +kernel
theorem d_Fld_work_5 : decode b_Fld_work 5 = .ok (.istore_n 2, 1) := by decide +kernel
theorem d_Fld_work_6 : decode b_Fld_work 6 = .ok (.iload_n 2, 1) := by decide +kernel
theorem d_Fld_work_7 : decode b_Fld_work 7 = .ok (.invokestatic 18, 3) := by decide +kernel
theorem d_Fld_work_10 : decode b_Fld_work 10 = .ok (.ifCond .eq 13, 3) := by decide +kernel
theorem d_Fld_work_13 : decode b_Fld_work 13 = .ok (.aload_n 0, 1) := by decide +kernel
theorem d_Fld_work_14 : decode b_Fld_work 14 = .ok (.getfield 15, 3) := by decide +kernel
theorem d_Fld_work_17 : decode b_Fld_work 17 = .ok (.iload_n 2, 1) := by decide +kernel
theorem d_Fld_work_18 : decode b_Fld_work 18 = .ok (.dup2, 1) := by decide +kernel
theorem d_Fld_work_19 : decode b_Fld_work 19 = .ok (.iaload, 1) := by decide +kernel
theorem d_Fld_work_20 : decode b_Fld_work 20 = .ok (.iconst 1, 1) := by decide +kernel
theorem d_Fld_work_21 : decode b_Fld_work 21 = .ok (.isub, 1) := by decide +kernel
theorem d_Fld_work_22 : decode b_Fld_work 22 = .ok (.iastore, 1) := by decide +kernel
theorem d_Fld_work_23 : decode b_Fld_work 23 = .ok (.iload_n 2, 1) := by decide +kernel
theorem d_Fld_work_24 : decode b_Fld_work 24 = .ok (.ireturn, 1) := by decide +kernel
theorem d_Sta_couldBe_0 : decode b_Sta_couldBe 0 = .ok (.bipush 63, 2) := by decide +kernel
theorem d_Sta_couldBe_2 : decode b_Sta_couldBe 2 = .ok (.istore_n 2, 1) := by decide +kernel
theorem d_Sta_couldBe_3 : decode b_Sta_couldBe 3 = .ok (.iconst 0, 1) := by decide +kernel
theorem d_Sta_couldBe_4 : decode b_Sta_couldBe 4 = .ok (.istore_n 3, 1) := by decide +kernel
theorem d_Sta_couldBe_5 : decode b_Sta_couldBe 5 = .ok (.iload_n 3, 1) := by decide +kernel
theorem d_Sta_couldBe_6 : decode b_Sta_couldBe 6 = .ok (.bipush 8, 2) := by decide +kernel
theorem d_Sta_couldBe_8 : decode b_Sta_couldBe 8 = .ok (.if_icmp .ge 26, 3) := by decide +kernel
theorem d_Sta_couldBe_11 : decode b_Sta_couldBe 11 = .ok (.iload_n 1, 1) := by decide +kernel
theorem d_Sta_couldBe_12 : decode b_Sta_couldBe 12 = .ok (.iload_n 3, 1) := by decide +kernel
theorem d_Sta_couldBe_13 : decode b_Sta_couldBe 13 = .ok (.invokestatic 77, 3) := by decide +kernel
theorem d_Sta_couldBe_16 : decode b_Sta_couldBe 16 = .ok (.ifCond .eq 12, 3) := by decide +kernel
theorem d_Sta_couldBe_19 : decode b_Sta_couldBe 19 = .ok (.iload_n 2, 1) := by decide +kernel
theorem d_Sta_couldBe_20 : decode b_Sta_couldBe 20 = .ok (.aload_n 0, 1) := by decide +kernel
theorem d_Sta_couldBe_21 : decode b_Sta_couldBe 21 = .ok (.getfield 21, 3) := by decide +kernel
theorem d_Sta_couldBe_24 : decode b_Sta_couldBe 24 = .ok (.iload_n 3, 1) := by decide +kernel
theorem d_Sta_couldBe_25 : decode b_Sta_couldBe 25 = .ok (.iaload, 1) := by decide +kernel
theorem d_Sta_couldBe_26 : decode b_Sta_couldBe 26 = .ok (.iand, 1) := by decide +kernel
theorem d_Sta_couldBe_27 : decode b_Sta_couldBe 27 = .ok (.istore_n 2, 1) := by decide +kernel
theorem d_Sta_couldBe_28 : decode b_Sta_couldBe 28 = .ok (.iinc 3 1, 3) := by decide +kernel
theorem d_Sta_couldBe_31 : decode b_Sta_couldBe 31 = .ok (.goto (-26), 3) := by decide +kernel
theorem d_Sta_couldBe_34 : decode b_Sta_couldBe 34 = .ok (.iload_n 2, 1) := by decide +kernel
theorem d_Sta_couldBe_35 : decode b_Sta_couldBe 35 = .ok (.ireturn, 1) := by decide +kernel
theorem d_Sta_weightOfAll_0 : decode b_Sta_weightOfAll 0 = .ok (.iconst 0, 1) := by decide +kernel
theorem d_Sta_weightOfAll_1 : decode b_Sta_weightOfAll 1 = .ok (.istore_n 2, 1) := by decide +kernel
theorem d_Sta_weightOfAll_2 : decode b_Sta_weightOfAll 2 = .ok (.iconst 0, 1) := by decide +kernel
theorem d_Sta_weightOfAll_3 : decode b_Sta_weightOfAll 3 = .ok (.istore_n 3, 1) := by decide +kernel
theorem d_Sta_weightOfAll_4 : decode b_Sta_weightOfAll 4 = .ok (.iload_n 3, 1) := by decide +kernel
theorem d_Sta_weightOfAll_5 : decode b_Sta_weightOfAll 5 = .ok (.bipush 6, 2) := by decide +kernel
theorem d_Sta_weightOfAll_7 : decode b_Sta_weightOfAll 7 = .ok (.if_icmp .ge 26, 3) := by decide +kernel
theorem d_Sta_weightOfAll_10 : decode b_Sta_weightOfAll 10 = .ok (.iload_n 1, 1) := by decide +kernel
theorem d_Sta_weightOfAll_11 : decode b_Sta_weightOfAll 11 = .ok (.iload_n 3, 1) := by decide +kernel
theorem d_Sta_weightOfAll_12 : decode b_Sta_weightOfAll 12 = .ok (.invokestatic 77, 3) := by decide +kernel
theorem d_Sta_weightOfAll_15 : decode b_Sta_weightOfAll 15 = .ok (.ifCond .eq 12, 3) := by decide +kernel
theorem d_Sta_weightOfAll_18 : decode b_Sta_weightOfAll 18 = .ok (.iload_n 2, 1) := by decide +kernel
theorem d_Sta_weightOfAll_19 : decode b_Sta_weightOfAll 19 = .ok (.aload_n 0, 1) := by decide +kernel
theorem d_Sta_weightOfAll_20 : decode b_Sta_weightOfAll 20 = .ok (.getfield 9, 3) := by decide +kernel
theorem d_Sta_weightOfAll_23 : decode b_Sta_weightOfAll 23 = .ok (.iload_n 3, 1) := by decide +kernel
theorem d_Sta_weightOfAll_24 : decode b_Sta_weightOfAll 24 = .ok (.iaload, 1) := by decide +kernel
theorem d_Sta_weightOfAll_25 : decode b_Sta_weightOfAll 25 = .ok (.iadd, 1) := by decide +kernel
theorem d_Sta_weightOfAll_26 : decode b_Sta_weightOfAll 26 = .ok (.istore_n 2, 1) := by decide +kernel
theorem d_Sta_weightOfAll_27 : decode b_Sta_weightOfAll 27 = .ok (.iinc 3 1, 3) := by decide +kernel
theorem d_Sta_weightOfAll_30 : decode b_Sta_weightOfAll 30 = .ok (.goto (-26), 3) := by decide +kernel
theorem d_Sta_weightOfAll_33 : decode b_Sta_weightOfAll 33 = .ok (.iload_n 2, 1) := by decide +kernel
theorem d_Sta_weightOfAll_34 : decode b_Sta_weightOfAll 34 = .ok (.ireturn, 1) := by decide +kernel
def F_H_isField (x0 : Int32) : Option (Int32) :=
  (if x0 < 0 then (some 0) else (if (4 : Int32) ≤ x0 then (some 0) else (some 1)))
set_option maxHeartbeats 4000000 in
set_option maxRecDepth 100000 in
theorem C_H_isField (l : Launch) (D : va_G) (cI cS : ClassId) (x0 : Int32) (o : Int32) (hr : F_H_isField x0 = some o) : ctI l y_H_isField (Cond.code y_H_isField b_H_isField 1 (some FieldType.boolean)) (rmd 0) D (kTy cI cS) [.int x0] [] [] o := by
  unfold F_H_isField at hr
  refine ⟨rfl, fun sz => ct_of (w0 := []) (Qc := fun A => qI D [] o A) rfl (Nat.le_of_ble_eq_true rfl) ?_ sz⟩
  intro p e s m below meth c A hA C hret ls hl hW
  have C : cx p s m ([.int x0] : List Value).toArray meth c b_H_isField 1 R_H D (kTy cI cS) (Cond.code y_H_isField b_H_isField 1 (some FieldType.boolean)) := C
  obtain ⟨hx, hb, hml, hown, hts, hK, hlk, hN⟩ := id C
  have hl : lv_has ls 1 [(0, .int x0)] := hl
  obtain ⟨Q, hQ⟩ : ∃ Q, Q = MQ below (qI D [] o A) ([.int x0] : List Value).toArray s 0 0 A := ⟨_, rfl⟩
  rw [← hQ]
  refine lv_iload_n hx hb d_H_isField_0 rfl (lv_at hl 0 rfl) ?_
  refine lv_if_lt (tgt := 13) hx hb d_H_isField_1 (by decide) (fun c_1 => ?_) (fun c_1 => ?_)
  · replace hr := ip c_1 hr
    refine lv_iconst (v := 0) hx hb d_H_isField_13 (by decide) ?_
    obtain rfl := Option.some.inj hr
    rw [hQ]; exact k_zret C hret nar0 hW d_H_isField_14
  · replace hr := iN c_1 hr
    refine lv_iload_n hx hb d_H_isField_4 rfl (lv_at hl 0 rfl) ?_
    refine lv_iconst (v := 4) hx hb d_H_isField_5 (by decide) ?_
    refine lv_icmp_ge (tgt := 13) hx hb d_H_isField_6 (by decide) (fun c_2 => ?_) (fun c_2 => ?_)
    · replace hr := ip c_2 hr
      refine lv_iconst (v := 0) hx hb d_H_isField_13 (by decide) ?_
      obtain rfl := Option.some.inj hr
      rw [hQ]; exact k_zret C hret nar0 hW d_H_isField_14
    · replace hr := iN c_2 hr
      refine lv_iconst (v := 1) hx hb d_H_isField_9 (by decide) ?_
      refine lv_goto (tgt := 14) hx hb d_H_isField_10 (by decide) ?_
      obtain rfl := Option.some.inj hr
      rw [hQ]; exact k_zret C hret nar1 hW d_H_isField_14
def F_H_holds (x0 : Int32) (x1 : Int32) : Option (Int32) :=
  (if x1 < 0 then (some 0) else (if (31 : Int32) ≤ x1 then (some 0) else (if (((x0 : Int32) >>> ((x1 : Int32) &&& 31)) &&& 1) = 1 then (some 1) else (some 0))))
set_option maxHeartbeats 4000000 in
set_option maxRecDepth 100000 in
theorem C_H_holds (l : Launch) (D : va_G) (cI cS : ClassId) (x0 : Int32) (x1 : Int32) (o : Int32) (hr : F_H_holds x0 x1 = some o) : ctI l y_H_holds (Cond.code y_H_holds b_H_holds 2 (some FieldType.boolean)) (rmd 0) D (kTy cI cS) [.int x0, .int x1] [] [] o := by
  unfold F_H_holds at hr
  refine ⟨rfl, fun sz => ct_of (w0 := []) (Qc := fun A => qI D [] o A) rfl (Nat.le_of_ble_eq_true rfl) ?_ sz⟩
  intro p e s m below meth c A hA C hret ls hl hW
  have C : cx p s m ([.int x0, .int x1] : List Value).toArray meth c b_H_holds 2 R_H D (kTy cI cS) (Cond.code y_H_holds b_H_holds 2 (some FieldType.boolean)) := C
  obtain ⟨hx, hb, hml, hown, hts, hK, hlk, hN⟩ := id C
  have hl : lv_has ls 2 [(0, .int x0), (1, .int x1)] := hl
  obtain ⟨Q, hQ⟩ : ∃ Q, Q = MQ below (qI D [] o A) ([.int x0, .int x1] : List Value).toArray s 0 0 A := ⟨_, rfl⟩
  rw [← hQ]
  refine lv_iload_n hx hb d_H_holds_0 rfl (lv_at hl 1 rfl) ?_
  refine lv_if_lt (tgt := 23) hx hb d_H_holds_1 (by decide) (fun c_1 => ?_) (fun c_1 => ?_)
  · replace hr := ip c_1 hr
    refine lv_iconst (v := 0) hx hb d_H_holds_23 (by decide) ?_
    obtain rfl := Option.some.inj hr
    rw [hQ]; exact k_zret C hret nar0 hW d_H_holds_24
  · replace hr := iN c_1 hr
    refine lv_iload_n hx hb d_H_holds_4 rfl (lv_at hl 1 rfl) ?_
    refine lv_bipush (v := 31) hx hb d_H_holds_5 (by decide) ?_
    refine lv_icmp_ge (tgt := 23) hx hb d_H_holds_7 (by decide) (fun c_2 => ?_) (fun c_2 => ?_)
    · replace hr := ip c_2 hr
      refine lv_iconst (v := 0) hx hb d_H_holds_23 (by decide) ?_
      obtain rfl := Option.some.inj hr
      rw [hQ]; exact k_zret C hret nar0 hW d_H_holds_24
    · replace hr := iN c_2 hr
      refine lv_iload_n hx hb d_H_holds_10 rfl (lv_at hl 0 rfl) ?_
      refine lv_iload_n hx hb d_H_holds_11 rfl (lv_at hl 1 rfl) ?_
      refine lv_ishr hx hb d_H_holds_12 ?_
      refine lv_iconst (v := 1) hx hb d_H_holds_13 (by decide) ?_
      refine lv_iand hx hb d_H_holds_14 ?_
      refine lv_iconst (v := 1) hx hb d_H_holds_15 (by decide) ?_
      refine lv_icmp_ne (tgt := 23) hx hb d_H_holds_16 (by decide) (fun c_3 => ?_) (fun c_3 => ?_)
      · replace hr := iN c_3 hr
        refine lv_iconst (v := 0) hx hb d_H_holds_23 (by decide) ?_
        obtain rfl := Option.some.inj hr
        rw [hQ]; exact k_zret C hret nar0 hW d_H_holds_24
      · replace hr := ip c_3 hr
        refine lv_iconst (v := 1) hx hb d_H_holds_19 (by decide) ?_
        refine lv_goto (tgt := 24) hx hb d_H_holds_20 (by decide) ?_
        obtain rfl := Option.some.inj hr
        rw [hQ]; exact k_zret C hret nar1 hW d_H_holds_24
def w_Fld_fieldFor (cI : ClassId) (a_r0 a_r0_lefts a_r0_wishes : Nat) (r0_lefts : Nat → Int32) (r0_wishes : Nat → Int32) : va_W := [(a_r0, .inr (2, [.ref a_r0_wishes, .ref a_r0_lefts])), (a_r0_lefts, .inl (cI, 4, .inl r0_lefts)), (a_r0_wishes, .inl (cI, 4, .inl r0_wishes))]
def F_Fld_fieldFor_L2 (r0_lefts : Nat → Int32) (r0_wishes : Nat → Int32) (x1 : Int32) (y2_1 : Int32) : Option (((Int32)) ⊕ (((Unit) ⊕ (Int32)))) :=
  (if (4 : Int32) ≤ y2_1 then (some (.inr (.inl ()))) else (ck y2_1 4 (if (r0_lefts (Int32.toNatClampNeg y2_1)) ≤ 0 then (some (.inl (y2_1 + 1))) else (ck y2_1 4 ((F_H_holds (r0_wishes (Int32.toNatClampNeg y2_1)) x1).bind (fun q_6 => (if q_6 = 0 then (some (.inl (y2_1 + 1))) else (some (.inr (.inr y2_1))))))))))
def F_Fld_fieldFor (r0_lefts : Nat → Int32) (r0_wishes : Nat → Int32) (x1 : Int32) : Option (Int32) :=
  ((wh (fun (s : (Int32)) => F_Fld_fieldFor_L2 r0_lefts r0_wishes x1 s) 400 (0 : Int32)).bind (sx (fun e_1 => (some (-9))) (fun o => some o)))
set_option maxHeartbeats 4000000 in
set_option maxRecDepth 100000 in
theorem C_Fld_fieldFor (l : Launch) (D : va_G) (cI cS : ClassId) (a_r0 a_r0_lefts a_r0_wishes : Nat) (r0_lefts : Nat → Int32) (r0_wishes : Nat → Int32) (x1 : Int32) (o : Int32) (hr : F_Fld_fieldFor r0_lefts r0_wishes x1 = some o) : ctI l y_Fld_fieldFor (Cond.code y_Fld_fieldFor b_Fld_fieldFor 3 (some FieldType.int)) (rmd 1) D (kTy cI cS) [.ref a_r0, .int x1] (w_Fld_fieldFor cI a_r0 a_r0_lefts a_r0_wishes r0_lefts r0_wishes) (w_Fld_fieldFor cI a_r0 a_r0_lefts a_r0_wishes r0_lefts r0_wishes) o := by
  unfold F_Fld_fieldFor at hr
  refine ⟨rfl, fun sz => ct_of (w0 := (w_Fld_fieldFor cI a_r0 a_r0_lefts a_r0_wishes r0_lefts r0_wishes)) (Qc := fun A => qI D (w_Fld_fieldFor cI a_r0 a_r0_lefts a_r0_wishes r0_lefts r0_wishes) o A) rfl (Nat.le_of_ble_eq_true rfl) ?_ sz⟩
  intro p e s m below meth c A hA C hret ls hl hW
  have C : cx p s m ([.ref a_r0, .int x1] : List Value).toArray meth c b_Fld_fieldFor 3 R_Fld D (kTy cI cS) (Cond.code y_Fld_fieldFor b_Fld_fieldFor 3 (some FieldType.int)) := C
  obtain ⟨hx, hb, hml, hown, hts, hK, hlk, hN⟩ := id C
  have hl : lv_has ls 3 [(0, .ref a_r0), (1, .int x1)] := hl
  obtain ⟨Q, hQ⟩ : ∃ Q, Q = MQ below (qI D (w_Fld_fieldFor cI a_r0 a_r0_lefts a_r0_wishes r0_lefts r0_wishes) o A) ([.ref a_r0, .int x1] : List Value).toArray s 0 0 A := ⟨_, rfl⟩
  rw [← hQ]
  refine lv_iconst (v := 0) hx hb d_Fld_fieldFor_0 (by decide) ?_
  refine lv_istore_n (lv' := [(2, .int 0), (0, .ref a_r0), (1, .int x1)]) hx hb d_Fld_fieldFor_1 rfl hl (by decide) rfl (fun ls hl => ?_)
  obtain ⟨ex_1, hw_1, hk_1⟩ := ob hr
  have hx_1 : ∀ (e_1 : Unit), Sum.inl e_1 = ex_1 → ∀ (H : Heap) (locs : List Loc) (ls : Array Slot), wd A s.heap D (w_Fld_fieldFor cI a_r0 a_r0_lefts a_r0_wishes r0_lefts r0_wishes) H locs → lv_has ls 3 [] → W p l e (rmd 1) s m ([.ref a_r0, .int x1] : List Value).toArray below meth c H locs 0 0 Q (F0 m 37 ls []) := by
    intro e_1 hE H locs ls hW hl
    have hr := sx_l hE.symm hk_1
    refine lv_bipush (v := (-9)) hx hb d_Fld_fieldFor_37 (by decide) ?_
    obtain rfl := Option.some.inj hr
    rw [hQ]; exact k_iret C hret hW d_Fld_fieldFor_39
  have hl_1 : ∀ (n : Nat) (y2_1 : Int32), wh (fun (s : (Int32)) => F_Fld_fieldFor_L2 r0_lefts r0_wishes x1 s) n y2_1 = some ex_1 → ∀ (H : Heap) (locs : List Loc) (ls : Array Slot), wd A s.heap D (w_Fld_fieldFor cI a_r0 a_r0_lefts a_r0_wishes r0_lefts r0_wishes) H locs → lv_has ls 3 [(0, .ref a_r0), (1, .int x1), (2, .int y2_1)] → W p l e (rmd 1) s m ([.ref a_r0, .int x1] : List Value).toArray below meth c H locs 0 0 Q (F0 m 2 ls []) := by
    intro n
    induction n with
    | zero => intro y2_1 hw; exact absurd hw wh_0
    | succ n ih_1 =>
      intro y2_1 hw H locs ls hW hl
      obtain ⟨z_1, hr, hz1_1, hz2_1⟩ := wh_s hw
      have hr : F_Fld_fieldFor_L2 r0_lefts r0_wishes x1 y2_1 = some z_1 := hr
      unfold F_Fld_fieldFor_L2 at hr
      refine lv_iload_n hx hb d_Fld_fieldFor_2 rfl (lv_at hl 2 rfl) ?_
      refine lv_iconst (v := 4) hx hb d_Fld_fieldFor_3 (by decide) ?_
      refine lv_icmp_ge (tgt := 37) hx hb d_Fld_fieldFor_4 (by decide) (fun c_2 => ?_) (fun c_2 => ?_)
      · replace hr := ip c_2 hr
        exact hx_1 _ (hz2_1 _ (Option.some.inj hr).symm) _ _ _ hW (lv_sub hl [] rfl)
      · replace hr := iN c_2 hr
        refine lv_aload_n hx hb d_Fld_fieldFor_7 rfl (lv_at hl 0 rfl) ?_
        refine k_get i_Fld C hW 0 rfl rfl 1 (by decide) qf_Fld_15 rfl rfl d_Fld_fieldFor_8 ?_
        refine lv_iload_n hx hb d_Fld_fieldFor_11 rfl (lv_at hl 2 rfl) ?_
        obtain ⟨h_3, hr⟩ := ck_some hr
        refine k_iald C hW 1 rfl h_3 d_Fld_fieldFor_12 ?_
        refine lv_if_le (tgt := 31) hx hb d_Fld_fieldFor_13 (by decide) (fun c_4 => ?_) (fun c_4 => ?_)
        · replace hr := ip c_4 hr
          refine lv_iinc (v := (y2_1 + 1)) (lv' := [(2, .int (y2_1 + 1)), (0, .ref a_r0), (1, .int x1)]) hx hb d_Fld_fieldFor_31 hl (k := 2) rfl rfl (by decide) rfl (fun ls hl => ?_)
          refine lv_goto (tgt := 2) hx hb d_Fld_fieldFor_34 (by decide) ?_
          exact ih_1 (y2_1 + 1) (hz1_1 _ (Option.some.inj hr).symm) _ _ _ hW (lv_sub hl [1, 2, 0] rfl)
        · replace hr := iN c_4 hr
          refine lv_aload_n hx hb d_Fld_fieldFor_16 rfl (lv_at hl 0 rfl) ?_
          refine k_get i_Fld C hW 0 rfl rfl 0 (by decide) qf_Fld_9 rfl rfl d_Fld_fieldFor_17 ?_
          refine lv_iload_n hx hb d_Fld_fieldFor_20 rfl (lv_at hl 2 rfl) ?_
          obtain ⟨h_5, hr⟩ := ck_some hr
          refine k_iald C hW 2 rfl h_5 d_Fld_fieldFor_21 ?_
          refine lv_iload_n hx hb d_Fld_fieldFor_22 rfl (lv_at hl 1 rfl) ?_
          obtain ⟨q_6, hc_6, hr⟩ := ob hr
          have ct_6 := C_H_holds l D cI cS (r0_wishes (Int32.toNatClampNeg y2_1)) x1 q_6 hc_6
          refine k_goIp hA hW [] rfl rfl (k_runSN C hA hW mw_H_holds ms_H_holds (ct_6.2 _) [] rfl rfl qm_Fld_22 ⟨Nat.le_of_ble_eq_true rfl, Nat.le_of_ble_eq_true rfl, Nat.zero_le _, Nat.zero_le _⟩ rfl rfl (Nat.le_of_ble_eq_true rfl) hl.1 d_Fld_fieldFor_23) (fun H locs hW => ?_)
          refine lv_if_eq (tgt := 31) hx hb d_Fld_fieldFor_26 (by decide) (fun c_7 => ?_) (fun c_7 => ?_)
          · replace hr := ip c_7 hr
            refine lv_iinc (v := (y2_1 + 1)) (lv' := [(2, .int (y2_1 + 1)), (0, .ref a_r0), (1, .int x1)]) hx hb d_Fld_fieldFor_31 hl (k := 2) rfl rfl (by decide) rfl (fun ls hl => ?_)
            refine lv_goto (tgt := 2) hx hb d_Fld_fieldFor_34 (by decide) ?_
            exact ih_1 (y2_1 + 1) (hz1_1 _ (Option.some.inj hr).symm) _ _ _ hW (lv_sub hl [1, 2, 0] rfl)
          · replace hr := iN c_7 hr
            refine lv_iload_n hx hb d_Fld_fieldFor_29 rfl (lv_at hl 2 rfl) ?_
            have hr := sx_r (hz2_1 _ (Option.some.inj hr).symm).symm hk_1
            obtain rfl := Option.some.inj hr
            rw [hQ]; exact k_iret C hret hW d_Fld_fieldFor_30
  exact hl_1 _ 0 hw_1 _ _ _ hW (lv_sub hl [1, 2, 0] rfl)
def w_Fld_work (cI : ClassId) (a_r0 a_r0_lefts a_r0_wishes : Nat) (r0_lefts : Nat → Int32) (r0_wishes : Nat → Int32) : va_W := [(a_r0, .inr (2, [.ref a_r0_wishes, .ref a_r0_lefts])), (a_r0_lefts, .inl (cI, 4, .inl r0_lefts)), (a_r0_wishes, .inl (cI, 4, .inl r0_wishes))]
def F_Fld_work (r0_lefts : Nat → Int32) (r0_wishes : Nat → Int32) (x1 : Int32) : Option (Int32 × (Nat → Int32)) :=
  ((F_Fld_fieldFor r0_lefts r0_wishes x1).bind (fun q_1 => ((F_H_isField q_1).bind (fun q_2 => (if q_2 = 0 then (some (q_1, r0_lefts)) else (ck q_1 4 (ck q_1 4 (some (q_1, (upd r0_lefts (Int32.toNatClampNeg q_1) ((r0_lefts (Int32.toNatClampNeg q_1)) - 1)))))))))))
set_option maxHeartbeats 4000000 in
set_option maxRecDepth 100000 in
theorem C_Fld_work (l : Launch) (D : va_G) (cI cS : ClassId) (a_r0 a_r0_lefts a_r0_wishes : Nat) (r0_lefts : Nat → Int32) (r0_wishes : Nat → Int32) (x1 : Int32) (o : Int32 × (Nat → Int32)) (hr : F_Fld_work r0_lefts r0_wishes x1 = some o) : ctI l y_Fld_work (Cond.code y_Fld_work b_Fld_work 3 (some FieldType.int)) (rmd 2) D (kTy cI cS) [.ref a_r0, .int x1] (w_Fld_work cI a_r0 a_r0_lefts a_r0_wishes r0_lefts r0_wishes) (w_Fld_work cI a_r0 a_r0_lefts a_r0_wishes o.2 r0_wishes) o.1 := by
  unfold F_Fld_work at hr
  refine ⟨rfl, fun sz => ct_of (w0 := (w_Fld_work cI a_r0 a_r0_lefts a_r0_wishes r0_lefts r0_wishes)) (Qc := fun A => qI D (w_Fld_work cI a_r0 a_r0_lefts a_r0_wishes o.2 r0_wishes) o.1 A) rfl (Nat.le_of_ble_eq_true rfl) ?_ sz⟩
  intro p e s m below meth c A hA C hret ls hl hW
  have C : cx p s m ([.ref a_r0, .int x1] : List Value).toArray meth c b_Fld_work 3 R_Fld D (kTy cI cS) (Cond.code y_Fld_work b_Fld_work 3 (some FieldType.int)) := C
  obtain ⟨hx, hb, hml, hown, hts, hK, hlk, hN⟩ := id C
  have hl : lv_has ls 3 [(0, .ref a_r0), (1, .int x1)] := hl
  obtain ⟨Q, hQ⟩ : ∃ Q, Q = MQ below (qI D (w_Fld_work cI a_r0 a_r0_lefts a_r0_wishes o.2 r0_wishes) o.1 A) ([.ref a_r0, .int x1] : List Value).toArray s 0 0 A := ⟨_, rfl⟩
  rw [← hQ]
  refine lv_aload_n hx hb d_Fld_work_0 rfl (lv_at hl 0 rfl) ?_
  refine lv_iload_n hx hb d_Fld_work_1 rfl (lv_at hl 1 rfl) ?_
  obtain ⟨q_1, hc_1, hr⟩ := ob hr
  have ct_1 := C_Fld_fieldFor l D cI cS a_r0 a_r0_lefts a_r0_wishes r0_lefts r0_wishes x1 q_1 hc_1
  refine k_goIp hA hW [0, 1, 2] rfl rfl (k_runV C hA hW mw_Fld_fieldFor mv_Fld_fieldFor (ct_1.2 _) [0, 1, 2] rfl rfl 0 rfl rfl qm_Fld_26 ⟨Nat.le_of_ble_eq_true rfl, Nat.le_of_ble_eq_true rfl, Nat.zero_le _, Nat.zero_le _⟩ rfl rfl (Nat.le_of_ble_eq_true rfl) hl.1 d_Fld_work_2) (fun H locs hW => ?_)
  refine lv_istore_n (lv' := [(2, .int q_1), (0, .ref a_r0), (1, .int x1)]) hx hb d_Fld_work_5 rfl hl (by decide) rfl (fun ls hl => ?_)
  refine lv_iload_n hx hb d_Fld_work_6 rfl (lv_at hl 0 rfl) ?_
  obtain ⟨q_2, hc_2, hr⟩ := ob hr
  have ct_2 := C_H_isField l D cI cS q_1 q_2 hc_2
  refine k_goIp hA hW [] rfl rfl (k_runSN C hA hW mw_H_isField ms_H_isField (ct_2.2 _) [] rfl rfl qm_Fld_18 ⟨Nat.le_of_ble_eq_true rfl, Nat.le_of_ble_eq_true rfl, Nat.zero_le _, Nat.zero_le _⟩ rfl rfl (Nat.le_of_ble_eq_true rfl) hl.1 d_Fld_work_7) (fun H locs hW => ?_)
  refine lv_if_eq (tgt := 23) hx hb d_Fld_work_10 (by decide) (fun c_3 => ?_) (fun c_3 => ?_)
  · replace hr := ip c_3 hr
    refine lv_iload_n hx hb d_Fld_work_23 rfl (lv_at hl 0 rfl) ?_
    obtain rfl := Option.some.inj hr
    rw [hQ]; exact k_iret C hret hW d_Fld_work_24
  · replace hr := iN c_3 hr
    refine lv_aload_n hx hb d_Fld_work_13 rfl (lv_at hl 1 rfl) ?_
    refine k_get i_Fld C hW 0 rfl rfl 1 (by decide) qf_Fld_15 rfl rfl d_Fld_work_14 ?_
    refine lv_iload_n hx hb d_Fld_work_17 rfl (lv_at hl 0 rfl) ?_
    refine lv_dup2_11 hx hb d_Fld_work_18 rfl rfl ?_
    obtain ⟨h_4, hr⟩ := ck_some hr
    refine k_iald C hW 1 rfl h_4 d_Fld_work_19 ?_
    refine lv_iconst (v := 1) hx hb d_Fld_work_20 (by decide) ?_
    refine lv_isub hx hb d_Fld_work_21 ?_
    obtain ⟨h_5, hr⟩ := ck_some hr
    refine k_iast C hW 1 rfl h_5 (ws' := (w_Fld_work cI a_r0 a_r0_lefts a_r0_wishes (upd r0_lefts (Int32.toNatClampNeg q_1) ((r0_lefts (Int32.toNatClampNeg q_1)) - 1)) r0_wishes)) rfl d_Fld_work_22 (fun H locs hW => ?_)
    refine lv_iload_n hx hb d_Fld_work_23 rfl (lv_at hl 0 rfl) ?_
    obtain rfl := Option.some.inj hr
    rw [hQ]; exact k_iret C hret hW d_Fld_work_24
def w_Sta_couldBe (cI : ClassId) (a_r0 a_r0_goes : Nat) (v_r0_weights v_r0_kinds v_r0_figures v_r0_things v_r0_hampers v_r0_days v_r0_fields v_r0_done : Value) (r0_goes : Nat → Int32) : va_W := [(a_r0, .inr (1, [v_r0_weights, v_r0_kinds, v_r0_figures, .ref a_r0_goes, v_r0_things, v_r0_hampers, v_r0_days, v_r0_fields, v_r0_done])), (a_r0_goes, .inl (cI, 8, .inl r0_goes))]
def F_Sta_couldBe_L5 (r0_goes : Nat → Int32) (x1 : Int32) (y2_1 : Int32) (y3_1 : Int32) : Option (((Int32) × (Int32)) ⊕ ((Int32))) :=
  (if (8 : Int32) ≤ y3_1 then (some (.inr y2_1)) else ((F_H_holds x1 y3_1).bind (fun q_3 => (if q_3 = 0 then (some (.inl (y2_1, (y3_1 + 1)))) else (ck y3_1 8 (some (.inl ((y2_1 &&& (r0_goes (Int32.toNatClampNeg y3_1))), (y3_1 + 1)))))))))
def F_Sta_couldBe (r0_goes : Nat → Int32) (x1 : Int32) : Option (Int32) :=
  ((wh (fun (s : (Int32) × (Int32)) => F_Sta_couldBe_L5 r0_goes x1 s.1 s.2) 400 ((63 : Int32), (0 : Int32))).bind (fun e_1 => (some e_1)))
set_option maxHeartbeats 4000000 in
set_option maxRecDepth 100000 in
theorem C_Sta_couldBe (l : Launch) (D : va_G) (cI cS : ClassId) (a_r0 a_r0_goes : Nat) (v_r0_weights v_r0_kinds v_r0_figures v_r0_things v_r0_hampers v_r0_days v_r0_fields v_r0_done : Value) (r0_goes : Nat → Int32) (x1 : Int32) (o : Int32) (hr : F_Sta_couldBe r0_goes x1 = some o) : ctI l y_Sta_couldBe (Cond.code y_Sta_couldBe b_Sta_couldBe 4 (some FieldType.int)) (rmd 1) D (kTy cI cS) [.ref a_r0, .int x1] (w_Sta_couldBe cI a_r0 a_r0_goes v_r0_weights v_r0_kinds v_r0_figures v_r0_things v_r0_hampers v_r0_days v_r0_fields v_r0_done r0_goes) (w_Sta_couldBe cI a_r0 a_r0_goes v_r0_weights v_r0_kinds v_r0_figures v_r0_things v_r0_hampers v_r0_days v_r0_fields v_r0_done r0_goes) o := by
  unfold F_Sta_couldBe at hr
  refine ⟨rfl, fun sz => ct_of (w0 := (w_Sta_couldBe cI a_r0 a_r0_goes v_r0_weights v_r0_kinds v_r0_figures v_r0_things v_r0_hampers v_r0_days v_r0_fields v_r0_done r0_goes)) (Qc := fun A => qI D (w_Sta_couldBe cI a_r0 a_r0_goes v_r0_weights v_r0_kinds v_r0_figures v_r0_things v_r0_hampers v_r0_days v_r0_fields v_r0_done r0_goes) o A) rfl (Nat.le_of_ble_eq_true rfl) ?_ sz⟩
  intro p e s m below meth c A hA C hret ls hl hW
  have C : cx p s m ([.ref a_r0, .int x1] : List Value).toArray meth c b_Sta_couldBe 4 R_Sta D (kTy cI cS) (Cond.code y_Sta_couldBe b_Sta_couldBe 4 (some FieldType.int)) := C
  obtain ⟨hx, hb, hml, hown, hts, hK, hlk, hN⟩ := id C
  have hl : lv_has ls 4 [(0, .ref a_r0), (1, .int x1)] := hl
  obtain ⟨Q, hQ⟩ : ∃ Q, Q = MQ below (qI D (w_Sta_couldBe cI a_r0 a_r0_goes v_r0_weights v_r0_kinds v_r0_figures v_r0_things v_r0_hampers v_r0_days v_r0_fields v_r0_done r0_goes) o A) ([.ref a_r0, .int x1] : List Value).toArray s 0 0 A := ⟨_, rfl⟩
  rw [← hQ]
  refine lv_bipush (v := 63) hx hb d_Sta_couldBe_0 (by decide) ?_
  refine lv_istore_n (lv' := [(2, .int 63), (0, .ref a_r0), (1, .int x1)]) hx hb d_Sta_couldBe_2 rfl hl (by decide) rfl (fun ls hl => ?_)
  refine lv_iconst (v := 0) hx hb d_Sta_couldBe_3 (by decide) ?_
  refine lv_istore_n (lv' := [(3, .int 0), (2, .int 63), (0, .ref a_r0), (1, .int x1)]) hx hb d_Sta_couldBe_4 rfl hl (by decide) rfl (fun ls hl => ?_)
  obtain ⟨ex_1, hw_1, hk_1⟩ := ob hr
  have hx_1 : ∀ (e_1 : (Int32)), e_1 = ex_1 → ∀ (H : Heap) (locs : List Loc) (ls : Array Slot), wd A s.heap D (w_Sta_couldBe cI a_r0 a_r0_goes v_r0_weights v_r0_kinds v_r0_figures v_r0_things v_r0_hampers v_r0_days v_r0_fields v_r0_done r0_goes) H locs → lv_has ls 4 [(2, .int e_1)] → W p l e (rmd 1) s m ([.ref a_r0, .int x1] : List Value).toArray below meth c H locs 0 0 Q (F0 m 34 ls []) := by
    intro e_1 hE H locs ls hW hl
    subst hE; have hr := hk_1
    refine lv_iload_n hx hb d_Sta_couldBe_34 rfl (lv_at hl 0 rfl) ?_
    obtain rfl := Option.some.inj hr
    rw [hQ]; exact k_iret C hret hW d_Sta_couldBe_35
  have hl_1 : ∀ (n : Nat) (y2_1 : Int32) (y3_1 : Int32), wh (fun (s : (Int32) × (Int32)) => F_Sta_couldBe_L5 r0_goes x1 s.1 s.2) n (y2_1, y3_1) = some ex_1 → ∀ (H : Heap) (locs : List Loc) (ls : Array Slot), wd A s.heap D (w_Sta_couldBe cI a_r0 a_r0_goes v_r0_weights v_r0_kinds v_r0_figures v_r0_things v_r0_hampers v_r0_days v_r0_fields v_r0_done r0_goes) H locs → lv_has ls 4 [(0, .ref a_r0), (1, .int x1), (2, .int y2_1), (3, .int y3_1)] → W p l e (rmd 1) s m ([.ref a_r0, .int x1] : List Value).toArray below meth c H locs 0 0 Q (F0 m 5 ls []) := by
    intro n
    induction n with
    | zero => intro y2_1 y3_1 hw; exact absurd hw wh_0
    | succ n ih_1 =>
      intro y2_1 y3_1 hw H locs ls hW hl
      obtain ⟨z_1, hr, hz1_1, hz2_1⟩ := wh_s hw
      have hr : F_Sta_couldBe_L5 r0_goes x1 y2_1 y3_1 = some z_1 := hr
      unfold F_Sta_couldBe_L5 at hr
      refine lv_iload_n hx hb d_Sta_couldBe_5 rfl (lv_at hl 3 rfl) ?_
      refine lv_bipush (v := 8) hx hb d_Sta_couldBe_6 (by decide) ?_
      refine lv_icmp_ge (tgt := 34) hx hb d_Sta_couldBe_8 (by decide) (fun c_2 => ?_) (fun c_2 => ?_)
      · replace hr := ip c_2 hr
        exact hx_1 _ (hz2_1 _ (Option.some.inj hr).symm) _ _ _ hW (lv_sub hl [2] rfl)
      · replace hr := iN c_2 hr
        refine lv_iload_n hx hb d_Sta_couldBe_11 rfl (lv_at hl 1 rfl) ?_
        refine lv_iload_n hx hb d_Sta_couldBe_12 rfl (lv_at hl 3 rfl) ?_
        obtain ⟨q_3, hc_3, hr⟩ := ob hr
        have ct_3 := C_H_holds l D cI cS x1 y3_1 q_3 hc_3
        refine k_goIp hA hW [] rfl rfl (k_runSN C hA hW mw_H_holds ms_H_holds (ct_3.2 _) [] rfl rfl qm_Sta_77 ⟨Nat.le_of_ble_eq_true rfl, Nat.le_of_ble_eq_true rfl, Nat.zero_le _, Nat.zero_le _⟩ rfl rfl (Nat.le_of_ble_eq_true rfl) hl.1 d_Sta_couldBe_13) (fun H locs hW => ?_)
        refine lv_if_eq (tgt := 28) hx hb d_Sta_couldBe_16 (by decide) (fun c_4 => ?_) (fun c_4 => ?_)
        · replace hr := ip c_4 hr
          refine lv_iinc (v := (y3_1 + 1)) (lv' := [(3, .int (y3_1 + 1)), (0, .ref a_r0), (1, .int x1), (2, .int y2_1)]) hx hb d_Sta_couldBe_28 hl (k := 3) rfl rfl (by decide) rfl (fun ls hl => ?_)
          refine lv_goto (tgt := 5) hx hb d_Sta_couldBe_31 (by decide) ?_
          exact ih_1 y2_1 (y3_1 + 1) (hz1_1 _ (Option.some.inj hr).symm) _ _ _ hW (lv_sub hl [1, 2, 3, 0] rfl)
        · replace hr := iN c_4 hr
          refine lv_iload_n hx hb d_Sta_couldBe_19 rfl (lv_at hl 2 rfl) ?_
          refine lv_aload_n hx hb d_Sta_couldBe_20 rfl (lv_at hl 0 rfl) ?_
          refine k_get i_Sta C hW 0 rfl rfl 3 (by decide) qf_Sta_21 rfl rfl d_Sta_couldBe_21 ?_
          refine lv_iload_n hx hb d_Sta_couldBe_24 rfl (lv_at hl 3 rfl) ?_
          obtain ⟨h_5, hr⟩ := ck_some hr
          refine k_iald C hW 1 rfl h_5 d_Sta_couldBe_25 ?_
          refine lv_iand hx hb d_Sta_couldBe_26 ?_
          refine lv_istore_n (lv' := [(2, .int (y2_1 &&& (r0_goes (Int32.toNatClampNeg y3_1)))), (0, .ref a_r0), (1, .int x1), (3, .int y3_1)]) hx hb d_Sta_couldBe_27 rfl hl (by decide) rfl (fun ls hl => ?_)
          refine lv_iinc (v := (y3_1 + 1)) (lv' := [(3, .int (y3_1 + 1)), (2, .int (y2_1 &&& (r0_goes (Int32.toNatClampNeg y3_1)))), (0, .ref a_r0), (1, .int x1)]) hx hb d_Sta_couldBe_28 hl (k := 3) rfl rfl (by decide) rfl (fun ls hl => ?_)
          refine lv_goto (tgt := 5) hx hb d_Sta_couldBe_31 (by decide) ?_
          exact ih_1 (y2_1 &&& (r0_goes (Int32.toNatClampNeg y3_1))) (y3_1 + 1) (hz1_1 _ (Option.some.inj hr).symm) _ _ _ hW (lv_sub hl [2, 3, 1, 0] rfl)
  exact hl_1 _ 63 0 hw_1 _ _ _ hW (lv_sub hl [2, 3, 1, 0] rfl)
def w_Sta_weightOfAll (cI : ClassId) (a_r0 a_r0_weights : Nat) (v_r0_kinds v_r0_figures v_r0_goes v_r0_things v_r0_hampers v_r0_days v_r0_fields v_r0_done : Value) (r0_weights : Nat → Int32) : va_W := [(a_r0, .inr (1, [.ref a_r0_weights, v_r0_kinds, v_r0_figures, v_r0_goes, v_r0_things, v_r0_hampers, v_r0_days, v_r0_fields, v_r0_done])), (a_r0_weights, .inl (cI, 6, .inl r0_weights))]
def F_Sta_weightOfAll_L4 (r0_weights : Nat → Int32) (x1 : Int32) (y2_1 : Int32) (y3_1 : Int32) : Option (((Int32) × (Int32)) ⊕ ((Int32))) :=
  (if (6 : Int32) ≤ y3_1 then (some (.inr y2_1)) else ((F_H_holds x1 y3_1).bind (fun q_3 => (if q_3 = 0 then (some (.inl (y2_1, (y3_1 + 1)))) else (ck y3_1 6 (some (.inl ((y2_1 + (r0_weights (Int32.toNatClampNeg y3_1))), (y3_1 + 1)))))))))
def F_Sta_weightOfAll (r0_weights : Nat → Int32) (x1 : Int32) : Option (Int32) :=
  ((wh (fun (s : (Int32) × (Int32)) => F_Sta_weightOfAll_L4 r0_weights x1 s.1 s.2) 400 ((0 : Int32), (0 : Int32))).bind (fun e_1 => (some e_1)))
set_option maxHeartbeats 4000000 in
set_option maxRecDepth 100000 in
theorem C_Sta_weightOfAll (l : Launch) (D : va_G) (cI cS : ClassId) (a_r0 a_r0_weights : Nat) (v_r0_kinds v_r0_figures v_r0_goes v_r0_things v_r0_hampers v_r0_days v_r0_fields v_r0_done : Value) (r0_weights : Nat → Int32) (x1 : Int32) (o : Int32) (hr : F_Sta_weightOfAll r0_weights x1 = some o) : ctI l y_Sta_weightOfAll (Cond.code y_Sta_weightOfAll b_Sta_weightOfAll 4 (some FieldType.int)) (rmd 1) D (kTy cI cS) [.ref a_r0, .int x1] (w_Sta_weightOfAll cI a_r0 a_r0_weights v_r0_kinds v_r0_figures v_r0_goes v_r0_things v_r0_hampers v_r0_days v_r0_fields v_r0_done r0_weights) (w_Sta_weightOfAll cI a_r0 a_r0_weights v_r0_kinds v_r0_figures v_r0_goes v_r0_things v_r0_hampers v_r0_days v_r0_fields v_r0_done r0_weights) o := by
  unfold F_Sta_weightOfAll at hr
  refine ⟨rfl, fun sz => ct_of (w0 := (w_Sta_weightOfAll cI a_r0 a_r0_weights v_r0_kinds v_r0_figures v_r0_goes v_r0_things v_r0_hampers v_r0_days v_r0_fields v_r0_done r0_weights)) (Qc := fun A => qI D (w_Sta_weightOfAll cI a_r0 a_r0_weights v_r0_kinds v_r0_figures v_r0_goes v_r0_things v_r0_hampers v_r0_days v_r0_fields v_r0_done r0_weights) o A) rfl (Nat.le_of_ble_eq_true rfl) ?_ sz⟩
  intro p e s m below meth c A hA C hret ls hl hW
  have C : cx p s m ([.ref a_r0, .int x1] : List Value).toArray meth c b_Sta_weightOfAll 4 R_Sta D (kTy cI cS) (Cond.code y_Sta_weightOfAll b_Sta_weightOfAll 4 (some FieldType.int)) := C
  obtain ⟨hx, hb, hml, hown, hts, hK, hlk, hN⟩ := id C
  have hl : lv_has ls 4 [(0, .ref a_r0), (1, .int x1)] := hl
  obtain ⟨Q, hQ⟩ : ∃ Q, Q = MQ below (qI D (w_Sta_weightOfAll cI a_r0 a_r0_weights v_r0_kinds v_r0_figures v_r0_goes v_r0_things v_r0_hampers v_r0_days v_r0_fields v_r0_done r0_weights) o A) ([.ref a_r0, .int x1] : List Value).toArray s 0 0 A := ⟨_, rfl⟩
  rw [← hQ]
  refine lv_iconst (v := 0) hx hb d_Sta_weightOfAll_0 (by decide) ?_
  refine lv_istore_n (lv' := [(2, .int 0), (0, .ref a_r0), (1, .int x1)]) hx hb d_Sta_weightOfAll_1 rfl hl (by decide) rfl (fun ls hl => ?_)
  refine lv_iconst (v := 0) hx hb d_Sta_weightOfAll_2 (by decide) ?_
  refine lv_istore_n (lv' := [(3, .int 0), (2, .int 0), (0, .ref a_r0), (1, .int x1)]) hx hb d_Sta_weightOfAll_3 rfl hl (by decide) rfl (fun ls hl => ?_)
  obtain ⟨ex_1, hw_1, hk_1⟩ := ob hr
  have hx_1 : ∀ (e_1 : (Int32)), e_1 = ex_1 → ∀ (H : Heap) (locs : List Loc) (ls : Array Slot), wd A s.heap D (w_Sta_weightOfAll cI a_r0 a_r0_weights v_r0_kinds v_r0_figures v_r0_goes v_r0_things v_r0_hampers v_r0_days v_r0_fields v_r0_done r0_weights) H locs → lv_has ls 4 [(2, .int e_1)] → W p l e (rmd 1) s m ([.ref a_r0, .int x1] : List Value).toArray below meth c H locs 0 0 Q (F0 m 33 ls []) := by
    intro e_1 hE H locs ls hW hl
    subst hE; have hr := hk_1
    refine lv_iload_n hx hb d_Sta_weightOfAll_33 rfl (lv_at hl 0 rfl) ?_
    obtain rfl := Option.some.inj hr
    rw [hQ]; exact k_iret C hret hW d_Sta_weightOfAll_34
  have hl_1 : ∀ (n : Nat) (y2_1 : Int32) (y3_1 : Int32), wh (fun (s : (Int32) × (Int32)) => F_Sta_weightOfAll_L4 r0_weights x1 s.1 s.2) n (y2_1, y3_1) = some ex_1 → ∀ (H : Heap) (locs : List Loc) (ls : Array Slot), wd A s.heap D (w_Sta_weightOfAll cI a_r0 a_r0_weights v_r0_kinds v_r0_figures v_r0_goes v_r0_things v_r0_hampers v_r0_days v_r0_fields v_r0_done r0_weights) H locs → lv_has ls 4 [(0, .ref a_r0), (1, .int x1), (2, .int y2_1), (3, .int y3_1)] → W p l e (rmd 1) s m ([.ref a_r0, .int x1] : List Value).toArray below meth c H locs 0 0 Q (F0 m 4 ls []) := by
    intro n
    induction n with
    | zero => intro y2_1 y3_1 hw; exact absurd hw wh_0
    | succ n ih_1 =>
      intro y2_1 y3_1 hw H locs ls hW hl
      obtain ⟨z_1, hr, hz1_1, hz2_1⟩ := wh_s hw
      have hr : F_Sta_weightOfAll_L4 r0_weights x1 y2_1 y3_1 = some z_1 := hr
      unfold F_Sta_weightOfAll_L4 at hr
      refine lv_iload_n hx hb d_Sta_weightOfAll_4 rfl (lv_at hl 3 rfl) ?_
      refine lv_bipush (v := 6) hx hb d_Sta_weightOfAll_5 (by decide) ?_
      refine lv_icmp_ge (tgt := 33) hx hb d_Sta_weightOfAll_7 (by decide) (fun c_2 => ?_) (fun c_2 => ?_)
      · replace hr := ip c_2 hr
        exact hx_1 _ (hz2_1 _ (Option.some.inj hr).symm) _ _ _ hW (lv_sub hl [2] rfl)
      · replace hr := iN c_2 hr
        refine lv_iload_n hx hb d_Sta_weightOfAll_10 rfl (lv_at hl 1 rfl) ?_
        refine lv_iload_n hx hb d_Sta_weightOfAll_11 rfl (lv_at hl 3 rfl) ?_
        obtain ⟨q_3, hc_3, hr⟩ := ob hr
        have ct_3 := C_H_holds l D cI cS x1 y3_1 q_3 hc_3
        refine k_goIp hA hW [] rfl rfl (k_runSN C hA hW mw_H_holds ms_H_holds (ct_3.2 _) [] rfl rfl qm_Sta_77 ⟨Nat.le_of_ble_eq_true rfl, Nat.le_of_ble_eq_true rfl, Nat.zero_le _, Nat.zero_le _⟩ rfl rfl (Nat.le_of_ble_eq_true rfl) hl.1 d_Sta_weightOfAll_12) (fun H locs hW => ?_)
        refine lv_if_eq (tgt := 27) hx hb d_Sta_weightOfAll_15 (by decide) (fun c_4 => ?_) (fun c_4 => ?_)
        · replace hr := ip c_4 hr
          refine lv_iinc (v := (y3_1 + 1)) (lv' := [(3, .int (y3_1 + 1)), (0, .ref a_r0), (1, .int x1), (2, .int y2_1)]) hx hb d_Sta_weightOfAll_27 hl (k := 3) rfl rfl (by decide) rfl (fun ls hl => ?_)
          refine lv_goto (tgt := 4) hx hb d_Sta_weightOfAll_30 (by decide) ?_
          exact ih_1 y2_1 (y3_1 + 1) (hz1_1 _ (Option.some.inj hr).symm) _ _ _ hW (lv_sub hl [1, 2, 3, 0] rfl)
        · replace hr := iN c_4 hr
          refine lv_iload_n hx hb d_Sta_weightOfAll_18 rfl (lv_at hl 2 rfl) ?_
          refine lv_aload_n hx hb d_Sta_weightOfAll_19 rfl (lv_at hl 0 rfl) ?_
          refine k_get i_Sta C hW 0 rfl rfl 0 (by decide) qf_Sta_9 rfl rfl d_Sta_weightOfAll_20 ?_
          refine lv_iload_n hx hb d_Sta_weightOfAll_23 rfl (lv_at hl 3 rfl) ?_
          obtain ⟨h_5, hr⟩ := ck_some hr
          refine k_iald C hW 1 rfl h_5 d_Sta_weightOfAll_24 ?_
          refine lv_iadd hx hb d_Sta_weightOfAll_25 ?_
          refine lv_istore_n (lv' := [(2, .int (y2_1 + (r0_weights (Int32.toNatClampNeg y3_1)))), (0, .ref a_r0), (1, .int x1), (3, .int y3_1)]) hx hb d_Sta_weightOfAll_26 rfl hl (by decide) rfl (fun ls hl => ?_)
          refine lv_iinc (v := (y3_1 + 1)) (lv' := [(3, .int (y3_1 + 1)), (2, .int (y2_1 + (r0_weights (Int32.toNatClampNeg y3_1)))), (0, .ref a_r0), (1, .int x1)]) hx hb d_Sta_weightOfAll_27 hl (k := 3) rfl rfl (by decide) rfl (fun ls hl => ?_)
          refine lv_goto (tgt := 4) hx hb d_Sta_weightOfAll_30 (by decide) ?_
          exact ih_1 (y2_1 + (r0_weights (Int32.toNatClampNeg y3_1))) (y3_1 + 1) (hz1_1 _ (Option.some.inj hr).symm) _ _ _ hW (lv_sub hl [2, 3, 1, 0] rfl)
  exact hl_1 _ 0 0 hw_1 _ _ _ hW (lv_sub hl [2, 3, 1, 0] rfl)
