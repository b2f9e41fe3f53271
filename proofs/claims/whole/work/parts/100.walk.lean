def F_Jint_bitCount (x0 : Int32) : Option (Int32) :=
  (some ((((((((x0 - (((Int32.toUInt32 x0 >>> (Int32.toUInt32 1 &&& Int32.toUInt32 31)).toInt32) &&& (1431655765 : Int32))) &&& (858993459 : Int32)) + (((Int32.toUInt32 (x0 - (((Int32.toUInt32 x0 >>> (Int32.toUInt32 1 &&& Int32.toUInt32 31)).toInt32) &&& (1431655765 : Int32))) >>> (Int32.toUInt32 2 &&& Int32.toUInt32 31)).toInt32) &&& (858993459 : Int32))) + ((Int32.toUInt32 (((x0 - (((Int32.toUInt32 x0 >>> (Int32.toUInt32 1 &&& Int32.toUInt32 31)).toInt32) &&& (1431655765 : Int32))) &&& (858993459 : Int32)) + (((Int32.toUInt32 (x0 - (((Int32.toUInt32 x0 >>> (Int32.toUInt32 1 &&& Int32.toUInt32 31)).toInt32) &&& (1431655765 : Int32))) >>> (Int32.toUInt32 2 &&& Int32.toUInt32 31)).toInt32) &&& (858993459 : Int32))) >>> (Int32.toUInt32 4 &&& Int32.toUInt32 31)).toInt32)) &&& (252645135 : Int32)) + ((Int32.toUInt32 (((((x0 - (((Int32.toUInt32 x0 >>> (Int32.toUInt32 1 &&& Int32.toUInt32 31)).toInt32) &&& (1431655765 : Int32))) &&& (858993459 : Int32)) + (((Int32.toUInt32 (x0 - (((Int32.toUInt32 x0 >>> (Int32.toUInt32 1 &&& Int32.toUInt32 31)).toInt32) &&& (1431655765 : Int32))) >>> (Int32.toUInt32 2 &&& Int32.toUInt32 31)).toInt32) &&& (858993459 : Int32))) + ((Int32.toUInt32 (((x0 - (((Int32.toUInt32 x0 >>> (Int32.toUInt32 1 &&& Int32.toUInt32 31)).toInt32) &&& (1431655765 : Int32))) &&& (858993459 : Int32)) + (((Int32.toUInt32 (x0 - (((Int32.toUInt32 x0 >>> (Int32.toUInt32 1 &&& Int32.toUInt32 31)).toInt32) &&& (1431655765 : Int32))) >>> (Int32.toUInt32 2 &&& Int32.toUInt32 31)).toInt32) &&& (858993459 : Int32))) >>> (Int32.toUInt32 4 &&& Int32.toUInt32 31)).toInt32)) &&& (252645135 : Int32)) >>> (Int32.toUInt32 8 &&& Int32.toUInt32 31)).toInt32)) + ((Int32.toUInt32 ((((((x0 - (((Int32.toUInt32 x0 >>> (Int32.toUInt32 1 &&& Int32.toUInt32 31)).toInt32) &&& (1431655765 : Int32))) &&& (858993459 : Int32)) + (((Int32.toUInt32 (x0 - (((Int32.toUInt32 x0 >>> (Int32.toUInt32 1 &&& Int32.toUInt32 31)).toInt32) &&& (1431655765 : Int32))) >>> (Int32.toUInt32 2 &&& Int32.toUInt32 31)).toInt32) &&& (858993459 : Int32))) + ((Int32.toUInt32 (((x0 - (((Int32.toUInt32 x0 >>> (Int32.toUInt32 1 &&& Int32.toUInt32 31)).toInt32) &&& (1431655765 : Int32))) &&& (858993459 : Int32)) + (((Int32.toUInt32 (x0 - (((Int32.toUInt32 x0 >>> (Int32.toUInt32 1 &&& Int32.toUInt32 31)).toInt32) &&& (1431655765 : Int32))) >>> (Int32.toUInt32 2 &&& Int32.toUInt32 31)).toInt32) &&& (858993459 : Int32))) >>> (Int32.toUInt32 4 &&& Int32.toUInt32 31)).toInt32)) &&& (252645135 : Int32)) + ((Int32.toUInt32 (((((x0 - (((Int32.toUInt32 x0 >>> (Int32.toUInt32 1 &&& Int32.toUInt32 31)).toInt32) &&& (1431655765 : Int32))) &&& (858993459 : Int32)) + (((Int32.toUInt32 (x0 - (((Int32.toUInt32 x0 >>> (Int32.toUInt32 1 &&& Int32.toUInt32 31)).toInt32) &&& (1431655765 : Int32))) >>> (Int32.toUInt32 2 &&& Int32.toUInt32 31)).toInt32) &&& (858993459 : Int32))) + ((Int32.toUInt32 (((x0 - (((Int32.toUInt32 x0 >>> (Int32.toUInt32 1 &&& Int32.toUInt32 31)).toInt32) &&& (1431655765 : Int32))) &&& (858993459 : Int32)) + (((Int32.toUInt32 (x0 - (((Int32.toUInt32 x0 >>> (Int32.toUInt32 1 &&& Int32.toUInt32 31)).toInt32) &&& (1431655765 : Int32))) >>> (Int32.toUInt32 2 &&& Int32.toUInt32 31)).toInt32) &&& (858993459 : Int32))) >>> (Int32.toUInt32 4 &&& Int32.toUInt32 31)).toInt32)) &&& (252645135 : Int32)) >>> (Int32.toUInt32 8 &&& Int32.toUInt32 31)).toInt32)) >>> (Int32.toUInt32 16 &&& Int32.toUInt32 31)).toInt32)) &&& 63))
set_option maxHeartbeats 4000000 in
set_option maxRecDepth 100000 in
theorem C_Jint_bitCount (l : Launch) (D : va_G) (cI cS : ClassId) (x0 : Int32) (o : Int32) (hr : F_Jint_bitCount x0 = some o) : ctI l y_Jint_bitCount (Cond.code y_Jint_bitCount b_Jint_bitCount 1 (some FieldType.int)) (rmd 0) D (kTy cI cS) [.int x0] [] [] o := by
  unfold F_Jint_bitCount at hr
  refine ⟨rfl, fun sz => ct_of (w0 := []) (Qc := fun A => qI D [] o A) rfl (Nat.le_of_ble_eq_true rfl) ?_ sz⟩
  intro p e s m below meth c A hA C hret ls hl hW
  have C : cx p s m ([.int x0] : List Value).toArray meth c b_Jint_bitCount 1 R_Jint D (kTy cI cS) (Cond.code y_Jint_bitCount b_Jint_bitCount 1 (some FieldType.int)) := C
  obtain ⟨hx, hb, hml, hown, hts, hK, hlk, hN⟩ := id C
  have hl : lv_has ls 1 [(0, .int x0)] := hl
  obtain ⟨Q, hQ⟩ : ∃ Q, Q = MQ below (qI D [] o A) ([.int x0] : List Value).toArray s 0 0 A := ⟨_, rfl⟩
  rw [← hQ]
  refine lv_iload_n hx hb d_Jint_bitCount_0 rfl (lv_at hl 0 rfl) ?_
  refine lv_iload_n hx hb d_Jint_bitCount_1 rfl (lv_at hl 0 rfl) ?_
  refine lv_iconst (v := 1) hx hb d_Jint_bitCount_2 (by decide) ?_
  refine lv_iushr hx hb d_Jint_bitCount_3 rfl ?_
  refine lv_ldcw (v := 1431655765) hx hb hown (hts _ (List.mem_cons_of_mem _ (qc_Jint_265))) d_Jint_bitCount_4 ?_
  refine lv_iand hx hb d_Jint_bitCount_7 ?_
  refine lv_isub hx hb d_Jint_bitCount_8 ?_
  refine lv_istore_n (lv' := [(0, .int (x0 - (((Int32.toUInt32 x0 >>> (Int32.toUInt32 1 &&& Int32.toUInt32 31)).toInt32) &&& (1431655765 : Int32))))]) hx hb d_Jint_bitCount_9 rfl hl (by decide) rfl (fun ls hl => ?_)
  refine lv_iload_n hx hb d_Jint_bitCount_10 rfl (lv_at hl 0 rfl) ?_
  refine lv_ldcw (v := 858993459) hx hb hown (hts _ (List.mem_cons_of_mem _ (qc_Jint_266))) d_Jint_bitCount_11 ?_
  refine lv_iand hx hb d_Jint_bitCount_14 ?_
  refine lv_iload_n hx hb d_Jint_bitCount_15 rfl (lv_at hl 0 rfl) ?_
  refine lv_iconst (v := 2) hx hb d_Jint_bitCount_16 (by decide) ?_
  refine lv_iushr hx hb d_Jint_bitCount_17 rfl ?_
  refine lv_ldcw (v := 858993459) hx hb hown (hts _ (List.mem_cons_of_mem _ (qc_Jint_266))) d_Jint_bitCount_18 ?_
  refine lv_iand hx hb d_Jint_bitCount_21 ?_
  refine lv_iadd hx hb d_Jint_bitCount_22 ?_
  refine lv_istore_n (lv' := [(0, .int (((x0 - (((Int32.toUInt32 x0 >>> (Int32.toUInt32 1 &&& Int32.toUInt32 31)).toInt32) &&& (1431655765 : Int32))) &&& (858993459 : Int32)) + (((Int32.toUInt32 (x0 - (((Int32.toUInt32 x0 >>> (Int32.toUInt32 1 &&& Int32.toUInt32 31)).toInt32) &&& (1431655765 : Int32))) >>> (Int32.toUInt32 2 &&& Int32.toUInt32 31)).toInt32) &&& (858993459 : Int32))))]) hx hb d_Jint_bitCount_23 rfl hl (by decide) rfl (fun ls hl => ?_)
  refine lv_iload_n hx hb d_Jint_bitCount_24 rfl (lv_at hl 0 rfl) ?_
  refine lv_iload_n hx hb d_Jint_bitCount_25 rfl (lv_at hl 0 rfl) ?_
  refine lv_iconst (v := 4) hx hb d_Jint_bitCount_26 (by decide) ?_
  refine lv_iushr hx hb d_Jint_bitCount_27 rfl ?_
  refine lv_iadd hx hb d_Jint_bitCount_28 ?_
  refine lv_ldcw (v := 252645135) hx hb hown (hts _ (List.mem_cons_of_mem _ (qc_Jint_267))) d_Jint_bitCount_29 ?_
  refine lv_iand hx hb d_Jint_bitCount_32 ?_
  refine lv_istore_n (lv' := [(0, .int (((((x0 - (((Int32.toUInt32 x0 >>> (Int32.toUInt32 1 &&& Int32.toUInt32 31)).toInt32) &&& (1431655765 : Int32))) &&& (858993459 : Int32)) + (((Int32.toUInt32 (x0 - (((Int32.toUInt32 x0 >>> (Int32.toUInt32 1 &&& Int32.toUInt32 31)).toInt32) &&& (1431655765 : Int32))) >>> (Int32.toUInt32 2 &&& Int32.toUInt32 31)).toInt32) &&& (858993459 : Int32))) + ((Int32.toUInt32 (((x0 - (((Int32.toUInt32 x0 >>> (Int32.toUInt32 1 &&& Int32.toUInt32 31)).toInt32) &&& (1431655765 : Int32))) &&& (858993459 : Int32)) + (((Int32.toUInt32 (x0 - (((Int32.toUInt32 x0 >>> (Int32.toUInt32 1 &&& Int32.toUInt32 31)).toInt32) &&& (1431655765 : Int32))) >>> (Int32.toUInt32 2 &&& Int32.toUInt32 31)).toInt32) &&& (858993459 : Int32))) >>> (Int32.toUInt32 4 &&& Int32.toUInt32 31)).toInt32)) &&& (252645135 : Int32)))]) hx hb d_Jint_bitCount_33 rfl hl (by decide) rfl (fun ls hl => ?_)
  refine lv_iload_n hx hb d_Jint_bitCount_34 rfl (lv_at hl 0 rfl) ?_
  refine lv_iload_n hx hb d_Jint_bitCount_35 rfl (lv_at hl 0 rfl) ?_
  refine lv_bipush (v := 8) hx hb d_Jint_bitCount_36 (by decide) ?_
  refine lv_iushr hx hb d_Jint_bitCount_38 rfl ?_
  refine lv_iadd hx hb d_Jint_bitCount_39 ?_
  refine lv_istore_n (lv' := [(0, .int ((((((x0 - (((Int32.toUInt32 x0 >>> (Int32.toUInt32 1 &&& Int32.toUInt32 31)).toInt32) &&& (1431655765 : Int32))) &&& (858993459 : Int32)) + (((Int32.toUInt32 (x0 - (((Int32.toUInt32 x0 >>> (Int32.toUInt32 1 &&& Int32.toUInt32 31)).toInt32) &&& (1431655765 : Int32))) >>> (Int32.toUInt32 2 &&& Int32.toUInt32 31)).toInt32) &&& (858993459 : Int32))) + ((Int32.toUInt32 (((x0 - (((Int32.toUInt32 x0 >>> (Int32.toUInt32 1 &&& Int32.toUInt32 31)).toInt32) &&& (1431655765 : Int32))) &&& (858993459 : Int32)) + (((Int32.toUInt32 (x0 - (((Int32.toUInt32 x0 >>> (Int32.toUInt32 1 &&& Int32.toUInt32 31)).toInt32) &&& (1431655765 : Int32))) >>> (Int32.toUInt32 2 &&& Int32.toUInt32 31)).toInt32) &&& (858993459 : Int32))) >>> (Int32.toUInt32 4 &&& Int32.toUInt32 31)).toInt32)) &&& (252645135 : Int32)) + ((Int32.toUInt32 (((((x0 - (((Int32.toUInt32 x0 >>> (Int32.toUInt32 1 &&& Int32.toUInt32 31)).toInt32) &&& (1431655765 : Int32))) &&& (858993459 : Int32)) + (((Int32.toUInt32 (x0 - (((Int32.toUInt32 x0 >>> (Int32.toUInt32 1 &&& Int32.toUInt32 31)).toInt32) &&& (1431655765 : Int32))) >>> (Int32.toUInt32 2 &&& Int32.toUInt32 31)).toInt32) &&& (858993459 : Int32))) + ((Int32.toUInt32 (((x0 - (((Int32.toUInt32 x0 >>> (Int32.toUInt32 1 &&& Int32.toUInt32 31)).toInt32) &&& (1431655765 : Int32))) &&& (858993459 : Int32)) + (((Int32.toUInt32 (x0 - (((Int32.toUInt32 x0 >>> (Int32.toUInt32 1 &&& Int32.toUInt32 31)).toInt32) &&& (1431655765 : Int32))) >>> (Int32.toUInt32 2 &&& Int32.toUInt32 31)).toInt32) &&& (858993459 : Int32))) >>> (Int32.toUInt32 4 &&& Int32.toUInt32 31)).toInt32)) &&& (252645135 : Int32)) >>> (Int32.toUInt32 8 &&& Int32.toUInt32 31)).toInt32)))]) hx hb d_Jint_bitCount_40 rfl hl (by decide) rfl (fun ls hl => ?_)
  refine lv_iload_n hx hb d_Jint_bitCount_41 rfl (lv_at hl 0 rfl) ?_
  refine lv_iload_n hx hb d_Jint_bitCount_42 rfl (lv_at hl 0 rfl) ?_
  refine lv_bipush (v := 16) hx hb d_Jint_bitCount_43 (by decide) ?_
  refine lv_iushr hx hb d_Jint_bitCount_45 rfl ?_
  refine lv_iadd hx hb d_Jint_bitCount_46 ?_
  refine lv_istore_n (lv' := [(0, .int (((((((x0 - (((Int32.toUInt32 x0 >>> (Int32.toUInt32 1 &&& Int32.toUInt32 31)).toInt32) &&& (1431655765 : Int32))) &&& (858993459 : Int32)) + (((Int32.toUInt32 (x0 - (((Int32.toUInt32 x0 >>> (Int32.toUInt32 1 &&& Int32.toUInt32 31)).toInt32) &&& (1431655765 : Int32))) >>> (Int32.toUInt32 2 &&& Int32.toUInt32 31)).toInt32) &&& (858993459 : Int32))) + ((Int32.toUInt32 (((x0 - (((Int32.toUInt32 x0 >>> (Int32.toUInt32 1 &&& Int32.toUInt32 31)).toInt32) &&& (1431655765 : Int32))) &&& (858993459 : Int32)) + (((Int32.toUInt32 (x0 - (((Int32.toUInt32 x0 >>> (Int32.toUInt32 1 &&& Int32.toUInt32 31)).toInt32) &&& (1431655765 : Int32))) >>> (Int32.toUInt32 2 &&& Int32.toUInt32 31)).toInt32) &&& (858993459 : Int32))) >>> (Int32.toUInt32 4 &&& Int32.toUInt32 31)).toInt32)) &&& (252645135 : Int32)) + ((Int32.toUInt32 (((((x0 - (((Int32.toUInt32 x0 >>> (Int32.toUInt32 1 &&& Int32.toUInt32 31)).toInt32) &&& (1431655765 : Int32))) &&& (858993459 : Int32)) + (((Int32.toUInt32 (x0 - (((Int32.toUInt32 x0 >>> (Int32.toUInt32 1 &&& Int32.toUInt32 31)).toInt32) &&& (1431655765 : Int32))) >>> (Int32.toUInt32 2 &&& Int32.toUInt32 31)).toInt32) &&& (858993459 : Int32))) + ((Int32.toUInt32 (((x0 - (((Int32.toUInt32 x0 >>> (Int32.toUInt32 1 &&& Int32.toUInt32 31)).toInt32) &&& (1431655765 : Int32))) &&& (858993459 : Int32)) + (((Int32.toUInt32 (x0 - (((Int32.toUInt32 x0 >>> (Int32.toUInt32 1 &&& Int32.toUInt32 31)).toInt32) &&& (1431655765 : Int32))) >>> (Int32.toUInt32 2 &&& Int32.toUInt32 31)).toInt32) &&& (858993459 : Int32))) >>> (Int32.toUInt32 4 &&& Int32.toUInt32 31)).toInt32)) &&& (252645135 : Int32)) >>> (Int32.toUInt32 8 &&& Int32.toUInt32 31)).toInt32)) + ((Int32.toUInt32 ((((((x0 - (((Int32.toUInt32 x0 >>> (Int32.toUInt32 1 &&& Int32.toUInt32 31)).toInt32) &&& (1431655765 : Int32))) &&& (858993459 : Int32)) + (((Int32.toUInt32 (x0 - (((Int32.toUInt32 x0 >>> (Int32.toUInt32 1 &&& Int32.toUInt32 31)).toInt32) &&& (1431655765 : Int32))) >>> (Int32.toUInt32 2 &&& Int32.toUInt32 31)).toInt32) &&& (858993459 : Int32))) + ((Int32.toUInt32 (((x0 - (((Int32.toUInt32 x0 >>> (Int32.toUInt32 1 &&& Int32.toUInt32 31)).toInt32) &&& (1431655765 : Int32))) &&& (858993459 : Int32)) + (((Int32.toUInt32 (x0 - (((Int32.toUInt32 x0 >>> (Int32.toUInt32 1 &&& Int32.toUInt32 31)).toInt32) &&& (1431655765 : Int32))) >>> (Int32.toUInt32 2 &&& Int32.toUInt32 31)).toInt32) &&& (858993459 : Int32))) >>> (Int32.toUInt32 4 &&& Int32.toUInt32 31)).toInt32)) &&& (252645135 : Int32)) + ((Int32.toUInt32 (((((x0 - (((Int32.toUInt32 x0 >>> (Int32.toUInt32 1 &&& Int32.toUInt32 31)).toInt32) &&& (1431655765 : Int32))) &&& (858993459 : Int32)) + (((Int32.toUInt32 (x0 - (((Int32.toUInt32 x0 >>> (Int32.toUInt32 1 &&& Int32.toUInt32 31)).toInt32) &&& (1431655765 : Int32))) >>> (Int32.toUInt32 2 &&& Int32.toUInt32 31)).toInt32) &&& (858993459 : Int32))) + ((Int32.toUInt32 (((x0 - (((Int32.toUInt32 x0 >>> (Int32.toUInt32 1 &&& Int32.toUInt32 31)).toInt32) &&& (1431655765 : Int32))) &&& (858993459 : Int32)) + (((Int32.toUInt32 (x0 - (((Int32.toUInt32 x0 >>> (Int32.toUInt32 1 &&& Int32.toUInt32 31)).toInt32) &&& (1431655765 : Int32))) >>> (Int32.toUInt32 2 &&& Int32.toUInt32 31)).toInt32) &&& (858993459 : Int32))) >>> (Int32.toUInt32 4 &&& Int32.toUInt32 31)).toInt32)) &&& (252645135 : Int32)) >>> (Int32.toUInt32 8 &&& Int32.toUInt32 31)).toInt32)) >>> (Int32.toUInt32 16 &&& Int32.toUInt32 31)).toInt32)))]) hx hb d_Jint_bitCount_47 rfl hl (by decide) rfl (fun ls hl => ?_)
  refine lv_iload_n hx hb d_Jint_bitCount_48 rfl (lv_at hl 0 rfl) ?_
  refine lv_bipush (v := 63) hx hb d_Jint_bitCount_49 (by decide) ?_
  refine lv_iand hx hb d_Jint_bitCount_51 ?_
  obtain rfl := Option.some.inj hr
  rw [hQ]; exact k_iret C hret hW d_Jint_bitCount_52
def F_Jlong_bitCount (x0 : Int64) : Option (Int32) :=
  (some ((Int64.toInt32 ((((((((x0 - (((Int64.toUInt64 x0 >>> ((Int32.toInt64 1).toUInt64 &&& Int64.toUInt64 63)).toInt64) &&& (6148914691236517205 : Int64))) &&& (3689348814741910323 : Int64)) + (((Int64.toUInt64 (x0 - (((Int64.toUInt64 x0 >>> ((Int32.toInt64 1).toUInt64 &&& Int64.toUInt64 63)).toInt64) &&& (6148914691236517205 : Int64))) >>> ((Int32.toInt64 2).toUInt64 &&& Int64.toUInt64 63)).toInt64) &&& (3689348814741910323 : Int64))) + ((Int64.toUInt64 (((x0 - (((Int64.toUInt64 x0 >>> ((Int32.toInt64 1).toUInt64 &&& Int64.toUInt64 63)).toInt64) &&& (6148914691236517205 : Int64))) &&& (3689348814741910323 : Int64)) + (((Int64.toUInt64 (x0 - (((Int64.toUInt64 x0 >>> ((Int32.toInt64 1).toUInt64 &&& Int64.toUInt64 63)).toInt64) &&& (6148914691236517205 : Int64))) >>> ((Int32.toInt64 2).toUInt64 &&& Int64.toUInt64 63)).toInt64) &&& (3689348814741910323 : Int64))) >>> ((Int32.toInt64 4).toUInt64 &&& Int64.toUInt64 63)).toInt64)) &&& (1085102592571150095 : Int64)) + ((Int64.toUInt64 (((((x0 - (((Int64.toUInt64 x0 >>> ((Int32.toInt64 1).toUInt64 &&& Int64.toUInt64 63)).toInt64) &&& (6148914691236517205 : Int64))) &&& (3689348814741910323 : Int64)) + (((Int64.toUInt64 (x0 - (((Int64.toUInt64 x0 >>> ((Int32.toInt64 1).toUInt64 &&& Int64.toUInt64 63)).toInt64) &&& (6148914691236517205 : Int64))) >>> ((Int32.toInt64 2).toUInt64 &&& Int64.toUInt64 63)).toInt64) &&& (3689348814741910323 : Int64))) + ((Int64.toUInt64 (((x0 - (((Int64.toUInt64 x0 >>> ((Int32.toInt64 1).toUInt64 &&& Int64.toUInt64 63)).toInt64) &&& (6148914691236517205 : Int64))) &&& (3689348814741910323 : Int64)) + (((Int64.toUInt64 (x0 - (((Int64.toUInt64 x0 >>> ((Int32.toInt64 1).toUInt64 &&& Int64.toUInt64 63)).toInt64) &&& (6148914691236517205 : Int64))) >>> ((Int32.toInt64 2).toUInt64 &&& Int64.toUInt64 63)).toInt64) &&& (3689348814741910323 : Int64))) >>> ((Int32.toInt64 4).toUInt64 &&& Int64.toUInt64 63)).toInt64)) &&& (1085102592571150095 : Int64)) >>> ((Int32.toInt64 8).toUInt64 &&& Int64.toUInt64 63)).toInt64)) + ((Int64.toUInt64 ((((((x0 - (((Int64.toUInt64 x0 >>> ((Int32.toInt64 1).toUInt64 &&& Int64.toUInt64 63)).toInt64) &&& (6148914691236517205 : Int64))) &&& (3689348814741910323 : Int64)) + (((Int64.toUInt64 (x0 - (((Int64.toUInt64 x0 >>> ((Int32.toInt64 1).toUInt64 &&& Int64.toUInt64 63)).toInt64) &&& (6148914691236517205 : Int64))) >>> ((Int32.toInt64 2).toUInt64 &&& Int64.toUInt64 63)).toInt64) &&& (3689348814741910323 : Int64))) + ((Int64.toUInt64 (((x0 - (((Int64.toUInt64 x0 >>> ((Int32.toInt64 1).toUInt64 &&& Int64.toUInt64 63)).toInt64) &&& (6148914691236517205 : Int64))) &&& (3689348814741910323 : Int64)) + (((Int64.toUInt64 (x0 - (((Int64.toUInt64 x0 >>> ((Int32.toInt64 1).toUInt64 &&& Int64.toUInt64 63)).toInt64) &&& (6148914691236517205 : Int64))) >>> ((Int32.toInt64 2).toUInt64 &&& Int64.toUInt64 63)).toInt64) &&& (3689348814741910323 : Int64))) >>> ((Int32.toInt64 4).toUInt64 &&& Int64.toUInt64 63)).toInt64)) &&& (1085102592571150095 : Int64)) + ((Int64.toUInt64 (((((x0 - (((Int64.toUInt64 x0 >>> ((Int32.toInt64 1).toUInt64 &&& Int64.toUInt64 63)).toInt64) &&& (6148914691236517205 : Int64))) &&& (3689348814741910323 : Int64)) + (((Int64.toUInt64 (x0 - (((Int64.toUInt64 x0 >>> ((Int32.toInt64 1).toUInt64 &&& Int64.toUInt64 63)).toInt64) &&& (6148914691236517205 : Int64))) >>> ((Int32.toInt64 2).toUInt64 &&& Int64.toUInt64 63)).toInt64) &&& (3689348814741910323 : Int64))) + ((Int64.toUInt64 (((x0 - (((Int64.toUInt64 x0 >>> ((Int32.toInt64 1).toUInt64 &&& Int64.toUInt64 63)).toInt64) &&& (6148914691236517205 : Int64))) &&& (3689348814741910323 : Int64)) + (((Int64.toUInt64 (x0 - (((Int64.toUInt64 x0 >>> ((Int32.toInt64 1).toUInt64 &&& Int64.toUInt64 63)).toInt64) &&& (6148914691236517205 : Int64))) >>> ((Int32.toInt64 2).toUInt64 &&& Int64.toUInt64 63)).toInt64) &&& (3689348814741910323 : Int64))) >>> ((Int32.toInt64 4).toUInt64 &&& Int64.toUInt64 63)).toInt64)) &&& (1085102592571150095 : Int64)) >>> ((Int32.toInt64 8).toUInt64 &&& Int64.toUInt64 63)).toInt64)) >>> ((Int32.toInt64 16).toUInt64 &&& Int64.toUInt64 63)).toInt64)) + ((Int64.toUInt64 (((((((x0 - (((Int64.toUInt64 x0 >>> ((Int32.toInt64 1).toUInt64 &&& Int64.toUInt64 63)).toInt64) &&& (6148914691236517205 : Int64))) &&& (3689348814741910323 : Int64)) + (((Int64.toUInt64 (x0 - (((Int64.toUInt64 x0 >>> ((Int32.toInt64 1).toUInt64 &&& Int64.toUInt64 63)).toInt64) &&& (6148914691236517205 : Int64))) >>> ((Int32.toInt64 2).toUInt64 &&& Int64.toUInt64 63)).toInt64) &&& (3689348814741910323 : Int64))) + ((Int64.toUInt64 (((x0 - (((Int64.toUInt64 x0 >>> ((Int32.toInt64 1).toUInt64 &&& Int64.toUInt64 63)).toInt64) &&& (6148914691236517205 : Int64))) &&& (3689348814741910323 : Int64)) + (((Int64.toUInt64 (x0 - (((Int64.toUInt64 x0 >>> ((Int32.toInt64 1).toUInt64 &&& Int64.toUInt64 63)).toInt64) &&& (6148914691236517205 : Int64))) >>> ((Int32.toInt64 2).toUInt64 &&& Int64.toUInt64 63)).toInt64) &&& (3689348814741910323 : Int64))) >>> ((Int32.toInt64 4).toUInt64 &&& Int64.toUInt64 63)).toInt64)) &&& (1085102592571150095 : Int64)) + ((Int64.toUInt64 (((((x0 - (((Int64.toUInt64 x0 >>> ((Int32.toInt64 1).toUInt64 &&& Int64.toUInt64 63)).toInt64) &&& (6148914691236517205 : Int64))) &&& (3689348814741910323 : Int64)) + (((Int64.toUInt64 (x0 - (((Int64.toUInt64 x0 >>> ((Int32.toInt64 1).toUInt64 &&& Int64.toUInt64 63)).toInt64) &&& (6148914691236517205 : Int64))) >>> ((Int32.toInt64 2).toUInt64 &&& Int64.toUInt64 63)).toInt64) &&& (3689348814741910323 : Int64))) + ((Int64.toUInt64 (((x0 - (((Int64.toUInt64 x0 >>> ((Int32.toInt64 1).toUInt64 &&& Int64.toUInt64 63)).toInt64) &&& (6148914691236517205 : Int64))) &&& (3689348814741910323 : Int64)) + (((Int64.toUInt64 (x0 - (((Int64.toUInt64 x0 >>> ((Int32.toInt64 1).toUInt64 &&& Int64.toUInt64 63)).toInt64) &&& (6148914691236517205 : Int64))) >>> ((Int32.toInt64 2).toUInt64 &&& Int64.toUInt64 63)).toInt64) &&& (3689348814741910323 : Int64))) >>> ((Int32.toInt64 4).toUInt64 &&& Int64.toUInt64 63)).toInt64)) &&& (1085102592571150095 : Int64)) >>> ((Int32.toInt64 8).toUInt64 &&& Int64.toUInt64 63)).toInt64)) + ((Int64.toUInt64 ((((((x0 - (((Int64.toUInt64 x0 >>> ((Int32.toInt64 1).toUInt64 &&& Int64.toUInt64 63)).toInt64) &&& (6148914691236517205 : Int64))) &&& (3689348814741910323 : Int64)) + (((Int64.toUInt64 (x0 - (((Int64.toUInt64 x0 >>> ((Int32.toInt64 1).toUInt64 &&& Int64.toUInt64 63)).toInt64) &&& (6148914691236517205 : Int64))) >>> ((Int32.toInt64 2).toUInt64 &&& Int64.toUInt64 63)).toInt64) &&& (3689348814741910323 : Int64))) + ((Int64.toUInt64 (((x0 - (((Int64.toUInt64 x0 >>> ((Int32.toInt64 1).toUInt64 &&& Int64.toUInt64 63)).toInt64) &&& (6148914691236517205 : Int64))) &&& (3689348814741910323 : Int64)) + (((Int64.toUInt64 (x0 - (((Int64.toUInt64 x0 >>> ((Int32.toInt64 1).toUInt64 &&& Int64.toUInt64 63)).toInt64) &&& (6148914691236517205 : Int64))) >>> ((Int32.toInt64 2).toUInt64 &&& Int64.toUInt64 63)).toInt64) &&& (3689348814741910323 : Int64))) >>> ((Int32.toInt64 4).toUInt64 &&& Int64.toUInt64 63)).toInt64)) &&& (1085102592571150095 : Int64)) + ((Int64.toUInt64 (((((x0 - (((Int64.toUInt64 x0 >>> ((Int32.toInt64 1).toUInt64 &&& Int64.toUInt64 63)).toInt64) &&& (6148914691236517205 : Int64))) &&& (3689348814741910323 : Int64)) + (((Int64.toUInt64 (x0 - (((Int64.toUInt64 x0 >>> ((Int32.toInt64 1).toUInt64 &&& Int64.toUInt64 63)).toInt64) &&& (6148914691236517205 : Int64))) >>> ((Int32.toInt64 2).toUInt64 &&& Int64.toUInt64 63)).toInt64) &&& (3689348814741910323 : Int64))) + ((Int64.toUInt64 (((x0 - (((Int64.toUInt64 x0 >>> ((Int32.toInt64 1).toUInt64 &&& Int64.toUInt64 63)).toInt64) &&& (6148914691236517205 : Int64))) &&& (3689348814741910323 : Int64)) + (((Int64.toUInt64 (x0 - (((Int64.toUInt64 x0 >>> ((Int32.toInt64 1).toUInt64 &&& Int64.toUInt64 63)).toInt64) &&& (6148914691236517205 : Int64))) >>> ((Int32.toInt64 2).toUInt64 &&& Int64.toUInt64 63)).toInt64) &&& (3689348814741910323 : Int64))) >>> ((Int32.toInt64 4).toUInt64 &&& Int64.toUInt64 63)).toInt64)) &&& (1085102592571150095 : Int64)) >>> ((Int32.toInt64 8).toUInt64 &&& Int64.toUInt64 63)).toInt64)) >>> ((Int32.toInt64 16).toUInt64 &&& Int64.toUInt64 63)).toInt64)) >>> ((Int32.toInt64 32).toUInt64 &&& Int64.toUInt64 63)).toInt64))) &&& 127))
set_option maxHeartbeats 4000000 in
set_option maxRecDepth 100000 in
theorem C_Jlong_bitCount (l : Launch) (D : va_G) (cI cS : ClassId) (x0 : Int64) (o : Int32) (hr : F_Jlong_bitCount x0 = some o) : ctI l y_Jlong_bitCount (Cond.code y_Jlong_bitCount b_Jlong_bitCount 2 (some FieldType.int)) (rmd 0) D (kTy cI cS) [.long x0] [] [] o := by
  unfold F_Jlong_bitCount at hr
  refine ⟨rfl, fun sz => ct_of (w0 := []) (Qc := fun A => qI D [] o A) rfl (Nat.le_of_ble_eq_true rfl) ?_ sz⟩
  intro p e s m below meth c A hA C hret ls hl hW
  have C : cx p s m ([.long x0] : List Value).toArray meth c b_Jlong_bitCount 2 R_Jlong D (kTy cI cS) (Cond.code y_Jlong_bitCount b_Jlong_bitCount 2 (some FieldType.int)) := C
  obtain ⟨hx, hb, hml, hown, hts, hK, hlk, hN⟩ := id C
  have hl : lv_has ls 2 [(0, .long x0)] := hl
  obtain ⟨Q, hQ⟩ : ∃ Q, Q = MQ below (qI D [] o A) ([.long x0] : List Value).toArray s 0 0 A := ⟨_, rfl⟩
  rw [← hQ]
  refine lv_lload_n hx hb d_Jlong_bitCount_0 rfl (lv_at hl 0 rfl) ?_
  refine lv_lload_n hx hb d_Jlong_bitCount_1 rfl (lv_at hl 0 rfl) ?_
  refine lv_iconst (v := 1) hx hb d_Jlong_bitCount_2 (by decide) ?_
  refine lv_lushr hx hb d_Jlong_bitCount_3 rfl ?_
  refine lv_ldc2 (v := 6148914691236517205) hx hb hown (hts _ (List.mem_cons_of_mem _ (qc_Jlong_314))) d_Jlong_bitCount_4 ?_
  refine lv_land hx hb d_Jlong_bitCount_7 ?_
  refine lv_lsub hx hb d_Jlong_bitCount_8 ?_
  refine lv_lstore_n (lv' := [(0, .long (x0 - (((Int64.toUInt64 x0 >>> ((Int32.toInt64 1).toUInt64 &&& Int64.toUInt64 63)).toInt64) &&& (6148914691236517205 : Int64))))]) hx hb d_Jlong_bitCount_9 rfl hl (by decide) rfl (fun ls hl => ?_)
  refine lv_lload_n hx hb d_Jlong_bitCount_10 rfl (lv_at hl 0 rfl) ?_
  refine lv_ldc2 (v := 3689348814741910323) hx hb hown (hts _ (List.mem_cons_of_mem _ (qc_Jlong_316))) d_Jlong_bitCount_11 ?_
  refine lv_land hx hb d_Jlong_bitCount_14 ?_
  refine lv_lload_n hx hb d_Jlong_bitCount_15 rfl (lv_at hl 0 rfl) ?_
  refine lv_iconst (v := 2) hx hb d_Jlong_bitCount_16 (by decide) ?_
  refine lv_lushr hx hb d_Jlong_bitCount_17 rfl ?_
  refine lv_ldc2 (v := 3689348814741910323) hx hb hown (hts _ (List.mem_cons_of_mem _ (qc_Jlong_316))) d_Jlong_bitCount_18 ?_
  refine lv_land hx hb d_Jlong_bitCount_21 ?_
  refine lv_ladd hx hb d_Jlong_bitCount_22 ?_
  refine lv_lstore_n (lv' := [(0, .long (((x0 - (((Int64.toUInt64 x0 >>> ((Int32.toInt64 1).toUInt64 &&& Int64.toUInt64 63)).toInt64) &&& (6148914691236517205 : Int64))) &&& (3689348814741910323 : Int64)) + (((Int64.toUInt64 (x0 - (((Int64.toUInt64 x0 >>> ((Int32.toInt64 1).toUInt64 &&& Int64.toUInt64 63)).toInt64) &&& (6148914691236517205 : Int64))) >>> ((Int32.toInt64 2).toUInt64 &&& Int64.toUInt64 63)).toInt64) &&& (3689348814741910323 : Int64))))]) hx hb d_Jlong_bitCount_23 rfl hl (by decide) rfl (fun ls hl => ?_)
  refine lv_lload_n hx hb d_Jlong_bitCount_24 rfl (lv_at hl 0 rfl) ?_
  refine lv_lload_n hx hb d_Jlong_bitCount_25 rfl (lv_at hl 0 rfl) ?_
  refine lv_iconst (v := 4) hx hb d_Jlong_bitCount_26 (by decide) ?_
  refine lv_lushr hx hb d_Jlong_bitCount_27 rfl ?_
  refine lv_ladd hx hb d_Jlong_bitCount_28 ?_
  refine lv_ldc2 (v := 1085102592571150095) hx hb hown (hts _ (List.mem_cons_of_mem _ (qc_Jlong_318))) d_Jlong_bitCount_29 ?_
  refine lv_land hx hb d_Jlong_bitCount_32 ?_
  refine lv_lstore_n (lv' := [(0, .long (((((x0 - (((Int64.toUInt64 x0 >>> ((Int32.toInt64 1).toUInt64 &&& Int64.toUInt64 63)).toInt64) &&& (6148914691236517205 : Int64))) &&& (3689348814741910323 : Int64)) + (((Int64.toUInt64 (x0 - (((Int64.toUInt64 x0 >>> ((Int32.toInt64 1).toUInt64 &&& Int64.toUInt64 63)).toInt64) &&& (6148914691236517205 : Int64))) >>> ((Int32.toInt64 2).toUInt64 &&& Int64.toUInt64 63)).toInt64) &&& (3689348814741910323 : Int64))) + ((Int64.toUInt64 (((x0 - (((Int64.toUInt64 x0 >>> ((Int32.toInt64 1).toUInt64 &&& Int64.toUInt64 63)).toInt64) &&& (6148914691236517205 : Int64))) &&& (3689348814741910323 : Int64)) + (((Int64.toUInt64 (x0 - (((Int64.toUInt64 x0 >>> ((Int32.toInt64 1).toUInt64 &&& Int64.toUInt64 63)).toInt64) &&& (6148914691236517205 : Int64))) >>> ((Int32.toInt64 2).toUInt64 &&& Int64.toUInt64 63)).toInt64) &&& (3689348814741910323 : Int64))) >>> ((Int32.toInt64 4).toUInt64 &&& Int64.toUInt64 63)).toInt64)) &&& (1085102592571150095 : Int64)))]) hx hb d_Jlong_bitCount_33 rfl hl (by decide) rfl (fun ls hl => ?_)
  refine lv_lload_n hx hb d_Jlong_bitCount_34 rfl (lv_at hl 0 rfl) ?_
  refine lv_lload_n hx hb d_Jlong_bitCount_35 rfl (lv_at hl 0 rfl) ?_
  refine lv_bipush (v := 8) hx hb d_Jlong_bitCount_36 (by decide) ?_
  refine lv_lushr hx hb d_Jlong_bitCount_38 rfl ?_
  refine lv_ladd hx hb d_Jlong_bitCount_39 ?_
  refine lv_lstore_n (lv' := [(0, .long ((((((x0 - (((Int64.toUInt64 x0 >>> ((Int32.toInt64 1).toUInt64 &&& Int64.toUInt64 63)).toInt64) &&& (6148914691236517205 : Int64))) &&& (3689348814741910323 : Int64)) + (((Int64.toUInt64 (x0 - (((Int64.toUInt64 x0 >>> ((Int32.toInt64 1).toUInt64 &&& Int64.toUInt64 63)).toInt64) &&& (6148914691236517205 : Int64))) >>> ((Int32.toInt64 2).toUInt64 &&& Int64.toUInt64 63)).toInt64) &&& (3689348814741910323 : Int64))) + ((Int64.toUInt64 (((x0 - (((Int64.toUInt64 x0 >>> ((Int32.toInt64 1).toUInt64 &&& Int64.toUInt64 63)).toInt64) &&& (6148914691236517205 : Int64))) &&& (3689348814741910323 : Int64)) + (((Int64.toUInt64 (x0 - (((Int64.toUInt64 x0 >>> ((Int32.toInt64 1).toUInt64 &&& Int64.toUInt64 63)).toInt64) &&& (6148914691236517205 : Int64))) >>> ((Int32.toInt64 2).toUInt64 &&& Int64.toUInt64 63)).toInt64) &&& (3689348814741910323 : Int64))) >>> ((Int32.toInt64 4).toUInt64 &&& Int64.toUInt64 63)).toInt64)) &&& (1085102592571150095 : Int64)) + ((Int64.toUInt64 (((((x0 - (((Int64.toUInt64 x0 >>> ((Int32.toInt64 1).toUInt64 &&& Int64.toUInt64 63)).toInt64) &&& (6148914691236517205 : Int64))) &&& (3689348814741910323 : Int64)) + (((Int64.toUInt64 (x0 - (((Int64.toUInt64 x0 >>> ((Int32.toInt64 1).toUInt64 &&& Int64.toUInt64 63)).toInt64) &&& (6148914691236517205 : Int64))) >>> ((Int32.toInt64 2).toUInt64 &&& Int64.toUInt64 63)).toInt64) &&& (3689348814741910323 : Int64))) + ((Int64.toUInt64 (((x0 - (((Int64.toUInt64 x0 >>> ((Int32.toInt64 1).toUInt64 &&& Int64.toUInt64 63)).toInt64) &&& (6148914691236517205 : Int64))) &&& (3689348814741910323 : Int64)) + (((Int64.toUInt64 (x0 - (((Int64.toUInt64 x0 >>> ((Int32.toInt64 1).toUInt64 &&& Int64.toUInt64 63)).toInt64) &&& (6148914691236517205 : Int64))) >>> ((Int32.toInt64 2).toUInt64 &&& Int64.toUInt64 63)).toInt64) &&& (3689348814741910323 : Int64))) >>> ((Int32.toInt64 4).toUInt64 &&& Int64.toUInt64 63)).toInt64)) &&& (1085102592571150095 : Int64)) >>> ((Int32.toInt64 8).toUInt64 &&& Int64.toUInt64 63)).toInt64)))]) hx hb d_Jlong_bitCount_40 rfl hl (by decide) rfl (fun ls hl => ?_)
  refine lv_lload_n hx hb d_Jlong_bitCount_41 rfl (lv_at hl 0 rfl) ?_
  refine lv_lload_n hx hb d_Jlong_bitCount_42 rfl (lv_at hl 0 rfl) ?_
  refine lv_bipush (v := 16) hx hb d_Jlong_bitCount_43 (by decide) ?_
  refine lv_lushr hx hb d_Jlong_bitCount_45 rfl ?_
  refine lv_ladd hx hb d_Jlong_bitCount_46 ?_
  refine lv_lstore_n (lv' := [(0, .long (((((((x0 - (((Int64.toUInt64 x0 >>> ((Int32.toInt64 1).toUInt64 &&& Int64.toUInt64 63)).toInt64) &&& (6148914691236517205 : Int64))) &&& (3689348814741910323 : Int64)) + (((Int64.toUInt64 (x0 - (((Int64.toUInt64 x0 >>> ((Int32.toInt64 1).toUInt64 &&& Int64.toUInt64 63)).toInt64) &&& (6148914691236517205 : Int64))) >>> ((Int32.toInt64 2).toUInt64 &&& Int64.toUInt64 63)).toInt64) &&& (3689348814741910323 : Int64))) + ((Int64.toUInt64 (((x0 - (((Int64.toUInt64 x0 >>> ((Int32.toInt64 1).toUInt64 &&& Int64.toUInt64 63)).toInt64) &&& (6148914691236517205 : Int64))) &&& (3689348814741910323 : Int64)) + (((Int64.toUInt64 (x0 - (((Int64.toUInt64 x0 >>> ((Int32.toInt64 1).toUInt64 &&& Int64.toUInt64 63)).toInt64) &&& (6148914691236517205 : Int64))) >>> ((Int32.toInt64 2).toUInt64 &&& Int64.toUInt64 63)).toInt64) &&& (3689348814741910323 : Int64))) >>> ((Int32.toInt64 4).toUInt64 &&& Int64.toUInt64 63)).toInt64)) &&& (1085102592571150095 : Int64)) + ((Int64.toUInt64 (((((x0 - (((Int64.toUInt64 x0 >>> ((Int32.toInt64 1).toUInt64 &&& Int64.toUInt64 63)).toInt64) &&& (6148914691236517205 : Int64))) &&& (3689348814741910323 : Int64)) + (((Int64.toUInt64 (x0 - (((Int64.toUInt64 x0 >>> ((Int32.toInt64 1).toUInt64 &&& Int64.toUInt64 63)).toInt64) &&& (6148914691236517205 : Int64))) >>> ((Int32.toInt64 2).toUInt64 &&& Int64.toUInt64 63)).toInt64) &&& (3689348814741910323 : Int64))) + ((Int64.toUInt64 (((x0 - (((Int64.toUInt64 x0 >>> ((Int32.toInt64 1).toUInt64 &&& Int64.toUInt64 63)).toInt64) &&& (6148914691236517205 : Int64))) &&& (3689348814741910323 : Int64)) + (((Int64.toUInt64 (x0 - (((Int64.toUInt64 x0 >>> ((Int32.toInt64 1).toUInt64 &&& Int64.toUInt64 63)).toInt64) &&& (6148914691236517205 : Int64))) >>> ((Int32.toInt64 2).toUInt64 &&& Int64.toUInt64 63)).toInt64) &&& (3689348814741910323 : Int64))) >>> ((Int32.toInt64 4).toUInt64 &&& Int64.toUInt64 63)).toInt64)) &&& (1085102592571150095 : Int64)) >>> ((Int32.toInt64 8).toUInt64 &&& Int64.toUInt64 63)).toInt64)) + ((Int64.toUInt64 ((((((x0 - (((Int64.toUInt64 x0 >>> ((Int32.toInt64 1).toUInt64 &&& Int64.toUInt64 63)).toInt64) &&& (6148914691236517205 : Int64))) &&& (3689348814741910323 : Int64)) + (((Int64.toUInt64 (x0 - (((Int64.toUInt64 x0 >>> ((Int32.toInt64 1).toUInt64 &&& Int64.toUInt64 63)).toInt64) &&& (6148914691236517205 : Int64))) >>> ((Int32.toInt64 2).toUInt64 &&& Int64.toUInt64 63)).toInt64) &&& (3689348814741910323 : Int64))) + ((Int64.toUInt64 (((x0 - (((Int64.toUInt64 x0 >>> ((Int32.toInt64 1).toUInt64 &&& Int64.toUInt64 63)).toInt64) &&& (6148914691236517205 : Int64))) &&& (3689348814741910323 : Int64)) + (((Int64.toUInt64 (x0 - (((Int64.toUInt64 x0 >>> ((Int32.toInt64 1).toUInt64 &&& Int64.toUInt64 63)).toInt64) &&& (6148914691236517205 : Int64))) >>> ((Int32.toInt64 2).toUInt64 &&& Int64.toUInt64 63)).toInt64) &&& (3689348814741910323 : Int64))) >>> ((Int32.toInt64 4).toUInt64 &&& Int64.toUInt64 63)).toInt64)) &&& (1085102592571150095 : Int64)) + ((Int64.toUInt64 (((((x0 - (((Int64.toUInt64 x0 >>> ((Int32.toInt64 1).toUInt64 &&& Int64.toUInt64 63)).toInt64) &&& (6148914691236517205 : Int64))) &&& (3689348814741910323 : Int64)) + (((Int64.toUInt64 (x0 - (((Int64.toUInt64 x0 >>> ((Int32.toInt64 1).toUInt64 &&& Int64.toUInt64 63)).toInt64) &&& (6148914691236517205 : Int64))) >>> ((Int32.toInt64 2).toUInt64 &&& Int64.toUInt64 63)).toInt64) &&& (3689348814741910323 : Int64))) + ((Int64.toUInt64 (((x0 - (((Int64.toUInt64 x0 >>> ((Int32.toInt64 1).toUInt64 &&& Int64.toUInt64 63)).toInt64) &&& (6148914691236517205 : Int64))) &&& (3689348814741910323 : Int64)) + (((Int64.toUInt64 (x0 - (((Int64.toUInt64 x0 >>> ((Int32.toInt64 1).toUInt64 &&& Int64.toUInt64 63)).toInt64) &&& (6148914691236517205 : Int64))) >>> ((Int32.toInt64 2).toUInt64 &&& Int64.toUInt64 63)).toInt64) &&& (3689348814741910323 : Int64))) >>> ((Int32.toInt64 4).toUInt64 &&& Int64.toUInt64 63)).toInt64)) &&& (1085102592571150095 : Int64)) >>> ((Int32.toInt64 8).toUInt64 &&& Int64.toUInt64 63)).toInt64)) >>> ((Int32.toInt64 16).toUInt64 &&& Int64.toUInt64 63)).toInt64)))]) hx hb d_Jlong_bitCount_47 rfl hl (by decide) rfl (fun ls hl => ?_)
  refine lv_lload_n hx hb d_Jlong_bitCount_48 rfl (lv_at hl 0 rfl) ?_
  refine lv_lload_n hx hb d_Jlong_bitCount_49 rfl (lv_at hl 0 rfl) ?_
  refine lv_bipush (v := 32) hx hb d_Jlong_bitCount_50 (by decide) ?_
  refine lv_lushr hx hb d_Jlong_bitCount_52 rfl ?_
  refine lv_ladd hx hb d_Jlong_bitCount_53 ?_
  refine lv_lstore_n (lv' := [(0, .long ((((((((x0 - (((Int64.toUInt64 x0 >>> ((Int32.toInt64 1).toUInt64 &&& Int64.toUInt64 63)).toInt64) &&& (6148914691236517205 : Int64))) &&& (3689348814741910323 : Int64)) + (((Int64.toUInt64 (x0 - (((Int64.toUInt64 x0 >>> ((Int32.toInt64 1).toUInt64 &&& Int64.toUInt64 63)).toInt64) &&& (6148914691236517205 : Int64))) >>> ((Int32.toInt64 2).toUInt64 &&& Int64.toUInt64 63)).toInt64) &&& (3689348814741910323 : Int64))) + ((Int64.toUInt64 (((x0 - (((Int64.toUInt64 x0 >>> ((Int32.toInt64 1).toUInt64 &&& Int64.toUInt64 63)).toInt64) &&& (6148914691236517205 : Int64))) &&& (3689348814741910323 : Int64)) + (((Int64.toUInt64 (x0 - (((Int64.toUInt64 x0 >>> ((Int32.toInt64 1).toUInt64 &&& Int64.toUInt64 63)).toInt64) &&& (6148914691236517205 : Int64))) >>> ((Int32.toInt64 2).toUInt64 &&& Int64.toUInt64 63)).toInt64) &&& (3689348814741910323 : Int64))) >>> ((Int32.toInt64 4).toUInt64 &&& Int64.toUInt64 63)).toInt64)) &&& (1085102592571150095 : Int64)) + ((Int64.toUInt64 (((((x0 - (((Int64.toUInt64 x0 >>> ((Int32.toInt64 1).toUInt64 &&& Int64.toUInt64 63)).toInt64) &&& (6148914691236517205 : Int64))) &&& (3689348814741910323 : Int64)) + (((Int64.toUInt64 (x0 - (((Int64.toUInt64 x0 >>> ((Int32.toInt64 1).toUInt64 &&& Int64.toUInt64 63)).toInt64) &&& (6148914691236517205 : Int64))) >>> ((Int32.toInt64 2).toUInt64 &&& Int64.toUInt64 63)).toInt64) &&& (3689348814741910323 : Int64))) + ((Int64.toUInt64 (((x0 - (((Int64.toUInt64 x0 >>> ((Int32.toInt64 1).toUInt64 &&& Int64.toUInt64 63)).toInt64) &&& (6148914691236517205 : Int64))) &&& (3689348814741910323 : Int64)) + (((Int64.toUInt64 (x0 - (((Int64.toUInt64 x0 >>> ((Int32.toInt64 1).toUInt64 &&& Int64.toUInt64 63)).toInt64) &&& (6148914691236517205 : Int64))) >>> ((Int32.toInt64 2).toUInt64 &&& Int64.toUInt64 63)).toInt64) &&& (3689348814741910323 : Int64))) >>> ((Int32.toInt64 4).toUInt64 &&& Int64.toUInt64 63)).toInt64)) &&& (1085102592571150095 : Int64)) >>> ((Int32.toInt64 8).toUInt64 &&& Int64.toUInt64 63)).toInt64)) + ((Int64.toUInt64 ((((((x0 - (((Int64.toUInt64 x0 >>> ((Int32.toInt64 1).toUInt64 &&& Int64.toUInt64 63)).toInt64) &&& (6148914691236517205 : Int64))) &&& (3689348814741910323 : Int64)) + (((Int64.toUInt64 (x0 - (((Int64.toUInt64 x0 >>> ((Int32.toInt64 1).toUInt64 &&& Int64.toUInt64 63)).toInt64) &&& (6148914691236517205 : Int64))) >>> ((Int32.toInt64 2).toUInt64 &&& Int64.toUInt64 63)).toInt64) &&& (3689348814741910323 : Int64))) + ((Int64.toUInt64 (((x0 - (((Int64.toUInt64 x0 >>> ((Int32.toInt64 1).toUInt64 &&& Int64.toUInt64 63)).toInt64) &&& (6148914691236517205 : Int64))) &&& (3689348814741910323 : Int64)) + (((Int64.toUInt64 (x0 - (((Int64.toUInt64 x0 >>> ((Int32.toInt64 1).toUInt64 &&& Int64.toUInt64 63)).toInt64) &&& (6148914691236517205 : Int64))) >>> ((Int32.toInt64 2).toUInt64 &&& Int64.toUInt64 63)).toInt64) &&& (3689348814741910323 : Int64))) >>> ((Int32.toInt64 4).toUInt64 &&& Int64.toUInt64 63)).toInt64)) &&& (1085102592571150095 : Int64)) + ((Int64.toUInt64 (((((x0 - (((Int64.toUInt64 x0 >>> ((Int32.toInt64 1).toUInt64 &&& Int64.toUInt64 63)).toInt64) &&& (6148914691236517205 : Int64))) &&& (3689348814741910323 : Int64)) + (((Int64.toUInt64 (x0 - (((Int64.toUInt64 x0 >>> ((Int32.toInt64 1).toUInt64 &&& Int64.toUInt64 63)).toInt64) &&& (6148914691236517205 : Int64))) >>> ((Int32.toInt64 2).toUInt64 &&& Int64.toUInt64 63)).toInt64) &&& (3689348814741910323 : Int64))) + ((Int64.toUInt64 (((x0 - (((Int64.toUInt64 x0 >>> ((Int32.toInt64 1).toUInt64 &&& Int64.toUInt64 63)).toInt64) &&& (6148914691236517205 : Int64))) &&& (3689348814741910323 : Int64)) + (((Int64.toUInt64 (x0 - (((Int64.toUInt64 x0 >>> ((Int32.toInt64 1).toUInt64 &&& Int64.toUInt64 63)).toInt64) &&& (6148914691236517205 : Int64))) >>> ((Int32.toInt64 2).toUInt64 &&& Int64.toUInt64 63)).toInt64) &&& (3689348814741910323 : Int64))) >>> ((Int32.toInt64 4).toUInt64 &&& Int64.toUInt64 63)).toInt64)) &&& (1085102592571150095 : Int64)) >>> ((Int32.toInt64 8).toUInt64 &&& Int64.toUInt64 63)).toInt64)) >>> ((Int32.toInt64 16).toUInt64 &&& Int64.toUInt64 63)).toInt64)) + ((Int64.toUInt64 (((((((x0 - (((Int64.toUInt64 x0 >>> ((Int32.toInt64 1).toUInt64 &&& Int64.toUInt64 63)).toInt64) &&& (6148914691236517205 : Int64))) &&& (3689348814741910323 : Int64)) + (((Int64.toUInt64 (x0 - (((Int64.toUInt64 x0 >>> ((Int32.toInt64 1).toUInt64 &&& Int64.toUInt64 63)).toInt64) &&& (6148914691236517205 : Int64))) >>> ((Int32.toInt64 2).toUInt64 &&& Int64.toUInt64 63)).toInt64) &&& (3689348814741910323 : Int64))) + ((Int64.toUInt64 (((x0 - (((Int64.toUInt64 x0 >>> ((Int32.toInt64 1).toUInt64 &&& Int64.toUInt64 63)).toInt64) &&& (6148914691236517205 : Int64))) &&& (3689348814741910323 : Int64)) + (((Int64.toUInt64 (x0 - (((Int64.toUInt64 x0 >>> ((Int32.toInt64 1).toUInt64 &&& Int64.toUInt64 63)).toInt64) &&& (6148914691236517205 : Int64))) >>> ((Int32.toInt64 2).toUInt64 &&& Int64.toUInt64 63)).toInt64) &&& (3689348814741910323 : Int64))) >>> ((Int32.toInt64 4).toUInt64 &&& Int64.toUInt64 63)).toInt64)) &&& (1085102592571150095 : Int64)) + ((Int64.toUInt64 (((((x0 - (((Int64.toUInt64 x0 >>> ((Int32.toInt64 1).toUInt64 &&& Int64.toUInt64 63)).toInt64) &&& (6148914691236517205 : Int64))) &&& (3689348814741910323 : Int64)) + (((Int64.toUInt64 (x0 - (((Int64.toUInt64 x0 >>> ((Int32.toInt64 1).toUInt64 &&& Int64.toUInt64 63)).toInt64) &&& (6148914691236517205 : Int64))) >>> ((Int32.toInt64 2).toUInt64 &&& Int64.toUInt64 63)).toInt64) &&& (3689348814741910323 : Int64))) + ((Int64.toUInt64 (((x0 - (((Int64.toUInt64 x0 >>> ((Int32.toInt64 1).toUInt64 &&& Int64.toUInt64 63)).toInt64) &&& (6148914691236517205 : Int64))) &&& (3689348814741910323 : Int64)) + (((Int64.toUInt64 (x0 - (((Int64.toUInt64 x0 >>> ((Int32.toInt64 1).toUInt64 &&& Int64.toUInt64 63)).toInt64) &&& (6148914691236517205 : Int64))) >>> ((Int32.toInt64 2).toUInt64 &&& Int64.toUInt64 63)).toInt64) &&& (3689348814741910323 : Int64))) >>> ((Int32.toInt64 4).toUInt64 &&& Int64.toUInt64 63)).toInt64)) &&& (1085102592571150095 : Int64)) >>> ((Int32.toInt64 8).toUInt64 &&& Int64.toUInt64 63)).toInt64)) + ((Int64.toUInt64 ((((((x0 - (((Int64.toUInt64 x0 >>> ((Int32.toInt64 1).toUInt64 &&& Int64.toUInt64 63)).toInt64) &&& (6148914691236517205 : Int64))) &&& (3689348814741910323 : Int64)) + (((Int64.toUInt64 (x0 - (((Int64.toUInt64 x0 >>> ((Int32.toInt64 1).toUInt64 &&& Int64.toUInt64 63)).toInt64) &&& (6148914691236517205 : Int64))) >>> ((Int32.toInt64 2).toUInt64 &&& Int64.toUInt64 63)).toInt64) &&& (3689348814741910323 : Int64))) + ((Int64.toUInt64 (((x0 - (((Int64.toUInt64 x0 >>> ((Int32.toInt64 1).toUInt64 &&& Int64.toUInt64 63)).toInt64) &&& (6148914691236517205 : Int64))) &&& (3689348814741910323 : Int64)) + (((Int64.toUInt64 (x0 - (((Int64.toUInt64 x0 >>> ((Int32.toInt64 1).toUInt64 &&& Int64.toUInt64 63)).toInt64) &&& (6148914691236517205 : Int64))) >>> ((Int32.toInt64 2).toUInt64 &&& Int64.toUInt64 63)).toInt64) &&& (3689348814741910323 : Int64))) >>> ((Int32.toInt64 4).toUInt64 &&& Int64.toUInt64 63)).toInt64)) &&& (1085102592571150095 : Int64)) + ((Int64.toUInt64 (((((x0 - (((Int64.toUInt64 x0 >>> ((Int32.toInt64 1).toUInt64 &&& Int64.toUInt64 63)).toInt64) &&& (6148914691236517205 : Int64))) &&& (3689348814741910323 : Int64)) + (((Int64.toUInt64 (x0 - (((Int64.toUInt64 x0 >>> ((Int32.toInt64 1).toUInt64 &&& Int64.toUInt64 63)).toInt64) &&& (6148914691236517205 : Int64))) >>> ((Int32.toInt64 2).toUInt64 &&& Int64.toUInt64 63)).toInt64) &&& (3689348814741910323 : Int64))) + ((Int64.toUInt64 (((x0 - (((Int64.toUInt64 x0 >>> ((Int32.toInt64 1).toUInt64 &&& Int64.toUInt64 63)).toInt64) &&& (6148914691236517205 : Int64))) &&& (3689348814741910323 : Int64)) + (((Int64.toUInt64 (x0 - (((Int64.toUInt64 x0 >>> ((Int32.toInt64 1).toUInt64 &&& Int64.toUInt64 63)).toInt64) &&& (6148914691236517205 : Int64))) >>> ((Int32.toInt64 2).toUInt64 &&& Int64.toUInt64 63)).toInt64) &&& (3689348814741910323 : Int64))) >>> ((Int32.toInt64 4).toUInt64 &&& Int64.toUInt64 63)).toInt64)) &&& (1085102592571150095 : Int64)) >>> ((Int32.toInt64 8).toUInt64 &&& Int64.toUInt64 63)).toInt64)) >>> ((Int32.toInt64 16).toUInt64 &&& Int64.toUInt64 63)).toInt64)) >>> ((Int32.toInt64 32).toUInt64 &&& Int64.toUInt64 63)).toInt64)))]) hx hb d_Jlong_bitCount_54 rfl hl (by decide) rfl (fun ls hl => ?_)
  refine lv_lload_n hx hb d_Jlong_bitCount_55 rfl (lv_at hl 0 rfl) ?_
  refine lv_l2i hx hb d_Jlong_bitCount_56 rfl ?_
  refine lv_bipush (v := 127) hx hb d_Jlong_bitCount_57 (by decide) ?_
  refine lv_iand hx hb d_Jlong_bitCount_59 ?_
  obtain rfl := Option.some.inj hr
  rw [hQ]; exact k_iret C hret hW d_Jlong_bitCount_60
def w_Sta_hasDay (cI : ClassId) (a_r0 : Nat) (v_r0_weights v_r0_kinds v_r0_figures v_r0_goes v_r0_things v_r0_hampers v_r0_fields v_r0_done : Value) (r0_days : Int32) : va_W := [(a_r0, .inr (1, [v_r0_weights, v_r0_kinds, v_r0_figures, v_r0_goes, v_r0_things, v_r0_hampers, .int r0_days, v_r0_fields, v_r0_done]))]
def F_Sta_hasDay (r0_days : Int32) (x1 : Int32) : Option (Int32) :=
  (if x1 < 0 then (some 0) else (if r0_days ≤ x1 then (some 0) else (if (8 : Int32) ≤ x1 then (some 0) else (some 1))))
set_option maxHeartbeats 4000000 in
set_option maxRecDepth 100000 in
theorem C_Sta_hasDay (l : Launch) (D : va_G) (cI cS : ClassId) (a_r0 : Nat) (v_r0_weights v_r0_kinds v_r0_figures v_r0_goes v_r0_things v_r0_hampers v_r0_fields v_r0_done : Value) (r0_days : Int32) (x1 : Int32) (o : Int32) (hr : F_Sta_hasDay r0_days x1 = some o) : ctI l y_Sta_hasDay (Cond.code y_Sta_hasDay b_Sta_hasDay 2 (some FieldType.boolean)) (rmd 0) D (kTy cI cS) [.ref a_r0, .int x1] (w_Sta_hasDay cI a_r0 v_r0_weights v_r0_kinds v_r0_figures v_r0_goes v_r0_things v_r0_hampers v_r0_fields v_r0_done r0_days) (w_Sta_hasDay cI a_r0 v_r0_weights v_r0_kinds v_r0_figures v_r0_goes v_r0_things v_r0_hampers v_r0_fields v_r0_done r0_days) o := by
  unfold F_Sta_hasDay at hr
  refine ⟨rfl, fun sz => ct_of (w0 := (w_Sta_hasDay cI a_r0 v_r0_weights v_r0_kinds v_r0_figures v_r0_goes v_r0_things v_r0_hampers v_r0_fields v_r0_done r0_days)) (Qc := fun A => qI D (w_Sta_hasDay cI a_r0 v_r0_weights v_r0_kinds v_r0_figures v_r0_goes v_r0_things v_r0_hampers v_r0_fields v_r0_done r0_days) o A) rfl (Nat.le_of_ble_eq_true rfl) ?_ sz⟩
  intro p e s m below meth c A hA C hret ls hl hW
  have C : cx p s m ([.ref a_r0, .int x1] : List Value).toArray meth c b_Sta_hasDay 2 R_Sta D (kTy cI cS) (Cond.code y_Sta_hasDay b_Sta_hasDay 2 (some FieldType.boolean)) := C
  obtain ⟨hx, hb, hml, hown, hts, hK, hlk, hN⟩ := id C
  have hl : lv_has ls 2 [(0, .ref a_r0), (1, .int x1)] := hl
  obtain ⟨Q, hQ⟩ : ∃ Q, Q = MQ below (qI D (w_Sta_hasDay cI a_r0 v_r0_weights v_r0_kinds v_r0_figures v_r0_goes v_r0_things v_r0_hampers v_r0_fields v_r0_done r0_days) o A) ([.ref a_r0, .int x1] : List Value).toArray s 0 0 A := ⟨_, rfl⟩
  rw [← hQ]
  refine lv_iload_n hx hb d_Sta_hasDay_0 rfl (lv_at hl 1 rfl) ?_
  refine lv_if_lt (tgt := 22) hx hb d_Sta_hasDay_1 (by decide) (fun c_1 => ?_) (fun c_1 => ?_)
  · replace hr := ip c_1 hr
    refine lv_iconst (v := 0) hx hb d_Sta_hasDay_22 (by decide) ?_
    obtain rfl := Option.some.inj hr
    rw [hQ]; exact k_zret C hret nar0 hW d_Sta_hasDay_23
  · replace hr := iN c_1 hr
    refine lv_iload_n hx hb d_Sta_hasDay_4 rfl (lv_at hl 1 rfl) ?_
    refine lv_aload_n hx hb d_Sta_hasDay_5 rfl (lv_at hl 0 rfl) ?_
    refine k_get i_Sta C hW 0 rfl rfl 6 (by decide) qf_Sta_47 rfl rfl d_Sta_hasDay_6 ?_
    refine lv_icmp_ge (tgt := 22) hx hb d_Sta_hasDay_9 (by decide) (fun c_2 => ?_) (fun c_2 => ?_)
    · replace hr := ip c_2 hr
      refine lv_iconst (v := 0) hx hb d_Sta_hasDay_22 (by decide) ?_
      obtain rfl := Option.some.inj hr
      rw [hQ]; exact k_zret C hret nar0 hW d_Sta_hasDay_23
    · replace hr := iN c_2 hr
      refine lv_iload_n hx hb d_Sta_hasDay_12 rfl (lv_at hl 1 rfl) ?_
      refine lv_bipush (v := 8) hx hb d_Sta_hasDay_13 (by decide) ?_
      refine lv_icmp_ge (tgt := 22) hx hb d_Sta_hasDay_15 (by decide) (fun c_3 => ?_) (fun c_3 => ?_)
      · replace hr := ip c_3 hr
        refine lv_iconst (v := 0) hx hb d_Sta_hasDay_22 (by decide) ?_
        obtain rfl := Option.some.inj hr
        rw [hQ]; exact k_zret C hret nar0 hW d_Sta_hasDay_23
      · replace hr := iN c_3 hr
        refine lv_iconst (v := 1) hx hb d_Sta_hasDay_18 (by decide) ?_
        refine lv_goto (tgt := 23) hx hb d_Sta_hasDay_19 (by decide) ?_
        obtain rfl := Option.some.inj hr
        rw [hQ]; exact k_zret C hret nar1 hW d_Sta_hasDay_23
def w_Sta_hamperOf (cI : ClassId) (a_r0 : Nat) (a_r0_hampers : Nat) (v_r0_weights v_r0_kinds v_r0_figures v_r0_goes v_r0_things v_r0_fields v_r0_done : Value) (r0_days : Int32) (r0_hampers : Nat → Int32) : va_W := [(a_r0, .inr (1, [v_r0_weights, v_r0_kinds, v_r0_figures, v_r0_goes, v_r0_things, .ref a_r0_hampers, .int r0_days, v_r0_fields, v_r0_done])), (a_r0_hampers, .inl (cI, 8, .inl r0_hampers))]
def F_Sta_hamperOf (r0_days : Int32) (r0_hampers : Nat → Int32) (x1 : Int32) : Option (Int32) :=
  ((F_Sta_hasDay r0_days x1).bind (fun q_1 => (if q_1 = 0 then (some 0) else (ck x1 8 (some (r0_hampers (Int32.toNatClampNeg x1)))))))
set_option maxHeartbeats 4000000 in
set_option maxRecDepth 100000 in
theorem C_Sta_hamperOf (l : Launch) (D : va_G) (cI cS : ClassId) (a_r0 : Nat) (a_r0_hampers : Nat) (v_r0_weights v_r0_kinds v_r0_figures v_r0_goes v_r0_things v_r0_fields v_r0_done : Value) (r0_days : Int32) (r0_hampers : Nat → Int32) (x1 : Int32) (o : Int32) (hr : F_Sta_hamperOf r0_days r0_hampers x1 = some o) : ctI l y_Sta_hamperOf (Cond.code y_Sta_hamperOf b_Sta_hamperOf 2 (some FieldType.int)) (rmd 1) D (kTy cI cS) [.ref a_r0, .int x1] (w_Sta_hamperOf cI a_r0 a_r0_hampers v_r0_weights v_r0_kinds v_r0_figures v_r0_goes v_r0_things v_r0_fields v_r0_done r0_days r0_hampers) (w_Sta_hamperOf cI a_r0 a_r0_hampers v_r0_weights v_r0_kinds v_r0_figures v_r0_goes v_r0_things v_r0_fields v_r0_done r0_days r0_hampers) o := by
  unfold F_Sta_hamperOf at hr
  refine ⟨rfl, fun sz => ct_of (w0 := (w_Sta_hamperOf cI a_r0 a_r0_hampers v_r0_weights v_r0_kinds v_r0_figures v_r0_goes v_r0_things v_r0_fields v_r0_done r0_days r0_hampers)) (Qc := fun A => qI D (w_Sta_hamperOf cI a_r0 a_r0_hampers v_r0_weights v_r0_kinds v_r0_figures v_r0_goes v_r0_things v_r0_fields v_r0_done r0_days r0_hampers) o A) rfl (Nat.le_of_ble_eq_true rfl) ?_ sz⟩
  intro p e s m below meth c A hA C hret ls hl hW
  have C : cx p s m ([.ref a_r0, .int x1] : List Value).toArray meth c b_Sta_hamperOf 2 R_Sta D (kTy cI cS) (Cond.code y_Sta_hamperOf b_Sta_hamperOf 2 (some FieldType.int)) := C
  obtain ⟨hx, hb, hml, hown, hts, hK, hlk, hN⟩ := id C
  have hl : lv_has ls 2 [(0, .ref a_r0), (1, .int x1)] := hl
  obtain ⟨Q, hQ⟩ : ∃ Q, Q = MQ below (qI D (w_Sta_hamperOf cI a_r0 a_r0_hampers v_r0_weights v_r0_kinds v_r0_figures v_r0_goes v_r0_things v_r0_fields v_r0_done r0_days r0_hampers) o A) ([.ref a_r0, .int x1] : List Value).toArray s 0 0 A := ⟨_, rfl⟩
  rw [← hQ]
  refine lv_aload_n hx hb d_Sta_hamperOf_0 rfl (lv_at hl 0 rfl) ?_
  refine lv_iload_n hx hb d_Sta_hamperOf_1 rfl (lv_at hl 1 rfl) ?_
  obtain ⟨q_1, hc_1, hr⟩ := ob hr
  have ct_1 := C_Sta_hasDay l D cI cS a_r0 v_r0_weights v_r0_kinds v_r0_figures v_r0_goes v_r0_things (Value.ref a_r0_hampers) v_r0_fields v_r0_done r0_days x1 q_1 hc_1
  refine k_goIp hA hW [0] rfl rfl (k_runV C hA hW mw_Sta_hasDay mv_Sta_hasDay (ct_1.2 _) [0] rfl rfl 0 rfl rfl qm_Sta_65 ⟨Nat.le_of_ble_eq_true rfl, Nat.le_of_ble_eq_true rfl, Nat.zero_le _, Nat.zero_le _⟩ rfl rfl (Nat.le_of_ble_eq_true rfl) hl.1 d_Sta_hamperOf_2) (fun H locs hW => ?_)
  refine lv_if_eq (tgt := 17) hx hb d_Sta_hamperOf_5 (by decide) (fun c_2 => ?_) (fun c_2 => ?_)
  · replace hr := ip c_2 hr
    refine lv_iconst (v := 0) hx hb d_Sta_hamperOf_17 (by decide) ?_
    obtain rfl := Option.some.inj hr
    rw [hQ]; exact k_iret C hret hW d_Sta_hamperOf_18
  · replace hr := iN c_2 hr
    refine lv_aload_n hx hb d_Sta_hamperOf_8 rfl (lv_at hl 0 rfl) ?_
    refine k_get i_Sta C hW 0 rfl rfl 5 (by decide) qf_Sta_24 rfl rfl d_Sta_hamperOf_9 ?_
    refine lv_iload_n hx hb d_Sta_hamperOf_12 rfl (lv_at hl 1 rfl) ?_
    obtain ⟨h_3, hr⟩ := ck_some hr
    refine k_iald C hW 1 rfl h_3 d_Sta_hamperOf_13 ?_
    refine lv_goto (tgt := 18) hx hb d_Sta_hamperOf_14 (by decide) ?_
    obtain rfl := Option.some.inj hr
    rw [hQ]; exact k_iret C hret hW d_Sta_hamperOf_18
def F_H_holds (x0 : Int32) (x1 : Int32) : Option (Int32) :=
  (if x1 < 0 then (some 0) else (if (31 : Int32) ≤ x1 then (some 0) else (if (((x0 : Int32) >>> ((x1 : Int32) &&& 31)) &&& 1) = 1 then (some 1) else (some 0))))
set_option maxHeartbeats 4000000 in
set_option maxRecDepth 100000 in
theorem C_H_holds (l : Launch) (D : va_G) (cI cS : ClassId) (x0 : Int32) (x1 : Int32) (o : Int32) (hr : F_H_holds x0 x1 = some o) : ctI l y_H_holds (Cond.code y_H_holds b_H_holds 2 (some FieldType.boolean)) (rmd 0) D (kTy cI cS) [.int x0, .int x1] [] [] o := by
  unfold F_H_holds at hr
  refine ⟨rfl, fun sz => ct_of (w0 := []) (Qc := fun A => qI D [] o A) rfl (Nat.le_of_ble_eq_true rfl) ?_ sz⟩
  intro p e s m below meth c A hA C hret ls hl hW
  have C : cx p s m ([.int x0, .int x1] : List Value).toArray meth c b_H_holds 2 R_H D (kTy cI cS) (Cond.code y_H_holds b_H_holds 2 (some FieldType.boolean)) := C
  obtain ⟨hx, hb, hml, hown, hts, hK, hlk, hN⟩ := id C
  have hl : lv_has ls 2 [(0, .int x0), (1, .int x1)] := hl
  obtain ⟨Q, hQ⟩ : ∃ Q, Q = MQ below (qI D [] o A) ([.int x0, .int x1] : List Value).toArray s 0 0 A := ⟨_, rfl⟩
  rw [← hQ]
  refine lv_iload_n hx hb d_H_holds_0 rfl (lv_at hl 1 rfl) ?_
  refine lv_if_lt (tgt := 23) hx hb d_H_holds_1 (by decide) (fun c_1 => ?_) (fun c_1 => ?_)
  · replace hr := ip c_1 hr
    refine lv_iconst (v := 0) hx hb d_H_holds_23 (by decide) ?_
    obtain rfl := Option.some.inj hr
    rw [hQ]; exact k_zret C hret nar0 hW d_H_holds_24
  · replace hr := iN c_1 hr
    refine lv_iload_n hx hb d_H_holds_4 rfl (lv_at hl 1 rfl) ?_
    refine lv_bipush (v := 31) hx hb d_H_holds_5 (by decide) ?_
    refine lv_icmp_ge (tgt := 23) hx hb d_H_holds_7 (by decide) (fun c_2 => ?_) (fun c_2 => ?_)
    · replace hr := ip c_2 hr
      refine lv_iconst (v := 0) hx hb d_H_holds_23 (by decide) ?_
      obtain rfl := Option.some.inj hr
      rw [hQ]; exact k_zret C hret nar0 hW d_H_holds_24
    · replace hr := iN c_2 hr
      refine lv_iload_n hx hb d_H_holds_10 rfl (lv_at hl 0 rfl) ?_
      refine lv_iload_n hx hb d_H_holds_11 rfl (lv_at hl 1 rfl) ?_
      refine lv_ishr hx hb d_H_holds_12 ?_
      refine lv_iconst (v := 1) hx hb d_H_holds_13 (by decide) ?_
      refine lv_iand hx hb d_H_holds_14 ?_
      refine lv_iconst (v := 1) hx hb d_H_holds_15 (by decide) ?_
      refine lv_icmp_ne (tgt := 23) hx hb d_H_holds_16 (by decide) (fun c_3 => ?_) (fun c_3 => ?_)
      · replace hr := iN c_3 hr
        refine lv_iconst (v := 0) hx hb d_H_holds_23 (by decide) ?_
        obtain rfl := Option.some.inj hr
        rw [hQ]; exact k_zret C hret nar0 hW d_H_holds_24
      · replace hr := ip c_3 hr
        refine lv_iconst (v := 1) hx hb d_H_holds_19 (by decide) ?_
        refine lv_goto (tgt := 24) hx hb d_H_holds_20 (by decide) ?_
        obtain rfl := Option.some.inj hr
        rw [hQ]; exact k_zret C hret nar1 hW d_H_holds_24
def w_Sta_couldBe (cI : ClassId) (a_r0 : Nat) (a_r0_goes : Nat) (v_r0_weights v_r0_kinds v_r0_figures v_r0_things v_r0_hampers v_r0_days v_r0_fields v_r0_done : Value) (r0_goes : Nat → Int32) : va_W := [(a_r0, .inr (1, [v_r0_weights, v_r0_kinds, v_r0_figures, .ref a_r0_goes, v_r0_things, v_r0_hampers, v_r0_days, v_r0_fields, v_r0_done])), (a_r0_goes, .inl (cI, 8, .inl r0_goes))]
def F_Sta_couldBe_L5 (r0_goes : Nat → Int32) (x1 : Int32) (y2_1 : Int32) (y3_1 : Int32) : Option (((Int32) × (Int32)) ⊕ ((Int32))) :=
  (if (8 : Int32) ≤ y3_1 then (some (.inr y2_1)) else ((F_H_holds x1 y3_1).bind (fun q_3 => (if q_3 = 0 then (some (.inl (y2_1, (y3_1 + 1)))) else (ck y3_1 8 (some (.inl ((y2_1 &&& (r0_goes (Int32.toNatClampNeg y3_1))), (y3_1 + 1)))))))))
def F_Sta_couldBe (r0_goes : Nat → Int32) (x1 : Int32) : Option (Int32) :=
  ((wh (fun (s : (Int32) × (Int32)) => F_Sta_couldBe_L5 r0_goes x1 s.1 s.2) 400 ((63 : Int32), (0 : Int32))).bind (fun e_1 => (some e_1)))
set_option maxHeartbeats 4000000 in
set_option maxRecDepth 100000 in
theorem C_Sta_couldBe (l : Launch) (D : va_G) (cI cS : ClassId) (a_r0 : Nat) (a_r0_goes : Nat) (v_r0_weights v_r0_kinds v_r0_figures v_r0_things v_r0_hampers v_r0_days v_r0_fields v_r0_done : Value) (r0_goes : Nat → Int32) (x1 : Int32) (o : Int32) (hr : F_Sta_couldBe r0_goes x1 = some o) : ctI l y_Sta_couldBe (Cond.code y_Sta_couldBe b_Sta_couldBe 4 (some FieldType.int)) (rmd 1) D (kTy cI cS) [.ref a_r0, .int x1] (w_Sta_couldBe cI a_r0 a_r0_goes v_r0_weights v_r0_kinds v_r0_figures v_r0_things v_r0_hampers v_r0_days v_r0_fields v_r0_done r0_goes) (w_Sta_couldBe cI a_r0 a_r0_goes v_r0_weights v_r0_kinds v_r0_figures v_r0_things v_r0_hampers v_r0_days v_r0_fields v_r0_done r0_goes) o := by
  unfold F_Sta_couldBe at hr
  refine ⟨rfl, fun sz => ct_of (w0 := (w_Sta_couldBe cI a_r0 a_r0_goes v_r0_weights v_r0_kinds v_r0_figures v_r0_things v_r0_hampers v_r0_days v_r0_fields v_r0_done r0_goes)) (Qc := fun A => qI D (w_Sta_couldBe cI a_r0 a_r0_goes v_r0_weights v_r0_kinds v_r0_figures v_r0_things v_r0_hampers v_r0_days v_r0_fields v_r0_done r0_goes) o A) rfl (Nat.le_of_ble_eq_true rfl) ?_ sz⟩
  intro p e s m below meth c A hA C hret ls hl hW
  have C : cx p s m ([.ref a_r0, .int x1] : List Value).toArray meth c b_Sta_couldBe 4 R_Sta D (kTy cI cS) (Cond.code y_Sta_couldBe b_Sta_couldBe 4 (some FieldType.int)) := C
  obtain ⟨hx, hb, hml, hown, hts, hK, hlk, hN⟩ := id C
  have hl : lv_has ls 4 [(0, .ref a_r0), (1, .int x1)] := hl
  obtain ⟨Q, hQ⟩ : ∃ Q, Q = MQ below (qI D (w_Sta_couldBe cI a_r0 a_r0_goes v_r0_weights v_r0_kinds v_r0_figures v_r0_things v_r0_hampers v_r0_days v_r0_fields v_r0_done r0_goes) o A) ([.ref a_r0, .int x1] : List Value).toArray s 0 0 A := ⟨_, rfl⟩
  rw [← hQ]
  refine lv_bipush (v := 63) hx hb d_Sta_couldBe_0 (by decide) ?_
  refine lv_istore_n (lv' := [(2, .int 63), (0, .ref a_r0), (1, .int x1)]) hx hb d_Sta_couldBe_2 rfl hl (by decide) rfl (fun ls hl => ?_)
  refine lv_iconst (v := 0) hx hb d_Sta_couldBe_3 (by decide) ?_
  refine lv_istore_n (lv' := [(3, .int 0), (2, .int 63), (0, .ref a_r0), (1, .int x1)]) hx hb d_Sta_couldBe_4 rfl hl (by decide) rfl (fun ls hl => ?_)
  obtain ⟨ex_1, hw_1, hk_1⟩ := ob hr
  have hx_1 : ∀ (e_1 : (Int32)), e_1 = ex_1 → ∀ (H : Heap) (locs : List Loc) (ls : Array Slot), wd A s.heap D (w_Sta_couldBe cI a_r0 a_r0_goes v_r0_weights v_r0_kinds v_r0_figures v_r0_things v_r0_hampers v_r0_days v_r0_fields v_r0_done r0_goes) H locs → lv_has ls 4 [(2, .int e_1)] → W p l e (rmd 1) s m ([.ref a_r0, .int x1] : List Value).toArray below meth c H locs 0 0 Q (F0 m 34 ls []) := by
    intro e_1 hE H locs ls hW hl
    subst hE; have hr := hk_1
    refine lv_iload_n hx hb d_Sta_couldBe_34 rfl (lv_at hl 0 rfl) ?_
    obtain rfl := Option.some.inj hr
    rw [hQ]; exact k_iret C hret hW d_Sta_couldBe_35
  have hl_1 : ∀ (k : Nat) (y2_1 : Int32) (y3_1 : Int32), wh (fun (s : (Int32) × (Int32)) => F_Sta_couldBe_L5 r0_goes x1 s.1 s.2) k (y2_1, y3_1) = some ex_1 → ∀ (H : Heap) (locs : List Loc) (ls : Array Slot), wd A s.heap D (w_Sta_couldBe cI a_r0 a_r0_goes v_r0_weights v_r0_kinds v_r0_figures v_r0_things v_r0_hampers v_r0_days v_r0_fields v_r0_done r0_goes) H locs → lv_has ls 4 [(0, .ref a_r0), (1, .int x1), (2, .int y2_1), (3, .int y3_1)] → W p l e (rmd 1) s m ([.ref a_r0, .int x1] : List Value).toArray below meth c H locs 0 0 Q (F0 m 5 ls []) := by
    intro k
    induction k with
    | zero => intro y2_1 y3_1 hw; exact absurd hw wh_0
    | succ k ih_1 =>
      intro y2_1 y3_1 hw H locs ls hW hl
      obtain ⟨z_1, hr, hz1_1, hz2_1⟩ := wh_s hw
      have hr : F_Sta_couldBe_L5 r0_goes x1 y2_1 y3_1 = some z_1 := hr
      unfold F_Sta_couldBe_L5 at hr
      refine lv_iload_n hx hb d_Sta_couldBe_5 rfl (lv_at hl 3 rfl) ?_
      refine lv_bipush (v := 8) hx hb d_Sta_couldBe_6 (by decide) ?_
      refine lv_icmp_ge (tgt := 34) hx hb d_Sta_couldBe_8 (by decide) (fun c_2 => ?_) (fun c_2 => ?_)
      · replace hr := ip c_2 hr
        exact hx_1 _ (hz2_1 _ (Option.some.inj hr).symm) _ _ _ hW (lv_sub hl [2] rfl)
      · replace hr := iN c_2 hr
        refine lv_iload_n hx hb d_Sta_couldBe_11 rfl (lv_at hl 1 rfl) ?_
        refine lv_iload_n hx hb d_Sta_couldBe_12 rfl (lv_at hl 3 rfl) ?_
        obtain ⟨q_3, hc_3, hr⟩ := ob hr
        have ct_3 := C_H_holds l D cI cS x1 y3_1 q_3 hc_3
        refine k_goIp hA hW [] rfl rfl (k_runSN C hA hW mw_H_holds ms_H_holds (ct_3.2 _) [] rfl rfl qm_Sta_77 ⟨Nat.le_of_ble_eq_true rfl, Nat.le_of_ble_eq_true rfl, Nat.zero_le _, Nat.zero_le _⟩ rfl rfl (Nat.le_of_ble_eq_true rfl) hl.1 d_Sta_couldBe_13) (fun H locs hW => ?_)
        refine lv_if_eq (tgt := 28) hx hb d_Sta_couldBe_16 (by decide) (fun c_4 => ?_) (fun c_4 => ?_)
        · replace hr := ip c_4 hr
          refine lv_iinc (v := (y3_1 + 1)) (lv' := [(3, .int (y3_1 + 1)), (0, .ref a_r0), (1, .int x1), (2, .int y2_1)]) hx hb d_Sta_couldBe_28 hl (k := 3) rfl rfl (by decide) rfl (fun ls hl => ?_)
          refine lv_goto (tgt := 5) hx hb d_Sta_couldBe_31 (by decide) ?_
          exact ih_1 y2_1 (y3_1 + 1) (hz1_1 _ (Option.some.inj hr).symm) _ _ _ hW (lv_sub hl [1, 2, 3, 0] rfl)
        · replace hr := iN c_4 hr
          refine lv_iload_n hx hb d_Sta_couldBe_19 rfl (lv_at hl 2 rfl) ?_
          refine lv_aload_n hx hb d_Sta_couldBe_20 rfl (lv_at hl 0 rfl) ?_
          refine k_get i_Sta C hW 0 rfl rfl 3 (by decide) qf_Sta_21 rfl rfl d_Sta_couldBe_21 ?_
          refine lv_iload_n hx hb d_Sta_couldBe_24 rfl (lv_at hl 3 rfl) ?_
          obtain ⟨h_5, hr⟩ := ck_some hr
          refine k_iald C hW 1 rfl h_5 d_Sta_couldBe_25 ?_
          refine lv_iand hx hb d_Sta_couldBe_26 ?_
          refine lv_istore_n (lv' := [(2, .int (y2_1 &&& (r0_goes (Int32.toNatClampNeg y3_1)))), (0, .ref a_r0), (1, .int x1), (3, .int y3_1)]) hx hb d_Sta_couldBe_27 rfl hl (by decide) rfl (fun ls hl => ?_)
          refine lv_iinc (v := (y3_1 + 1)) (lv' := [(3, .int (y3_1 + 1)), (2, .int (y2_1 &&& (r0_goes (Int32.toNatClampNeg y3_1)))), (0, .ref a_r0), (1, .int x1)]) hx hb d_Sta_couldBe_28 hl (k := 3) rfl rfl (by decide) rfl (fun ls hl => ?_)
          refine lv_goto (tgt := 5) hx hb d_Sta_couldBe_31 (by decide) ?_
          exact ih_1 (y2_1 &&& (r0_goes (Int32.toNatClampNeg y3_1))) (y3_1 + 1) (hz1_1 _ (Option.some.inj hr).symm) _ _ _ hW (lv_sub hl [2, 3, 1, 0] rfl)
  exact hl_1 _ 63 0 hw_1 _ _ _ hW (lv_sub hl [2, 3, 1, 0] rfl)
def w_Sta_likeliestOf (cI : ClassId) (a_r0 : Nat) (a_r0_weights : Nat) (v_r0_kinds v_r0_figures v_r0_goes v_r0_things v_r0_hampers v_r0_days v_r0_fields v_r0_done : Value) (r0_weights : Nat → Int32) : va_W := [(a_r0, .inr (1, [.ref a_r0_weights, v_r0_kinds, v_r0_figures, v_r0_goes, v_r0_things, v_r0_hampers, v_r0_days, v_r0_fields, v_r0_done])), (a_r0_weights, .inl (cI, 6, .inl r0_weights))]
def F_Sta_likeliestOf_L8 (r0_weights : Nat → Int32) (x1 : Int32) (y2_1 : Int32) (y3_1 : Int32) (y4_1 : Int32) : Option (((Int32) × (Int32) × (Int32)) ⊕ ((Int32))) :=
  (if (6 : Int32) ≤ y4_1 then (some (.inr y2_1)) else ((F_H_holds x1 y4_1).bind (fun q_3 => (if q_3 = 0 then (some (.inl (y2_1, y3_1, (y4_1 + 1)))) else (ck y4_1 6 (if (r0_weights (Int32.toNatClampNeg y4_1)) ≤ y3_1 then (some (.inl (y2_1, y3_1, (y4_1 + 1)))) else (ck y4_1 6 (some (.inl (y4_1, (r0_weights (Int32.toNatClampNeg y4_1)), (y4_1 + 1)))))))))))
def F_Sta_likeliestOf (r0_weights : Nat → Int32) (x1 : Int32) : Option (Int32) :=
  ((wh (fun (s : (Int32) × (Int32) × (Int32)) => F_Sta_likeliestOf_L8 r0_weights x1 s.1 s.2.1 s.2.2) 400 (((-9) : Int32), (0 : Int32), (0 : Int32))).bind (fun e_1 => (some e_1)))
set_option maxHeartbeats 4000000 in
set_option maxRecDepth 100000 in
theorem C_Sta_likeliestOf (l : Launch) (D : va_G) (cI cS : ClassId) (a_r0 : Nat) (a_r0_weights : Nat) (v_r0_kinds v_r0_figures v_r0_goes v_r0_things v_r0_hampers v_r0_days v_r0_fields v_r0_done : Value) (r0_weights : Nat → Int32) (x1 : Int32) (o : Int32) (hr : F_Sta_likeliestOf r0_weights x1 = some o) : ctI l y_Sta_likeliestOf (Cond.code y_Sta_likeliestOf b_Sta_likeliestOf 5 (some FieldType.int)) (rmd 1) D (kTy cI cS) [.ref a_r0, .int x1] (w_Sta_likeliestOf cI a_r0 a_r0_weights v_r0_kinds v_r0_figures v_r0_goes v_r0_things v_r0_hampers v_r0_days v_r0_fields v_r0_done r0_weights) (w_Sta_likeliestOf cI a_r0 a_r0_weights v_r0_kinds v_r0_figures v_r0_goes v_r0_things v_r0_hampers v_r0_days v_r0_fields v_r0_done r0_weights) o := by
  unfold F_Sta_likeliestOf at hr
  refine ⟨rfl, fun sz => ct_of (w0 := (w_Sta_likeliestOf cI a_r0 a_r0_weights v_r0_kinds v_r0_figures v_r0_goes v_r0_things v_r0_hampers v_r0_days v_r0_fields v_r0_done r0_weights)) (Qc := fun A => qI D (w_Sta_likeliestOf cI a_r0 a_r0_weights v_r0_kinds v_r0_figures v_r0_goes v_r0_things v_r0_hampers v_r0_days v_r0_fields v_r0_done r0_weights) o A) rfl (Nat.le_of_ble_eq_true rfl) ?_ sz⟩
  intro p e s m below meth c A hA C hret ls hl hW
  have C : cx p s m ([.ref a_r0, .int x1] : List Value).toArray meth c b_Sta_likeliestOf 5 R_Sta D (kTy cI cS) (Cond.code y_Sta_likeliestOf b_Sta_likeliestOf 5 (some FieldType.int)) := C
  obtain ⟨hx, hb, hml, hown, hts, hK, hlk, hN⟩ := id C
  have hl : lv_has ls 5 [(0, .ref a_r0), (1, .int x1)] := hl
  obtain ⟨Q, hQ⟩ : ∃ Q, Q = MQ below (qI D (w_Sta_likeliestOf cI a_r0 a_r0_weights v_r0_kinds v_r0_figures v_r0_goes v_r0_things v_r0_hampers v_r0_days v_r0_fields v_r0_done r0_weights) o A) ([.ref a_r0, .int x1] : List Value).toArray s 0 0 A := ⟨_, rfl⟩
  rw [← hQ]
  refine lv_bipush (v := (-9)) hx hb d_Sta_likeliestOf_0 (by decide) ?_
  refine lv_istore_n (lv' := [(2, .int (-9)), (0, .ref a_r0), (1, .int x1)]) hx hb d_Sta_likeliestOf_2 rfl hl (by decide) rfl (fun ls hl => ?_)
  refine lv_iconst (v := 0) hx hb d_Sta_likeliestOf_3 (by decide) ?_
  refine lv_istore_n (lv' := [(3, .int 0), (2, .int (-9)), (0, .ref a_r0), (1, .int x1)]) hx hb d_Sta_likeliestOf_4 rfl hl (by decide) rfl (fun ls hl => ?_)
  refine lv_iconst (v := 0) hx hb d_Sta_likeliestOf_5 (by decide) ?_
  refine lv_istore (lv' := [(4, .int 0), (3, .int 0), (2, .int (-9)), (0, .ref a_r0), (1, .int x1)]) hx hb d_Sta_likeliestOf_6 hl (by decide) rfl (fun ls hl => ?_)
  obtain ⟨ex_1, hw_1, hk_1⟩ := ob hr
  have hx_1 : ∀ (e_1 : (Int32)), e_1 = ex_1 → ∀ (H : Heap) (locs : List Loc) (ls : Array Slot), wd A s.heap D (w_Sta_likeliestOf cI a_r0 a_r0_weights v_r0_kinds v_r0_figures v_r0_goes v_r0_things v_r0_hampers v_r0_days v_r0_fields v_r0_done r0_weights) H locs → lv_has ls 5 [(2, .int e_1)] → W p l e (rmd 1) s m ([.ref a_r0, .int x1] : List Value).toArray below meth c H locs 0 0 Q (F0 m 52 ls []) := by
    intro e_1 hE H locs ls hW hl
    subst hE; have hr := hk_1
    refine lv_iload_n hx hb d_Sta_likeliestOf_52 rfl (lv_at hl 0 rfl) ?_
    obtain rfl := Option.some.inj hr
    rw [hQ]; exact k_iret C hret hW d_Sta_likeliestOf_53
  have hl_1 : ∀ (k : Nat) (y2_1 : Int32) (y3_1 : Int32) (y4_1 : Int32), wh (fun (s : (Int32) × (Int32) × (Int32)) => F_Sta_likeliestOf_L8 r0_weights x1 s.1 s.2.1 s.2.2) k (y2_1, y3_1, y4_1) = some ex_1 → ∀ (H : Heap) (locs : List Loc) (ls : Array Slot), wd A s.heap D (w_Sta_likeliestOf cI a_r0 a_r0_weights v_r0_kinds v_r0_figures v_r0_goes v_r0_things v_r0_hampers v_r0_days v_r0_fields v_r0_done r0_weights) H locs → lv_has ls 5 [(0, .ref a_r0), (1, .int x1), (2, .int y2_1), (3, .int y3_1), (4, .int y4_1)] → W p l e (rmd 1) s m ([.ref a_r0, .int x1] : List Value).toArray below meth c H locs 0 0 Q (F0 m 8 ls []) := by
    intro k
    induction k with
    | zero => intro y2_1 y3_1 y4_1 hw; exact absurd hw wh_0
    | succ k ih_1 =>
      intro y2_1 y3_1 y4_1 hw H locs ls hW hl
      obtain ⟨z_1, hr, hz1_1, hz2_1⟩ := wh_s hw
      have hr : F_Sta_likeliestOf_L8 r0_weights x1 y2_1 y3_1 y4_1 = some z_1 := hr
      unfold F_Sta_likeliestOf_L8 at hr
      refine lv_iload hx hb d_Sta_likeliestOf_8 (lv_at hl 4 rfl) ?_
      refine lv_bipush (v := 6) hx hb d_Sta_likeliestOf_10 (by decide) ?_
      refine lv_icmp_ge (tgt := 52) hx hb d_Sta_likeliestOf_12 (by decide) (fun c_2 => ?_) (fun c_2 => ?_)
      · replace hr := ip c_2 hr
        exact hx_1 _ (hz2_1 _ (Option.some.inj hr).symm) _ _ _ hW (lv_sub hl [2] rfl)
      · replace hr := iN c_2 hr
        refine lv_iload_n hx hb d_Sta_likeliestOf_15 rfl (lv_at hl 1 rfl) ?_
        refine lv_iload hx hb d_Sta_likeliestOf_16 (lv_at hl 4 rfl) ?_
        obtain ⟨q_3, hc_3, hr⟩ := ob hr
        have ct_3 := C_H_holds l D cI cS x1 y4_1 q_3 hc_3
        refine k_goIp hA hW [] rfl rfl (k_runSN C hA hW mw_H_holds ms_H_holds (ct_3.2 _) [] rfl rfl qm_Sta_77 ⟨Nat.le_of_ble_eq_true rfl, Nat.le_of_ble_eq_true rfl, Nat.zero_le _, Nat.zero_le _⟩ rfl rfl (Nat.le_of_ble_eq_true rfl) hl.1 d_Sta_likeliestOf_18) (fun H locs hW => ?_)
        refine lv_if_eq (tgt := 46) hx hb d_Sta_likeliestOf_21 (by decide) (fun c_4 => ?_) (fun c_4 => ?_)
        · replace hr := ip c_4 hr
          refine lv_iinc (v := (y4_1 + 1)) (lv' := [(4, .int (y4_1 + 1)), (0, .ref a_r0), (1, .int x1), (2, .int y2_1), (3, .int y3_1)]) hx hb d_Sta_likeliestOf_46 hl (k := 4) rfl rfl (by decide) rfl (fun ls hl => ?_)
          refine lv_goto (tgt := 8) hx hb d_Sta_likeliestOf_49 (by decide) ?_
          exact ih_1 y2_1 y3_1 (y4_1 + 1) (hz1_1 _ (Option.some.inj hr).symm) _ _ _ hW (lv_sub hl [1, 2, 3, 4, 0] rfl)
        · replace hr := iN c_4 hr
          refine lv_aload_n hx hb d_Sta_likeliestOf_24 rfl (lv_at hl 0 rfl) ?_
          refine k_get i_Sta C hW 0 rfl rfl 0 (by decide) qf_Sta_9 rfl rfl d_Sta_likeliestOf_25 ?_
          refine lv_iload hx hb d_Sta_likeliestOf_28 (lv_at hl 4 rfl) ?_
          obtain ⟨h_5, hr⟩ := ck_some hr
          refine k_iald C hW 1 rfl h_5 d_Sta_likeliestOf_30 ?_
          refine lv_iload_n hx hb d_Sta_likeliestOf_31 rfl (lv_at hl 3 rfl) ?_
          refine lv_icmp_le (tgt := 46) hx hb d_Sta_likeliestOf_32 (by decide) (fun c_6 => ?_) (fun c_6 => ?_)
          · replace hr := ip c_6 hr
            refine lv_iinc (v := (y4_1 + 1)) (lv' := [(4, .int (y4_1 + 1)), (0, .ref a_r0), (1, .int x1), (2, .int y2_1), (3, .int y3_1)]) hx hb d_Sta_likeliestOf_46 hl (k := 4) rfl rfl (by decide) rfl (fun ls hl => ?_)
            refine lv_goto (tgt := 8) hx hb d_Sta_likeliestOf_49 (by decide) ?_
            exact ih_1 y2_1 y3_1 (y4_1 + 1) (hz1_1 _ (Option.some.inj hr).symm) _ _ _ hW (lv_sub hl [1, 2, 3, 4, 0] rfl)
          · replace hr := iN c_6 hr
            refine lv_iload hx hb d_Sta_likeliestOf_35 (lv_at hl 4 rfl) ?_
            refine lv_istore_n (lv' := [(2, .int y4_1), (0, .ref a_r0), (1, .int x1), (3, .int y3_1), (4, .int y4_1)]) hx hb d_Sta_likeliestOf_37 rfl hl (by decide) rfl (fun ls hl => ?_)
            refine lv_aload_n hx hb d_Sta_likeliestOf_38 rfl (lv_at hl 1 rfl) ?_
            refine k_get i_Sta C hW 0 rfl rfl 0 (by decide) qf_Sta_9 rfl rfl d_Sta_likeliestOf_39 ?_
            refine lv_iload hx hb d_Sta_likeliestOf_42 (lv_at hl 4 rfl) ?_
            obtain ⟨h_7, hr⟩ := ck_some hr
            refine k_iald C hW 1 rfl h_7 d_Sta_likeliestOf_44 ?_
            refine lv_istore_n (lv' := [(3, .int (r0_weights (Int32.toNatClampNeg y4_1))), (2, .int y4_1), (0, .ref a_r0), (1, .int x1), (4, .int y4_1)]) hx hb d_Sta_likeliestOf_45 rfl hl (by decide) rfl (fun ls hl => ?_)
            refine lv_iinc (v := (y4_1 + 1)) (lv' := [(4, .int (y4_1 + 1)), (3, .int (r0_weights (Int32.toNatClampNeg y4_1))), (2, .int y4_1), (0, .ref a_r0), (1, .int x1)]) hx hb d_Sta_likeliestOf_46 hl (k := 4) rfl rfl (by decide) rfl (fun ls hl => ?_)
            refine lv_goto (tgt := 8) hx hb d_Sta_likeliestOf_49 (by decide) ?_
            exact ih_1 y4_1 (r0_weights (Int32.toNatClampNeg y4_1)) (y4_1 + 1) (hz1_1 _ (Option.some.inj hr).symm) _ _ _ hW (lv_sub hl [3, 4, 2, 1, 0] rfl)
  exact hl_1 _ (-9) 0 0 hw_1 _ _ _ hW (lv_sub hl [3, 4, 2, 1, 0] rfl)
def w_Sta_likeliestBy (cI : ClassId) (a_r0 : Nat) (a_r0_goes : Nat) (a_r0_weights : Nat) (v_r0_kinds v_r0_figures v_r0_things v_r0_hampers v_r0_days v_r0_fields v_r0_done : Value) (r0_goes : Nat → Int32) (r0_weights : Nat → Int32) : va_W := [(a_r0, .inr (1, [.ref a_r0_weights, v_r0_kinds, v_r0_figures, .ref a_r0_goes, v_r0_things, v_r0_hampers, v_r0_days, v_r0_fields, v_r0_done])), (a_r0_goes, .inl (cI, 8, .inl r0_goes)), (a_r0_weights, .inl (cI, 6, .inl r0_weights))]
def F_Sta_likeliestBy (r0_goes : Nat → Int32) (r0_weights : Nat → Int32) (x1 : Int32) : Option (Int32) :=
  ((F_Sta_couldBe r0_goes x1).bind (fun q_1 => ((F_Sta_likeliestOf r0_weights q_1).bind (fun q_2 => (some q_2)))))
set_option maxHeartbeats 4000000 in
set_option maxRecDepth 100000 in
theorem C_Sta_likeliestBy (l : Launch) (D : va_G) (cI cS : ClassId) (a_r0 : Nat) (a_r0_goes : Nat) (a_r0_weights : Nat) (v_r0_kinds v_r0_figures v_r0_things v_r0_hampers v_r0_days v_r0_fields v_r0_done : Value) (r0_goes : Nat → Int32) (r0_weights : Nat → Int32) (x1 : Int32) (o : Int32) (hr : F_Sta_likeliestBy r0_goes r0_weights x1 = some o) : ctI l y_Sta_likeliestBy (Cond.code y_Sta_likeliestBy b_Sta_likeliestBy 2 (some FieldType.int)) (rmd 2) D (kTy cI cS) [.ref a_r0, .int x1] (w_Sta_likeliestBy cI a_r0 a_r0_goes a_r0_weights v_r0_kinds v_r0_figures v_r0_things v_r0_hampers v_r0_days v_r0_fields v_r0_done r0_goes r0_weights) (w_Sta_likeliestBy cI a_r0 a_r0_goes a_r0_weights v_r0_kinds v_r0_figures v_r0_things v_r0_hampers v_r0_days v_r0_fields v_r0_done r0_goes r0_weights) o := by
  unfold F_Sta_likeliestBy at hr
  refine ⟨rfl, fun sz => ct_of (w0 := (w_Sta_likeliestBy cI a_r0 a_r0_goes a_r0_weights v_r0_kinds v_r0_figures v_r0_things v_r0_hampers v_r0_days v_r0_fields v_r0_done r0_goes r0_weights)) (Qc := fun A => qI D (w_Sta_likeliestBy cI a_r0 a_r0_goes a_r0_weights v_r0_kinds v_r0_figures v_r0_things v_r0_hampers v_r0_days v_r0_fields v_r0_done r0_goes r0_weights) o A) rfl (Nat.le_of_ble_eq_true rfl) ?_ sz⟩
  intro p e s m below meth c A hA C hret ls hl hW
  have C : cx p s m ([.ref a_r0, .int x1] : List Value).toArray meth c b_Sta_likeliestBy 2 R_Sta D (kTy cI cS) (Cond.code y_Sta_likeliestBy b_Sta_likeliestBy 2 (some FieldType.int)) := C
  obtain ⟨hx, hb, hml, hown, hts, hK, hlk, hN⟩ := id C
  have hl : lv_has ls 2 [(0, .ref a_r0), (1, .int x1)] := hl
  obtain ⟨Q, hQ⟩ : ∃ Q, Q = MQ below (qI D (w_Sta_likeliestBy cI a_r0 a_r0_goes a_r0_weights v_r0_kinds v_r0_figures v_r0_things v_r0_hampers v_r0_days v_r0_fields v_r0_done r0_goes r0_weights) o A) ([.ref a_r0, .int x1] : List Value).toArray s 0 0 A := ⟨_, rfl⟩
  rw [← hQ]
  refine lv_aload_n hx hb d_Sta_likeliestBy_0 rfl (lv_at hl 0 rfl) ?_
  refine lv_aload_n hx hb d_Sta_likeliestBy_1 rfl (lv_at hl 0 rfl) ?_
  refine lv_iload_n hx hb d_Sta_likeliestBy_2 rfl (lv_at hl 1 rfl) ?_
  obtain ⟨q_1, hc_1, hr⟩ := ob hr
  have ct_1 := C_Sta_couldBe l D cI cS a_r0 a_r0_goes (Value.ref a_r0_weights) v_r0_kinds v_r0_figures v_r0_things v_r0_hampers v_r0_days v_r0_fields v_r0_done r0_goes x1 q_1 hc_1
  refine k_goIp hA hW [0, 1] rfl rfl (k_runV C hA hW mw_Sta_couldBe mv_Sta_couldBe (ct_1.2 _) [0, 1] rfl rfl 0 rfl rfl qm_Sta_91 ⟨Nat.le_of_ble_eq_true rfl, Nat.le_of_ble_eq_true rfl, Nat.zero_le _, Nat.zero_le _⟩ rfl rfl (Nat.le_of_ble_eq_true rfl) hl.1 d_Sta_likeliestBy_3) (fun H locs hW => ?_)
  obtain ⟨q_2, hc_2, hr⟩ := ob hr
  have ct_2 := C_Sta_likeliestOf l D cI cS a_r0 a_r0_weights v_r0_kinds v_r0_figures (Value.ref a_r0_goes) v_r0_things v_r0_hampers v_r0_days v_r0_fields v_r0_done r0_weights q_1 q_2 hc_2
  refine k_goIp hA hW [0, 2] rfl rfl (k_runV C hA hW mw_Sta_likeliestOf mv_Sta_likeliestOf (ct_2.2 _) [0, 2] rfl rfl 0 rfl rfl qm_Sta_94 ⟨Nat.le_of_ble_eq_true rfl, Nat.le_of_ble_eq_true rfl, Nat.zero_le _, Nat.zero_le _⟩ rfl rfl (Nat.le_of_ble_eq_true rfl) hl.1 d_Sta_likeliestBy_6) (fun H locs hW => ?_)
  obtain rfl := Option.some.inj hr
  rw [hQ]; exact k_iret C hret hW d_Sta_likeliestBy_9
def w_Dia_likelyWithout (cI : ClassId) (a_r0 : Nat) (a_r0_goes : Nat) (a_r0_hampers : Nat) (a_r0_weights : Nat) (v_r0_kinds v_r0_figures v_r0_things v_r0_fields v_r0_done : Value) (r0_days : Int32) (r0_goes : Nat → Int32) (r0_hampers : Nat → Int32) (r0_weights : Nat → Int32) : va_W := [(a_r0, .inr (1, [.ref a_r0_weights, v_r0_kinds, v_r0_figures, .ref a_r0_goes, v_r0_things, .ref a_r0_hampers, .int r0_days, v_r0_fields, v_r0_done])), (a_r0_goes, .inl (cI, 8, .inl r0_goes)), (a_r0_hampers, .inl (cI, 8, .inl r0_hampers)), (a_r0_weights, .inl (cI, 6, .inl r0_weights))]
def F_Dia_likelyWithout_L4 (r0_days : Int32) (r0_goes : Nat → Int32) (r0_hampers : Nat → Int32) (r0_weights : Nat → Int32) (x1 : Int32) (y2_1 : Int32) (y3_1 : Int32) : Option (((Int32) × (Int32)) ⊕ ((Int32))) :=
  (if (8 : Int32) ≤ y3_1 then (some (.inr y2_1)) else ((F_Sta_hasDay r0_days y3_1).bind (fun q_3 => (if q_3 = 0 then (some (.inl (y2_1, (y3_1 + 1)))) else ((F_Sta_hamperOf r0_days r0_hampers y3_1).bind (fun q_5 => ((F_Sta_likeliestBy r0_goes r0_weights (q_5 &&& (((1 : Int32) <<< ((x1 : Int32) &&& 31)) ^^^ (-1)))).bind (fun q_6 => (if q_6 = (-9) then (some (.inl (y2_1, (y3_1 + 1)))) else (some (.inl ((y2_1 + 1), (y3_1 + 1)))))))))))))
def F_Dia_likelyWithout (r0_days : Int32) (r0_goes : Nat → Int32) (r0_hampers : Nat → Int32) (r0_weights : Nat → Int32) (x1 : Int32) : Option (Int32) :=
  ((wh (fun (s : (Int32) × (Int32)) => F_Dia_likelyWithout_L4 r0_days r0_goes r0_hampers r0_weights x1 s.1 s.2) 400 ((0 : Int32), (0 : Int32))).bind (fun e_1 => (some e_1)))
set_option maxHeartbeats 4000000 in
set_option maxRecDepth 100000 in
theorem C_Dia_likelyWithout (l : Launch) (D : va_G) (cI cS : ClassId) (a_r0 : Nat) (a_r0_goes : Nat) (a_r0_hampers : Nat) (a_r0_weights : Nat) (v_r0_kinds v_r0_figures v_r0_things v_r0_fields v_r0_done : Value) (r0_days : Int32) (r0_goes : Nat → Int32) (r0_hampers : Nat → Int32) (r0_weights : Nat → Int32) (x1 : Int32) (o : Int32) (hr : F_Dia_likelyWithout r0_days r0_goes r0_hampers r0_weights x1 = some o) : ctI l y_Dia_likelyWithout (Cond.code y_Dia_likelyWithout b_Dia_likelyWithout 4 (some FieldType.int)) (rmd 3) D (kTy cI cS) [.ref a_r0, .int x1] (w_Dia_likelyWithout cI a_r0 a_r0_goes a_r0_hampers a_r0_weights v_r0_kinds v_r0_figures v_r0_things v_r0_fields v_r0_done r0_days r0_goes r0_hampers r0_weights) (w_Dia_likelyWithout cI a_r0 a_r0_goes a_r0_hampers a_r0_weights v_r0_kinds v_r0_figures v_r0_things v_r0_fields v_r0_done r0_days r0_goes r0_hampers r0_weights) o := by
  unfold F_Dia_likelyWithout at hr
  refine ⟨rfl, fun sz => ct_of (w0 := (w_Dia_likelyWithout cI a_r0 a_r0_goes a_r0_hampers a_r0_weights v_r0_kinds v_r0_figures v_r0_things v_r0_fields v_r0_done r0_days r0_goes r0_hampers r0_weights)) (Qc := fun A => qI D (w_Dia_likelyWithout cI a_r0 a_r0_goes a_r0_hampers a_r0_weights v_r0_kinds v_r0_figures v_r0_things v_r0_fields v_r0_done r0_days r0_goes r0_hampers r0_weights) o A) rfl (Nat.le_of_ble_eq_true rfl) ?_ sz⟩
  intro p e s m below meth c A hA C hret ls hl hW
  have C : cx p s m ([.ref a_r0, .int x1] : List Value).toArray meth c b_Dia_likelyWithout 4 R_Dia D (kTy cI cS) (Cond.code y_Dia_likelyWithout b_Dia_likelyWithout 4 (some FieldType.int)) := C
  obtain ⟨hx, hb, hml, hown, hts, hK, hlk, hN⟩ := id C
  have hl : lv_has ls 4 [(0, .ref a_r0), (1, .int x1)] := hl
  obtain ⟨Q, hQ⟩ : ∃ Q, Q = MQ below (qI D (w_Dia_likelyWithout cI a_r0 a_r0_goes a_r0_hampers a_r0_weights v_r0_kinds v_r0_figures v_r0_things v_r0_fields v_r0_done r0_days r0_goes r0_hampers r0_weights) o A) ([.ref a_r0, .int x1] : List Value).toArray s 0 0 A := ⟨_, rfl⟩
  rw [← hQ]
  refine lv_iconst (v := 0) hx hb d_Dia_likelyWithout_0 (by decide) ?_
  refine lv_istore_n (lv' := [(2, .int 0), (0, .ref a_r0), (1, .int x1)]) hx hb d_Dia_likelyWithout_1 rfl hl (by decide) rfl (fun ls hl => ?_)
  refine lv_iconst (v := 0) hx hb d_Dia_likelyWithout_2 (by decide) ?_
  refine lv_istore_n (lv' := [(3, .int 0), (2, .int 0), (0, .ref a_r0), (1, .int x1)]) hx hb d_Dia_likelyWithout_3 rfl hl (by decide) rfl (fun ls hl => ?_)
  obtain ⟨ex_1, hw_1, hk_1⟩ := ob hr
  have hx_1 : ∀ (e_1 : (Int32)), e_1 = ex_1 → ∀ (H : Heap) (locs : List Loc) (ls : Array Slot), wd A s.heap D (w_Dia_likelyWithout cI a_r0 a_r0_goes a_r0_hampers a_r0_weights v_r0_kinds v_r0_figures v_r0_things v_r0_fields v_r0_done r0_days r0_goes r0_hampers r0_weights) H locs → lv_has ls 4 [(2, .int e_1)] → W p l e (rmd 3) s m ([.ref a_r0, .int x1] : List Value).toArray below meth c H locs 0 0 Q (F0 m 47 ls []) := by
    intro e_1 hE H locs ls hW hl
    subst hE; have hr := hk_1
    refine lv_iload_n hx hb d_Dia_likelyWithout_47 rfl (lv_at hl 0 rfl) ?_
    obtain rfl := Option.some.inj hr
    rw [hQ]; exact k_iret C hret hW d_Dia_likelyWithout_48
  have hl_1 : ∀ (k : Nat) (y2_1 : Int32) (y3_1 : Int32), wh (fun (s : (Int32) × (Int32)) => F_Dia_likelyWithout_L4 r0_days r0_goes r0_hampers r0_weights x1 s.1 s.2) k (y2_1, y3_1) = some ex_1 → ∀ (H : Heap) (locs : List Loc) (ls : Array Slot), wd A s.heap D (w_Dia_likelyWithout cI a_r0 a_r0_goes a_r0_hampers a_r0_weights v_r0_kinds v_r0_figures v_r0_things v_r0_fields v_r0_done r0_days r0_goes r0_hampers r0_weights) H locs → lv_has ls 4 [(0, .ref a_r0), (1, .int x1), (2, .int y2_1), (3, .int y3_1)] → W p l e (rmd 3) s m ([.ref a_r0, .int x1] : List Value).toArray below meth c H locs 0 0 Q (F0 m 4 ls []) := by
    intro k
    induction k with
    | zero => intro y2_1 y3_1 hw; exact absurd hw wh_0
    | succ k ih_1 =>
      intro y2_1 y3_1 hw H locs ls hW hl
      obtain ⟨z_1, hr, hz1_1, hz2_1⟩ := wh_s hw
      have hr : F_Dia_likelyWithout_L4 r0_days r0_goes r0_hampers r0_weights x1 y2_1 y3_1 = some z_1 := hr
      unfold F_Dia_likelyWithout_L4 at hr
      refine lv_iload_n hx hb d_Dia_likelyWithout_4 rfl (lv_at hl 3 rfl) ?_
      refine lv_bipush (v := 8) hx hb d_Dia_likelyWithout_5 (by decide) ?_
      refine lv_icmp_ge (tgt := 47) hx hb d_Dia_likelyWithout_7 (by decide) (fun c_2 => ?_) (fun c_2 => ?_)
      · replace hr := ip c_2 hr
        exact hx_1 _ (hz2_1 _ (Option.some.inj hr).symm) _ _ _ hW (lv_sub hl [2] rfl)
      · replace hr := iN c_2 hr
        refine lv_aload_n hx hb d_Dia_likelyWithout_10 rfl (lv_at hl 0 rfl) ?_
        refine lv_iload_n hx hb d_Dia_likelyWithout_11 rfl (lv_at hl 3 rfl) ?_
        obtain ⟨q_3, hc_3, hr⟩ := ob hr
        have ct_3 := C_Sta_hasDay l D cI cS a_r0 (Value.ref a_r0_weights) v_r0_kinds v_r0_figures (Value.ref a_r0_goes) v_r0_things (Value.ref a_r0_hampers) v_r0_fields v_r0_done r0_days y3_1 q_3 hc_3
        refine k_goIp hA hW [0] rfl rfl (k_runV C hA hW mw_Sta_hasDay mv_Sta_hasDay (ct_3.2 _) [0] rfl rfl 0 rfl rfl qm_Dia_23 ⟨Nat.le_of_ble_eq_true rfl, Nat.le_of_ble_eq_true rfl, Nat.zero_le _, Nat.zero_le _⟩ rfl rfl (Nat.le_of_ble_eq_true rfl) hl.1 d_Dia_likelyWithout_12) (fun H locs hW => ?_)
        refine lv_if_eq (tgt := 41) hx hb d_Dia_likelyWithout_15 (by decide) (fun c_4 => ?_) (fun c_4 => ?_)
        · replace hr := ip c_4 hr
          refine lv_iinc (v := (y3_1 + 1)) (lv' := [(3, .int (y3_1 + 1)), (0, .ref a_r0), (1, .int x1), (2, .int y2_1)]) hx hb d_Dia_likelyWithout_41 hl (k := 3) rfl rfl (by decide) rfl (fun ls hl => ?_)
          refine lv_goto (tgt := 4) hx hb d_Dia_likelyWithout_44 (by decide) ?_
          exact ih_1 y2_1 (y3_1 + 1) (hz1_1 _ (Option.some.inj hr).symm) _ _ _ hW (lv_sub hl [1, 2, 3, 0] rfl)
        · replace hr := iN c_4 hr
          refine lv_aload_n hx hb d_Dia_likelyWithout_18 rfl (lv_at hl 0 rfl) ?_
          refine lv_aload_n hx hb d_Dia_likelyWithout_19 rfl (lv_at hl 0 rfl) ?_
          refine lv_iload_n hx hb d_Dia_likelyWithout_20 rfl (lv_at hl 3 rfl) ?_
          obtain ⟨q_5, hc_5, hr⟩ := ob hr
          have ct_5 := C_Sta_hamperOf l D cI cS a_r0 a_r0_hampers (Value.ref a_r0_weights) v_r0_kinds v_r0_figures (Value.ref a_r0_goes) v_r0_things v_r0_fields v_r0_done r0_days r0_hampers y3_1 q_5 hc_5
          refine k_goIp hA hW [0, 2] rfl rfl (k_runV C hA hW mw_Sta_hamperOf mv_Sta_hamperOf (ct_5.2 _) [0, 2] rfl rfl 0 rfl rfl qm_Dia_9 ⟨Nat.le_of_ble_eq_true rfl, Nat.le_of_ble_eq_true rfl, Nat.zero_le _, Nat.zero_le _⟩ rfl rfl (Nat.le_of_ble_eq_true rfl) hl.1 d_Dia_likelyWithout_21) (fun H locs hW => ?_)
          refine lv_iconst (v := 1) hx hb d_Dia_likelyWithout_24 (by decide) ?_
          refine lv_iload_n hx hb d_Dia_likelyWithout_25 rfl (lv_at hl 1 rfl) ?_
          refine lv_ishl hx hb d_Dia_likelyWithout_26 ?_
          refine lv_iconst (v := (-1)) hx hb d_Dia_likelyWithout_27 (by decide) ?_
          refine lv_ixor hx hb d_Dia_likelyWithout_28 ?_
          refine lv_iand hx hb d_Dia_likelyWithout_29 ?_
          obtain ⟨q_6, hc_6, hr⟩ := ob hr
          have ct_6 := C_Sta_likeliestBy l D cI cS a_r0 a_r0_goes a_r0_weights v_r0_kinds v_r0_figures v_r0_things (Value.ref a_r0_hampers) (Value.int r0_days) v_r0_fields v_r0_done r0_goes r0_weights (q_5 &&& (((1 : Int32) <<< ((x1 : Int32) &&& 31)) ^^^ (-1))) q_6 hc_6
          refine k_goIp hA hW [0, 1, 3] rfl rfl (k_runV C hA hW mw_Sta_likeliestBy mv_Sta_likeliestBy (ct_6.2 _) [0, 1, 3] rfl rfl 0 rfl rfl qm_Dia_54 ⟨Nat.le_of_ble_eq_true rfl, Nat.le_of_ble_eq_true rfl, Nat.zero_le _, Nat.zero_le _⟩ rfl rfl (Nat.le_of_ble_eq_true rfl) hl.1 d_Dia_likelyWithout_30) (fun H locs hW => ?_)
          refine lv_bipush (v := (-9)) hx hb d_Dia_likelyWithout_33 (by decide) ?_
          refine lv_icmp_eq (tgt := 41) hx hb d_Dia_likelyWithout_35 (by decide) (fun c_7 => ?_) (fun c_7 => ?_)
          · replace hr := ip c_7 hr
            refine lv_iinc (v := (y3_1 + 1)) (lv' := [(3, .int (y3_1 + 1)), (0, .ref a_r0), (1, .int x1), (2, .int y2_1)]) hx hb d_Dia_likelyWithout_41 hl (k := 3) rfl rfl (by decide) rfl (fun ls hl => ?_)
            refine lv_goto (tgt := 4) hx hb d_Dia_likelyWithout_44 (by decide) ?_
            exact ih_1 y2_1 (y3_1 + 1) (hz1_1 _ (Option.some.inj hr).symm) _ _ _ hW (lv_sub hl [1, 2, 3, 0] rfl)
          · replace hr := iN c_7 hr
            refine lv_iinc (v := (y2_1 + 1)) (lv' := [(2, .int (y2_1 + 1)), (0, .ref a_r0), (1, .int x1), (3, .int y3_1)]) hx hb d_Dia_likelyWithout_38 hl (k := 2) rfl rfl (by decide) rfl (fun ls hl => ?_)
            refine lv_iinc (v := (y3_1 + 1)) (lv' := [(3, .int (y3_1 + 1)), (2, .int (y2_1 + 1)), (0, .ref a_r0), (1, .int x1)]) hx hb d_Dia_likelyWithout_41 hl (k := 3) rfl rfl (by decide) rfl (fun ls hl => ?_)
            refine lv_goto (tgt := 4) hx hb d_Dia_likelyWithout_44 (by decide) ?_
            exact ih_1 (y2_1 + 1) (y3_1 + 1) (hz1_1 _ (Option.some.inj hr).symm) _ _ _ hW (lv_sub hl [2, 3, 1, 0] rfl)
  exact hl_1 _ 0 0 hw_1 _ _ _ hW (lv_sub hl [2, 3, 1, 0] rfl)
def w_Dia_bestDropped (cI : ClassId) (a_r0 : Nat) (a_r0_goes : Nat) (a_r0_hampers : Nat) (a_r0_weights : Nat) (v_r0_kinds v_r0_figures v_r0_fields v_r0_done : Value) (r0_days : Int32) (r0_things : Int32) (r0_goes : Nat → Int32) (r0_hampers : Nat → Int32) (r0_weights : Nat → Int32) : va_W := [(a_r0, .inr (1, [.ref a_r0_weights, v_r0_kinds, v_r0_figures, .ref a_r0_goes, .int r0_things, .ref a_r0_hampers, .int r0_days, v_r0_fields, v_r0_done])), (a_r0_goes, .inl (cI, 8, .inl r0_goes)), (a_r0_hampers, .inl (cI, 8, .inl r0_hampers)), (a_r0_weights, .inl (cI, 6, .inl r0_weights))]
def F_Dia_bestDropped_L7 (r0_days : Int32) (r0_things : Int32) (r0_goes : Nat → Int32) (r0_hampers : Nat → Int32) (r0_weights : Nat → Int32) (y1_1 : Int32) (y2_1 : Int32) (y3_1 : Int32) : Option (((Int32) × (Int32) × (Int32)) ⊕ ((Int32))) :=
  (if r0_things ≤ y3_1 then (some (.inr y1_1)) else ((F_Dia_likelyWithout r0_days r0_goes r0_hampers r0_weights y3_1).bind (fun q_3 => (if y1_1 = (-9) then (some (.inl (y3_1, q_3, (y3_1 + 1)))) else (if q_3 ≤ y2_1 then (some (.inl (y1_1, y2_1, (y3_1 + 1)))) else (some (.inl (y3_1, q_3, (y3_1 + 1)))))))))
def F_Dia_bestDropped (r0_days : Int32) (r0_things : Int32) (r0_goes : Nat → Int32) (r0_hampers : Nat → Int32) (r0_weights : Nat → Int32) : Option (Int32) :=
  ((wh (fun (s : (Int32) × (Int32) × (Int32)) => F_Dia_bestDropped_L7 r0_days r0_things r0_goes r0_hampers r0_weights s.1 s.2.1 s.2.2) 400 (((-9) : Int32), (0 : Int32), (0 : Int32))).bind (fun e_1 => (some e_1)))
set_option maxHeartbeats 4000000 in
set_option maxRecDepth 100000 in
theorem C_Dia_bestDropped (l : Launch) (D : va_G) (cI cS : ClassId) (a_r0 : Nat) (a_r0_goes : Nat) (a_r0_hampers : Nat) (a_r0_weights : Nat) (v_r0_kinds v_r0_figures v_r0_fields v_r0_done : Value) (r0_days : Int32) (r0_things : Int32) (r0_goes : Nat → Int32) (r0_hampers : Nat → Int32) (r0_weights : Nat → Int32) (o : Int32) (hr : F_Dia_bestDropped r0_days r0_things r0_goes r0_hampers r0_weights = some o) : ctI l y_Dia_bestDropped (Cond.code y_Dia_bestDropped b_Dia_bestDropped 5 (some FieldType.int)) (rmd 4) D (kTy cI cS) [.ref a_r0] (w_Dia_bestDropped cI a_r0 a_r0_goes a_r0_hampers a_r0_weights v_r0_kinds v_r0_figures v_r0_fields v_r0_done r0_days r0_things r0_goes r0_hampers r0_weights) (w_Dia_bestDropped cI a_r0 a_r0_goes a_r0_hampers a_r0_weights v_r0_kinds v_r0_figures v_r0_fields v_r0_done r0_days r0_things r0_goes r0_hampers r0_weights) o := by
  unfold F_Dia_bestDropped at hr
  refine ⟨rfl, fun sz => ct_of (w0 := (w_Dia_bestDropped cI a_r0 a_r0_goes a_r0_hampers a_r0_weights v_r0_kinds v_r0_figures v_r0_fields v_r0_done r0_days r0_things r0_goes r0_hampers r0_weights)) (Qc := fun A => qI D (w_Dia_bestDropped cI a_r0 a_r0_goes a_r0_hampers a_r0_weights v_r0_kinds v_r0_figures v_r0_fields v_r0_done r0_days r0_things r0_goes r0_hampers r0_weights) o A) rfl (Nat.le_of_ble_eq_true rfl) ?_ sz⟩
  intro p e s m below meth c A hA C hret ls hl hW
  have C : cx p s m ([.ref a_r0] : List Value).toArray meth c b_Dia_bestDropped 5 R_Dia D (kTy cI cS) (Cond.code y_Dia_bestDropped b_Dia_bestDropped 5 (some FieldType.int)) := C
  obtain ⟨hx, hb, hml, hown, hts, hK, hlk, hN⟩ := id C
  have hl : lv_has ls 5 [(0, .ref a_r0)] := hl
  obtain ⟨Q, hQ⟩ : ∃ Q, Q = MQ below (qI D (w_Dia_bestDropped cI a_r0 a_r0_goes a_r0_hampers a_r0_weights v_r0_kinds v_r0_figures v_r0_fields v_r0_done r0_days r0_things r0_goes r0_hampers r0_weights) o A) ([.ref a_r0] : List Value).toArray s 0 0 A := ⟨_, rfl⟩
  rw [← hQ]
  refine lv_bipush (v := (-9)) hx hb d_Dia_bestDropped_0 (by decide) ?_
  refine lv_istore_n (lv' := [(1, .int (-9)), (0, .ref a_r0)]) hx hb d_Dia_bestDropped_2 rfl hl (by decide) rfl (fun ls hl => ?_)
  refine lv_iconst (v := 0) hx hb d_Dia_bestDropped_3 (by decide) ?_
  refine lv_istore_n (lv' := [(2, .int 0), (1, .int (-9)), (0, .ref a_r0)]) hx hb d_Dia_bestDropped_4 rfl hl (by decide) rfl (fun ls hl => ?_)
  refine lv_iconst (v := 0) hx hb d_Dia_bestDropped_5 (by decide) ?_
  refine lv_istore_n (lv' := [(3, .int 0), (2, .int 0), (1, .int (-9)), (0, .ref a_r0)]) hx hb d_Dia_bestDropped_6 rfl hl (by decide) rfl (fun ls hl => ?_)
  obtain ⟨ex_1, hw_1, hk_1⟩ := ob hr
  have hx_1 : ∀ (e_1 : (Int32)), e_1 = ex_1 → ∀ (H : Heap) (locs : List Loc) (ls : Array Slot), wd A s.heap D (w_Dia_bestDropped cI a_r0 a_r0_goes a_r0_hampers a_r0_weights v_r0_kinds v_r0_figures v_r0_fields v_r0_done r0_days r0_things r0_goes r0_hampers r0_weights) H locs → lv_has ls 5 [(1, .int e_1)] → W p l e (rmd 4) s m ([.ref a_r0] : List Value).toArray below meth c H locs 0 0 Q (F0 m 45 ls []) := by
    intro e_1 hE H locs ls hW hl
    subst hE; have hr := hk_1
    refine lv_iload_n hx hb d_Dia_bestDropped_45 rfl (lv_at hl 0 rfl) ?_
    obtain rfl := Option.some.inj hr
    rw [hQ]; exact k_iret C hret hW d_Dia_bestDropped_46
  have hl_1 : ∀ (k : Nat) (y1_1 : Int32) (y2_1 : Int32) (y3_1 : Int32), wh (fun (s : (Int32) × (Int32) × (Int32)) => F_Dia_bestDropped_L7 r0_days r0_things r0_goes r0_hampers r0_weights s.1 s.2.1 s.2.2) k (y1_1, y2_1, y3_1) = some ex_1 → ∀ (H : Heap) (locs : List Loc) (ls : Array Slot), wd A s.heap D (w_Dia_bestDropped cI a_r0 a_r0_goes a_r0_hampers a_r0_weights v_r0_kinds v_r0_figures v_r0_fields v_r0_done r0_days r0_things r0_goes r0_hampers r0_weights) H locs → lv_has ls 5 [(0, .ref a_r0), (1, .int y1_1), (2, .int y2_1), (3, .int y3_1)] → W p l e (rmd 4) s m ([.ref a_r0] : List Value).toArray below meth c H locs 0 0 Q (F0 m 7 ls []) := by
    intro k
    induction k with
    | zero => intro y1_1 y2_1 y3_1 hw; exact absurd hw wh_0
    | succ k ih_1 =>
      intro y1_1 y2_1 y3_1 hw H locs ls hW hl
      obtain ⟨z_1, hr, hz1_1, hz2_1⟩ := wh_s hw
      have hr : F_Dia_bestDropped_L7 r0_days r0_things r0_goes r0_hampers r0_weights y1_1 y2_1 y3_1 = some z_1 := hr
      unfold F_Dia_bestDropped_L7 at hr
      refine lv_iload_n hx hb d_Dia_bestDropped_7 rfl (lv_at hl 3 rfl) ?_
      refine lv_aload_n hx hb d_Dia_bestDropped_8 rfl (lv_at hl 0 rfl) ?_
      refine k_getN i_Sta C hW 0 rfl rfl 4 (by decide) qf_Dia_42 rfl rfl d_Dia_bestDropped_9 ?_
      refine lv_icmp_ge (tgt := 45) hx hb d_Dia_bestDropped_12 (by decide) (fun c_2 => ?_) (fun c_2 => ?_)
      · replace hr := ip c_2 hr
        exact hx_1 _ (hz2_1 _ (Option.some.inj hr).symm) _ _ _ hW (lv_sub hl [1] rfl)
      · replace hr := iN c_2 hr
        refine lv_aload_n hx hb d_Dia_bestDropped_15 rfl (lv_at hl 0 rfl) ?_
        refine lv_iload_n hx hb d_Dia_bestDropped_16 rfl (lv_at hl 3 rfl) ?_
        obtain ⟨q_3, hc_3, hr⟩ := ob hr
        have ct_3 := C_Dia_likelyWithout l D cI cS a_r0 a_r0_goes a_r0_hampers a_r0_weights v_r0_kinds v_r0_figures (Value.int r0_things) v_r0_fields v_r0_done r0_days r0_goes r0_hampers r0_weights y3_1 q_3 hc_3
        refine k_goIp hA hW [0, 1, 2, 3] rfl rfl (k_runS C hA hW mw_Dia_likelyWithout ms_Dia_likelyWithout (ct_3.2 _) [0, 1, 2, 3] rfl rfl qm_Dia_51 ⟨Nat.le_of_ble_eq_true rfl, Nat.le_of_ble_eq_true rfl, Nat.zero_le _, Nat.zero_le _⟩ rfl rfl (Nat.le_of_ble_eq_true rfl) hl.1 d_Dia_bestDropped_17) (fun H locs hW => ?_)
        refine lv_istore (lv' := [(4, .int q_3), (0, .ref a_r0), (1, .int y1_1), (2, .int y2_1), (3, .int y3_1)]) hx hb d_Dia_bestDropped_20 hl (by decide) rfl (fun ls hl => ?_)
        refine lv_iload_n hx hb d_Dia_bestDropped_22 rfl (lv_at hl 2 rfl) ?_
        refine lv_bipush (v := (-9)) hx hb d_Dia_bestDropped_23 (by decide) ?_
        refine lv_icmp_eq (tgt := 34) hx hb d_Dia_bestDropped_25 (by decide) (fun c_4 => ?_) (fun c_4 => ?_)
        · replace hr := ip c_4 hr
          refine lv_iload_n hx hb d_Dia_bestDropped_34 rfl (lv_at hl 4 rfl) ?_
          refine lv_istore_n (lv' := [(1, .int y3_1), (4, .int q_3), (0, .ref a_r0), (2, .int y2_1), (3, .int y3_1)]) hx hb d_Dia_bestDropped_35 rfl hl (by decide) rfl (fun ls hl => ?_)
          refine lv_iload hx hb d_Dia_bestDropped_36 (lv_at hl 1 rfl) ?_
          refine lv_istore_n (lv' := [(2, .int q_3), (1, .int y3_1), (4, .int q_3), (0, .ref a_r0), (3, .int y3_1)]) hx hb d_Dia_bestDropped_38 rfl hl (by decide) rfl (fun ls hl => ?_)
          refine lv_iinc (v := (y3_1 + 1)) (lv' := [(3, .int (y3_1 + 1)), (2, .int q_3), (1, .int y3_1), (4, .int q_3), (0, .ref a_r0)]) hx hb d_Dia_bestDropped_39 hl (k := 4) rfl rfl (by decide) rfl (fun ls hl => ?_)
          refine lv_goto (tgt := 7) hx hb d_Dia_bestDropped_42 (by decide) ?_
          exact ih_1 y3_1 q_3 (y3_1 + 1) (hz1_1 _ (Option.some.inj hr).symm) _ _ _ hW (lv_sub hl [4, 2, 1, 0] rfl)
        · replace hr := iN c_4 hr
          refine lv_iload hx hb d_Dia_bestDropped_28 (lv_at hl 0 rfl) ?_
          refine lv_iload_n hx hb d_Dia_bestDropped_30 rfl (lv_at hl 3 rfl) ?_
          refine lv_icmp_le (tgt := 39) hx hb d_Dia_bestDropped_31 (by decide) (fun c_5 => ?_) (fun c_5 => ?_)
          · replace hr := ip c_5 hr
            refine lv_iinc (v := (y3_1 + 1)) (lv' := [(3, .int (y3_1 + 1)), (4, .int q_3), (0, .ref a_r0), (1, .int y1_1), (2, .int y2_1)]) hx hb d_Dia_bestDropped_39 hl (k := 4) rfl rfl (by decide) rfl (fun ls hl => ?_)
            refine lv_goto (tgt := 7) hx hb d_Dia_bestDropped_42 (by decide) ?_
            exact ih_1 y1_1 y2_1 (y3_1 + 1) (hz1_1 _ (Option.some.inj hr).symm) _ _ _ hW (lv_sub hl [2, 3, 4, 0] rfl)
          · replace hr := iN c_5 hr
            refine lv_iload_n hx hb d_Dia_bestDropped_34 rfl (lv_at hl 4 rfl) ?_
            refine lv_istore_n (lv' := [(1, .int y3_1), (4, .int q_3), (0, .ref a_r0), (2, .int y2_1), (3, .int y3_1)]) hx hb d_Dia_bestDropped_35 rfl hl (by decide) rfl (fun ls hl => ?_)
            refine lv_iload hx hb d_Dia_bestDropped_36 (lv_at hl 1 rfl) ?_
            refine lv_istore_n (lv' := [(2, .int q_3), (1, .int y3_1), (4, .int q_3), (0, .ref a_r0), (3, .int y3_1)]) hx hb d_Dia_bestDropped_38 rfl hl (by decide) rfl (fun ls hl => ?_)
            refine lv_iinc (v := (y3_1 + 1)) (lv' := [(3, .int (y3_1 + 1)), (2, .int q_3), (1, .int y3_1), (4, .int q_3), (0, .ref a_r0)]) hx hb d_Dia_bestDropped_39 hl (k := 4) rfl rfl (by decide) rfl (fun ls hl => ?_)
            refine lv_goto (tgt := 7) hx hb d_Dia_bestDropped_42 (by decide) ?_
            exact ih_1 y3_1 q_3 (y3_1 + 1) (hz1_1 _ (Option.some.inj hr).symm) _ _ _ hW (lv_sub hl [4, 2, 1, 0] rfl)
  exact hl_1 _ (-9) 0 0 hw_1 _ _ _ hW (lv_sub hl [3, 2, 1, 0] rfl)
def F_Dia_winsBy_J27_5 (s0_3 : Int32) (s0_5 : Int32) : Option (Int32) :=
  (if s0_3 = s0_5 then (some 1) else (if s0_3 ≤ s0_5 then (some (-1)) else (some 3)))
def F_Dia_winsBy_J16_3 (x0 : Int32) (x2 : Int32) (x3 : Int32) (s0_3 : Int32) : Option (Int32) :=
  (if x0 = 0 then (F_Dia_winsBy_J27_5 s0_3 x3) else (F_Dia_winsBy_J27_5 s0_3 x2))
def F_Dia_winsBy (x0 : Int32) (x1 : Int32) (x2 : Int32) (x3 : Int32) : Option (Int32) :=
  (if x0 = x1 then (some 0) else (if x0 = 0 then (F_Dia_winsBy_J16_3 x0 x2 x3 x2) else (F_Dia_winsBy_J16_3 x0 x2 x3 x3)))
set_option maxHeartbeats 4000000 in
set_option maxRecDepth 100000 in
theorem C_Dia_winsBy (l : Launch) (D : va_G) (cI cS : ClassId) (x0 : Int32) (x1 : Int32) (x2 : Int32) (x3 : Int32) (o : Int32) (hr : F_Dia_winsBy x0 x1 x2 x3 = some o) : ctI l y_Dia_winsBy (Cond.code y_Dia_winsBy b_Dia_winsBy 6 (some FieldType.int)) (rmd 0) D (kTy cI cS) [.int x0, .int x1, .int x2, .int x3] [] [] o := by
  unfold F_Dia_winsBy at hr
  refine ⟨rfl, fun sz => ct_of (w0 := []) (Qc := fun A => qI D [] o A) rfl (Nat.le_of_ble_eq_true rfl) ?_ sz⟩
  intro p e s m below meth c A hA C hret ls hl hW
  have C : cx p s m ([.int x0, .int x1, .int x2, .int x3] : List Value).toArray meth c b_Dia_winsBy 6 R_Dia D (kTy cI cS) (Cond.code y_Dia_winsBy b_Dia_winsBy 6 (some FieldType.int)) := C
  obtain ⟨hx, hb, hml, hown, hts, hK, hlk, hN⟩ := id C
  have hl : lv_has ls 6 [(0, .int x0), (1, .int x1), (2, .int x2), (3, .int x3)] := hl
  obtain ⟨Q, hQ⟩ : ∃ Q, Q = MQ below (qI D [] o A) ([.int x0, .int x1, .int x2, .int x3] : List Value).toArray s 0 0 A := ⟨_, rfl⟩
  rw [← hQ]
  refine lv_iload_n hx hb d_Dia_winsBy_0 rfl (lv_at hl 0 rfl) ?_
  refine lv_iload_n hx hb d_Dia_winsBy_1 rfl (lv_at hl 1 rfl) ?_
  refine lv_icmp_ne (tgt := 7) hx hb d_Dia_winsBy_2 (by decide) (fun c_1 => ?_) (fun c_1 => ?_)
  · replace hr := iN c_1 hr
    refine lv_iload_n hx hb d_Dia_winsBy_7 rfl (lv_at hl 0 rfl) ?_
    have hJ_3 : ∀ (s0_3 : Int32), F_Dia_winsBy_J16_3 x0 x2 x3 s0_3 = some o → ∀ (H : Heap) (locs : List Loc) (ls : Array Slot), wd A s.heap D [] H locs → lv_has ls 6 [(0, .int x0), (2, .int x2), (3, .int x3)] → W p l e (rmd 0) s m ([.int x0, .int x1, .int x2, .int x3] : List Value).toArray below meth c H locs 0 0 Q (F0 m 16 ls [.int s0_3]) := by
      intro s0_3 hr H locs ls hW hl
      unfold F_Dia_winsBy_J16_3 at hr
      refine lv_istore (lv' := [(4, .int s0_3), (0, .int x0), (2, .int x2), (3, .int x3)]) hx hb d_Dia_winsBy_16 hl (by decide) rfl (fun ls hl => ?_)
      refine lv_iload_n hx hb d_Dia_winsBy_18 rfl (lv_at hl 1 rfl) ?_
      have hJ_5 : ∀ (s0_5 : Int32), F_Dia_winsBy_J27_5 s0_3 s0_5 = some o → ∀ (H : Heap) (locs : List Loc) (ls : Array Slot), wd A s.heap D [] H locs → lv_has ls 6 [(4, .int s0_3)] → W p l e (rmd 0) s m ([.int x0, .int x1, .int x2, .int x3] : List Value).toArray below meth c H locs 0 0 Q (F0 m 27 ls [.int s0_5]) := by
        intro s0_5 hr H locs ls hW hl
        unfold F_Dia_winsBy_J27_5 at hr
        refine lv_istore (lv' := [(5, .int s0_5), (4, .int s0_3)]) hx hb d_Dia_winsBy_27 hl (by decide) rfl (fun ls hl => ?_)
        refine lv_iload hx hb d_Dia_winsBy_29 (lv_at hl 1 rfl) ?_
        refine lv_iload hx hb d_Dia_winsBy_31 (lv_at hl 0 rfl) ?_
        refine lv_icmp_ne (tgt := 38) hx hb d_Dia_winsBy_33 (by decide) (fun c_6 => ?_) (fun c_6 => ?_)
        · replace hr := iN c_6 hr
          refine lv_iload hx hb d_Dia_winsBy_38 (lv_at hl 1 rfl) ?_
          refine lv_iload hx hb d_Dia_winsBy_40 (lv_at hl 0 rfl) ?_
          refine lv_icmp_le (tgt := 49) hx hb d_Dia_winsBy_42 (by decide) (fun c_7 => ?_) (fun c_7 => ?_)
          · replace hr := ip c_7 hr
            refine lv_iconst (v := (-1)) hx hb d_Dia_winsBy_49 (by decide) ?_
            obtain rfl := Option.some.inj hr
            rw [hQ]; exact k_iret C hret hW d_Dia_winsBy_50
          · replace hr := iN c_7 hr
            refine lv_iconst (v := 3) hx hb d_Dia_winsBy_45 (by decide) ?_
            refine lv_goto (tgt := 50) hx hb d_Dia_winsBy_46 (by decide) ?_
            obtain rfl := Option.some.inj hr
            rw [hQ]; exact k_iret C hret hW d_Dia_winsBy_50
        · replace hr := ip c_6 hr
          refine lv_iconst (v := 1) hx hb d_Dia_winsBy_36 (by decide) ?_
          obtain rfl := Option.some.inj hr
          rw [hQ]; exact k_iret C hret hW d_Dia_winsBy_37
      refine lv_if_ne (tgt := 26) hx hb d_Dia_winsBy_19 (by decide) (fun c_4 => ?_) (fun c_4 => ?_)
      · replace hr := iN c_4 hr
        refine lv_iload_n hx hb d_Dia_winsBy_26 rfl (lv_at hl 2 rfl) ?_
        exact hJ_5 x2 hr _ _ _ hW (lv_sub hl [0] rfl)
      · replace hr := ip c_4 hr
        refine lv_iload_n hx hb d_Dia_winsBy_22 rfl (lv_at hl 3 rfl) ?_
        refine lv_goto (tgt := 27) hx hb d_Dia_winsBy_23 (by decide) ?_
        exact hJ_5 x3 hr _ _ _ hW (lv_sub hl [0] rfl)
    refine lv_if_ne (tgt := 15) hx hb d_Dia_winsBy_8 (by decide) (fun c_2 => ?_) (fun c_2 => ?_)
    · replace hr := iN c_2 hr
      refine lv_iload_n hx hb d_Dia_winsBy_15 rfl (lv_at hl 3 rfl) ?_
      exact hJ_3 x3 hr _ _ _ hW (lv_sub hl [0, 2, 3] rfl)
    · replace hr := ip c_2 hr
      refine lv_iload_n hx hb d_Dia_winsBy_11 rfl (lv_at hl 2 rfl) ?_
      refine lv_goto (tgt := 16) hx hb d_Dia_winsBy_12 (by decide) ?_
      exact hJ_3 x2 hr _ _ _ hW (lv_sub hl [0, 2, 3] rfl)
  · replace hr := ip c_1 hr
    refine lv_iconst (v := 0) hx hb d_Dia_winsBy_5 (by decide) ?_
    obtain rfl := Option.some.inj hr
    rw [hQ]; exact k_iret C hret hW d_Dia_winsBy_6
def F_Dia_firstSettledBet_L9 (y2_1 : Int32) (x0 : Int32) (x1 : Int32) (y3_3 : Int32) : Option (((Int32)) ⊕ (((Unit) ⊕ (Int32)))) :=
  (if (2 : Int32) ≤ y3_3 then (some (.inr (.inl ()))) else ((F_Dia_winsBy y2_1 y3_3 x0 x1).bind (fun q_5 => ((F_Dia_winsBy ((1 : Int32) - y2_1) y3_3 x0 x1).bind (fun q_6 => ((F_Dia_winsBy y3_3 y2_1 x0 x1).bind (fun q_7 => ((F_Dia_winsBy ((1 : Int32) - y3_3) y2_1 x0 x1).bind (fun q_8 => (if q_5 < q_6 then (some (.inl (y3_3 + 1))) else (if q_7 < q_8 then (some (.inl (y3_3 + 1))) else (some (.inr (.inr (((10 : Int32) * y2_1) + y3_3)))))))))))))))
def F_Dia_firstSettledBet_L2 (x0 : Int32) (x1 : Int32) (y2_1 : Int32) : Option (((Int32)) ⊕ (((Unit) ⊕ (Int32)))) :=
  (if (2 : Int32) ≤ y2_1 then (some (.inr (.inl ()))) else ((wh (fun (s : (Int32)) => F_Dia_firstSettledBet_L9 y2_1 x0 x1 s) 400 (0 : Int32)).bind (sx (fun e_3 => (some (.inl (y2_1 + 1)))) (fun o => some (.inr (.inr o))))))
def F_Dia_firstSettledBet (x0 : Int32) (x1 : Int32) : Option (Int32) :=
  ((wh (fun (s : (Int32)) => F_Dia_firstSettledBet_L2 x0 x1 s) 400 (0 : Int32)).bind (sx (fun e_1 => (some (-9))) (fun o => some o)))
set_option maxHeartbeats 4000000 in
set_option maxRecDepth 100000 in
theorem C_Dia_firstSettledBet (l : Launch) (D : va_G) (cI cS : ClassId) (x0 : Int32) (x1 : Int32) (o : Int32) (hr : F_Dia_firstSettledBet x0 x1 = some o) : ctI l y_Dia_firstSettledBet (Cond.code y_Dia_firstSettledBet b_Dia_firstSettledBet 8 (some FieldType.int)) (rmd 1) D (kTy cI cS) [.int x0, .int x1] [] [] o := by
  unfold F_Dia_firstSettledBet at hr
  refine ⟨rfl, fun sz => ct_of (w0 := []) (Qc := fun A => qI D [] o A) rfl (Nat.le_of_ble_eq_true rfl) ?_ sz⟩
  intro p e s m below meth c A hA C hret ls hl hW
  have C : cx p s m ([.int x0, .int x1] : List Value).toArray meth c b_Dia_firstSettledBet 8 R_Dia D (kTy cI cS) (Cond.code y_Dia_firstSettledBet b_Dia_firstSettledBet 8 (some FieldType.int)) := C
  obtain ⟨hx, hb, hml, hown, hts, hK, hlk, hN⟩ := id C
  have hl : lv_has ls 8 [(0, .int x0), (1, .int x1)] := hl
  obtain ⟨Q, hQ⟩ : ∃ Q, Q = MQ below (qI D [] o A) ([.int x0, .int x1] : List Value).toArray s 0 0 A := ⟨_, rfl⟩
  rw [← hQ]
  refine lv_iconst (v := 0) hx hb d_Dia_firstSettledBet_0 (by decide) ?_
  refine lv_istore_n (lv' := [(2, .int 0), (0, .int x0), (1, .int x1)]) hx hb d_Dia_firstSettledBet_1 rfl hl (by decide) rfl (fun ls hl => ?_)
  obtain ⟨ex_1, hw_1, hk_1⟩ := ob hr
  have hx_1 : ∀ (e_1 : Unit), Sum.inl e_1 = ex_1 → ∀ (H : Heap) (locs : List Loc) (ls : Array Slot), wd A s.heap D [] H locs → lv_has ls 8 [] → W p l e (rmd 1) s m ([.int x0, .int x1] : List Value).toArray below meth c H locs 0 0 Q (F0 m 87 ls []) := by
    intro e_1 hE H locs ls hW hl
    have hr := sx_l hE.symm hk_1
    refine lv_bipush (v := (-9)) hx hb d_Dia_firstSettledBet_87 (by decide) ?_
    obtain rfl := Option.some.inj hr
    rw [hQ]; exact k_iret C hret hW d_Dia_firstSettledBet_89
  have hl_1 : ∀ (k : Nat) (y2_1 : Int32), wh (fun (s : (Int32)) => F_Dia_firstSettledBet_L2 x0 x1 s) k y2_1 = some ex_1 → ∀ (H : Heap) (locs : List Loc) (ls : Array Slot), wd A s.heap D [] H locs → lv_has ls 8 [(0, .int x0), (1, .int x1), (2, .int y2_1)] → W p l e (rmd 1) s m ([.int x0, .int x1] : List Value).toArray below meth c H locs 0 0 Q (F0 m 2 ls []) := by
    intro k
    induction k with
    | zero => intro y2_1 hw; exact absurd hw wh_0
    | succ k ih_1 =>
      intro y2_1 hw H locs ls hW hl
      obtain ⟨z_1, hr, hz1_1, hz2_1⟩ := wh_s hw
      have hr : F_Dia_firstSettledBet_L2 x0 x1 y2_1 = some z_1 := hr
      unfold F_Dia_firstSettledBet_L2 at hr
      refine lv_iload_n hx hb d_Dia_firstSettledBet_2 rfl (lv_at hl 2 rfl) ?_
      refine lv_iconst (v := 2) hx hb d_Dia_firstSettledBet_3 (by decide) ?_
      refine lv_icmp_ge (tgt := 87) hx hb d_Dia_firstSettledBet_4 (by decide) (fun c_2 => ?_) (fun c_2 => ?_)
      · replace hr := ip c_2 hr
        exact hx_1 _ (hz2_1 _ (Option.some.inj hr).symm) _ _ _ hW (lv_sub hl [] rfl)
      · replace hr := iN c_2 hr
        refine lv_iconst (v := 0) hx hb d_Dia_firstSettledBet_7 (by decide) ?_
        refine lv_istore_n (lv' := [(3, .int 0), (0, .int x0), (1, .int x1), (2, .int y2_1)]) hx hb d_Dia_firstSettledBet_8 rfl hl (by decide) rfl (fun ls hl => ?_)
        obtain ⟨ex_3, hw_3, hk_3⟩ := ob hr
        have hx_3 : ∀ (e_3 : Unit), Sum.inl e_3 = ex_3 → ∀ (H : Heap) (locs : List Loc) (ls : Array Slot), wd A s.heap D [] H locs → lv_has ls 8 [(0, .int x0), (1, .int x1), (2, .int y2_1)] → W p l e (rmd 1) s m ([.int x0, .int x1] : List Value).toArray below meth c H locs 0 0 Q (F0 m 81 ls []) := by
          intro e_3 hE H locs ls hW hl
          have hr := sx_l hE.symm hk_3
          refine lv_iinc (v := (y2_1 + 1)) (lv' := [(2, .int (y2_1 + 1)), (0, .int x0), (1, .int x1)]) hx hb d_Dia_firstSettledBet_81 hl (k := 2) rfl rfl (by decide) rfl (fun ls hl => ?_)
          refine lv_goto (tgt := 2) hx hb d_Dia_firstSettledBet_84 (by decide) ?_
          exact ih_1 (y2_1 + 1) (hz1_1 _ (Option.some.inj hr).symm) _ _ _ hW (lv_sub hl [1, 2, 0] rfl)
        have hl_3 : ∀ (k : Nat) (y3_3 : Int32), wh (fun (s : (Int32)) => F_Dia_firstSettledBet_L9 y2_1 x0 x1 s) k y3_3 = some ex_3 → ∀ (H : Heap) (locs : List Loc) (ls : Array Slot), wd A s.heap D [] H locs → lv_has ls 8 [(0, .int x0), (1, .int x1), (2, .int y2_1), (3, .int y3_3)] → W p l e (rmd 1) s m ([.int x0, .int x1] : List Value).toArray below meth c H locs 0 0 Q (F0 m 9 ls []) := by
          intro k
          induction k with
          | zero => intro y3_3 hw; exact absurd hw wh_0
          | succ k ih_3 =>
            intro y3_3 hw H locs ls hW hl
            obtain ⟨z_3, hr, hz1_3, hz2_3⟩ := wh_s hw
            have hr : F_Dia_firstSettledBet_L9 y2_1 x0 x1 y3_3 = some z_3 := hr
            unfold F_Dia_firstSettledBet_L9 at hr
            refine lv_iload_n hx hb d_Dia_firstSettledBet_9 rfl (lv_at hl 3 rfl) ?_
            refine lv_iconst (v := 2) hx hb d_Dia_firstSettledBet_10 (by decide) ?_
            refine lv_icmp_ge (tgt := 81) hx hb d_Dia_firstSettledBet_11 (by decide) (fun c_4 => ?_) (fun c_4 => ?_)
            · replace hr := ip c_4 hr
              exact hx_3 _ (hz2_3 _ (Option.some.inj hr).symm) _ _ _ hW (lv_sub hl [0, 1, 2] rfl)
            · replace hr := iN c_4 hr
              refine lv_iload_n hx hb d_Dia_firstSettledBet_14 rfl (lv_at hl 2 rfl) ?_
              refine lv_iload_n hx hb d_Dia_firstSettledBet_15 rfl (lv_at hl 3 rfl) ?_
              refine lv_iload_n hx hb d_Dia_firstSettledBet_16 rfl (lv_at hl 0 rfl) ?_
              refine lv_iload_n hx hb d_Dia_firstSettledBet_17 rfl (lv_at hl 1 rfl) ?_
              obtain ⟨q_5, hc_5, hr⟩ := ob hr
              have ct_5 := C_Dia_winsBy l D cI cS y2_1 y3_3 x0 x1 q_5 hc_5
              refine k_goIp hA hW [] rfl rfl (k_runS C hA hW mw_Dia_winsBy ms_Dia_winsBy (ct_5.2 _) [] rfl rfl qm_Dia_64 ⟨Nat.le_of_ble_eq_true rfl, Nat.le_of_ble_eq_true rfl, Nat.zero_le _, Nat.zero_le _⟩ rfl rfl (Nat.le_of_ble_eq_true rfl) hl.1 d_Dia_firstSettledBet_18) (fun H locs hW => ?_)
              refine lv_istore (lv' := [(4, .int q_5), (0, .int x0), (1, .int x1), (2, .int y2_1), (3, .int y3_3)]) hx hb d_Dia_firstSettledBet_21 hl (by decide) rfl (fun ls hl => ?_)
              refine lv_iconst (v := 1) hx hb d_Dia_firstSettledBet_23 (by decide) ?_
              refine lv_iload_n hx hb d_Dia_firstSettledBet_24 rfl (lv_at hl 3 rfl) ?_
              refine lv_isub hx hb d_Dia_firstSettledBet_25 ?_
              refine lv_iload_n hx hb d_Dia_firstSettledBet_26 rfl (lv_at hl 4 rfl) ?_
              refine lv_iload_n hx hb d_Dia_firstSettledBet_27 rfl (lv_at hl 1 rfl) ?_
              refine lv_iload_n hx hb d_Dia_firstSettledBet_28 rfl (lv_at hl 2 rfl) ?_
              obtain ⟨q_6, hc_6, hr⟩ := ob hr
              have ct_6 := C_Dia_winsBy l D cI cS ((1 : Int32) - y2_1) y3_3 x0 x1 q_6 hc_6
              refine k_goIp hA hW [] rfl rfl (k_runS C hA hW mw_Dia_winsBy ms_Dia_winsBy (ct_6.2 _) [] rfl rfl qm_Dia_64 ⟨Nat.le_of_ble_eq_true rfl, Nat.le_of_ble_eq_true rfl, Nat.zero_le _, Nat.zero_le _⟩ rfl rfl (Nat.le_of_ble_eq_true rfl) hl.1 d_Dia_firstSettledBet_29) (fun H locs hW => ?_)
              refine lv_istore (lv' := [(5, .int q_6), (4, .int q_5), (0, .int x0), (1, .int x1), (2, .int y2_1), (3, .int y3_3)]) hx hb d_Dia_firstSettledBet_32 hl (by decide) rfl (fun ls hl => ?_)
              refine lv_iload_n hx hb d_Dia_firstSettledBet_34 rfl (lv_at hl 5 rfl) ?_
              refine lv_iload_n hx hb d_Dia_firstSettledBet_35 rfl (lv_at hl 4 rfl) ?_
              refine lv_iload_n hx hb d_Dia_firstSettledBet_36 rfl (lv_at hl 2 rfl) ?_
              refine lv_iload_n hx hb d_Dia_firstSettledBet_37 rfl (lv_at hl 3 rfl) ?_
              obtain ⟨q_7, hc_7, hr⟩ := ob hr
              have ct_7 := C_Dia_winsBy l D cI cS y3_3 y2_1 x0 x1 q_7 hc_7
              refine k_goIp hA hW [] rfl rfl (k_runS C hA hW mw_Dia_winsBy ms_Dia_winsBy (ct_7.2 _) [] rfl rfl qm_Dia_64 ⟨Nat.le_of_ble_eq_true rfl, Nat.le_of_ble_eq_true rfl, Nat.zero_le _, Nat.zero_le _⟩ rfl rfl (Nat.le_of_ble_eq_true rfl) hl.1 d_Dia_firstSettledBet_38) (fun H locs hW => ?_)
              refine lv_istore (lv' := [(6, .int q_7), (5, .int q_6), (4, .int q_5), (0, .int x0), (1, .int x1), (2, .int y2_1), (3, .int y3_3)]) hx hb d_Dia_firstSettledBet_41 hl (by decide) rfl (fun ls hl => ?_)
              refine lv_iconst (v := 1) hx hb d_Dia_firstSettledBet_43 (by decide) ?_
              refine lv_iload_n hx hb d_Dia_firstSettledBet_44 rfl (lv_at hl 6 rfl) ?_
              refine lv_isub hx hb d_Dia_firstSettledBet_45 ?_
              refine lv_iload_n hx hb d_Dia_firstSettledBet_46 rfl (lv_at hl 5 rfl) ?_
              refine lv_iload_n hx hb d_Dia_firstSettledBet_47 rfl (lv_at hl 3 rfl) ?_
              refine lv_iload_n hx hb d_Dia_firstSettledBet_48 rfl (lv_at hl 4 rfl) ?_
              obtain ⟨q_8, hc_8, hr⟩ := ob hr
              have ct_8 := C_Dia_winsBy l D cI cS ((1 : Int32) - y3_3) y2_1 x0 x1 q_8 hc_8
              refine k_goIp hA hW [] rfl rfl (k_runS C hA hW mw_Dia_winsBy ms_Dia_winsBy (ct_8.2 _) [] rfl rfl qm_Dia_64 ⟨Nat.le_of_ble_eq_true rfl, Nat.le_of_ble_eq_true rfl, Nat.zero_le _, Nat.zero_le _⟩ rfl rfl (Nat.le_of_ble_eq_true rfl) hl.1 d_Dia_firstSettledBet_49) (fun H locs hW => ?_)
              refine lv_istore (lv' := [(7, .int q_8), (6, .int q_7), (5, .int q_6), (4, .int q_5), (0, .int x0), (1, .int x1), (2, .int y2_1), (3, .int y3_3)]) hx hb d_Dia_firstSettledBet_52 hl (by decide) rfl (fun ls hl => ?_)
              refine lv_iload hx hb d_Dia_firstSettledBet_54 (lv_at hl 2 rfl) ?_
              refine lv_iload hx hb d_Dia_firstSettledBet_56 (lv_at hl 3 rfl) ?_
              refine lv_icmp_gt (tgt := 75) hx hb d_Dia_firstSettledBet_58 (by decide) (fun c_9 => ?_) (fun c_9 => ?_)
              · replace hr := ip c_9 hr
                refine lv_iinc (v := (y3_3 + 1)) (lv' := [(3, .int (y3_3 + 1)), (7, .int q_8), (6, .int q_7), (5, .int q_6), (4, .int q_5), (0, .int x0), (1, .int x1), (2, .int y2_1)]) hx hb d_Dia_firstSettledBet_75 hl (k := 7) rfl rfl (by decide) rfl (fun ls hl => ?_)
                refine lv_goto (tgt := 9) hx hb d_Dia_firstSettledBet_78 (by decide) ?_
                exact ih_3 (y3_3 + 1) (hz1_3 _ (Option.some.inj hr).symm) _ _ _ hW (lv_sub hl [5, 6, 7, 0] rfl)
              · replace hr := iN c_9 hr
                refine lv_iload hx hb d_Dia_firstSettledBet_61 (lv_at hl 0 rfl) ?_
                refine lv_iload hx hb d_Dia_firstSettledBet_63 (lv_at hl 1 rfl) ?_
                refine lv_icmp_gt (tgt := 75) hx hb d_Dia_firstSettledBet_65 (by decide) (fun c_10 => ?_) (fun c_10 => ?_)
                · replace hr := ip c_10 hr
                  refine lv_iinc (v := (y3_3 + 1)) (lv' := [(3, .int (y3_3 + 1)), (7, .int q_8), (6, .int q_7), (5, .int q_6), (4, .int q_5), (0, .int x0), (1, .int x1), (2, .int y2_1)]) hx hb d_Dia_firstSettledBet_75 hl (k := 7) rfl rfl (by decide) rfl (fun ls hl => ?_)
                  refine lv_goto (tgt := 9) hx hb d_Dia_firstSettledBet_78 (by decide) ?_
                  exact ih_3 (y3_3 + 1) (hz1_3 _ (Option.some.inj hr).symm) _ _ _ hW (lv_sub hl [5, 6, 7, 0] rfl)
                · replace hr := iN c_10 hr
                  refine lv_bipush (v := 10) hx hb d_Dia_firstSettledBet_68 (by decide) ?_
                  refine lv_iload_n hx hb d_Dia_firstSettledBet_70 rfl (lv_at hl 6 rfl) ?_
                  refine lv_imul hx hb d_Dia_firstSettledBet_71 ?_
                  refine lv_iload_n hx hb d_Dia_firstSettledBet_72 rfl (lv_at hl 7 rfl) ?_
                  refine lv_iadd hx hb d_Dia_firstSettledBet_73 ?_
                  have hr := sx_r (hz2_3 _ (Option.some.inj hr).symm).symm hk_3
                  have hr := sx_r (hz2_1 _ (Option.some.inj hr).symm).symm hk_1
                  obtain rfl := Option.some.inj hr
                  rw [hQ]; exact k_iret C hret hW d_Dia_firstSettledBet_74
        exact hl_3 _ 0 hw_3 _ _ _ hW (lv_sub hl [1, 2, 3, 0] rfl)
  exact hl_1 _ 0 hw_1 _ _ _ hW (lv_sub hl [1, 2, 0] rfl)
def w_Dia_likelyOfTwo (cI : ClassId) (a_r0 : Nat) (a_r0_goes : Nat) (a_r0_weights : Nat) (v_r0_kinds v_r0_figures v_r0_things v_r0_hampers v_r0_days v_r0_fields v_r0_done : Value) (r0_goes : Nat → Int32) (r0_weights : Nat → Int32) : va_W := [(a_r0, .inr (1, [.ref a_r0_weights, v_r0_kinds, v_r0_figures, .ref a_r0_goes, v_r0_things, v_r0_hampers, v_r0_days, v_r0_fields, v_r0_done])), (a_r0_goes, .inl (cI, 8, .inl r0_goes)), (a_r0_weights, .inl (cI, 6, .inl r0_weights))]
def F_Dia_likelyOfTwo_J15_3 (r0_goes : Nat → Int32) (r0_weights : Nat → Int32) (x2 : Int32) (s0_3 : Int32) : Option (Int32) :=
  ((F_Sta_likeliestBy r0_goes r0_weights x2).bind (fun q_4 => (if q_4 = (-9) then (some (s0_3 + 0)) else (some (s0_3 + 1)))))
def F_Dia_likelyOfTwo (r0_goes : Nat → Int32) (r0_weights : Nat → Int32) (x1 : Int32) (x2 : Int32) : Option (Int32) :=
  ((F_Sta_likeliestBy r0_goes r0_weights x1).bind (fun q_1 => (if q_1 = (-9) then (F_Dia_likelyOfTwo_J15_3 r0_goes r0_weights x2 0) else (F_Dia_likelyOfTwo_J15_3 r0_goes r0_weights x2 1))))
set_option maxHeartbeats 4000000 in
set_option maxRecDepth 100000 in
theorem C_Dia_likelyOfTwo (l : Launch) (D : va_G) (cI cS : ClassId) (a_r0 : Nat) (a_r0_goes : Nat) (a_r0_weights : Nat) (v_r0_kinds v_r0_figures v_r0_things v_r0_hampers v_r0_days v_r0_fields v_r0_done : Value) (r0_goes : Nat → Int32) (r0_weights : Nat → Int32) (x1 : Int32) (x2 : Int32) (o : Int32) (hr : F_Dia_likelyOfTwo r0_goes r0_weights x1 x2 = some o) : ctI l y_Dia_likelyOfTwo (Cond.code y_Dia_likelyOfTwo b_Dia_likelyOfTwo 5 (some FieldType.int)) (rmd 3) D (kTy cI cS) [.ref a_r0, .int x1, .int x2] (w_Dia_likelyOfTwo cI a_r0 a_r0_goes a_r0_weights v_r0_kinds v_r0_figures v_r0_things v_r0_hampers v_r0_days v_r0_fields v_r0_done r0_goes r0_weights) (w_Dia_likelyOfTwo cI a_r0 a_r0_goes a_r0_weights v_r0_kinds v_r0_figures v_r0_things v_r0_hampers v_r0_days v_r0_fields v_r0_done r0_goes r0_weights) o := by
  unfold F_Dia_likelyOfTwo at hr
  refine ⟨rfl, fun sz => ct_of (w0 := (w_Dia_likelyOfTwo cI a_r0 a_r0_goes a_r0_weights v_r0_kinds v_r0_figures v_r0_things v_r0_hampers v_r0_days v_r0_fields v_r0_done r0_goes r0_weights)) (Qc := fun A => qI D (w_Dia_likelyOfTwo cI a_r0 a_r0_goes a_r0_weights v_r0_kinds v_r0_figures v_r0_things v_r0_hampers v_r0_days v_r0_fields v_r0_done r0_goes r0_weights) o A) rfl (Nat.le_of_ble_eq_true rfl) ?_ sz⟩
  intro p e s m below meth c A hA C hret ls hl hW
  have C : cx p s m ([.ref a_r0, .int x1, .int x2] : List Value).toArray meth c b_Dia_likelyOfTwo 5 R_Dia D (kTy cI cS) (Cond.code y_Dia_likelyOfTwo b_Dia_likelyOfTwo 5 (some FieldType.int)) := C
  obtain ⟨hx, hb, hml, hown, hts, hK, hlk, hN⟩ := id C
  have hl : lv_has ls 5 [(0, .ref a_r0), (1, .int x1), (2, .int x2)] := hl
  obtain ⟨Q, hQ⟩ : ∃ Q, Q = MQ below (qI D (w_Dia_likelyOfTwo cI a_r0 a_r0_goes a_r0_weights v_r0_kinds v_r0_figures v_r0_things v_r0_hampers v_r0_days v_r0_fields v_r0_done r0_goes r0_weights) o A) ([.ref a_r0, .int x1, .int x2] : List Value).toArray s 0 0 A := ⟨_, rfl⟩
  rw [← hQ]
  refine lv_aload_n hx hb d_Dia_likelyOfTwo_0 rfl (lv_at hl 0 rfl) ?_
  refine lv_iload_n hx hb d_Dia_likelyOfTwo_1 rfl (lv_at hl 1 rfl) ?_
  obtain ⟨q_1, hc_1, hr⟩ := ob hr
  have ct_1 := C_Sta_likeliestBy l D cI cS a_r0 a_r0_goes a_r0_weights v_r0_kinds v_r0_figures v_r0_things v_r0_hampers v_r0_days v_r0_fields v_r0_done r0_goes r0_weights x1 q_1 hc_1
  refine k_goIp hA hW [0, 1, 2] rfl rfl (k_runV C hA hW mw_Sta_likeliestBy mv_Sta_likeliestBy (ct_1.2 _) [0, 1, 2] rfl rfl 0 rfl rfl qm_Dia_54 ⟨Nat.le_of_ble_eq_true rfl, Nat.le_of_ble_eq_true rfl, Nat.zero_le _, Nat.zero_le _⟩ rfl rfl (Nat.le_of_ble_eq_true rfl) hl.1 d_Dia_likelyOfTwo_2) (fun H locs hW => ?_)
  refine lv_bipush (v := (-9)) hx hb d_Dia_likelyOfTwo_5 (by decide) ?_
  have hJ_3 : ∀ (s0_3 : Int32), F_Dia_likelyOfTwo_J15_3 r0_goes r0_weights x2 s0_3 = some o → ∀ (H : Heap) (locs : List Loc) (ls : Array Slot), wd A s.heap D (w_Dia_likelyOfTwo cI a_r0 a_r0_goes a_r0_weights v_r0_kinds v_r0_figures v_r0_things v_r0_hampers v_r0_days v_r0_fields v_r0_done r0_goes r0_weights) H locs → lv_has ls 5 [(0, .ref a_r0), (2, .int x2)] → W p l e (rmd 3) s m ([.ref a_r0, .int x1, .int x2] : List Value).toArray below meth c H locs 0 0 Q (F0 m 15 ls [.int s0_3]) := by
    intro s0_3 hr H locs ls hW hl
    unfold F_Dia_likelyOfTwo_J15_3 at hr
    refine lv_istore_n (lv' := [(3, .int s0_3), (0, .ref a_r0), (2, .int x2)]) hx hb d_Dia_likelyOfTwo_15 rfl hl (by decide) rfl (fun ls hl => ?_)
    refine lv_aload_n hx hb d_Dia_likelyOfTwo_16 rfl (lv_at hl 1 rfl) ?_
    refine lv_iload_n hx hb d_Dia_likelyOfTwo_17 rfl (lv_at hl 2 rfl) ?_
    obtain ⟨q_4, hc_4, hr⟩ := ob hr
    have ct_4 := C_Sta_likeliestBy l D cI cS a_r0 a_r0_goes a_r0_weights v_r0_kinds v_r0_figures v_r0_things v_r0_hampers v_r0_days v_r0_fields v_r0_done r0_goes r0_weights x2 q_4 hc_4
    refine k_goIp hA hW [0, 1, 2] rfl rfl (k_runV C hA hW mw_Sta_likeliestBy mv_Sta_likeliestBy (ct_4.2 _) [0, 1, 2] rfl rfl 0 rfl rfl qm_Dia_54 ⟨Nat.le_of_ble_eq_true rfl, Nat.le_of_ble_eq_true rfl, Nat.zero_le _, Nat.zero_le _⟩ rfl rfl (Nat.le_of_ble_eq_true rfl) hl.1 d_Dia_likelyOfTwo_18) (fun H locs hW => ?_)
    refine lv_bipush (v := (-9)) hx hb d_Dia_likelyOfTwo_21 (by decide) ?_
    refine lv_icmp_ne (tgt := 30) hx hb d_Dia_likelyOfTwo_23 (by decide) (fun c_5 => ?_) (fun c_5 => ?_)
    · replace hr := iN c_5 hr
      refine lv_iconst (v := 1) hx hb d_Dia_likelyOfTwo_30 (by decide) ?_
      refine lv_istore (lv' := [(4, .int 1), (3, .int s0_3), (0, .ref a_r0), (2, .int x2)]) hx hb d_Dia_likelyOfTwo_31 hl (by decide) rfl (fun ls hl => ?_)
      refine lv_iload_n hx hb d_Dia_likelyOfTwo_33 rfl (lv_at hl 1 rfl) ?_
      refine lv_iload hx hb d_Dia_likelyOfTwo_34 (lv_at hl 0 rfl) ?_
      refine lv_iadd hx hb d_Dia_likelyOfTwo_36 ?_
      obtain rfl := Option.some.inj hr
      rw [hQ]; exact k_iret C hret hW d_Dia_likelyOfTwo_37
    · replace hr := ip c_5 hr
      refine lv_iconst (v := 0) hx hb d_Dia_likelyOfTwo_26 (by decide) ?_
      refine lv_goto (tgt := 31) hx hb d_Dia_likelyOfTwo_27 (by decide) ?_
      refine lv_istore (lv' := [(4, .int 0), (3, .int s0_3), (0, .ref a_r0), (2, .int x2)]) hx hb d_Dia_likelyOfTwo_31 hl (by decide) rfl (fun ls hl => ?_)
      refine lv_iload_n hx hb d_Dia_likelyOfTwo_33 rfl (lv_at hl 1 rfl) ?_
      refine lv_iload hx hb d_Dia_likelyOfTwo_34 (lv_at hl 0 rfl) ?_
      refine lv_iadd hx hb d_Dia_likelyOfTwo_36 ?_
      obtain rfl := Option.some.inj hr
      rw [hQ]; exact k_iret C hret hW d_Dia_likelyOfTwo_37
  refine lv_icmp_ne (tgt := 14) hx hb d_Dia_likelyOfTwo_7 (by decide) (fun c_2 => ?_) (fun c_2 => ?_)
  · replace hr := iN c_2 hr
    refine lv_iconst (v := 1) hx hb d_Dia_likelyOfTwo_14 (by decide) ?_
    exact hJ_3 1 hr _ _ _ hW (lv_sub hl [0, 2] rfl)
  · replace hr := ip c_2 hr
    refine lv_iconst (v := 0) hx hb d_Dia_likelyOfTwo_10 (by decide) ?_
    refine lv_goto (tgt := 15) hx hb d_Dia_likelyOfTwo_11 (by decide) ?_
    exact hJ_3 0 hr _ _ _ hW (lv_sub hl [0, 2] rfl)
def w_Dia_firstSwapOf (cI : ClassId) (a_r0 : Nat) (a_r0_goes : Nat) (a_r0_weights : Nat) (v_r0_kinds v_r0_figures v_r0_hampers v_r0_days v_r0_fields v_r0_done : Value) (r0_things : Int32) (r0_goes : Nat → Int32) (r0_weights : Nat → Int32) : va_W := [(a_r0, .inr (1, [.ref a_r0_weights, v_r0_kinds, v_r0_figures, .ref a_r0_goes, .int r0_things, v_r0_hampers, v_r0_days, v_r0_fields, v_r0_done])), (a_r0_goes, .inl (cI, 8, .inl r0_goes)), (a_r0_weights, .inl (cI, 6, .inl r0_weights))]
def F_Dia_firstSwapOf_J62_8 (r0_goes : Nat → Int32) (r0_weights : Nat → Int32) (q_1 : Int32) (y4_2 : Int32) (y5_4 : Int32) (x1 : Int32) (x2 : Int32) (s0_8 : Int32) : Option (((Int32)) ⊕ (((Unit) ⊕ (Int32)))) :=
  (if s0_8 = 0 then (some (.inl (y5_4 + 1))) else ((F_Dia_likelyOfTwo r0_goes r0_weights (x1 ^^^ (((1 : Int32) <<< ((y4_2 : Int32) &&& 31)) ||| ((1 : Int32) <<< ((y5_4 : Int32) &&& 31)))) (x2 ^^^ (((1 : Int32) <<< ((y4_2 : Int32) &&& 31)) ||| ((1 : Int32) <<< ((y5_4 : Int32) &&& 31))))).bind (fun q_10 => (if q_10 ≤ q_1 then (some (.inl (y5_4 + 1))) else (some (.inr (.inr (((10 : Int32) * y4_2) + y5_4))))))))
def F_Dia_firstSwapOf_J61_12 (r0_goes : Nat → Int32) (r0_weights : Nat → Int32) (q_1 : Int32) (y4_2 : Int32) (y5_4 : Int32) (x1 : Int32) (x2 : Int32) : Option (((Int32)) ⊕ (((Unit) ⊕ (Int32)))) :=
  (F_Dia_firstSwapOf_J62_8 r0_goes r0_weights q_1 y4_2 y5_4 x1 x2 0)
def F_Dia_firstSwapOf_L22 (r0_things : Int32) (r0_goes : Nat → Int32) (r0_weights : Nat → Int32) (q_1 : Int32) (y4_2 : Int32) (x1 : Int32) (x2 : Int32) (y5_4 : Int32) : Option (((Int32)) ⊕ (((Unit) ⊕ (Int32)))) :=
  (if r0_things ≤ y5_4 then (some (.inr (.inl ()))) else ((F_H_holds (x1 &&& (x2 ^^^ (-1))) y4_2).bind (fun q_6 => (if q_6 = 0 then (F_Dia_firstSwapOf_J61_12 r0_goes r0_weights q_1 y4_2 y5_4 x1 x2) else ((F_H_holds (x2 &&& (x1 ^^^ (-1))) y5_4).bind (fun q_13 => (if q_13 = 0 then (F_Dia_firstSwapOf_J61_12 r0_goes r0_weights q_1 y4_2 y5_4 x1 x2) else (F_Dia_firstSwapOf_J62_8 r0_goes r0_weights q_1 y4_2 y5_4 x1 x2 1))))))))
def F_Dia_firstSwapOf_L10 (r0_things : Int32) (r0_goes : Nat → Int32) (r0_weights : Nat → Int32) (q_1 : Int32) (x1 : Int32) (x2 : Int32) (y4_2 : Int32) : Option (((Int32)) ⊕ (((Unit) ⊕ (Int32)))) :=
  (if r0_things ≤ y4_2 then (some (.inr (.inl ()))) else ((wh (fun (s : (Int32)) => F_Dia_firstSwapOf_L22 r0_things r0_goes r0_weights q_1 y4_2 x1 x2 s) 400 (0 : Int32)).bind (sx (fun e_4 => (some (.inl (y4_2 + 1)))) (fun o => some (.inr (.inr o))))))
def F_Dia_firstSwapOf (r0_things : Int32) (r0_goes : Nat → Int32) (r0_weights : Nat → Int32) (x1 : Int32) (x2 : Int32) : Option (Int32) :=
  ((F_Dia_likelyOfTwo r0_goes r0_weights x1 x2).bind (fun q_1 => ((wh (fun (s : (Int32)) => F_Dia_firstSwapOf_L10 r0_things r0_goes r0_weights q_1 x1 x2 s) 400 (0 : Int32)).bind (sx (fun e_2 => (some (-9))) (fun o => some o)))))
set_option maxHeartbeats 4000000 in
set_option maxRecDepth 100000 in
theorem C_Dia_firstSwapOf (l : Launch) (D : va_G) (cI cS : ClassId) (a_r0 : Nat) (a_r0_goes : Nat) (a_r0_weights : Nat) (v_r0_kinds v_r0_figures v_r0_hampers v_r0_days v_r0_fields v_r0_done : Value) (r0_things : Int32) (r0_goes : Nat → Int32) (r0_weights : Nat → Int32) (x1 : Int32) (x2 : Int32) (o : Int32) (hr : F_Dia_firstSwapOf r0_things r0_goes r0_weights x1 x2 = some o) : ctI l y_Dia_firstSwapOf (Cond.code y_Dia_firstSwapOf b_Dia_firstSwapOf 8 (some FieldType.int)) (rmd 4) D (kTy cI cS) [.ref a_r0, .int x1, .int x2] (w_Dia_firstSwapOf cI a_r0 a_r0_goes a_r0_weights v_r0_kinds v_r0_figures v_r0_hampers v_r0_days v_r0_fields v_r0_done r0_things r0_goes r0_weights) (w_Dia_firstSwapOf cI a_r0 a_r0_goes a_r0_weights v_r0_kinds v_r0_figures v_r0_hampers v_r0_days v_r0_fields v_r0_done r0_things r0_goes r0_weights) o := by
  unfold F_Dia_firstSwapOf at hr
  refine ⟨rfl, fun sz => ct_of (w0 := (w_Dia_firstSwapOf cI a_r0 a_r0_goes a_r0_weights v_r0_kinds v_r0_figures v_r0_hampers v_r0_days v_r0_fields v_r0_done r0_things r0_goes r0_weights)) (Qc := fun A => qI D (w_Dia_firstSwapOf cI a_r0 a_r0_goes a_r0_weights v_r0_kinds v_r0_figures v_r0_hampers v_r0_days v_r0_fields v_r0_done r0_things r0_goes r0_weights) o A) rfl (Nat.le_of_ble_eq_true rfl) ?_ sz⟩
  intro p e s m below meth c A hA C hret ls hl hW
  have C : cx p s m ([.ref a_r0, .int x1, .int x2] : List Value).toArray meth c b_Dia_firstSwapOf 8 R_Dia D (kTy cI cS) (Cond.code y_Dia_firstSwapOf b_Dia_firstSwapOf 8 (some FieldType.int)) := C
  obtain ⟨hx, hb, hml, hown, hts, hK, hlk, hN⟩ := id C
  have hl : lv_has ls 8 [(0, .ref a_r0), (1, .int x1), (2, .int x2)] := hl
  obtain ⟨Q, hQ⟩ : ∃ Q, Q = MQ below (qI D (w_Dia_firstSwapOf cI a_r0 a_r0_goes a_r0_weights v_r0_kinds v_r0_figures v_r0_hampers v_r0_days v_r0_fields v_r0_done r0_things r0_goes r0_weights) o A) ([.ref a_r0, .int x1, .int x2] : List Value).toArray s 0 0 A := ⟨_, rfl⟩
  rw [← hQ]
  refine lv_aload_n hx hb d_Dia_firstSwapOf_0 rfl (lv_at hl 0 rfl) ?_
  refine lv_iload_n hx hb d_Dia_firstSwapOf_1 rfl (lv_at hl 1 rfl) ?_
  refine lv_iload_n hx hb d_Dia_firstSwapOf_2 rfl (lv_at hl 2 rfl) ?_
  obtain ⟨q_1, hc_1, hr⟩ := ob hr
  have ct_1 := C_Dia_likelyOfTwo l D cI cS a_r0 a_r0_goes a_r0_weights v_r0_kinds v_r0_figures (Value.int r0_things) v_r0_hampers v_r0_days v_r0_fields v_r0_done r0_goes r0_weights x1 x2 q_1 hc_1
  refine k_goIp hA hW [0, 1, 2] rfl rfl (k_runS C hA hW mw_Dia_likelyOfTwo ms_Dia_likelyOfTwo (ct_1.2 _) [0, 1, 2] rfl rfl qm_Dia_61 ⟨Nat.le_of_ble_eq_true rfl, Nat.le_of_ble_eq_true rfl, Nat.zero_le _, Nat.zero_le _⟩ rfl rfl (Nat.le_of_ble_eq_true rfl) hl.1 d_Dia_firstSwapOf_3) (fun H locs hW => ?_)
  refine lv_istore_n (lv' := [(3, .int q_1), (0, .ref a_r0), (1, .int x1), (2, .int x2)]) hx hb d_Dia_firstSwapOf_6 rfl hl (by decide) rfl (fun ls hl => ?_)
  refine lv_iconst (v := 0) hx hb d_Dia_firstSwapOf_7 (by decide) ?_
  refine lv_istore (lv' := [(4, .int 0), (3, .int q_1), (0, .ref a_r0), (1, .int x1), (2, .int x2)]) hx hb d_Dia_firstSwapOf_8 hl (by decide) rfl (fun ls hl => ?_)
  obtain ⟨ex_2, hw_2, hk_2⟩ := ob hr
  have hx_2 : ∀ (e_2 : Unit), Sum.inl e_2 = ex_2 → ∀ (H : Heap) (locs : List Loc) (ls : Array Slot), wd A s.heap D (w_Dia_firstSwapOf cI a_r0 a_r0_goes a_r0_weights v_r0_kinds v_r0_figures v_r0_hampers v_r0_days v_r0_fields v_r0_done r0_things r0_goes r0_weights) H locs → lv_has ls 8 [] → W p l e (rmd 4) s m ([.ref a_r0, .int x1, .int x2] : List Value).toArray below meth c H locs 0 0 Q (F0 m 117 ls []) := by
    intro e_2 hE H locs ls hW hl
    have hr := sx_l hE.symm hk_2
    refine lv_bipush (v := (-9)) hx hb d_Dia_firstSwapOf_117 (by decide) ?_
    obtain rfl := Option.some.inj hr
    rw [hQ]; exact k_iret C hret hW d_Dia_firstSwapOf_119
  have hl_2 : ∀ (k : Nat) (y4_2 : Int32), wh (fun (s : (Int32)) => F_Dia_firstSwapOf_L10 r0_things r0_goes r0_weights q_1 x1 x2 s) k y4_2 = some ex_2 → ∀ (H : Heap) (locs : List Loc) (ls : Array Slot), wd A s.heap D (w_Dia_firstSwapOf cI a_r0 a_r0_goes a_r0_weights v_r0_kinds v_r0_figures v_r0_hampers v_r0_days v_r0_fields v_r0_done r0_things r0_goes r0_weights) H locs → lv_has ls 8 [(3, .int q_1), (0, .ref a_r0), (1, .int x1), (2, .int x2), (4, .int y4_2)] → W p l e (rmd 4) s m ([.ref a_r0, .int x1, .int x2] : List Value).toArray below meth c H locs 0 0 Q (F0 m 10 ls []) := by
    intro k
    induction k with
    | zero => intro y4_2 hw; exact absurd hw wh_0
    | succ k ih_2 =>
      intro y4_2 hw H locs ls hW hl
      obtain ⟨z_2, hr, hz1_2, hz2_2⟩ := wh_s hw
      have hr : F_Dia_firstSwapOf_L10 r0_things r0_goes r0_weights q_1 x1 x2 y4_2 = some z_2 := hr
      unfold F_Dia_firstSwapOf_L10 at hr
      refine lv_iload hx hb d_Dia_firstSwapOf_10 (lv_at hl 4 rfl) ?_
      refine lv_aload_n hx hb d_Dia_firstSwapOf_12 rfl (lv_at hl 1 rfl) ?_
      refine k_getN i_Sta C hW 0 rfl rfl 4 (by decide) qf_Dia_42 rfl rfl d_Dia_firstSwapOf_13 ?_
      refine lv_icmp_ge (tgt := 117) hx hb d_Dia_firstSwapOf_16 (by decide) (fun c_3 => ?_) (fun c_3 => ?_)
      · replace hr := ip c_3 hr
        exact hx_2 _ (hz2_2 _ (Option.some.inj hr).symm) _ _ _ hW (lv_sub hl [] rfl)
      · replace hr := iN c_3 hr
        refine lv_iconst (v := 0) hx hb d_Dia_firstSwapOf_19 (by decide) ?_
        refine lv_istore (lv' := [(5, .int 0), (3, .int q_1), (0, .ref a_r0), (1, .int x1), (2, .int x2), (4, .int y4_2)]) hx hb d_Dia_firstSwapOf_20 hl (by decide) rfl (fun ls hl => ?_)
        obtain ⟨ex_4, hw_4, hk_4⟩ := ob hr
        have hx_4 : ∀ (e_4 : Unit), Sum.inl e_4 = ex_4 → ∀ (H : Heap) (locs : List Loc) (ls : Array Slot), wd A s.heap D (w_Dia_firstSwapOf cI a_r0 a_r0_goes a_r0_weights v_r0_kinds v_r0_figures v_r0_hampers v_r0_days v_r0_fields v_r0_done r0_things r0_goes r0_weights) H locs → lv_has ls 8 [(3, .int q_1), (0, .ref a_r0), (1, .int x1), (2, .int x2), (4, .int y4_2)] → W p l e (rmd 4) s m ([.ref a_r0, .int x1, .int x2] : List Value).toArray below meth c H locs 0 0 Q (F0 m 111 ls []) := by
          intro e_4 hE H locs ls hW hl
          have hr := sx_l hE.symm hk_4
          refine lv_iinc (v := (y4_2 + 1)) (lv' := [(4, .int (y4_2 + 1)), (3, .int q_1), (0, .ref a_r0), (1, .int x1), (2, .int x2)]) hx hb d_Dia_firstSwapOf_111 hl (k := 4) rfl rfl (by decide) rfl (fun ls hl => ?_)
          refine lv_goto (tgt := 10) hx hb d_Dia_firstSwapOf_114 (by decide) ?_
          exact ih_2 (y4_2 + 1) (hz1_2 _ (Option.some.inj hr).symm) _ _ _ hW (lv_sub hl [1, 2, 3, 4, 0] rfl)
        have hl_4 : ∀ (k : Nat) (y5_4 : Int32), wh (fun (s : (Int32)) => F_Dia_firstSwapOf_L22 r0_things r0_goes r0_weights q_1 y4_2 x1 x2 s) k y5_4 = some ex_4 → ∀ (H : Heap) (locs : List Loc) (ls : Array Slot), wd A s.heap D (w_Dia_firstSwapOf cI a_r0 a_r0_goes a_r0_weights v_r0_kinds v_r0_figures v_r0_hampers v_r0_days v_r0_fields v_r0_done r0_things r0_goes r0_weights) H locs → lv_has ls 8 [(3, .int q_1), (0, .ref a_r0), (1, .int x1), (2, .int x2), (4, .int y4_2), (5, .int y5_4)] → W p l e (rmd 4) s m ([.ref a_r0, .int x1, .int x2] : List Value).toArray below meth c H locs 0 0 Q (F0 m 22 ls []) := by
          intro k
          induction k with
          | zero => intro y5_4 hw; exact absurd hw wh_0
          | succ k ih_4 =>
            intro y5_4 hw H locs ls hW hl
            obtain ⟨z_4, hr, hz1_4, hz2_4⟩ := wh_s hw
            have hr : F_Dia_firstSwapOf_L22 r0_things r0_goes r0_weights q_1 y4_2 x1 x2 y5_4 = some z_4 := hr
            unfold F_Dia_firstSwapOf_L22 at hr
            refine lv_iload hx hb d_Dia_firstSwapOf_22 (lv_at hl 5 rfl) ?_
            refine lv_aload_n hx hb d_Dia_firstSwapOf_24 rfl (lv_at hl 1 rfl) ?_
            refine k_getN i_Sta C hW 0 rfl rfl 4 (by decide) qf_Dia_42 rfl rfl d_Dia_firstSwapOf_25 ?_
            refine lv_icmp_ge (tgt := 111) hx hb d_Dia_firstSwapOf_28 (by decide) (fun c_5 => ?_) (fun c_5 => ?_)
            · replace hr := ip c_5 hr
              exact hx_4 _ (hz2_4 _ (Option.some.inj hr).symm) _ _ _ hW (lv_sub hl [0, 1, 2, 3, 4] rfl)
            · replace hr := iN c_5 hr
              refine lv_iload_n hx hb d_Dia_firstSwapOf_31 rfl (lv_at hl 2 rfl) ?_
              refine lv_iload_n hx hb d_Dia_firstSwapOf_32 rfl (lv_at hl 3 rfl) ?_
              refine lv_iconst (v := (-1)) hx hb d_Dia_firstSwapOf_33 (by decide) ?_
              refine lv_ixor hx hb d_Dia_firstSwapOf_34 ?_
              refine lv_iand hx hb d_Dia_firstSwapOf_35 ?_
              refine lv_iload hx hb d_Dia_firstSwapOf_36 (lv_at hl 4 rfl) ?_
              obtain ⟨q_6, hc_6, hr⟩ := ob hr
              have ct_6 := C_H_holds l D cI cS (x1 &&& (x2 ^^^ (-1))) y4_2 q_6 hc_6
              refine k_goIp hA hW [] rfl rfl (k_runSN C hA hW mw_H_holds ms_H_holds (ct_6.2 _) [] rfl rfl qm_Dia_15 ⟨Nat.le_of_ble_eq_true rfl, Nat.le_of_ble_eq_true rfl, Nat.zero_le _, Nat.zero_le _⟩ rfl rfl (Nat.le_of_ble_eq_true rfl) hl.1 d_Dia_firstSwapOf_38) (fun H locs hW => ?_)
              have hJ_8 : ∀ (s0_8 : Int32), F_Dia_firstSwapOf_J62_8 r0_goes r0_weights q_1 y4_2 y5_4 x1 x2 s0_8 = some z_4 → ∀ (H : Heap) (locs : List Loc) (ls : Array Slot), wd A s.heap D (w_Dia_firstSwapOf cI a_r0 a_r0_goes a_r0_weights v_r0_kinds v_r0_figures v_r0_hampers v_r0_days v_r0_fields v_r0_done r0_things r0_goes r0_weights) H locs → lv_has ls 8 [(0, .ref a_r0), (1, .int x1), (2, .int x2), (3, .int q_1), (4, .int y4_2), (5, .int y5_4)] → W p l e (rmd 4) s m ([.ref a_r0, .int x1, .int x2] : List Value).toArray below meth c H locs 0 0 Q (F0 m 62 ls [.int s0_8]) := by
                intro s0_8 hr H locs ls hW hl
                unfold F_Dia_firstSwapOf_J62_8 at hr
                refine lv_istore (lv' := [(6, .int s0_8), (0, .ref a_r0), (1, .int x1), (2, .int x2), (3, .int q_1), (4, .int y4_2), (5, .int y5_4)]) hx hb d_Dia_firstSwapOf_62 hl (by decide) rfl (fun ls hl => ?_)
                refine lv_iconst (v := 1) hx hb d_Dia_firstSwapOf_64 (by decide) ?_
                refine lv_iload hx hb d_Dia_firstSwapOf_65 (lv_at hl 5 rfl) ?_
                refine lv_ishl hx hb d_Dia_firstSwapOf_67 ?_
                refine lv_iconst (v := 1) hx hb d_Dia_firstSwapOf_68 (by decide) ?_
                refine lv_iload hx hb d_Dia_firstSwapOf_69 (lv_at hl 6 rfl) ?_
                refine lv_ishl hx hb d_Dia_firstSwapOf_71 ?_
                refine lv_ior hx hb d_Dia_firstSwapOf_72 ?_
                refine lv_istore (lv' := [(7, .int (((1 : Int32) <<< ((y4_2 : Int32) &&& 31)) ||| ((1 : Int32) <<< ((y5_4 : Int32) &&& 31)))), (6, .int s0_8), (0, .ref a_r0), (1, .int x1), (2, .int x2), (3, .int q_1), (4, .int y4_2), (5, .int y5_4)]) hx hb d_Dia_firstSwapOf_73 hl (by decide) rfl (fun ls hl => ?_)
                refine lv_iload hx hb d_Dia_firstSwapOf_75 (lv_at hl 1 rfl) ?_
                refine lv_if_eq (tgt := 105) hx hb d_Dia_firstSwapOf_77 (by decide) (fun c_9 => ?_) (fun c_9 => ?_)
                · replace hr := ip c_9 hr
                  refine lv_iinc (v := (y5_4 + 1)) (lv' := [(5, .int (y5_4 + 1)), (7, .int (((1 : Int32) <<< ((y4_2 : Int32) &&& 31)) ||| ((1 : Int32) <<< ((y5_4 : Int32) &&& 31)))), (6, .int s0_8), (0, .ref a_r0), (1, .int x1), (2, .int x2), (3, .int q_1), (4, .int y4_2)]) hx hb d_Dia_firstSwapOf_105 hl (k := 7) rfl rfl (by decide) rfl (fun ls hl => ?_)
                  refine lv_goto (tgt := 22) hx hb d_Dia_firstSwapOf_108 (by decide) ?_
                  exact ih_4 (y5_4 + 1) (hz1_4 _ (Option.some.inj hr).symm) _ _ _ hW (lv_sub hl [6, 3, 4, 5, 7, 0] rfl)
                · replace hr := iN c_9 hr
                  refine lv_aload_n hx hb d_Dia_firstSwapOf_80 rfl (lv_at hl 2 rfl) ?_
                  refine lv_iload_n hx hb d_Dia_firstSwapOf_81 rfl (lv_at hl 3 rfl) ?_
                  refine lv_iload hx hb d_Dia_firstSwapOf_82 (lv_at hl 0 rfl) ?_
                  refine lv_ixor hx hb d_Dia_firstSwapOf_84 ?_
                  refine lv_iload_n hx hb d_Dia_firstSwapOf_85 rfl (lv_at hl 4 rfl) ?_
                  refine lv_iload hx hb d_Dia_firstSwapOf_86 (lv_at hl 0 rfl) ?_
                  refine lv_ixor hx hb d_Dia_firstSwapOf_88 ?_
                  obtain ⟨q_10, hc_10, hr⟩ := ob hr
                  have ct_10 := C_Dia_likelyOfTwo l D cI cS a_r0 a_r0_goes a_r0_weights v_r0_kinds v_r0_figures (Value.int r0_things) v_r0_hampers v_r0_days v_r0_fields v_r0_done r0_goes r0_weights (x1 ^^^ (((1 : Int32) <<< ((y4_2 : Int32) &&& 31)) ||| ((1 : Int32) <<< ((y5_4 : Int32) &&& 31)))) (x2 ^^^ (((1 : Int32) <<< ((y4_2 : Int32) &&& 31)) ||| ((1 : Int32) <<< ((y5_4 : Int32) &&& 31)))) q_10 hc_10
                  refine k_goIp hA hW [0, 1, 2] rfl rfl (k_runS C hA hW mw_Dia_likelyOfTwo ms_Dia_likelyOfTwo (ct_10.2 _) [0, 1, 2] rfl rfl qm_Dia_61 ⟨Nat.le_of_ble_eq_true rfl, Nat.le_of_ble_eq_true rfl, Nat.zero_le _, Nat.zero_le _⟩ rfl rfl (Nat.le_of_ble_eq_true rfl) hl.1 d_Dia_firstSwapOf_89) (fun H locs hW => ?_)
                  refine lv_iload_n hx hb d_Dia_firstSwapOf_92 rfl (lv_at hl 5 rfl) ?_
                  refine lv_icmp_le (tgt := 105) hx hb d_Dia_firstSwapOf_93 (by decide) (fun c_11 => ?_) (fun c_11 => ?_)
                  · replace hr := ip c_11 hr
                    refine lv_iinc (v := (y5_4 + 1)) (lv' := [(5, .int (y5_4 + 1)), (7, .int (((1 : Int32) <<< ((y4_2 : Int32) &&& 31)) ||| ((1 : Int32) <<< ((y5_4 : Int32) &&& 31)))), (6, .int s0_8), (0, .ref a_r0), (1, .int x1), (2, .int x2), (3, .int q_1), (4, .int y4_2)]) hx hb d_Dia_firstSwapOf_105 hl (k := 7) rfl rfl (by decide) rfl (fun ls hl => ?_)
                    refine lv_goto (tgt := 22) hx hb d_Dia_firstSwapOf_108 (by decide) ?_
                    exact ih_4 (y5_4 + 1) (hz1_4 _ (Option.some.inj hr).symm) _ _ _ hW (lv_sub hl [6, 3, 4, 5, 7, 0] rfl)
                  · replace hr := iN c_11 hr
                    refine lv_bipush (v := 10) hx hb d_Dia_firstSwapOf_96 (by decide) ?_
                    refine lv_iload hx hb d_Dia_firstSwapOf_98 (lv_at hl 6 rfl) ?_
                    refine lv_imul hx hb d_Dia_firstSwapOf_100 ?_
                    refine lv_iload hx hb d_Dia_firstSwapOf_101 (lv_at hl 7 rfl) ?_
                    refine lv_iadd hx hb d_Dia_firstSwapOf_103 ?_
                    have hr := sx_r (hz2_4 _ (Option.some.inj hr).symm).symm hk_4
                    have hr := sx_r (hz2_2 _ (Option.some.inj hr).symm).symm hk_2
                    obtain rfl := Option.some.inj hr
                    rw [hQ]; exact k_iret C hret hW d_Dia_firstSwapOf_104
              have hJ_12 : ∀ (_ : Unit), F_Dia_firstSwapOf_J61_12 r0_goes r0_weights q_1 y4_2 y5_4 x1 x2 = some z_4 → ∀ (H : Heap) (locs : List Loc) (ls : Array Slot), wd A s.heap D (w_Dia_firstSwapOf cI a_r0 a_r0_goes a_r0_weights v_r0_kinds v_r0_figures v_r0_hampers v_r0_days v_r0_fields v_r0_done r0_things r0_goes r0_weights) H locs → lv_has ls 8 [(0, .ref a_r0), (1, .int x1), (2, .int x2), (3, .int q_1), (4, .int y4_2), (5, .int y5_4)] → W p l e (rmd 4) s m ([.ref a_r0, .int x1, .int x2] : List Value).toArray below meth c H locs 0 0 Q (F0 m 61 ls []) := by
                intro _ hr H locs ls hW hl
                unfold F_Dia_firstSwapOf_J61_12 at hr
                refine lv_iconst (v := 0) hx hb d_Dia_firstSwapOf_61 (by decide) ?_
                exact hJ_8 0 hr _ _ _ hW (lv_sub hl [0, 1, 2, 3, 4, 5] rfl)
              refine lv_if_eq (tgt := 61) hx hb d_Dia_firstSwapOf_41 (by decide) (fun c_7 => ?_) (fun c_7 => ?_)
              · replace hr := ip c_7 hr
                exact hJ_12 () hr _ _ _ hW (lv_sub hl [1, 2, 3, 0, 4, 5] rfl)
              · replace hr := iN c_7 hr
                refine lv_iload_n hx hb d_Dia_firstSwapOf_44 rfl (lv_at hl 3 rfl) ?_
                refine lv_iload_n hx hb d_Dia_firstSwapOf_45 rfl (lv_at hl 2 rfl) ?_
                refine lv_iconst (v := (-1)) hx hb d_Dia_firstSwapOf_46 (by decide) ?_
                refine lv_ixor hx hb d_Dia_firstSwapOf_47 ?_
                refine lv_iand hx hb d_Dia_firstSwapOf_48 ?_
                refine lv_iload hx hb d_Dia_firstSwapOf_49 (lv_at hl 5 rfl) ?_
                obtain ⟨q_13, hc_13, hr⟩ := ob hr
                have ct_13 := C_H_holds l D cI cS (x2 &&& (x1 ^^^ (-1))) y5_4 q_13 hc_13
                refine k_goIp hA hW [] rfl rfl (k_runSN C hA hW mw_H_holds ms_H_holds (ct_13.2 _) [] rfl rfl qm_Dia_15 ⟨Nat.le_of_ble_eq_true rfl, Nat.le_of_ble_eq_true rfl, Nat.zero_le _, Nat.zero_le _⟩ rfl rfl (Nat.le_of_ble_eq_true rfl) hl.1 d_Dia_firstSwapOf_51) (fun H locs hW => ?_)
                refine lv_if_eq (tgt := 61) hx hb d_Dia_firstSwapOf_54 (by decide) (fun c_14 => ?_) (fun c_14 => ?_)
                · replace hr := ip c_14 hr
                  exact hJ_12 () hr _ _ _ hW (lv_sub hl [1, 2, 3, 0, 4, 5] rfl)
                · replace hr := iN c_14 hr
                  refine lv_iconst (v := 1) hx hb d_Dia_firstSwapOf_57 (by decide) ?_
                  refine lv_goto (tgt := 62) hx hb d_Dia_firstSwapOf_58 (by decide) ?_
                  exact hJ_8 1 hr _ _ _ hW (lv_sub hl [1, 2, 3, 0, 4, 5] rfl)
        exact hl_4 _ 0 hw_4 _ _ _ hW (lv_sub hl [1, 2, 3, 4, 5, 0] rfl)
  exact hl_2 _ 0 hw_2 _ _ _ hW (lv_sub hl [1, 2, 3, 4, 0] rfl)
def w_Dia_firstSwap (cI : ClassId) (a_r0 : Nat) (a_r0_goes : Nat) (a_r0_hampers : Nat) (a_r0_weights : Nat) (v_r0_kinds v_r0_figures v_r0_fields v_r0_done : Value) (r0_days : Int32) (r0_things : Int32) (r0_goes : Nat → Int32) (r0_hampers : Nat → Int32) (r0_weights : Nat → Int32) : va_W := [(a_r0, .inr (1, [.ref a_r0_weights, v_r0_kinds, v_r0_figures, .ref a_r0_goes, .int r0_things, .ref a_r0_hampers, .int r0_days, v_r0_fields, v_r0_done])), (a_r0_goes, .inl (cI, 8, .inl r0_goes)), (a_r0_hampers, .inl (cI, 8, .inl r0_hampers)), (a_r0_weights, .inl (cI, 6, .inl r0_weights))]
def F_Dia_firstSwap_L14 (r0_days : Int32) (r0_things : Int32) (r0_goes : Nat → Int32) (r0_hampers : Nat → Int32) (r0_weights : Nat → Int32) (y1_1 : Int32) (y2_3 : Int32) : Option (((Int32)) ⊕ (((Unit) ⊕ (Int32)))) :=
  (if r0_days ≤ y2_3 then (some (.inr (.inl ()))) else ((F_Sta_hamperOf r0_days r0_hampers y1_1).bind (fun q_5 => ((F_Sta_hamperOf r0_days r0_hampers y2_3).bind (fun q_6 => ((F_Dia_firstSwapOf r0_things r0_goes r0_weights q_5 q_6).bind (fun q_7 => (if q_7 < 0 then (some (.inl (y2_3 + 1))) else (some (.inr (.inr ((((1000 : Int32) * y1_1) + ((100 : Int32) * y2_3)) + q_7))))))))))))
def F_Dia_firstSwap_L2 (r0_days : Int32) (r0_things : Int32) (r0_goes : Nat → Int32) (r0_hampers : Nat → Int32) (r0_weights : Nat → Int32) (y1_1 : Int32) : Option (((Int32)) ⊕ (((Unit) ⊕ (Int32)))) :=
  (if r0_days ≤ y1_1 then (some (.inr (.inl ()))) else ((wh (fun (s : (Int32)) => F_Dia_firstSwap_L14 r0_days r0_things r0_goes r0_hampers r0_weights y1_1 s) 400 (y1_1 + 1)).bind (sx (fun e_3 => (some (.inl (y1_1 + 1)))) (fun o => some (.inr (.inr o))))))
def F_Dia_firstSwap (r0_days : Int32) (r0_things : Int32) (r0_goes : Nat → Int32) (r0_hampers : Nat → Int32) (r0_weights : Nat → Int32) : Option (Int32) :=
  ((wh (fun (s : (Int32)) => F_Dia_firstSwap_L2 r0_days r0_things r0_goes r0_hampers r0_weights s) 400 (0 : Int32)).bind (sx (fun e_1 => (some (-9))) (fun o => some o)))
set_option maxHeartbeats 4000000 in
set_option maxRecDepth 100000 in
theorem C_Dia_firstSwap (l : Launch) (D : va_G) (cI cS : ClassId) (a_r0 : Nat) (a_r0_goes : Nat) (a_r0_hampers : Nat) (a_r0_weights : Nat) (v_r0_kinds v_r0_figures v_r0_fields v_r0_done : Value) (r0_days : Int32) (r0_things : Int32) (r0_goes : Nat → Int32) (r0_hampers : Nat → Int32) (r0_weights : Nat → Int32) (o : Int32) (hr : F_Dia_firstSwap r0_days r0_things r0_goes r0_hampers r0_weights = some o) : ctI l y_Dia_firstSwap (Cond.code y_Dia_firstSwap b_Dia_firstSwap 4 (some FieldType.int)) (rmd 5) D (kTy cI cS) [.ref a_r0] (w_Dia_firstSwap cI a_r0 a_r0_goes a_r0_hampers a_r0_weights v_r0_kinds v_r0_figures v_r0_fields v_r0_done r0_days r0_things r0_goes r0_hampers r0_weights) (w_Dia_firstSwap cI a_r0 a_r0_goes a_r0_hampers a_r0_weights v_r0_kinds v_r0_figures v_r0_fields v_r0_done r0_days r0_things r0_goes r0_hampers r0_weights) o := by
  unfold F_Dia_firstSwap at hr
  refine ⟨rfl, fun sz => ct_of (w0 := (w_Dia_firstSwap cI a_r0 a_r0_goes a_r0_hampers a_r0_weights v_r0_kinds v_r0_figures v_r0_fields v_r0_done r0_days r0_things r0_goes r0_hampers r0_weights)) (Qc := fun A => qI D (w_Dia_firstSwap cI a_r0 a_r0_goes a_r0_hampers a_r0_weights v_r0_kinds v_r0_figures v_r0_fields v_r0_done r0_days r0_things r0_goes r0_hampers r0_weights) o A) rfl (Nat.le_of_ble_eq_true rfl) ?_ sz⟩
  intro p e s m below meth c A hA C hret ls hl hW
  have C : cx p s m ([.ref a_r0] : List Value).toArray meth c b_Dia_firstSwap 4 R_Dia D (kTy cI cS) (Cond.code y_Dia_firstSwap b_Dia_firstSwap 4 (some FieldType.int)) := C
  obtain ⟨hx, hb, hml, hown, hts, hK, hlk, hN⟩ := id C
  have hl : lv_has ls 4 [(0, .ref a_r0)] := hl
  obtain ⟨Q, hQ⟩ : ∃ Q, Q = MQ below (qI D (w_Dia_firstSwap cI a_r0 a_r0_goes a_r0_hampers a_r0_weights v_r0_kinds v_r0_figures v_r0_fields v_r0_done r0_days r0_things r0_goes r0_hampers r0_weights) o A) ([.ref a_r0] : List Value).toArray s 0 0 A := ⟨_, rfl⟩
  rw [← hQ]
  refine lv_iconst (v := 0) hx hb d_Dia_firstSwap_0 (by decide) ?_
  refine lv_istore_n (lv' := [(1, .int 0), (0, .ref a_r0)]) hx hb d_Dia_firstSwap_1 rfl hl (by decide) rfl (fun ls hl => ?_)
  obtain ⟨ex_1, hw_1, hk_1⟩ := ob hr
  have hx_1 : ∀ (e_1 : Unit), Sum.inl e_1 = ex_1 → ∀ (H : Heap) (locs : List Loc) (ls : Array Slot), wd A s.heap D (w_Dia_firstSwap cI a_r0 a_r0_goes a_r0_hampers a_r0_weights v_r0_kinds v_r0_figures v_r0_fields v_r0_done r0_days r0_things r0_goes r0_hampers r0_weights) H locs → lv_has ls 4 [] → W p l e (rmd 5) s m ([.ref a_r0] : List Value).toArray below meth c H locs 0 0 Q (F0 m 66 ls []) := by
    intro e_1 hE H locs ls hW hl
    have hr := sx_l hE.symm hk_1
    refine lv_bipush (v := (-9)) hx hb d_Dia_firstSwap_66 (by decide) ?_
    obtain rfl := Option.some.inj hr
    rw [hQ]; exact k_iret C hret hW d_Dia_firstSwap_68
  have hl_1 : ∀ (k : Nat) (y1_1 : Int32), wh (fun (s : (Int32)) => F_Dia_firstSwap_L2 r0_days r0_things r0_goes r0_hampers r0_weights s) k y1_1 = some ex_1 → ∀ (H : Heap) (locs : List Loc) (ls : Array Slot), wd A s.heap D (w_Dia_firstSwap cI a_r0 a_r0_goes a_r0_hampers a_r0_weights v_r0_kinds v_r0_figures v_r0_fields v_r0_done r0_days r0_things r0_goes r0_hampers r0_weights) H locs → lv_has ls 4 [(0, .ref a_r0), (1, .int y1_1)] → W p l e (rmd 5) s m ([.ref a_r0] : List Value).toArray below meth c H locs 0 0 Q (F0 m 2 ls []) := by
    intro k
    induction k with
    | zero => intro y1_1 hw; exact absurd hw wh_0
    | succ k ih_1 =>
      intro y1_1 hw H locs ls hW hl
      obtain ⟨z_1, hr, hz1_1, hz2_1⟩ := wh_s hw
      have hr : F_Dia_firstSwap_L2 r0_days r0_things r0_goes r0_hampers r0_weights y1_1 = some z_1 := hr
      unfold F_Dia_firstSwap_L2 at hr
      refine lv_iload_n hx hb d_Dia_firstSwap_2 rfl (lv_at hl 1 rfl) ?_
      refine lv_aload_n hx hb d_Dia_firstSwap_3 rfl (lv_at hl 0 rfl) ?_
      refine k_getN i_Sta C hW 0 rfl rfl 6 (by decide) qf_Dia_30 rfl rfl d_Dia_firstSwap_4 ?_
      refine lv_icmp_ge (tgt := 66) hx hb d_Dia_firstSwap_7 (by decide) (fun c_2 => ?_) (fun c_2 => ?_)
      · replace hr := ip c_2 hr
        exact hx_1 _ (hz2_1 _ (Option.some.inj hr).symm) _ _ _ hW (lv_sub hl [] rfl)
      · replace hr := iN c_2 hr
        refine lv_iload_n hx hb d_Dia_firstSwap_10 rfl (lv_at hl 1 rfl) ?_
        refine lv_iconst (v := 1) hx hb d_Dia_firstSwap_11 (by decide) ?_
        refine lv_iadd hx hb d_Dia_firstSwap_12 ?_
        refine lv_istore_n (lv' := [(2, .int (y1_1 + 1)), (0, .ref a_r0), (1, .int y1_1)]) hx hb d_Dia_firstSwap_13 rfl hl (by decide) rfl (fun ls hl => ?_)
        obtain ⟨ex_3, hw_3, hk_3⟩ := ob hr
        have hx_3 : ∀ (e_3 : Unit), Sum.inl e_3 = ex_3 → ∀ (H : Heap) (locs : List Loc) (ls : Array Slot), wd A s.heap D (w_Dia_firstSwap cI a_r0 a_r0_goes a_r0_hampers a_r0_weights v_r0_kinds v_r0_figures v_r0_fields v_r0_done r0_days r0_things r0_goes r0_hampers r0_weights) H locs → lv_has ls 4 [(0, .ref a_r0), (1, .int y1_1)] → W p l e (rmd 5) s m ([.ref a_r0] : List Value).toArray below meth c H locs 0 0 Q (F0 m 60 ls []) := by
          intro e_3 hE H locs ls hW hl
          have hr := sx_l hE.symm hk_3
          refine lv_iinc (v := (y1_1 + 1)) (lv' := [(1, .int (y1_1 + 1)), (0, .ref a_r0)]) hx hb d_Dia_firstSwap_60 hl (k := 1) rfl rfl (by decide) rfl (fun ls hl => ?_)
          refine lv_goto (tgt := 2) hx hb d_Dia_firstSwap_63 (by decide) ?_
          exact ih_1 (y1_1 + 1) (hz1_1 _ (Option.some.inj hr).symm) _ _ _ hW (lv_sub hl [1, 0] rfl)
        have hl_3 : ∀ (k : Nat) (y2_3 : Int32), wh (fun (s : (Int32)) => F_Dia_firstSwap_L14 r0_days r0_things r0_goes r0_hampers r0_weights y1_1 s) k y2_3 = some ex_3 → ∀ (H : Heap) (locs : List Loc) (ls : Array Slot), wd A s.heap D (w_Dia_firstSwap cI a_r0 a_r0_goes a_r0_hampers a_r0_weights v_r0_kinds v_r0_figures v_r0_fields v_r0_done r0_days r0_things r0_goes r0_hampers r0_weights) H locs → lv_has ls 4 [(0, .ref a_r0), (1, .int y1_1), (2, .int y2_3)] → W p l e (rmd 5) s m ([.ref a_r0] : List Value).toArray below meth c H locs 0 0 Q (F0 m 14 ls []) := by
          intro k
          induction k with
          | zero => intro y2_3 hw; exact absurd hw wh_0
          | succ k ih_3 =>
            intro y2_3 hw H locs ls hW hl
            obtain ⟨z_3, hr, hz1_3, hz2_3⟩ := wh_s hw
            have hr : F_Dia_firstSwap_L14 r0_days r0_things r0_goes r0_hampers r0_weights y1_1 y2_3 = some z_3 := hr
            unfold F_Dia_firstSwap_L14 at hr
            refine lv_iload_n hx hb d_Dia_firstSwap_14 rfl (lv_at hl 2 rfl) ?_
            refine lv_aload_n hx hb d_Dia_firstSwap_15 rfl (lv_at hl 0 rfl) ?_
            refine k_getN i_Sta C hW 0 rfl rfl 6 (by decide) qf_Dia_30 rfl rfl d_Dia_firstSwap_16 ?_
            refine lv_icmp_ge (tgt := 60) hx hb d_Dia_firstSwap_19 (by decide) (fun c_4 => ?_) (fun c_4 => ?_)
            · replace hr := ip c_4 hr
              exact hx_3 _ (hz2_3 _ (Option.some.inj hr).symm) _ _ _ hW (lv_sub hl [0, 1] rfl)
            · replace hr := iN c_4 hr
              refine lv_aload_n hx hb d_Dia_firstSwap_22 rfl (lv_at hl 0 rfl) ?_
              refine lv_aload_n hx hb d_Dia_firstSwap_23 rfl (lv_at hl 0 rfl) ?_
              refine lv_iload_n hx hb d_Dia_firstSwap_24 rfl (lv_at hl 1 rfl) ?_
              obtain ⟨q_5, hc_5, hr⟩ := ob hr
              have ct_5 := C_Sta_hamperOf l D cI cS a_r0 a_r0_hampers (Value.ref a_r0_weights) v_r0_kinds v_r0_figures (Value.ref a_r0_goes) (Value.int r0_things) v_r0_fields v_r0_done r0_days r0_hampers y1_1 q_5 hc_5
              refine k_goIp hA hW [0, 2] rfl rfl (k_runV C hA hW mw_Sta_hamperOf mv_Sta_hamperOf (ct_5.2 _) [0, 2] rfl rfl 0 rfl rfl qm_Dia_9 ⟨Nat.le_of_ble_eq_true rfl, Nat.le_of_ble_eq_true rfl, Nat.zero_le _, Nat.zero_le _⟩ rfl rfl (Nat.le_of_ble_eq_true rfl) hl.1 d_Dia_firstSwap_25) (fun H locs hW => ?_)
              refine lv_aload_n hx hb d_Dia_firstSwap_28 rfl (lv_at hl 0 rfl) ?_
              refine lv_iload_n hx hb d_Dia_firstSwap_29 rfl (lv_at hl 2 rfl) ?_
              obtain ⟨q_6, hc_6, hr⟩ := ob hr
              have ct_6 := C_Sta_hamperOf l D cI cS a_r0 a_r0_hampers (Value.ref a_r0_weights) v_r0_kinds v_r0_figures (Value.ref a_r0_goes) (Value.int r0_things) v_r0_fields v_r0_done r0_days r0_hampers y2_3 q_6 hc_6
              refine k_goIp hA hW [0, 2] rfl rfl (k_runV C hA hW mw_Sta_hamperOf mv_Sta_hamperOf (ct_6.2 _) [0, 2] rfl rfl 0 rfl rfl qm_Dia_9 ⟨Nat.le_of_ble_eq_true rfl, Nat.le_of_ble_eq_true rfl, Nat.zero_le _, Nat.zero_le _⟩ rfl rfl (Nat.le_of_ble_eq_true rfl) hl.1 d_Dia_firstSwap_30) (fun H locs hW => ?_)
              obtain ⟨q_7, hc_7, hr⟩ := ob hr
              have ct_7 := C_Dia_firstSwapOf l D cI cS a_r0 a_r0_goes a_r0_weights v_r0_kinds v_r0_figures (Value.ref a_r0_hampers) (Value.int r0_days) v_r0_fields v_r0_done r0_things r0_goes r0_weights q_5 q_6 q_7 hc_7
              refine k_goIp hA hW [0, 1, 3] rfl rfl (k_runS C hA hW mw_Dia_firstSwapOf ms_Dia_firstSwapOf (ct_7.2 _) [0, 1, 3] rfl rfl qm_Dia_57 ⟨Nat.le_of_ble_eq_true rfl, Nat.le_of_ble_eq_true rfl, Nat.zero_le _, Nat.zero_le _⟩ rfl rfl (Nat.le_of_ble_eq_true rfl) hl.1 d_Dia_firstSwap_33) (fun H locs hW => ?_)
              refine lv_istore_n (lv' := [(3, .int q_7), (0, .ref a_r0), (1, .int y1_1), (2, .int y2_3)]) hx hb d_Dia_firstSwap_36 rfl hl (by decide) rfl (fun ls hl => ?_)
              refine lv_iload_n hx hb d_Dia_firstSwap_37 rfl (lv_at hl 0 rfl) ?_
              refine lv_if_lt (tgt := 54) hx hb d_Dia_firstSwap_38 (by decide) (fun c_8 => ?_) (fun c_8 => ?_)
              · replace hr := ip c_8 hr
                refine lv_iinc (v := (y2_3 + 1)) (lv' := [(2, .int (y2_3 + 1)), (3, .int q_7), (0, .ref a_r0), (1, .int y1_1)]) hx hb d_Dia_firstSwap_54 hl (k := 3) rfl rfl (by decide) rfl (fun ls hl => ?_)
                refine lv_goto (tgt := 14) hx hb d_Dia_firstSwap_57 (by decide) ?_
                exact ih_3 (y2_3 + 1) (hz1_3 _ (Option.some.inj hr).symm) _ _ _ hW (lv_sub hl [2, 3, 0] rfl)
              · replace hr := iN c_8 hr
                refine lv_sipush (v := 1000) hx hb d_Dia_firstSwap_41 (by decide) ?_
                refine lv_iload_n hx hb d_Dia_firstSwap_44 rfl (lv_at hl 2 rfl) ?_
                refine lv_imul hx hb d_Dia_firstSwap_45 ?_
                refine lv_bipush (v := 100) hx hb d_Dia_firstSwap_46 (by decide) ?_
                refine lv_iload_n hx hb d_Dia_firstSwap_48 rfl (lv_at hl 3 rfl) ?_
                refine lv_imul hx hb d_Dia_firstSwap_49 ?_
                refine lv_iadd hx hb d_Dia_firstSwap_50 ?_
                refine lv_iload_n hx hb d_Dia_firstSwap_51 rfl (lv_at hl 0 rfl) ?_
                refine lv_iadd hx hb d_Dia_firstSwap_52 ?_
                have hr := sx_r (hz2_3 _ (Option.some.inj hr).symm).symm hk_3
                have hr := sx_r (hz2_1 _ (Option.some.inj hr).symm).symm hk_1
                obtain rfl := Option.some.inj hr
                rw [hQ]; exact k_iret C hret hW d_Dia_firstSwap_53
        exact hl_3 _ (y1_1 + 1) hw_3 _ _ _ hW (lv_sub hl [1, 2, 0] rfl)
  exact hl_1 _ 0 hw_1 _ _ _ hW (lv_sub hl [1, 0] rfl)
def w_Dia_firstWithRope (cI : ClassId) (a_r0 : Nat) (a_r0_hampers : Nat) (a_r0_kinds : Nat) (v_r0_weights v_r0_figures v_r0_goes v_r0_things v_r0_fields v_r0_done : Value) (r0_days : Int32) (r0_hampers : Nat → Int32) (r0_kinds : Nat → Int32) : va_W := [(a_r0, .inr (1, [v_r0_weights, .ref a_r0_kinds, v_r0_figures, v_r0_goes, v_r0_things, .ref a_r0_hampers, .int r0_days, v_r0_fields, v_r0_done])), (a_r0_hampers, .inl (cI, 8, .inl r0_hampers)), (a_r0_kinds, .inl (cI, 8, .inl r0_kinds))]
def F_Dia_firstWithRope_L10 (r0_days : Int32) (r0_hampers : Nat → Int32) (r0_kinds : Nat → Int32) (y1_1 : Int32) (y2_3 : Int32) : Option (((Int32)) ⊕ (((Unit) ⊕ (Int32)))) :=
  (if (8 : Int32) ≤ y2_3 then (some (.inr (.inl ()))) else ((F_Sta_hamperOf r0_days r0_hampers y1_1).bind (fun q_5 => ((F_H_holds q_5 y2_3).bind (fun q_6 => (if q_6 = 0 then (some (.inl (y2_3 + 1))) else (ck y2_3 8 (if (r0_kinds (Int32.toNatClampNeg y2_3)) = 3 then (some (.inr (.inr y1_1))) else (some (.inl (y2_3 + 1)))))))))))
def F_Dia_firstWithRope_L2 (r0_days : Int32) (r0_hampers : Nat → Int32) (r0_kinds : Nat → Int32) (y1_1 : Int32) : Option (((Int32)) ⊕ (((Unit) ⊕ (Int32)))) :=
  (if (8 : Int32) ≤ y1_1 then (some (.inr (.inl ()))) else ((wh (fun (s : (Int32)) => F_Dia_firstWithRope_L10 r0_days r0_hampers r0_kinds y1_1 s) 400 (0 : Int32)).bind (sx (fun e_3 => (some (.inl (y1_1 + 1)))) (fun o => some (.inr (.inr o))))))
def F_Dia_firstWithRope (r0_days : Int32) (r0_hampers : Nat → Int32) (r0_kinds : Nat → Int32) : Option (Int32) :=
  ((wh (fun (s : (Int32)) => F_Dia_firstWithRope_L2 r0_days r0_hampers r0_kinds s) 400 (0 : Int32)).bind (sx (fun e_1 => (some (-9))) (fun o => some o)))
set_option maxHeartbeats 4000000 in
set_option maxRecDepth 100000 in
theorem C_Dia_firstWithRope (l : Launch) (D : va_G) (cI cS : ClassId) (a_r0 : Nat) (a_r0_hampers : Nat) (a_r0_kinds : Nat) (v_r0_weights v_r0_figures v_r0_goes v_r0_things v_r0_fields v_r0_done : Value) (r0_days : Int32) (r0_hampers : Nat → Int32) (r0_kinds : Nat → Int32) (o : Int32) (hr : F_Dia_firstWithRope r0_days r0_hampers r0_kinds = some o) : ctI l y_Dia_firstWithRope (Cond.code y_Dia_firstWithRope b_Dia_firstWithRope 3 (some FieldType.int)) (rmd 2) D (kTy cI cS) [.ref a_r0] (w_Dia_firstWithRope cI a_r0 a_r0_hampers a_r0_kinds v_r0_weights v_r0_figures v_r0_goes v_r0_things v_r0_fields v_r0_done r0_days r0_hampers r0_kinds) (w_Dia_firstWithRope cI a_r0 a_r0_hampers a_r0_kinds v_r0_weights v_r0_figures v_r0_goes v_r0_things v_r0_fields v_r0_done r0_days r0_hampers r0_kinds) o := by
  unfold F_Dia_firstWithRope at hr
  refine ⟨rfl, fun sz => ct_of (w0 := (w_Dia_firstWithRope cI a_r0 a_r0_hampers a_r0_kinds v_r0_weights v_r0_figures v_r0_goes v_r0_things v_r0_fields v_r0_done r0_days r0_hampers r0_kinds)) (Qc := fun A => qI D (w_Dia_firstWithRope cI a_r0 a_r0_hampers a_r0_kinds v_r0_weights v_r0_figures v_r0_goes v_r0_things v_r0_fields v_r0_done r0_days r0_hampers r0_kinds) o A) rfl (Nat.le_of_ble_eq_true rfl) ?_ sz⟩
  intro p e s m below meth c A hA C hret ls hl hW
  have C : cx p s m ([.ref a_r0] : List Value).toArray meth c b_Dia_firstWithRope 3 R_Dia D (kTy cI cS) (Cond.code y_Dia_firstWithRope b_Dia_firstWithRope 3 (some FieldType.int)) := C
  obtain ⟨hx, hb, hml, hown, hts, hK, hlk, hN⟩ := id C
  have hl : lv_has ls 3 [(0, .ref a_r0)] := hl
  obtain ⟨Q, hQ⟩ : ∃ Q, Q = MQ below (qI D (w_Dia_firstWithRope cI a_r0 a_r0_hampers a_r0_kinds v_r0_weights v_r0_figures v_r0_goes v_r0_things v_r0_fields v_r0_done r0_days r0_hampers r0_kinds) o A) ([.ref a_r0] : List Value).toArray s 0 0 A := ⟨_, rfl⟩
  rw [← hQ]
  refine lv_iconst (v := 0) hx hb d_Dia_firstWithRope_0 (by decide) ?_
  refine lv_istore_n (lv' := [(1, .int 0), (0, .ref a_r0)]) hx hb d_Dia_firstWithRope_1 rfl hl (by decide) rfl (fun ls hl => ?_)
  obtain ⟨ex_1, hw_1, hk_1⟩ := ob hr
  have hx_1 : ∀ (e_1 : Unit), Sum.inl e_1 = ex_1 → ∀ (H : Heap) (locs : List Loc) (ls : Array Slot), wd A s.heap D (w_Dia_firstWithRope cI a_r0 a_r0_hampers a_r0_kinds v_r0_weights v_r0_figures v_r0_goes v_r0_things v_r0_fields v_r0_done r0_days r0_hampers r0_kinds) H locs → lv_has ls 3 [] → W p l e (rmd 2) s m ([.ref a_r0] : List Value).toArray below meth c H locs 0 0 Q (F0 m 52 ls []) := by
    intro e_1 hE H locs ls hW hl
    have hr := sx_l hE.symm hk_1
    refine lv_bipush (v := (-9)) hx hb d_Dia_firstWithRope_52 (by decide) ?_
    obtain rfl := Option.some.inj hr
    rw [hQ]; exact k_iret C hret hW d_Dia_firstWithRope_54
  have hl_1 : ∀ (k : Nat) (y1_1 : Int32), wh (fun (s : (Int32)) => F_Dia_firstWithRope_L2 r0_days r0_hampers r0_kinds s) k y1_1 = some ex_1 → ∀ (H : Heap) (locs : List Loc) (ls : Array Slot), wd A s.heap D (w_Dia_firstWithRope cI a_r0 a_r0_hampers a_r0_kinds v_r0_weights v_r0_figures v_r0_goes v_r0_things v_r0_fields v_r0_done r0_days r0_hampers r0_kinds) H locs → lv_has ls 3 [(0, .ref a_r0), (1, .int y1_1)] → W p l e (rmd 2) s m ([.ref a_r0] : List Value).toArray below meth c H locs 0 0 Q (F0 m 2 ls []) := by
    intro k
    induction k with
    | zero => intro y1_1 hw; exact absurd hw wh_0
    | succ k ih_1 =>
      intro y1_1 hw H locs ls hW hl
      obtain ⟨z_1, hr, hz1_1, hz2_1⟩ := wh_s hw
      have hr : F_Dia_firstWithRope_L2 r0_days r0_hampers r0_kinds y1_1 = some z_1 := hr
      unfold F_Dia_firstWithRope_L2 at hr
      refine lv_iload_n hx hb d_Dia_firstWithRope_2 rfl (lv_at hl 1 rfl) ?_
      refine lv_bipush (v := 8) hx hb d_Dia_firstWithRope_3 (by decide) ?_
      refine lv_icmp_ge (tgt := 52) hx hb d_Dia_firstWithRope_5 (by decide) (fun c_2 => ?_) (fun c_2 => ?_)
      · replace hr := ip c_2 hr
        exact hx_1 _ (hz2_1 _ (Option.some.inj hr).symm) _ _ _ hW (lv_sub hl [] rfl)
      · replace hr := iN c_2 hr
        refine lv_iconst (v := 0) hx hb d_Dia_firstWithRope_8 (by decide) ?_
        refine lv_istore_n (lv' := [(2, .int 0), (0, .ref a_r0), (1, .int y1_1)]) hx hb d_Dia_firstWithRope_9 rfl hl (by decide) rfl (fun ls hl => ?_)
        obtain ⟨ex_3, hw_3, hk_3⟩ := ob hr
        have hx_3 : ∀ (e_3 : Unit), Sum.inl e_3 = ex_3 → ∀ (H : Heap) (locs : List Loc) (ls : Array Slot), wd A s.heap D (w_Dia_firstWithRope cI a_r0 a_r0_hampers a_r0_kinds v_r0_weights v_r0_figures v_r0_goes v_r0_things v_r0_fields v_r0_done r0_days r0_hampers r0_kinds) H locs → lv_has ls 3 [(0, .ref a_r0), (1, .int y1_1)] → W p l e (rmd 2) s m ([.ref a_r0] : List Value).toArray below meth c H locs 0 0 Q (F0 m 46 ls []) := by
          intro e_3 hE H locs ls hW hl
          have hr := sx_l hE.symm hk_3
          refine lv_iinc (v := (y1_1 + 1)) (lv' := [(1, .int (y1_1 + 1)), (0, .ref a_r0)]) hx hb d_Dia_firstWithRope_46 hl (k := 1) rfl rfl (by decide) rfl (fun ls hl => ?_)
          refine lv_goto (tgt := 2) hx hb d_Dia_firstWithRope_49 (by decide) ?_
          exact ih_1 (y1_1 + 1) (hz1_1 _ (Option.some.inj hr).symm) _ _ _ hW (lv_sub hl [1, 0] rfl)
        have hl_3 : ∀ (k : Nat) (y2_3 : Int32), wh (fun (s : (Int32)) => F_Dia_firstWithRope_L10 r0_days r0_hampers r0_kinds y1_1 s) k y2_3 = some ex_3 → ∀ (H : Heap) (locs : List Loc) (ls : Array Slot), wd A s.heap D (w_Dia_firstWithRope cI a_r0 a_r0_hampers a_r0_kinds v_r0_weights v_r0_figures v_r0_goes v_r0_things v_r0_fields v_r0_done r0_days r0_hampers r0_kinds) H locs → lv_has ls 3 [(0, .ref a_r0), (1, .int y1_1), (2, .int y2_3)] → W p l e (rmd 2) s m ([.ref a_r0] : List Value).toArray below meth c H locs 0 0 Q (F0 m 10 ls []) := by
          intro k
          induction k with
          | zero => intro y2_3 hw; exact absurd hw wh_0
          | succ k ih_3 =>
            intro y2_3 hw H locs ls hW hl
            obtain ⟨z_3, hr, hz1_3, hz2_3⟩ := wh_s hw
            have hr : F_Dia_firstWithRope_L10 r0_days r0_hampers r0_kinds y1_1 y2_3 = some z_3 := hr
            unfold F_Dia_firstWithRope_L10 at hr
            refine lv_iload_n hx hb d_Dia_firstWithRope_10 rfl (lv_at hl 2 rfl) ?_
            refine lv_bipush (v := 8) hx hb d_Dia_firstWithRope_11 (by decide) ?_
            refine lv_icmp_ge (tgt := 46) hx hb d_Dia_firstWithRope_13 (by decide) (fun c_4 => ?_) (fun c_4 => ?_)
            · replace hr := ip c_4 hr
              exact hx_3 _ (hz2_3 _ (Option.some.inj hr).symm) _ _ _ hW (lv_sub hl [0, 1] rfl)
            · replace hr := iN c_4 hr
              refine lv_aload_n hx hb d_Dia_firstWithRope_16 rfl (lv_at hl 0 rfl) ?_
              refine lv_iload_n hx hb d_Dia_firstWithRope_17 rfl (lv_at hl 1 rfl) ?_
              obtain ⟨q_5, hc_5, hr⟩ := ob hr
              have ct_5 := C_Sta_hamperOf l D cI cS a_r0 a_r0_hampers v_r0_weights (Value.ref a_r0_kinds) v_r0_figures v_r0_goes v_r0_things v_r0_fields v_r0_done r0_days r0_hampers y1_1 q_5 hc_5
              refine k_goIp hA hW [0, 1] rfl rfl (k_runV C hA hW mw_Sta_hamperOf mv_Sta_hamperOf (ct_5.2 _) [0, 1] rfl rfl 0 rfl rfl qm_Dia_9 ⟨Nat.le_of_ble_eq_true rfl, Nat.le_of_ble_eq_true rfl, Nat.zero_le _, Nat.zero_le _⟩ rfl rfl (Nat.le_of_ble_eq_true rfl) hl.1 d_Dia_firstWithRope_18) (fun H locs hW => ?_)
              refine lv_iload_n hx hb d_Dia_firstWithRope_21 rfl (lv_at hl 2 rfl) ?_
              obtain ⟨q_6, hc_6, hr⟩ := ob hr
              have ct_6 := C_H_holds l D cI cS q_5 y2_3 q_6 hc_6
              refine k_goIp hA hW [] rfl rfl (k_runSN C hA hW mw_H_holds ms_H_holds (ct_6.2 _) [] rfl rfl qm_Dia_15 ⟨Nat.le_of_ble_eq_true rfl, Nat.le_of_ble_eq_true rfl, Nat.zero_le _, Nat.zero_le _⟩ rfl rfl (Nat.le_of_ble_eq_true rfl) hl.1 d_Dia_firstWithRope_22) (fun H locs hW => ?_)
              refine lv_if_eq (tgt := 40) hx hb d_Dia_firstWithRope_25 (by decide) (fun c_7 => ?_) (fun c_7 => ?_)
              · replace hr := ip c_7 hr
                refine lv_iinc (v := (y2_3 + 1)) (lv' := [(2, .int (y2_3 + 1)), (0, .ref a_r0), (1, .int y1_1)]) hx hb d_Dia_firstWithRope_40 hl (k := 2) rfl rfl (by decide) rfl (fun ls hl => ?_)
                refine lv_goto (tgt := 10) hx hb d_Dia_firstWithRope_43 (by decide) ?_
                exact ih_3 (y2_3 + 1) (hz1_3 _ (Option.some.inj hr).symm) _ _ _ hW (lv_sub hl [1, 2, 0] rfl)
              · replace hr := iN c_7 hr
                refine lv_aload_n hx hb d_Dia_firstWithRope_28 rfl (lv_at hl 0 rfl) ?_
                refine k_getN i_Sta C hW 0 rfl rfl 1 (by decide) qf_Dia_19 rfl rfl d_Dia_firstWithRope_29 ?_
                refine lv_iload_n hx hb d_Dia_firstWithRope_32 rfl (lv_at hl 2 rfl) ?_
                obtain ⟨h_8, hr⟩ := ck_some hr
                refine k_iald C hW 2 rfl h_8 d_Dia_firstWithRope_33 ?_
                refine lv_iconst (v := 3) hx hb d_Dia_firstWithRope_34 (by decide) ?_
                refine lv_icmp_ne (tgt := 40) hx hb d_Dia_firstWithRope_35 (by decide) (fun c_9 => ?_) (fun c_9 => ?_)
                · replace hr := iN c_9 hr
                  refine lv_iinc (v := (y2_3 + 1)) (lv' := [(2, .int (y2_3 + 1)), (0, .ref a_r0), (1, .int y1_1)]) hx hb d_Dia_firstWithRope_40 hl (k := 2) rfl rfl (by decide) rfl (fun ls hl => ?_)
                  refine lv_goto (tgt := 10) hx hb d_Dia_firstWithRope_43 (by decide) ?_
                  exact ih_3 (y2_3 + 1) (hz1_3 _ (Option.some.inj hr).symm) _ _ _ hW (lv_sub hl [1, 2, 0] rfl)
                · replace hr := ip c_9 hr
                  refine lv_iload_n hx hb d_Dia_firstWithRope_38 rfl (lv_at hl 1 rfl) ?_
                  have hr := sx_r (hz2_3 _ (Option.some.inj hr).symm).symm hk_3
                  have hr := sx_r (hz2_1 _ (Option.some.inj hr).symm).symm hk_1
                  obtain rfl := Option.some.inj hr
                  rw [hQ]; exact k_iret C hret hW d_Dia_firstWithRope_39
        exact hl_3 _ 0 hw_3 _ _ _ hW (lv_sub hl [1, 2, 0] rfl)
  exact hl_1 _ 0 hw_1 _ _ _ hW (lv_sub hl [1, 0] rfl)
def F_Kin_heavy (x0 : Int32) (x1 : Int32) : Option (Int32) :=
  (if x0 = 1 then (some ((x1 + 1) + 2)) else (if x0 = 2 then (some 4) else (if x0 = 3 then (some (4 / (2 : Int32))) else (if x0 = 4 then (some ((2 : Int32) * ((x1 + 1) + 2))) else (if x0 = 5 then (some 0) else (some (x1 + 1)))))))
set_option maxHeartbeats 4000000 in
set_option maxRecDepth 100000 in
theorem C_Kin_heavy (l : Launch) (D : va_G) (cI cS : ClassId) (x0 : Int32) (x1 : Int32) (o : Int32) (hr : F_Kin_heavy x0 x1 = some o) : ctI l y_Kin_heavy (Cond.code y_Kin_heavy b_Kin_heavy 5 (some FieldType.int)) (rmd 0) D (kTy cI cS) [.int x0, .int x1] [] [] o := by
  unfold F_Kin_heavy at hr
  refine ⟨rfl, fun sz => ct_of (w0 := []) (Qc := fun A => qI D [] o A) rfl (Nat.le_of_ble_eq_true rfl) ?_ sz⟩
  intro p e s m below meth c A hA C hret ls hl hW
  have C : cx p s m ([.int x0, .int x1] : List Value).toArray meth c b_Kin_heavy 5 R_Kin D (kTy cI cS) (Cond.code y_Kin_heavy b_Kin_heavy 5 (some FieldType.int)) := C
  obtain ⟨hx, hb, hml, hown, hts, hK, hlk, hN⟩ := id C
  have hl : lv_has ls 5 [(0, .int x0), (1, .int x1)] := hl
  obtain ⟨Q, hQ⟩ : ∃ Q, Q = MQ below (qI D [] o A) ([.int x0, .int x1] : List Value).toArray s 0 0 A := ⟨_, rfl⟩
  rw [← hQ]
  refine lv_iload_n hx hb d_Kin_heavy_0 rfl (lv_at hl 1 rfl) ?_
  refine lv_iconst (v := 1) hx hb d_Kin_heavy_1 (by decide) ?_
  refine lv_iadd hx hb d_Kin_heavy_2 ?_
  refine lv_istore_n (lv' := [(2, .int (x1 + 1)), (0, .int x0), (1, .int x1)]) hx hb d_Kin_heavy_3 rfl hl (by decide) rfl (fun ls hl => ?_)
  refine lv_iload_n hx hb d_Kin_heavy_4 rfl (lv_at hl 0 rfl) ?_
  refine lv_iconst (v := 2) hx hb d_Kin_heavy_5 (by decide) ?_
  refine lv_iadd hx hb d_Kin_heavy_6 ?_
  refine lv_istore_n (lv' := [(3, .int ((x1 + 1) + 2)), (2, .int (x1 + 1)), (0, .int x0), (1, .int x1)]) hx hb d_Kin_heavy_7 rfl hl (by decide) rfl (fun ls hl => ?_)
  refine lv_iconst (v := 4) hx hb d_Kin_heavy_8 (by decide) ?_
  refine lv_istore (lv' := [(4, .int 4), (3, .int ((x1 + 1) + 2)), (2, .int (x1 + 1)), (0, .int x0), (1, .int x1)]) hx hb d_Kin_heavy_9 hl (by decide) rfl (fun ls hl => ?_)
  refine lv_iload_n hx hb d_Kin_heavy_11 rfl (lv_at hl 3 rfl) ?_
  by_cases c_1 : x0 = 1
  · replace hr := ip c_1 hr
    refine k_tabIn (tgt := 48) (off := 36) c_1 hx hb d_Kin_heavy_12 (by decide) (by decide) (by decide) (by decide) ?_
    refine lv_iload_n hx hb d_Kin_heavy_48 rfl (lv_at hl 1 rfl) ?_
    obtain rfl := Option.some.inj hr
    rw [hQ]; exact k_iret C hret hW d_Kin_heavy_49
  · replace hr := iN c_1 hr
    by_cases c_2 : x0 = 2
    · replace hr := ip c_2 hr
      refine k_tabIn (tgt := 50) (off := 38) c_2 hx hb d_Kin_heavy_12 (by decide) (by decide) (by decide) (by decide) ?_
      refine lv_iload hx hb d_Kin_heavy_50 (lv_at hl 0 rfl) ?_
      obtain rfl := Option.some.inj hr
      rw [hQ]; exact k_iret C hret hW d_Kin_heavy_52
    · replace hr := iN c_2 hr
      by_cases c_3 : x0 = 3
      · replace hr := ip c_3 hr
        refine k_tabIn (tgt := 53) (off := 41) c_3 hx hb d_Kin_heavy_12 (by decide) (by decide) (by decide) (by decide) ?_
        refine lv_iload hx hb d_Kin_heavy_53 (lv_at hl 0 rfl) ?_
        refine lv_iconst (v := 2) hx hb d_Kin_heavy_55 (by decide) ?_
        refine lv_idiv hx hb d_Kin_heavy_56 (by decide) ?_
        obtain rfl := Option.some.inj hr
        rw [hQ]; exact k_iret C hret hW d_Kin_heavy_57
      · replace hr := iN c_3 hr
        by_cases c_4 : x0 = 4
        · replace hr := ip c_4 hr
          refine k_tabIn (tgt := 58) (off := 46) c_4 hx hb d_Kin_heavy_12 (by decide) (by decide) (by decide) (by decide) ?_
          refine lv_iconst (v := 2) hx hb d_Kin_heavy_58 (by decide) ?_
          refine lv_iload_n hx hb d_Kin_heavy_59 rfl (lv_at hl 1 rfl) ?_
          refine lv_imul hx hb d_Kin_heavy_60 ?_
          obtain rfl := Option.some.inj hr
          rw [hQ]; exact k_iret C hret hW d_Kin_heavy_61
        · replace hr := iN c_4 hr
          by_cases c_5 : x0 = 5
          · replace hr := ip c_5 hr
            refine k_tabIn (tgt := 62) (off := 50) c_5 hx hb d_Kin_heavy_12 (by decide) (by decide) (by decide) (by decide) ?_
            refine lv_iconst (v := 0) hx hb d_Kin_heavy_62 (by decide) ?_
            obtain rfl := Option.some.inj hr
            rw [hQ]; exact k_iret C hret hW d_Kin_heavy_63
          · replace hr := iN c_5 hr
            refine k_tabDef (tgt := 64) [1, 2, 3, 4, 5] (by decide +kernel) (by simp only [List.forall_mem_cons]; exact ⟨c_1, c_2, c_3, c_4, c_5, fun _ h => absurd h List.not_mem_nil⟩) hx hb d_Kin_heavy_12 (by decide) ?_
            refine lv_iload_n hx hb d_Kin_heavy_64 rfl (lv_at hl 2 rfl) ?_
            obtain rfl := Option.some.inj hr
            rw [hQ]; exact k_iret C hret hW d_Kin_heavy_65
def w_Sta_heavyOf (cI : ClassId) (a_r0 : Nat) (a_r0_figures : Nat) (a_r0_kinds : Nat) (v_r0_weights v_r0_goes v_r0_things v_r0_hampers v_r0_days v_r0_fields v_r0_done : Value) (r0_figures : Nat → Int32) (r0_kinds : Nat → Int32) : va_W := [(a_r0, .inr (1, [v_r0_weights, .ref a_r0_kinds, .ref a_r0_figures, v_r0_goes, v_r0_things, v_r0_hampers, v_r0_days, v_r0_fields, v_r0_done])), (a_r0_figures, .inl (cI, 8, .inl r0_figures)), (a_r0_kinds, .inl (cI, 8, .inl r0_kinds))]
def F_Sta_heavyOf_L4 (r0_figures : Nat → Int32) (r0_kinds : Nat → Int32) (x1 : Int32) (y2_1 : Int32) (y3_1 : Int32) : Option (((Int32) × (Int32)) ⊕ ((Int32))) :=
  (if (8 : Int32) ≤ y3_1 then (some (.inr y2_1)) else ((F_H_holds x1 y3_1).bind (fun q_3 => (if q_3 = 0 then (some (.inl (y2_1, (y3_1 + 1)))) else (ck y3_1 8 (ck y3_1 8 ((F_Kin_heavy (r0_kinds (Int32.toNatClampNeg y3_1)) (r0_figures (Int32.toNatClampNeg y3_1))).bind (fun q_7 => (some (.inl ((y2_1 + q_7), (y3_1 + 1))))))))))))
def F_Sta_heavyOf (r0_figures : Nat → Int32) (r0_kinds : Nat → Int32) (x1 : Int32) : Option (Int32) :=
  ((wh (fun (s : (Int32) × (Int32)) => F_Sta_heavyOf_L4 r0_figures r0_kinds x1 s.1 s.2) 400 ((0 : Int32), (0 : Int32))).bind (fun e_1 => (some e_1)))
set_option maxHeartbeats 4000000 in
set_option maxRecDepth 100000 in
theorem C_Sta_heavyOf (l : Launch) (D : va_G) (cI cS : ClassId) (a_r0 : Nat) (a_r0_figures : Nat) (a_r0_kinds : Nat) (v_r0_weights v_r0_goes v_r0_things v_r0_hampers v_r0_days v_r0_fields v_r0_done : Value) (r0_figures : Nat → Int32) (r0_kinds : Nat → Int32) (x1 : Int32) (o : Int32) (hr : F_Sta_heavyOf r0_figures r0_kinds x1 = some o) : ctI l y_Sta_heavyOf (Cond.code y_Sta_heavyOf b_Sta_heavyOf 4 (some FieldType.int)) (rmd 1) D (kTy cI cS) [.ref a_r0, .int x1] (w_Sta_heavyOf cI a_r0 a_r0_figures a_r0_kinds v_r0_weights v_r0_goes v_r0_things v_r0_hampers v_r0_days v_r0_fields v_r0_done r0_figures r0_kinds) (w_Sta_heavyOf cI a_r0 a_r0_figures a_r0_kinds v_r0_weights v_r0_goes v_r0_things v_r0_hampers v_r0_days v_r0_fields v_r0_done r0_figures r0_kinds) o := by
  unfold F_Sta_heavyOf at hr
  refine ⟨rfl, fun sz => ct_of (w0 := (w_Sta_heavyOf cI a_r0 a_r0_figures a_r0_kinds v_r0_weights v_r0_goes v_r0_things v_r0_hampers v_r0_days v_r0_fields v_r0_done r0_figures r0_kinds)) (Qc := fun A => qI D (w_Sta_heavyOf cI a_r0 a_r0_figures a_r0_kinds v_r0_weights v_r0_goes v_r0_things v_r0_hampers v_r0_days v_r0_fields v_r0_done r0_figures r0_kinds) o A) rfl (Nat.le_of_ble_eq_true rfl) ?_ sz⟩
  intro p e s m below meth c A hA C hret ls hl hW
  have C : cx p s m ([.ref a_r0, .int x1] : List Value).toArray meth c b_Sta_heavyOf 4 R_Sta D (kTy cI cS) (Cond.code y_Sta_heavyOf b_Sta_heavyOf 4 (some FieldType.int)) := C
  obtain ⟨hx, hb, hml, hown, hts, hK, hlk, hN⟩ := id C
  have hl : lv_has ls 4 [(0, .ref a_r0), (1, .int x1)] := hl
  obtain ⟨Q, hQ⟩ : ∃ Q, Q = MQ below (qI D (w_Sta_heavyOf cI a_r0 a_r0_figures a_r0_kinds v_r0_weights v_r0_goes v_r0_things v_r0_hampers v_r0_days v_r0_fields v_r0_done r0_figures r0_kinds) o A) ([.ref a_r0, .int x1] : List Value).toArray s 0 0 A := ⟨_, rfl⟩
  rw [← hQ]
  refine lv_iconst (v := 0) hx hb d_Sta_heavyOf_0 (by decide) ?_
  refine lv_istore_n (lv' := [(2, .int 0), (0, .ref a_r0), (1, .int x1)]) hx hb d_Sta_heavyOf_1 rfl hl (by decide) rfl (fun ls hl => ?_)
  refine lv_iconst (v := 0) hx hb d_Sta_heavyOf_2 (by decide) ?_
  refine lv_istore_n (lv' := [(3, .int 0), (2, .int 0), (0, .ref a_r0), (1, .int x1)]) hx hb d_Sta_heavyOf_3 rfl hl (by decide) rfl (fun ls hl => ?_)
  obtain ⟨ex_1, hw_1, hk_1⟩ := ob hr
  have hx_1 : ∀ (e_1 : (Int32)), e_1 = ex_1 → ∀ (H : Heap) (locs : List Loc) (ls : Array Slot), wd A s.heap D (w_Sta_heavyOf cI a_r0 a_r0_figures a_r0_kinds v_r0_weights v_r0_goes v_r0_things v_r0_hampers v_r0_days v_r0_fields v_r0_done r0_figures r0_kinds) H locs → lv_has ls 4 [(2, .int e_1)] → W p l e (rmd 1) s m ([.ref a_r0, .int x1] : List Value).toArray below meth c H locs 0 0 Q (F0 m 42 ls []) := by
    intro e_1 hE H locs ls hW hl
    subst hE; have hr := hk_1
    refine lv_iload_n hx hb d_Sta_heavyOf_42 rfl (lv_at hl 0 rfl) ?_
    obtain rfl := Option.some.inj hr
    rw [hQ]; exact k_iret C hret hW d_Sta_heavyOf_43
  have hl_1 : ∀ (k : Nat) (y2_1 : Int32) (y3_1 : Int32), wh (fun (s : (Int32) × (Int32)) => F_Sta_heavyOf_L4 r0_figures r0_kinds x1 s.1 s.2) k (y2_1, y3_1) = some ex_1 → ∀ (H : Heap) (locs : List Loc) (ls : Array Slot), wd A s.heap D (w_Sta_heavyOf cI a_r0 a_r0_figures a_r0_kinds v_r0_weights v_r0_goes v_r0_things v_r0_hampers v_r0_days v_r0_fields v_r0_done r0_figures r0_kinds) H locs → lv_has ls 4 [(0, .ref a_r0), (1, .int x1), (2, .int y2_1), (3, .int y3_1)] → W p l e (rmd 1) s m ([.ref a_r0, .int x1] : List Value).toArray below meth c H locs 0 0 Q (F0 m 4 ls []) := by
    intro k
    induction k with
    | zero => intro y2_1 y3_1 hw; exact absurd hw wh_0
    | succ k ih_1 =>
      intro y2_1 y3_1 hw H locs ls hW hl
      obtain ⟨z_1, hr, hz1_1, hz2_1⟩ := wh_s hw
      have hr : F_Sta_heavyOf_L4 r0_figures r0_kinds x1 y2_1 y3_1 = some z_1 := hr
      unfold F_Sta_heavyOf_L4 at hr
      refine lv_iload_n hx hb d_Sta_heavyOf_4 rfl (lv_at hl 3 rfl) ?_
      refine lv_bipush (v := 8) hx hb d_Sta_heavyOf_5 (by decide) ?_
      refine lv_icmp_ge (tgt := 42) hx hb d_Sta_heavyOf_7 (by decide) (fun c_2 => ?_) (fun c_2 => ?_)
      · replace hr := ip c_2 hr
        exact hx_1 _ (hz2_1 _ (Option.some.inj hr).symm) _ _ _ hW (lv_sub hl [2] rfl)
      · replace hr := iN c_2 hr
        refine lv_iload_n hx hb d_Sta_heavyOf_10 rfl (lv_at hl 1 rfl) ?_
        refine lv_iload_n hx hb d_Sta_heavyOf_11 rfl (lv_at hl 3 rfl) ?_
        obtain ⟨q_3, hc_3, hr⟩ := ob hr
        have ct_3 := C_H_holds l D cI cS x1 y3_1 q_3 hc_3
        refine k_goIp hA hW [] rfl rfl (k_runSN C hA hW mw_H_holds ms_H_holds (ct_3.2 _) [] rfl rfl qm_Sta_77 ⟨Nat.le_of_ble_eq_true rfl, Nat.le_of_ble_eq_true rfl, Nat.zero_le _, Nat.zero_le _⟩ rfl rfl (Nat.le_of_ble_eq_true rfl) hl.1 d_Sta_heavyOf_12) (fun H locs hW => ?_)
        refine lv_if_eq (tgt := 36) hx hb d_Sta_heavyOf_15 (by decide) (fun c_4 => ?_) (fun c_4 => ?_)
        · replace hr := ip c_4 hr
          refine lv_iinc (v := (y3_1 + 1)) (lv' := [(3, .int (y3_1 + 1)), (0, .ref a_r0), (1, .int x1), (2, .int y2_1)]) hx hb d_Sta_heavyOf_36 hl (k := 3) rfl rfl (by decide) rfl (fun ls hl => ?_)
          refine lv_goto (tgt := 4) hx hb d_Sta_heavyOf_39 (by decide) ?_
          exact ih_1 y2_1 (y3_1 + 1) (hz1_1 _ (Option.some.inj hr).symm) _ _ _ hW (lv_sub hl [1, 2, 3, 0] rfl)
        · replace hr := iN c_4 hr
          refine lv_iload_n hx hb d_Sta_heavyOf_18 rfl (lv_at hl 2 rfl) ?_
          refine lv_aload_n hx hb d_Sta_heavyOf_19 rfl (lv_at hl 0 rfl) ?_
          refine k_get i_Sta C hW 0 rfl rfl 1 (by decide) qf_Sta_15 rfl rfl d_Sta_heavyOf_20 ?_
          refine lv_iload_n hx hb d_Sta_heavyOf_23 rfl (lv_at hl 3 rfl) ?_
          obtain ⟨h_5, hr⟩ := ck_some hr
          refine k_iald C hW 2 rfl h_5 d_Sta_heavyOf_24 ?_
          refine lv_aload_n hx hb d_Sta_heavyOf_25 rfl (lv_at hl 0 rfl) ?_
          refine k_get i_Sta C hW 0 rfl rfl 2 (by decide) qf_Sta_18 rfl rfl d_Sta_heavyOf_26 ?_
          refine lv_iload_n hx hb d_Sta_heavyOf_29 rfl (lv_at hl 3 rfl) ?_
          obtain ⟨h_6, hr⟩ := ck_some hr
          refine k_iald C hW 1 rfl h_6 d_Sta_heavyOf_30 ?_
          obtain ⟨q_7, hc_7, hr⟩ := ob hr
          have ct_7 := C_Kin_heavy l D cI cS (r0_kinds (Int32.toNatClampNeg y3_1)) (r0_figures (Int32.toNatClampNeg y3_1)) q_7 hc_7
          refine k_goIp hA hW [] rfl rfl (k_runS C hA hW mw_Kin_heavy ms_Kin_heavy (ct_7.2 _) [] rfl rfl qm_Sta_85 ⟨Nat.le_of_ble_eq_true rfl, Nat.le_of_ble_eq_true rfl, Nat.zero_le _, Nat.zero_le _⟩ rfl rfl (Nat.le_of_ble_eq_true rfl) hl.1 d_Sta_heavyOf_31) (fun H locs hW => ?_)
          refine lv_iadd hx hb d_Sta_heavyOf_34 ?_
          refine lv_istore_n (lv' := [(2, .int (y2_1 + q_7)), (0, .ref a_r0), (1, .int x1), (3, .int y3_1)]) hx hb d_Sta_heavyOf_35 rfl hl (by decide) rfl (fun ls hl => ?_)
          refine lv_iinc (v := (y3_1 + 1)) (lv' := [(3, .int (y3_1 + 1)), (2, .int (y2_1 + q_7)), (0, .ref a_r0), (1, .int x1)]) hx hb d_Sta_heavyOf_36 hl (k := 3) rfl rfl (by decide) rfl (fun ls hl => ?_)
          refine lv_goto (tgt := 4) hx hb d_Sta_heavyOf_39 (by decide) ?_
          exact ih_1 (y2_1 + q_7) (y3_1 + 1) (hz1_1 _ (Option.some.inj hr).symm) _ _ _ hW (lv_sub hl [2, 3, 1, 0] rfl)
  exact hl_1 _ 0 0 hw_1 _ _ _ hW (lv_sub hl [2, 3, 1, 0] rfl)
def w_Dia_heavyOfAll (cI : ClassId) (a_r0 : Nat) (a_r0_figures : Nat) (a_r0_hampers : Nat) (a_r0_kinds : Nat) (v_r0_weights v_r0_goes v_r0_things v_r0_fields v_r0_done : Value) (r0_days : Int32) (r0_figures : Nat → Int32) (r0_hampers : Nat → Int32) (r0_kinds : Nat → Int32) : va_W := [(a_r0, .inr (1, [v_r0_weights, .ref a_r0_kinds, .ref a_r0_figures, v_r0_goes, v_r0_things, .ref a_r0_hampers, .int r0_days, v_r0_fields, v_r0_done])), (a_r0_figures, .inl (cI, 8, .inl r0_figures)), (a_r0_hampers, .inl (cI, 8, .inl r0_hampers)), (a_r0_kinds, .inl (cI, 8, .inl r0_kinds))]
def F_Dia_heavyOfAll_L4 (r0_days : Int32) (r0_figures : Nat → Int32) (r0_hampers : Nat → Int32) (r0_kinds : Nat → Int32) (y1_1 : Int32) (y2_1 : Int32) : Option (((Int32) × (Int32)) ⊕ ((Int32))) :=
  (if (8 : Int32) ≤ y2_1 then (some (.inr y1_1)) else ((F_Sta_hamperOf r0_days r0_hampers y2_1).bind (fun q_3 => ((F_Sta_heavyOf r0_figures r0_kinds q_3).bind (fun q_4 => (some (.inl ((y1_1 + q_4), (y2_1 + 1)))))))))
def F_Dia_heavyOfAll (r0_days : Int32) (r0_figures : Nat → Int32) (r0_hampers : Nat → Int32) (r0_kinds : Nat → Int32) : Option (Int32) :=
  ((wh (fun (s : (Int32) × (Int32)) => F_Dia_heavyOfAll_L4 r0_days r0_figures r0_hampers r0_kinds s.1 s.2) 400 ((0 : Int32), (0 : Int32))).bind (fun e_1 => (some e_1)))
set_option maxHeartbeats 4000000 in
set_option maxRecDepth 100000 in
theorem C_Dia_heavyOfAll (l : Launch) (D : va_G) (cI cS : ClassId) (a_r0 : Nat) (a_r0_figures : Nat) (a_r0_hampers : Nat) (a_r0_kinds : Nat) (v_r0_weights v_r0_goes v_r0_things v_r0_fields v_r0_done : Value) (r0_days : Int32) (r0_figures : Nat → Int32) (r0_hampers : Nat → Int32) (r0_kinds : Nat → Int32) (o : Int32) (hr : F_Dia_heavyOfAll r0_days r0_figures r0_hampers r0_kinds = some o) : ctI l y_Dia_heavyOfAll (Cond.code y_Dia_heavyOfAll b_Dia_heavyOfAll 3 (some FieldType.int)) (rmd 2) D (kTy cI cS) [.ref a_r0] (w_Dia_heavyOfAll cI a_r0 a_r0_figures a_r0_hampers a_r0_kinds v_r0_weights v_r0_goes v_r0_things v_r0_fields v_r0_done r0_days r0_figures r0_hampers r0_kinds) (w_Dia_heavyOfAll cI a_r0 a_r0_figures a_r0_hampers a_r0_kinds v_r0_weights v_r0_goes v_r0_things v_r0_fields v_r0_done r0_days r0_figures r0_hampers r0_kinds) o := by
  unfold F_Dia_heavyOfAll at hr
  refine ⟨rfl, fun sz => ct_of (w0 := (w_Dia_heavyOfAll cI a_r0 a_r0_figures a_r0_hampers a_r0_kinds v_r0_weights v_r0_goes v_r0_things v_r0_fields v_r0_done r0_days r0_figures r0_hampers r0_kinds)) (Qc := fun A => qI D (w_Dia_heavyOfAll cI a_r0 a_r0_figures a_r0_hampers a_r0_kinds v_r0_weights v_r0_goes v_r0_things v_r0_fields v_r0_done r0_days r0_figures r0_hampers r0_kinds) o A) rfl (Nat.le_of_ble_eq_true rfl) ?_ sz⟩
  intro p e s m below meth c A hA C hret ls hl hW
  have C : cx p s m ([.ref a_r0] : List Value).toArray meth c b_Dia_heavyOfAll 3 R_Dia D (kTy cI cS) (Cond.code y_Dia_heavyOfAll b_Dia_heavyOfAll 3 (some FieldType.int)) := C
  obtain ⟨hx, hb, hml, hown, hts, hK, hlk, hN⟩ := id C
  have hl : lv_has ls 3 [(0, .ref a_r0)] := hl
  obtain ⟨Q, hQ⟩ : ∃ Q, Q = MQ below (qI D (w_Dia_heavyOfAll cI a_r0 a_r0_figures a_r0_hampers a_r0_kinds v_r0_weights v_r0_goes v_r0_things v_r0_fields v_r0_done r0_days r0_figures r0_hampers r0_kinds) o A) ([.ref a_r0] : List Value).toArray s 0 0 A := ⟨_, rfl⟩
  rw [← hQ]
  refine lv_iconst (v := 0) hx hb d_Dia_heavyOfAll_0 (by decide) ?_
  refine lv_istore_n (lv' := [(1, .int 0), (0, .ref a_r0)]) hx hb d_Dia_heavyOfAll_1 rfl hl (by decide) rfl (fun ls hl => ?_)
  refine lv_iconst (v := 0) hx hb d_Dia_heavyOfAll_2 (by decide) ?_
  refine lv_istore_n (lv' := [(2, .int 0), (1, .int 0), (0, .ref a_r0)]) hx hb d_Dia_heavyOfAll_3 rfl hl (by decide) rfl (fun ls hl => ?_)
  obtain ⟨ex_1, hw_1, hk_1⟩ := ob hr
  have hx_1 : ∀ (e_1 : (Int32)), e_1 = ex_1 → ∀ (H : Heap) (locs : List Loc) (ls : Array Slot), wd A s.heap D (w_Dia_heavyOfAll cI a_r0 a_r0_figures a_r0_hampers a_r0_kinds v_r0_weights v_r0_goes v_r0_things v_r0_fields v_r0_done r0_days r0_figures r0_hampers r0_kinds) H locs → lv_has ls 3 [(1, .int e_1)] → W p l e (rmd 2) s m ([.ref a_r0] : List Value).toArray below meth c H locs 0 0 Q (F0 m 28 ls []) := by
    intro e_1 hE H locs ls hW hl
    subst hE; have hr := hk_1
    refine lv_iload_n hx hb d_Dia_heavyOfAll_28 rfl (lv_at hl 0 rfl) ?_
    obtain rfl := Option.some.inj hr
    rw [hQ]; exact k_iret C hret hW d_Dia_heavyOfAll_29
  have hl_1 : ∀ (k : Nat) (y1_1 : Int32) (y2_1 : Int32), wh (fun (s : (Int32) × (Int32)) => F_Dia_heavyOfAll_L4 r0_days r0_figures r0_hampers r0_kinds s.1 s.2) k (y1_1, y2_1) = some ex_1 → ∀ (H : Heap) (locs : List Loc) (ls : Array Slot), wd A s.heap D (w_Dia_heavyOfAll cI a_r0 a_r0_figures a_r0_hampers a_r0_kinds v_r0_weights v_r0_goes v_r0_things v_r0_fields v_r0_done r0_days r0_figures r0_hampers r0_kinds) H locs → lv_has ls 3 [(0, .ref a_r0), (1, .int y1_1), (2, .int y2_1)] → W p l e (rmd 2) s m ([.ref a_r0] : List Value).toArray below meth c H locs 0 0 Q (F0 m 4 ls []) := by
    intro k
    induction k with
    | zero => intro y1_1 y2_1 hw; exact absurd hw wh_0
    | succ k ih_1 =>
      intro y1_1 y2_1 hw H locs ls hW hl
      obtain ⟨z_1, hr, hz1_1, hz2_1⟩ := wh_s hw
      have hr : F_Dia_heavyOfAll_L4 r0_days r0_figures r0_hampers r0_kinds y1_1 y2_1 = some z_1 := hr
      unfold F_Dia_heavyOfAll_L4 at hr
      refine lv_iload_n hx hb d_Dia_heavyOfAll_4 rfl (lv_at hl 2 rfl) ?_
      refine lv_bipush (v := 8) hx hb d_Dia_heavyOfAll_5 (by decide) ?_
      refine lv_icmp_ge (tgt := 28) hx hb d_Dia_heavyOfAll_7 (by decide) (fun c_2 => ?_) (fun c_2 => ?_)
      · replace hr := ip c_2 hr
        exact hx_1 _ (hz2_1 _ (Option.some.inj hr).symm) _ _ _ hW (lv_sub hl [1] rfl)
      · replace hr := iN c_2 hr
        refine lv_iload_n hx hb d_Dia_heavyOfAll_10 rfl (lv_at hl 1 rfl) ?_
        refine lv_aload_n hx hb d_Dia_heavyOfAll_11 rfl (lv_at hl 0 rfl) ?_
        refine lv_aload_n hx hb d_Dia_heavyOfAll_12 rfl (lv_at hl 0 rfl) ?_
        refine lv_iload_n hx hb d_Dia_heavyOfAll_13 rfl (lv_at hl 2 rfl) ?_
        obtain ⟨q_3, hc_3, hr⟩ := ob hr
        have ct_3 := C_Sta_hamperOf l D cI cS a_r0 a_r0_hampers v_r0_weights (Value.ref a_r0_kinds) (Value.ref a_r0_figures) v_r0_goes v_r0_things v_r0_fields v_r0_done r0_days r0_hampers y2_1 q_3 hc_3
        refine k_goIp hA hW [0, 2] rfl rfl (k_runV C hA hW mw_Sta_hamperOf mv_Sta_hamperOf (ct_3.2 _) [0, 2] rfl rfl 0 rfl rfl qm_Dia_9 ⟨Nat.le_of_ble_eq_true rfl, Nat.le_of_ble_eq_true rfl, Nat.zero_le _, Nat.zero_le _⟩ rfl rfl (Nat.le_of_ble_eq_true rfl) hl.1 d_Dia_heavyOfAll_14) (fun H locs hW => ?_)
        obtain ⟨q_4, hc_4, hr⟩ := ob hr
        have ct_4 := C_Sta_heavyOf l D cI cS a_r0 a_r0_figures a_r0_kinds v_r0_weights v_r0_goes v_r0_things (Value.ref a_r0_hampers) (Value.int r0_days) v_r0_fields v_r0_done r0_figures r0_kinds q_3 q_4 hc_4
        refine k_goIp hA hW [0, 1, 3] rfl rfl (k_runV C hA hW mw_Sta_heavyOf mv_Sta_heavyOf (ct_4.2 _) [0, 1, 3] rfl rfl 0 rfl rfl qm_Dia_39 ⟨Nat.le_of_ble_eq_true rfl, Nat.le_of_ble_eq_true rfl, Nat.zero_le _, Nat.zero_le _⟩ rfl rfl (Nat.le_of_ble_eq_true rfl) hl.1 d_Dia_heavyOfAll_17) (fun H locs hW => ?_)
        refine lv_iadd hx hb d_Dia_heavyOfAll_20 ?_
        refine lv_istore_n (lv' := [(1, .int (y1_1 + q_4)), (0, .ref a_r0), (2, .int y2_1)]) hx hb d_Dia_heavyOfAll_21 rfl hl (by decide) rfl (fun ls hl => ?_)
        refine lv_iinc (v := (y2_1 + 1)) (lv' := [(2, .int (y2_1 + 1)), (1, .int (y1_1 + q_4)), (0, .ref a_r0)]) hx hb d_Dia_heavyOfAll_22 hl (k := 2) rfl rfl (by decide) rfl (fun ls hl => ?_)
        refine lv_goto (tgt := 4) hx hb d_Dia_heavyOfAll_25 (by decide) ?_
        exact ih_1 (y1_1 + q_4) (y2_1 + 1) (hz1_1 _ (Option.some.inj hr).symm) _ _ _ hW (lv_sub hl [2, 1, 0] rfl)
  exact hl_1 _ 0 0 hw_1 _ _ _ hW (lv_sub hl [2, 1, 0] rfl)
def w_Dia_lightestDay (cI : ClassId) (a_r0 : Nat) (a_r0_figures : Nat) (a_r0_hampers : Nat) (a_r0_kinds : Nat) (v_r0_weights v_r0_goes v_r0_things v_r0_fields v_r0_done : Value) (r0_days : Int32) (r0_figures : Nat → Int32) (r0_hampers : Nat → Int32) (r0_kinds : Nat → Int32) : va_W := [(a_r0, .inr (1, [v_r0_weights, .ref a_r0_kinds, .ref a_r0_figures, v_r0_goes, v_r0_things, .ref a_r0_hampers, .int r0_days, v_r0_fields, v_r0_done])), (a_r0_figures, .inl (cI, 8, .inl r0_figures)), (a_r0_hampers, .inl (cI, 8, .inl r0_hampers)), (a_r0_kinds, .inl (cI, 8, .inl r0_kinds))]
def F_Dia_lightestDay_L7 (r0_days : Int32) (r0_figures : Nat → Int32) (r0_hampers : Nat → Int32) (r0_kinds : Nat → Int32) (y1_1 : Int32) (y2_1 : Int32) (y3_1 : Int32) : Option (((Int32) × (Int32) × (Int32)) ⊕ ((Int32))) :=
  (if (8 : Int32) ≤ y3_1 then (some (.inr y1_1)) else (if r0_days ≤ y3_1 then (some (.inr y1_1)) else ((F_Sta_hamperOf r0_days r0_hampers y3_1).bind (fun q_4 => ((F_Sta_heavyOf r0_figures r0_kinds q_4).bind (fun q_5 => (if y1_1 = (-9) then (some (.inl (y3_1, q_5, (y3_1 + 1)))) else (if y2_1 ≤ q_5 then (some (.inl (y1_1, y2_1, (y3_1 + 1)))) else (some (.inl (y3_1, q_5, (y3_1 + 1))))))))))))
def F_Dia_lightestDay (r0_days : Int32) (r0_figures : Nat → Int32) (r0_hampers : Nat → Int32) (r0_kinds : Nat → Int32) : Option (Int32) :=
  ((wh (fun (s : (Int32) × (Int32) × (Int32)) => F_Dia_lightestDay_L7 r0_days r0_figures r0_hampers r0_kinds s.1 s.2.1 s.2.2) 400 (((-9) : Int32), (0 : Int32), (0 : Int32))).bind (fun e_1 => (some e_1)))
set_option maxHeartbeats 4000000 in
set_option maxRecDepth 100000 in
theorem C_Dia_lightestDay (l : Launch) (D : va_G) (cI cS : ClassId) (a_r0 : Nat) (a_r0_figures : Nat) (a_r0_hampers : Nat) (a_r0_kinds : Nat) (v_r0_weights v_r0_goes v_r0_things v_r0_fields v_r0_done : Value) (r0_days : Int32) (r0_figures : Nat → Int32) (r0_hampers : Nat → Int32) (r0_kinds : Nat → Int32) (o : Int32) (hr : F_Dia_lightestDay r0_days r0_figures r0_hampers r0_kinds = some o) : ctI l y_Dia_lightestDay (Cond.code y_Dia_lightestDay b_Dia_lightestDay 5 (some FieldType.int)) (rmd 2) D (kTy cI cS) [.ref a_r0] (w_Dia_lightestDay cI a_r0 a_r0_figures a_r0_hampers a_r0_kinds v_r0_weights v_r0_goes v_r0_things v_r0_fields v_r0_done r0_days r0_figures r0_hampers r0_kinds) (w_Dia_lightestDay cI a_r0 a_r0_figures a_r0_hampers a_r0_kinds v_r0_weights v_r0_goes v_r0_things v_r0_fields v_r0_done r0_days r0_figures r0_hampers r0_kinds) o := by
  unfold F_Dia_lightestDay at hr
  refine ⟨rfl, fun sz => ct_of (w0 := (w_Dia_lightestDay cI a_r0 a_r0_figures a_r0_hampers a_r0_kinds v_r0_weights v_r0_goes v_r0_things v_r0_fields v_r0_done r0_days r0_figures r0_hampers r0_kinds)) (Qc := fun A => qI D (w_Dia_lightestDay cI a_r0 a_r0_figures a_r0_hampers a_r0_kinds v_r0_weights v_r0_goes v_r0_things v_r0_fields v_r0_done r0_days r0_figures r0_hampers r0_kinds) o A) rfl (Nat.le_of_ble_eq_true rfl) ?_ sz⟩
  intro p e s m below meth c A hA C hret ls hl hW
  have C : cx p s m ([.ref a_r0] : List Value).toArray meth c b_Dia_lightestDay 5 R_Dia D (kTy cI cS) (Cond.code y_Dia_lightestDay b_Dia_lightestDay 5 (some FieldType.int)) := C
  obtain ⟨hx, hb, hml, hown, hts, hK, hlk, hN⟩ := id C
  have hl : lv_has ls 5 [(0, .ref a_r0)] := hl
  obtain ⟨Q, hQ⟩ : ∃ Q, Q = MQ below (qI D (w_Dia_lightestDay cI a_r0 a_r0_figures a_r0_hampers a_r0_kinds v_r0_weights v_r0_goes v_r0_things v_r0_fields v_r0_done r0_days r0_figures r0_hampers r0_kinds) o A) ([.ref a_r0] : List Value).toArray s 0 0 A := ⟨_, rfl⟩
  rw [← hQ]
  refine lv_bipush (v := (-9)) hx hb d_Dia_lightestDay_0 (by decide) ?_
  refine lv_istore_n (lv' := [(1, .int (-9)), (0, .ref a_r0)]) hx hb d_Dia_lightestDay_2 rfl hl (by decide) rfl (fun ls hl => ?_)
  refine lv_iconst (v := 0) hx hb d_Dia_lightestDay_3 (by decide) ?_
  refine lv_istore_n (lv' := [(2, .int 0), (1, .int (-9)), (0, .ref a_r0)]) hx hb d_Dia_lightestDay_4 rfl hl (by decide) rfl (fun ls hl => ?_)
  refine lv_iconst (v := 0) hx hb d_Dia_lightestDay_5 (by decide) ?_
  refine lv_istore_n (lv' := [(3, .int 0), (2, .int 0), (1, .int (-9)), (0, .ref a_r0)]) hx hb d_Dia_lightestDay_6 rfl hl (by decide) rfl (fun ls hl => ?_)
  obtain ⟨ex_1, hw_1, hk_1⟩ := ob hr
  have hx_1 : ∀ (e_1 : (Int32)), e_1 = ex_1 → ∀ (H : Heap) (locs : List Loc) (ls : Array Slot), wd A s.heap D (w_Dia_lightestDay cI a_r0 a_r0_figures a_r0_hampers a_r0_kinds v_r0_weights v_r0_goes v_r0_things v_r0_fields v_r0_done r0_days r0_figures r0_hampers r0_kinds) H locs → lv_has ls 5 [(1, .int e_1)] → W p l e (rmd 2) s m ([.ref a_r0] : List Value).toArray below meth c H locs 0 0 Q (F0 m 55 ls []) := by
    intro e_1 hE H locs ls hW hl
    subst hE; have hr := hk_1
    refine lv_iload_n hx hb d_Dia_lightestDay_55 rfl (lv_at hl 0 rfl) ?_
    obtain rfl := Option.some.inj hr
    rw [hQ]; exact k_iret C hret hW d_Dia_lightestDay_56
  have hl_1 : ∀ (k : Nat) (y1_1 : Int32) (y2_1 : Int32) (y3_1 : Int32), wh (fun (s : (Int32) × (Int32) × (Int32)) => F_Dia_lightestDay_L7 r0_days r0_figures r0_hampers r0_kinds s.1 s.2.1 s.2.2) k (y1_1, y2_1, y3_1) = some ex_1 → ∀ (H : Heap) (locs : List Loc) (ls : Array Slot), wd A s.heap D (w_Dia_lightestDay cI a_r0 a_r0_figures a_r0_hampers a_r0_kinds v_r0_weights v_r0_goes v_r0_things v_r0_fields v_r0_done r0_days r0_figures r0_hampers r0_kinds) H locs → lv_has ls 5 [(0, .ref a_r0), (1, .int y1_1), (2, .int y2_1), (3, .int y3_1)] → W p l e (rmd 2) s m ([.ref a_r0] : List Value).toArray below meth c H locs 0 0 Q (F0 m 7 ls []) := by
    intro k
    induction k with
    | zero => intro y1_1 y2_1 y3_1 hw; exact absurd hw wh_0
    | succ k ih_1 =>
      intro y1_1 y2_1 y3_1 hw H locs ls hW hl
      obtain ⟨z_1, hr, hz1_1, hz2_1⟩ := wh_s hw
      have hr : F_Dia_lightestDay_L7 r0_days r0_figures r0_hampers r0_kinds y1_1 y2_1 y3_1 = some z_1 := hr
      unfold F_Dia_lightestDay_L7 at hr
      refine lv_iload_n hx hb d_Dia_lightestDay_7 rfl (lv_at hl 3 rfl) ?_
      refine lv_bipush (v := 8) hx hb d_Dia_lightestDay_8 (by decide) ?_
      refine lv_icmp_ge (tgt := 55) hx hb d_Dia_lightestDay_10 (by decide) (fun c_2 => ?_) (fun c_2 => ?_)
      · replace hr := ip c_2 hr
        exact hx_1 _ (hz2_1 _ (Option.some.inj hr).symm) _ _ _ hW (lv_sub hl [1] rfl)
      · replace hr := iN c_2 hr
        refine lv_iload_n hx hb d_Dia_lightestDay_13 rfl (lv_at hl 3 rfl) ?_
        refine lv_aload_n hx hb d_Dia_lightestDay_14 rfl (lv_at hl 0 rfl) ?_
        refine k_getN i_Sta C hW 0 rfl rfl 6 (by decide) qf_Dia_30 rfl rfl d_Dia_lightestDay_15 ?_
        refine lv_icmp_ge (tgt := 55) hx hb d_Dia_lightestDay_18 (by decide) (fun c_3 => ?_) (fun c_3 => ?_)
        · replace hr := ip c_3 hr
          exact hx_1 _ (hz2_1 _ (Option.some.inj hr).symm) _ _ _ hW (lv_sub hl [1] rfl)
        · replace hr := iN c_3 hr
          refine lv_aload_n hx hb d_Dia_lightestDay_21 rfl (lv_at hl 0 rfl) ?_
          refine lv_aload_n hx hb d_Dia_lightestDay_22 rfl (lv_at hl 0 rfl) ?_
          refine lv_iload_n hx hb d_Dia_lightestDay_23 rfl (lv_at hl 3 rfl) ?_
          obtain ⟨q_4, hc_4, hr⟩ := ob hr
          have ct_4 := C_Sta_hamperOf l D cI cS a_r0 a_r0_hampers v_r0_weights (Value.ref a_r0_kinds) (Value.ref a_r0_figures) v_r0_goes v_r0_things v_r0_fields v_r0_done r0_days r0_hampers y3_1 q_4 hc_4
          refine k_goIp hA hW [0, 2] rfl rfl (k_runV C hA hW mw_Sta_hamperOf mv_Sta_hamperOf (ct_4.2 _) [0, 2] rfl rfl 0 rfl rfl qm_Dia_9 ⟨Nat.le_of_ble_eq_true rfl, Nat.le_of_ble_eq_true rfl, Nat.zero_le _, Nat.zero_le _⟩ rfl rfl (Nat.le_of_ble_eq_true rfl) hl.1 d_Dia_lightestDay_24) (fun H locs hW => ?_)
          obtain ⟨q_5, hc_5, hr⟩ := ob hr
          have ct_5 := C_Sta_heavyOf l D cI cS a_r0 a_r0_figures a_r0_kinds v_r0_weights v_r0_goes v_r0_things (Value.ref a_r0_hampers) (Value.int r0_days) v_r0_fields v_r0_done r0_figures r0_kinds q_4 q_5 hc_5
          refine k_goIp hA hW [0, 1, 3] rfl rfl (k_runV C hA hW mw_Sta_heavyOf mv_Sta_heavyOf (ct_5.2 _) [0, 1, 3] rfl rfl 0 rfl rfl qm_Dia_39 ⟨Nat.le_of_ble_eq_true rfl, Nat.le_of_ble_eq_true rfl, Nat.zero_le _, Nat.zero_le _⟩ rfl rfl (Nat.le_of_ble_eq_true rfl) hl.1 d_Dia_lightestDay_27) (fun H locs hW => ?_)
          refine lv_istore (lv' := [(4, .int q_5), (0, .ref a_r0), (1, .int y1_1), (2, .int y2_1), (3, .int y3_1)]) hx hb d_Dia_lightestDay_30 hl (by decide) rfl (fun ls hl => ?_)
          refine lv_iload_n hx hb d_Dia_lightestDay_32 rfl (lv_at hl 2 rfl) ?_
          refine lv_bipush (v := (-9)) hx hb d_Dia_lightestDay_33 (by decide) ?_
          refine lv_icmp_eq (tgt := 44) hx hb d_Dia_lightestDay_35 (by decide) (fun c_6 => ?_) (fun c_6 => ?_)
          · replace hr := ip c_6 hr
            refine lv_iload_n hx hb d_Dia_lightestDay_44 rfl (lv_at hl 4 rfl) ?_
            refine lv_istore_n (lv' := [(1, .int y3_1), (4, .int q_5), (0, .ref a_r0), (2, .int y2_1), (3, .int y3_1)]) hx hb d_Dia_lightestDay_45 rfl hl (by decide) rfl (fun ls hl => ?_)
            refine lv_iload hx hb d_Dia_lightestDay_46 (lv_at hl 1 rfl) ?_
            refine lv_istore_n (lv' := [(2, .int q_5), (1, .int y3_1), (4, .int q_5), (0, .ref a_r0), (3, .int y3_1)]) hx hb d_Dia_lightestDay_48 rfl hl (by decide) rfl (fun ls hl => ?_)
            refine lv_iinc (v := (y3_1 + 1)) (lv' := [(3, .int (y3_1 + 1)), (2, .int q_5), (1, .int y3_1), (4, .int q_5), (0, .ref a_r0)]) hx hb d_Dia_lightestDay_49 hl (k := 4) rfl rfl (by decide) rfl (fun ls hl => ?_)
            refine lv_goto (tgt := 7) hx hb d_Dia_lightestDay_52 (by decide) ?_
            exact ih_1 y3_1 q_5 (y3_1 + 1) (hz1_1 _ (Option.some.inj hr).symm) _ _ _ hW (lv_sub hl [4, 2, 1, 0] rfl)
          · replace hr := iN c_6 hr
            refine lv_iload hx hb d_Dia_lightestDay_38 (lv_at hl 0 rfl) ?_
            refine lv_iload_n hx hb d_Dia_lightestDay_40 rfl (lv_at hl 3 rfl) ?_
            refine lv_icmp_ge (tgt := 49) hx hb d_Dia_lightestDay_41 (by decide) (fun c_7 => ?_) (fun c_7 => ?_)
            · replace hr := ip c_7 hr
              refine lv_iinc (v := (y3_1 + 1)) (lv' := [(3, .int (y3_1 + 1)), (4, .int q_5), (0, .ref a_r0), (1, .int y1_1), (2, .int y2_1)]) hx hb d_Dia_lightestDay_49 hl (k := 4) rfl rfl (by decide) rfl (fun ls hl => ?_)
              refine lv_goto (tgt := 7) hx hb d_Dia_lightestDay_52 (by decide) ?_
              exact ih_1 y1_1 y2_1 (y3_1 + 1) (hz1_1 _ (Option.some.inj hr).symm) _ _ _ hW (lv_sub hl [2, 3, 4, 0] rfl)
            · replace hr := iN c_7 hr
              refine lv_iload_n hx hb d_Dia_lightestDay_44 rfl (lv_at hl 4 rfl) ?_
              refine lv_istore_n (lv' := [(1, .int y3_1), (4, .int q_5), (0, .ref a_r0), (2, .int y2_1), (3, .int y3_1)]) hx hb d_Dia_lightestDay_45 rfl hl (by decide) rfl (fun ls hl => ?_)
              refine lv_iload hx hb d_Dia_lightestDay_46 (lv_at hl 1 rfl) ?_
              refine lv_istore_n (lv' := [(2, .int q_5), (1, .int y3_1), (4, .int q_5), (0, .ref a_r0), (3, .int y3_1)]) hx hb d_Dia_lightestDay_48 rfl hl (by decide) rfl (fun ls hl => ?_)
              refine lv_iinc (v := (y3_1 + 1)) (lv' := [(3, .int (y3_1 + 1)), (2, .int q_5), (1, .int y3_1), (4, .int q_5), (0, .ref a_r0)]) hx hb d_Dia_lightestDay_49 hl (k := 4) rfl rfl (by decide) rfl (fun ls hl => ?_)
              refine lv_goto (tgt := 7) hx hb d_Dia_lightestDay_52 (by decide) ?_
              exact ih_1 y3_1 q_5 (y3_1 + 1) (hz1_1 _ (Option.some.inj hr).symm) _ _ _ hW (lv_sub hl [4, 2, 1, 0] rfl)
  exact hl_1 _ (-9) 0 0 hw_1 _ _ _ hW (lv_sub hl [3, 2, 1, 0] rfl)
def w_Dia_timesPacked (cI : ClassId) (a_r0 : Nat) (a_r0_hampers : Nat) (v_r0_weights v_r0_kinds v_r0_figures v_r0_goes v_r0_things v_r0_fields v_r0_done : Value) (r0_days : Int32) (r0_hampers : Nat → Int32) : va_W := [(a_r0, .inr (1, [v_r0_weights, v_r0_kinds, v_r0_figures, v_r0_goes, v_r0_things, .ref a_r0_hampers, .int r0_days, v_r0_fields, v_r0_done])), (a_r0_hampers, .inl (cI, 8, .inl r0_hampers))]
def F_Dia_timesPacked_L4 (r0_days : Int32) (r0_hampers : Nat → Int32) (x1 : Int32) (y2_1 : Int32) (y3_1 : Int32) : Option (((Int32) × (Int32)) ⊕ ((Int32))) :=
  (if (8 : Int32) ≤ y3_1 then (some (.inr y2_1)) else ((F_Sta_hamperOf r0_days r0_hampers y3_1).bind (fun q_3 => ((F_H_holds q_3 x1).bind (fun q_4 => (if q_4 = 0 then (some (.inl (y2_1, (y3_1 + 1)))) else (some (.inl ((y2_1 + 1), (y3_1 + 1))))))))))
def F_Dia_timesPacked (r0_days : Int32) (r0_hampers : Nat → Int32) (x1 : Int32) : Option (Int32) :=
  ((wh (fun (s : (Int32) × (Int32)) => F_Dia_timesPacked_L4 r0_days r0_hampers x1 s.1 s.2) 400 ((0 : Int32), (0 : Int32))).bind (fun e_1 => (some e_1)))
set_option maxHeartbeats 4000000 in
set_option maxRecDepth 100000 in
theorem C_Dia_timesPacked (l : Launch) (D : va_G) (cI cS : ClassId) (a_r0 : Nat) (a_r0_hampers : Nat) (v_r0_weights v_r0_kinds v_r0_figures v_r0_goes v_r0_things v_r0_fields v_r0_done : Value) (r0_days : Int32) (r0_hampers : Nat → Int32) (x1 : Int32) (o : Int32) (hr : F_Dia_timesPacked r0_days r0_hampers x1 = some o) : ctI l y_Dia_timesPacked (Cond.code y_Dia_timesPacked b_Dia_timesPacked 4 (some FieldType.int)) (rmd 2) D (kTy cI cS) [.ref a_r0, .int x1] (w_Dia_timesPacked cI a_r0 a_r0_hampers v_r0_weights v_r0_kinds v_r0_figures v_r0_goes v_r0_things v_r0_fields v_r0_done r0_days r0_hampers) (w_Dia_timesPacked cI a_r0 a_r0_hampers v_r0_weights v_r0_kinds v_r0_figures v_r0_goes v_r0_things v_r0_fields v_r0_done r0_days r0_hampers) o := by
  unfold F_Dia_timesPacked at hr
  refine ⟨rfl, fun sz => ct_of (w0 := (w_Dia_timesPacked cI a_r0 a_r0_hampers v_r0_weights v_r0_kinds v_r0_figures v_r0_goes v_r0_things v_r0_fields v_r0_done r0_days r0_hampers)) (Qc := fun A => qI D (w_Dia_timesPacked cI a_r0 a_r0_hampers v_r0_weights v_r0_kinds v_r0_figures v_r0_goes v_r0_things v_r0_fields v_r0_done r0_days r0_hampers) o A) rfl (Nat.le_of_ble_eq_true rfl) ?_ sz⟩
  intro p e s m below meth c A hA C hret ls hl hW
  have C : cx p s m ([.ref a_r0, .int x1] : List Value).toArray meth c b_Dia_timesPacked 4 R_Dia D (kTy cI cS) (Cond.code y_Dia_timesPacked b_Dia_timesPacked 4 (some FieldType.int)) := C
  obtain ⟨hx, hb, hml, hown, hts, hK, hlk, hN⟩ := id C
  have hl : lv_has ls 4 [(0, .ref a_r0), (1, .int x1)] := hl
  obtain ⟨Q, hQ⟩ : ∃ Q, Q = MQ below (qI D (w_Dia_timesPacked cI a_r0 a_r0_hampers v_r0_weights v_r0_kinds v_r0_figures v_r0_goes v_r0_things v_r0_fields v_r0_done r0_days r0_hampers) o A) ([.ref a_r0, .int x1] : List Value).toArray s 0 0 A := ⟨_, rfl⟩
  rw [← hQ]
  refine lv_iconst (v := 0) hx hb d_Dia_timesPacked_0 (by decide) ?_
  refine lv_istore_n (lv' := [(2, .int 0), (0, .ref a_r0), (1, .int x1)]) hx hb d_Dia_timesPacked_1 rfl hl (by decide) rfl (fun ls hl => ?_)
  refine lv_iconst (v := 0) hx hb d_Dia_timesPacked_2 (by decide) ?_
  refine lv_istore_n (lv' := [(3, .int 0), (2, .int 0), (0, .ref a_r0), (1, .int x1)]) hx hb d_Dia_timesPacked_3 rfl hl (by decide) rfl (fun ls hl => ?_)
  obtain ⟨ex_1, hw_1, hk_1⟩ := ob hr
  have hx_1 : ∀ (e_1 : (Int32)), e_1 = ex_1 → ∀ (H : Heap) (locs : List Loc) (ls : Array Slot), wd A s.heap D (w_Dia_timesPacked cI a_r0 a_r0_hampers v_r0_weights v_r0_kinds v_r0_figures v_r0_goes v_r0_things v_r0_fields v_r0_done r0_days r0_hampers) H locs → lv_has ls 4 [(2, .int e_1)] → W p l e (rmd 2) s m ([.ref a_r0, .int x1] : List Value).toArray below meth c H locs 0 0 Q (F0 m 31 ls []) := by
    intro e_1 hE H locs ls hW hl
    subst hE; have hr := hk_1
    refine lv_iload_n hx hb d_Dia_timesPacked_31 rfl (lv_at hl 0 rfl) ?_
    obtain rfl := Option.some.inj hr
    rw [hQ]; exact k_iret C hret hW d_Dia_timesPacked_32
  have hl_1 : ∀ (k : Nat) (y2_1 : Int32) (y3_1 : Int32), wh (fun (s : (Int32) × (Int32)) => F_Dia_timesPacked_L4 r0_days r0_hampers x1 s.1 s.2) k (y2_1, y3_1) = some ex_1 → ∀ (H : Heap) (locs : List Loc) (ls : Array Slot), wd A s.heap D (w_Dia_timesPacked cI a_r0 a_r0_hampers v_r0_weights v_r0_kinds v_r0_figures v_r0_goes v_r0_things v_r0_fields v_r0_done r0_days r0_hampers) H locs → lv_has ls 4 [(0, .ref a_r0), (1, .int x1), (2, .int y2_1), (3, .int y3_1)] → W p l e (rmd 2) s m ([.ref a_r0, .int x1] : List Value).toArray below meth c H locs 0 0 Q (F0 m 4 ls []) := by
    intro k
    induction k with
    | zero => intro y2_1 y3_1 hw; exact absurd hw wh_0
    | succ k ih_1 =>
      intro y2_1 y3_1 hw H locs ls hW hl
      obtain ⟨z_1, hr, hz1_1, hz2_1⟩ := wh_s hw
      have hr : F_Dia_timesPacked_L4 r0_days r0_hampers x1 y2_1 y3_1 = some z_1 := hr
      unfold F_Dia_timesPacked_L4 at hr
      refine lv_iload_n hx hb d_Dia_timesPacked_4 rfl (lv_at hl 3 rfl) ?_
      refine lv_bipush (v := 8) hx hb d_Dia_timesPacked_5 (by decide) ?_
      refine lv_icmp_ge (tgt := 31) hx hb d_Dia_timesPacked_7 (by decide) (fun c_2 => ?_) (fun c_2 => ?_)
      · replace hr := ip c_2 hr
        exact hx_1 _ (hz2_1 _ (Option.some.inj hr).symm) _ _ _ hW (lv_sub hl [2] rfl)
      · replace hr := iN c_2 hr
        refine lv_aload_n hx hb d_Dia_timesPacked_10 rfl (lv_at hl 0 rfl) ?_
        refine lv_iload_n hx hb d_Dia_timesPacked_11 rfl (lv_at hl 3 rfl) ?_
        obtain ⟨q_3, hc_3, hr⟩ := ob hr
        have ct_3 := C_Sta_hamperOf l D cI cS a_r0 a_r0_hampers v_r0_weights v_r0_kinds v_r0_figures v_r0_goes v_r0_things v_r0_fields v_r0_done r0_days r0_hampers y3_1 q_3 hc_3
        refine k_goIp hA hW [0, 1] rfl rfl (k_runV C hA hW mw_Sta_hamperOf mv_Sta_hamperOf (ct_3.2 _) [0, 1] rfl rfl 0 rfl rfl qm_Dia_9 ⟨Nat.le_of_ble_eq_true rfl, Nat.le_of_ble_eq_true rfl, Nat.zero_le _, Nat.zero_le _⟩ rfl rfl (Nat.le_of_ble_eq_true rfl) hl.1 d_Dia_timesPacked_12) (fun H locs hW => ?_)
        refine lv_iload_n hx hb d_Dia_timesPacked_15 rfl (lv_at hl 1 rfl) ?_
        obtain ⟨q_4, hc_4, hr⟩ := ob hr
        have ct_4 := C_H_holds l D cI cS q_3 x1 q_4 hc_4
        refine k_goIp hA hW [] rfl rfl (k_runSN C hA hW mw_H_holds ms_H_holds (ct_4.2 _) [] rfl rfl qm_Dia_15 ⟨Nat.le_of_ble_eq_true rfl, Nat.le_of_ble_eq_true rfl, Nat.zero_le _, Nat.zero_le _⟩ rfl rfl (Nat.le_of_ble_eq_true rfl) hl.1 d_Dia_timesPacked_16) (fun H locs hW => ?_)
        refine lv_if_eq (tgt := 25) hx hb d_Dia_timesPacked_19 (by decide) (fun c_5 => ?_) (fun c_5 => ?_)
        · replace hr := ip c_5 hr
          refine lv_iinc (v := (y3_1 + 1)) (lv' := [(3, .int (y3_1 + 1)), (0, .ref a_r0), (1, .int x1), (2, .int y2_1)]) hx hb d_Dia_timesPacked_25 hl (k := 3) rfl rfl (by decide) rfl (fun ls hl => ?_)
          refine lv_goto (tgt := 4) hx hb d_Dia_timesPacked_28 (by decide) ?_
          exact ih_1 y2_1 (y3_1 + 1) (hz1_1 _ (Option.some.inj hr).symm) _ _ _ hW (lv_sub hl [1, 2, 3, 0] rfl)
        · replace hr := iN c_5 hr
          refine lv_iinc (v := (y2_1 + 1)) (lv' := [(2, .int (y2_1 + 1)), (0, .ref a_r0), (1, .int x1), (3, .int y3_1)]) hx hb d_Dia_timesPacked_22 hl (k := 2) rfl rfl (by decide) rfl (fun ls hl => ?_)
          refine lv_iinc (v := (y3_1 + 1)) (lv' := [(3, .int (y3_1 + 1)), (2, .int (y2_1 + 1)), (0, .ref a_r0), (1, .int x1)]) hx hb d_Dia_timesPacked_25 hl (k := 3) rfl rfl (by decide) rfl (fun ls hl => ?_)
          refine lv_goto (tgt := 4) hx hb d_Dia_timesPacked_28 (by decide) ?_
          exact ih_1 (y2_1 + 1) (y3_1 + 1) (hz1_1 _ (Option.some.inj hr).symm) _ _ _ hW (lv_sub hl [2, 3, 1, 0] rfl)
  exact hl_1 _ 0 0 hw_1 _ _ _ hW (lv_sub hl [2, 3, 1, 0] rfl)
def w_Dia_mostPacked (cI : ClassId) (a_r0 : Nat) (a_r0_hampers : Nat) (v_r0_weights v_r0_kinds v_r0_figures v_r0_goes v_r0_fields v_r0_done : Value) (r0_days : Int32) (r0_things : Int32) (r0_hampers : Nat → Int32) : va_W := [(a_r0, .inr (1, [v_r0_weights, v_r0_kinds, v_r0_figures, v_r0_goes, .int r0_things, .ref a_r0_hampers, .int r0_days, v_r0_fields, v_r0_done])), (a_r0_hampers, .inl (cI, 8, .inl r0_hampers))]
def F_Dia_mostPacked_L7 (r0_days : Int32) (r0_things : Int32) (r0_hampers : Nat → Int32) (y1_1 : Int32) (y2_1 : Int32) (y3_1 : Int32) : Option (((Int32) × (Int32) × (Int32)) ⊕ ((Int32))) :=
  (if r0_things ≤ y3_1 then (some (.inr y1_1)) else ((F_Dia_timesPacked r0_days r0_hampers y3_1).bind (fun q_3 => (if y1_1 = (-9) then (some (.inl (y3_1, q_3, (y3_1 + 1)))) else (if q_3 ≤ y2_1 then (some (.inl (y1_1, y2_1, (y3_1 + 1)))) else (some (.inl (y3_1, q_3, (y3_1 + 1)))))))))
def F_Dia_mostPacked (r0_days : Int32) (r0_things : Int32) (r0_hampers : Nat → Int32) : Option (Int32) :=
  ((wh (fun (s : (Int32) × (Int32) × (Int32)) => F_Dia_mostPacked_L7 r0_days r0_things r0_hampers s.1 s.2.1 s.2.2) 400 (((-9) : Int32), (0 : Int32), (0 : Int32))).bind (fun e_1 => (some e_1)))
set_option maxHeartbeats 4000000 in
set_option maxRecDepth 100000 in
theorem C_Dia_mostPacked (l : Launch) (D : va_G) (cI cS : ClassId) (a_r0 : Nat) (a_r0_hampers : Nat) (v_r0_weights v_r0_kinds v_r0_figures v_r0_goes v_r0_fields v_r0_done : Value) (r0_days : Int32) (r0_things : Int32) (r0_hampers : Nat → Int32) (o : Int32) (hr : F_Dia_mostPacked r0_days r0_things r0_hampers = some o) : ctI l y_Dia_mostPacked (Cond.code y_Dia_mostPacked b_Dia_mostPacked 5 (some FieldType.int)) (rmd 3) D (kTy cI cS) [.ref a_r0] (w_Dia_mostPacked cI a_r0 a_r0_hampers v_r0_weights v_r0_kinds v_r0_figures v_r0_goes v_r0_fields v_r0_done r0_days r0_things r0_hampers) (w_Dia_mostPacked cI a_r0 a_r0_hampers v_r0_weights v_r0_kinds v_r0_figures v_r0_goes v_r0_fields v_r0_done r0_days r0_things r0_hampers) o := by
  unfold F_Dia_mostPacked at hr
  refine ⟨rfl, fun sz => ct_of (w0 := (w_Dia_mostPacked cI a_r0 a_r0_hampers v_r0_weights v_r0_kinds v_r0_figures v_r0_goes v_r0_fields v_r0_done r0_days r0_things r0_hampers)) (Qc := fun A => qI D (w_Dia_mostPacked cI a_r0 a_r0_hampers v_r0_weights v_r0_kinds v_r0_figures v_r0_goes v_r0_fields v_r0_done r0_days r0_things r0_hampers) o A) rfl (Nat.le_of_ble_eq_true rfl) ?_ sz⟩
  intro p e s m below meth c A hA C hret ls hl hW
  have C : cx p s m ([.ref a_r0] : List Value).toArray meth c b_Dia_mostPacked 5 R_Dia D (kTy cI cS) (Cond.code y_Dia_mostPacked b_Dia_mostPacked 5 (some FieldType.int)) := C
  obtain ⟨hx, hb, hml, hown, hts, hK, hlk, hN⟩ := id C
  have hl : lv_has ls 5 [(0, .ref a_r0)] := hl
  obtain ⟨Q, hQ⟩ : ∃ Q, Q = MQ below (qI D (w_Dia_mostPacked cI a_r0 a_r0_hampers v_r0_weights v_r0_kinds v_r0_figures v_r0_goes v_r0_fields v_r0_done r0_days r0_things r0_hampers) o A) ([.ref a_r0] : List Value).toArray s 0 0 A := ⟨_, rfl⟩
  rw [← hQ]
  refine lv_bipush (v := (-9)) hx hb d_Dia_mostPacked_0 (by decide) ?_
  refine lv_istore_n (lv' := [(1, .int (-9)), (0, .ref a_r0)]) hx hb d_Dia_mostPacked_2 rfl hl (by decide) rfl (fun ls hl => ?_)
  refine lv_iconst (v := 0) hx hb d_Dia_mostPacked_3 (by decide) ?_
  refine lv_istore_n (lv' := [(2, .int 0), (1, .int (-9)), (0, .ref a_r0)]) hx hb d_Dia_mostPacked_4 rfl hl (by decide) rfl (fun ls hl => ?_)
  refine lv_iconst (v := 0) hx hb d_Dia_mostPacked_5 (by decide) ?_
  refine lv_istore_n (lv' := [(3, .int 0), (2, .int 0), (1, .int (-9)), (0, .ref a_r0)]) hx hb d_Dia_mostPacked_6 rfl hl (by decide) rfl (fun ls hl => ?_)
  obtain ⟨ex_1, hw_1, hk_1⟩ := ob hr
  have hx_1 : ∀ (e_1 : (Int32)), e_1 = ex_1 → ∀ (H : Heap) (locs : List Loc) (ls : Array Slot), wd A s.heap D (w_Dia_mostPacked cI a_r0 a_r0_hampers v_r0_weights v_r0_kinds v_r0_figures v_r0_goes v_r0_fields v_r0_done r0_days r0_things r0_hampers) H locs → lv_has ls 5 [(1, .int e_1)] → W p l e (rmd 3) s m ([.ref a_r0] : List Value).toArray below meth c H locs 0 0 Q (F0 m 45 ls []) := by
    intro e_1 hE H locs ls hW hl
    subst hE; have hr := hk_1
    refine lv_iload_n hx hb d_Dia_mostPacked_45 rfl (lv_at hl 0 rfl) ?_
    obtain rfl := Option.some.inj hr
    rw [hQ]; exact k_iret C hret hW d_Dia_mostPacked_46
  have hl_1 : ∀ (k : Nat) (y1_1 : Int32) (y2_1 : Int32) (y3_1 : Int32), wh (fun (s : (Int32) × (Int32) × (Int32)) => F_Dia_mostPacked_L7 r0_days r0_things r0_hampers s.1 s.2.1 s.2.2) k (y1_1, y2_1, y3_1) = some ex_1 → ∀ (H : Heap) (locs : List Loc) (ls : Array Slot), wd A s.heap D (w_Dia_mostPacked cI a_r0 a_r0_hampers v_r0_weights v_r0_kinds v_r0_figures v_r0_goes v_r0_fields v_r0_done r0_days r0_things r0_hampers) H locs → lv_has ls 5 [(0, .ref a_r0), (1, .int y1_1), (2, .int y2_1), (3, .int y3_1)] → W p l e (rmd 3) s m ([.ref a_r0] : List Value).toArray below meth c H locs 0 0 Q (F0 m 7 ls []) := by
    intro k
    induction k with
    | zero => intro y1_1 y2_1 y3_1 hw; exact absurd hw wh_0
    | succ k ih_1 =>
      intro y1_1 y2_1 y3_1 hw H locs ls hW hl
      obtain ⟨z_1, hr, hz1_1, hz2_1⟩ := wh_s hw
      have hr : F_Dia_mostPacked_L7 r0_days r0_things r0_hampers y1_1 y2_1 y3_1 = some z_1 := hr
      unfold F_Dia_mostPacked_L7 at hr
      refine lv_iload_n hx hb d_Dia_mostPacked_7 rfl (lv_at hl 3 rfl) ?_
      refine lv_aload_n hx hb d_Dia_mostPacked_8 rfl (lv_at hl 0 rfl) ?_
      refine k_getN i_Sta C hW 0 rfl rfl 4 (by decide) qf_Dia_42 rfl rfl d_Dia_mostPacked_9 ?_
      refine lv_icmp_ge (tgt := 45) hx hb d_Dia_mostPacked_12 (by decide) (fun c_2 => ?_) (fun c_2 => ?_)
      · replace hr := ip c_2 hr
        exact hx_1 _ (hz2_1 _ (Option.some.inj hr).symm) _ _ _ hW (lv_sub hl [1] rfl)
      · replace hr := iN c_2 hr
        refine lv_aload_n hx hb d_Dia_mostPacked_15 rfl (lv_at hl 0 rfl) ?_
        refine lv_iload_n hx hb d_Dia_mostPacked_16 rfl (lv_at hl 3 rfl) ?_
        obtain ⟨q_3, hc_3, hr⟩ := ob hr
        have ct_3 := C_Dia_timesPacked l D cI cS a_r0 a_r0_hampers v_r0_weights v_r0_kinds v_r0_figures v_r0_goes (Value.int r0_things) v_r0_fields v_r0_done r0_days r0_hampers y3_1 q_3 hc_3
        refine k_goIp hA hW [0, 1] rfl rfl (k_runS C hA hW mw_Dia_timesPacked ms_Dia_timesPacked (ct_3.2 _) [0, 1] rfl rfl qm_Dia_45 ⟨Nat.le_of_ble_eq_true rfl, Nat.le_of_ble_eq_true rfl, Nat.zero_le _, Nat.zero_le _⟩ rfl rfl (Nat.le_of_ble_eq_true rfl) hl.1 d_Dia_mostPacked_17) (fun H locs hW => ?_)
        refine lv_istore (lv' := [(4, .int q_3), (0, .ref a_r0), (1, .int y1_1), (2, .int y2_1), (3, .int y3_1)]) hx hb d_Dia_mostPacked_20 hl (by decide) rfl (fun ls hl => ?_)
        refine lv_iload_n hx hb d_Dia_mostPacked_22 rfl (lv_at hl 2 rfl) ?_
        refine lv_bipush (v := (-9)) hx hb d_Dia_mostPacked_23 (by decide) ?_
        refine lv_icmp_eq (tgt := 34) hx hb d_Dia_mostPacked_25 (by decide) (fun c_4 => ?_) (fun c_4 => ?_)
        · replace hr := ip c_4 hr
          refine lv_iload_n hx hb d_Dia_mostPacked_34 rfl (lv_at hl 4 rfl) ?_
          refine lv_istore_n (lv' := [(1, .int y3_1), (4, .int q_3), (0, .ref a_r0), (2, .int y2_1), (3, .int y3_1)]) hx hb d_Dia_mostPacked_35 rfl hl (by decide) rfl (fun ls hl => ?_)
          refine lv_iload hx hb d_Dia_mostPacked_36 (lv_at hl 1 rfl) ?_
          refine lv_istore_n (lv' := [(2, .int q_3), (1, .int y3_1), (4, .int q_3), (0, .ref a_r0), (3, .int y3_1)]) hx hb d_Dia_mostPacked_38 rfl hl (by decide) rfl (fun ls hl => ?_)
          refine lv_iinc (v := (y3_1 + 1)) (lv' := [(3, .int (y3_1 + 1)), (2, .int q_3), (1, .int y3_1), (4, .int q_3), (0, .ref a_r0)]) hx hb d_Dia_mostPacked_39 hl (k := 4) rfl rfl (by decide) rfl (fun ls hl => ?_)
          refine lv_goto (tgt := 7) hx hb d_Dia_mostPacked_42 (by decide) ?_
          exact ih_1 y3_1 q_3 (y3_1 + 1) (hz1_1 _ (Option.some.inj hr).symm) _ _ _ hW (lv_sub hl [4, 2, 1, 0] rfl)
        · replace hr := iN c_4 hr
          refine lv_iload hx hb d_Dia_mostPacked_28 (lv_at hl 0 rfl) ?_
          refine lv_iload_n hx hb d_Dia_mostPacked_30 rfl (lv_at hl 3 rfl) ?_
          refine lv_icmp_le (tgt := 39) hx hb d_Dia_mostPacked_31 (by decide) (fun c_5 => ?_) (fun c_5 => ?_)
          · replace hr := ip c_5 hr
            refine lv_iinc (v := (y3_1 + 1)) (lv' := [(3, .int (y3_1 + 1)), (4, .int q_3), (0, .ref a_r0), (1, .int y1_1), (2, .int y2_1)]) hx hb d_Dia_mostPacked_39 hl (k := 4) rfl rfl (by decide) rfl (fun ls hl => ?_)
            refine lv_goto (tgt := 7) hx hb d_Dia_mostPacked_42 (by decide) ?_
            exact ih_1 y1_1 y2_1 (y3_1 + 1) (hz1_1 _ (Option.some.inj hr).symm) _ _ _ hW (lv_sub hl [2, 3, 4, 0] rfl)
          · replace hr := iN c_5 hr
            refine lv_iload_n hx hb d_Dia_mostPacked_34 rfl (lv_at hl 4 rfl) ?_
            refine lv_istore_n (lv' := [(1, .int y3_1), (4, .int q_3), (0, .ref a_r0), (2, .int y2_1), (3, .int y3_1)]) hx hb d_Dia_mostPacked_35 rfl hl (by decide) rfl (fun ls hl => ?_)
            refine lv_iload hx hb d_Dia_mostPacked_36 (lv_at hl 1 rfl) ?_
            refine lv_istore_n (lv' := [(2, .int q_3), (1, .int y3_1), (4, .int q_3), (0, .ref a_r0), (3, .int y3_1)]) hx hb d_Dia_mostPacked_38 rfl hl (by decide) rfl (fun ls hl => ?_)
            refine lv_iinc (v := (y3_1 + 1)) (lv' := [(3, .int (y3_1 + 1)), (2, .int q_3), (1, .int y3_1), (4, .int q_3), (0, .ref a_r0)]) hx hb d_Dia_mostPacked_39 hl (k := 4) rfl rfl (by decide) rfl (fun ls hl => ?_)
            refine lv_goto (tgt := 7) hx hb d_Dia_mostPacked_42 (by decide) ?_
            exact ih_1 y3_1 q_3 (y3_1 + 1) (hz1_1 _ (Option.some.inj hr).symm) _ _ _ hW (lv_sub hl [4, 2, 1, 0] rfl)
  exact hl_1 _ (-9) 0 0 hw_1 _ _ _ hW (lv_sub hl [3, 2, 1, 0] rfl)
def w_Dia_twosApart (cI : ClassId) (a_r0 : Nat) (a_r0_goes : Nat) (a_r0_hampers : Nat) (v_r0_weights v_r0_kinds v_r0_figures v_r0_things v_r0_fields v_r0_done : Value) (r0_days : Int32) (r0_goes : Nat → Int32) (r0_hampers : Nat → Int32) : va_W := [(a_r0, .inr (1, [v_r0_weights, v_r0_kinds, v_r0_figures, .ref a_r0_goes, v_r0_things, .ref a_r0_hampers, .int r0_days, v_r0_fields, v_r0_done])), (a_r0_goes, .inl (cI, 8, .inl r0_goes)), (a_r0_hampers, .inl (cI, 8, .inl r0_hampers))]
def F_Dia_twosApart_L33 (r0_days : Int32) (r0_goes : Nat → Int32) (r0_hampers : Nat → Int32) (q_5 : Int32) (y1_6 : Int32) (y4_6 : Int32) : Option (((Int32) × (Int32)) ⊕ ((Int32))) :=
  (if (8 : Int32) ≤ y4_6 then (some (.inr y1_6)) else (if r0_days ≤ y4_6 then (some (.inr y1_6)) else ((F_Sta_hamperOf r0_days r0_hampers y4_6).bind (fun q_9 => ((F_Sta_couldBe r0_goes q_9).bind (fun q_10 => (if (q_5 &&& q_10) = 0 then (some (.inl ((y1_6 + 1), (y4_6 + 1)))) else (some (.inl (y1_6, (y4_6 + 1)))))))))))
def F_Dia_twosApart_L4 (r0_days : Int32) (r0_goes : Nat → Int32) (r0_hampers : Nat → Int32) (y1_1 : Int32) (y2_1 : Int32) : Option (((Int32) × (Int32)) ⊕ ((Int32))) :=
  (if (8 : Int32) ≤ y2_1 then (some (.inr y1_1)) else (if r0_days ≤ y2_1 then (some (.inr y1_1)) else ((F_Sta_hamperOf r0_days r0_hampers y2_1).bind (fun q_4 => ((F_Sta_couldBe r0_goes q_4).bind (fun q_5 => ((wh (fun (s : (Int32) × (Int32)) => F_Dia_twosApart_L33 r0_days r0_goes r0_hampers q_5 s.1 s.2) 400 (y1_1, (y2_1 + 1))).bind (fun e_6 => (some (.inl (e_6, (y2_1 + 1))))))))))))
def F_Dia_twosApart (r0_days : Int32) (r0_goes : Nat → Int32) (r0_hampers : Nat → Int32) : Option (Int32) :=
  ((wh (fun (s : (Int32) × (Int32)) => F_Dia_twosApart_L4 r0_days r0_goes r0_hampers s.1 s.2) 400 ((0 : Int32), (0 : Int32))).bind (fun e_1 => (some e_1)))
set_option maxHeartbeats 4000000 in
set_option maxRecDepth 100000 in
theorem C_Dia_twosApart (l : Launch) (D : va_G) (cI cS : ClassId) (a_r0 : Nat) (a_r0_goes : Nat) (a_r0_hampers : Nat) (v_r0_weights v_r0_kinds v_r0_figures v_r0_things v_r0_fields v_r0_done : Value) (r0_days : Int32) (r0_goes : Nat → Int32) (r0_hampers : Nat → Int32) (o : Int32) (hr : F_Dia_twosApart r0_days r0_goes r0_hampers = some o) : ctI l y_Dia_twosApart (Cond.code y_Dia_twosApart b_Dia_twosApart 5 (some FieldType.int)) (rmd 2) D (kTy cI cS) [.ref a_r0] (w_Dia_twosApart cI a_r0 a_r0_goes a_r0_hampers v_r0_weights v_r0_kinds v_r0_figures v_r0_things v_r0_fields v_r0_done r0_days r0_goes r0_hampers) (w_Dia_twosApart cI a_r0 a_r0_goes a_r0_hampers v_r0_weights v_r0_kinds v_r0_figures v_r0_things v_r0_fields v_r0_done r0_days r0_goes r0_hampers) o := by
  unfold F_Dia_twosApart at hr
  refine ⟨rfl, fun sz => ct_of (w0 := (w_Dia_twosApart cI a_r0 a_r0_goes a_r0_hampers v_r0_weights v_r0_kinds v_r0_figures v_r0_things v_r0_fields v_r0_done r0_days r0_goes r0_hampers)) (Qc := fun A => qI D (w_Dia_twosApart cI a_r0 a_r0_goes a_r0_hampers v_r0_weights v_r0_kinds v_r0_figures v_r0_things v_r0_fields v_r0_done r0_days r0_goes r0_hampers) o A) rfl (Nat.le_of_ble_eq_true rfl) ?_ sz⟩
  intro p e s m below meth c A hA C hret ls hl hW
  have C : cx p s m ([.ref a_r0] : List Value).toArray meth c b_Dia_twosApart 5 R_Dia D (kTy cI cS) (Cond.code y_Dia_twosApart b_Dia_twosApart 5 (some FieldType.int)) := C
  obtain ⟨hx, hb, hml, hown, hts, hK, hlk, hN⟩ := id C
  have hl : lv_has ls 5 [(0, .ref a_r0)] := hl
  obtain ⟨Q, hQ⟩ : ∃ Q, Q = MQ below (qI D (w_Dia_twosApart cI a_r0 a_r0_goes a_r0_hampers v_r0_weights v_r0_kinds v_r0_figures v_r0_things v_r0_fields v_r0_done r0_days r0_goes r0_hampers) o A) ([.ref a_r0] : List Value).toArray s 0 0 A := ⟨_, rfl⟩
  rw [← hQ]
  refine lv_iconst (v := 0) hx hb d_Dia_twosApart_0 (by decide) ?_
  refine lv_istore_n (lv' := [(1, .int 0), (0, .ref a_r0)]) hx hb d_Dia_twosApart_1 rfl hl (by decide) rfl (fun ls hl => ?_)
  refine lv_iconst (v := 0) hx hb d_Dia_twosApart_2 (by decide) ?_
  refine lv_istore_n (lv' := [(2, .int 0), (1, .int 0), (0, .ref a_r0)]) hx hb d_Dia_twosApart_3 rfl hl (by decide) rfl (fun ls hl => ?_)
  obtain ⟨ex_1, hw_1, hk_1⟩ := ob hr
  have hx_1 : ∀ (e_1 : (Int32)), e_1 = ex_1 → ∀ (H : Heap) (locs : List Loc) (ls : Array Slot), wd A s.heap D (w_Dia_twosApart cI a_r0 a_r0_goes a_r0_hampers v_r0_weights v_r0_kinds v_r0_figures v_r0_things v_r0_fields v_r0_done r0_days r0_goes r0_hampers) H locs → lv_has ls 5 [(1, .int e_1)] → W p l e (rmd 2) s m ([.ref a_r0] : List Value).toArray below meth c H locs 0 0 Q (F0 m 79 ls []) := by
    intro e_1 hE H locs ls hW hl
    subst hE; have hr := hk_1
    refine lv_iload_n hx hb d_Dia_twosApart_79 rfl (lv_at hl 0 rfl) ?_
    obtain rfl := Option.some.inj hr
    rw [hQ]; exact k_iret C hret hW d_Dia_twosApart_80
  have hl_1 : ∀ (k : Nat) (y1_1 : Int32) (y2_1 : Int32), wh (fun (s : (Int32) × (Int32)) => F_Dia_twosApart_L4 r0_days r0_goes r0_hampers s.1 s.2) k (y1_1, y2_1) = some ex_1 → ∀ (H : Heap) (locs : List Loc) (ls : Array Slot), wd A s.heap D (w_Dia_twosApart cI a_r0 a_r0_goes a_r0_hampers v_r0_weights v_r0_kinds v_r0_figures v_r0_things v_r0_fields v_r0_done r0_days r0_goes r0_hampers) H locs → lv_has ls 5 [(0, .ref a_r0), (1, .int y1_1), (2, .int y2_1)] → W p l e (rmd 2) s m ([.ref a_r0] : List Value).toArray below meth c H locs 0 0 Q (F0 m 4 ls []) := by
    intro k
    induction k with
    | zero => intro y1_1 y2_1 hw; exact absurd hw wh_0
    | succ k ih_1 =>
      intro y1_1 y2_1 hw H locs ls hW hl
      obtain ⟨z_1, hr, hz1_1, hz2_1⟩ := wh_s hw
      have hr : F_Dia_twosApart_L4 r0_days r0_goes r0_hampers y1_1 y2_1 = some z_1 := hr
      unfold F_Dia_twosApart_L4 at hr
      refine lv_iload_n hx hb d_Dia_twosApart_4 rfl (lv_at hl 2 rfl) ?_
      refine lv_bipush (v := 8) hx hb d_Dia_twosApart_5 (by decide) ?_
      refine lv_icmp_ge (tgt := 79) hx hb d_Dia_twosApart_7 (by decide) (fun c_2 => ?_) (fun c_2 => ?_)
      · replace hr := ip c_2 hr
        exact hx_1 _ (hz2_1 _ (Option.some.inj hr).symm) _ _ _ hW (lv_sub hl [1] rfl)
      · replace hr := iN c_2 hr
        refine lv_iload_n hx hb d_Dia_twosApart_10 rfl (lv_at hl 2 rfl) ?_
        refine lv_aload_n hx hb d_Dia_twosApart_11 rfl (lv_at hl 0 rfl) ?_
        refine k_getN i_Sta C hW 0 rfl rfl 6 (by decide) qf_Dia_30 rfl rfl d_Dia_twosApart_12 ?_
        refine lv_icmp_ge (tgt := 79) hx hb d_Dia_twosApart_15 (by decide) (fun c_3 => ?_) (fun c_3 => ?_)
        · replace hr := ip c_3 hr
          exact hx_1 _ (hz2_1 _ (Option.some.inj hr).symm) _ _ _ hW (lv_sub hl [1] rfl)
        · replace hr := iN c_3 hr
          refine lv_aload_n hx hb d_Dia_twosApart_18 rfl (lv_at hl 0 rfl) ?_
          refine lv_aload_n hx hb d_Dia_twosApart_19 rfl (lv_at hl 0 rfl) ?_
          refine lv_iload_n hx hb d_Dia_twosApart_20 rfl (lv_at hl 2 rfl) ?_
          obtain ⟨q_4, hc_4, hr⟩ := ob hr
          have ct_4 := C_Sta_hamperOf l D cI cS a_r0 a_r0_hampers v_r0_weights v_r0_kinds v_r0_figures (Value.ref a_r0_goes) v_r0_things v_r0_fields v_r0_done r0_days r0_hampers y2_1 q_4 hc_4
          refine k_goIp hA hW [0, 2] rfl rfl (k_runV C hA hW mw_Sta_hamperOf mv_Sta_hamperOf (ct_4.2 _) [0, 2] rfl rfl 0 rfl rfl qm_Dia_9 ⟨Nat.le_of_ble_eq_true rfl, Nat.le_of_ble_eq_true rfl, Nat.zero_le _, Nat.zero_le _⟩ rfl rfl (Nat.le_of_ble_eq_true rfl) hl.1 d_Dia_twosApart_21) (fun H locs hW => ?_)
          obtain ⟨q_5, hc_5, hr⟩ := ob hr
          have ct_5 := C_Sta_couldBe l D cI cS a_r0 a_r0_goes v_r0_weights v_r0_kinds v_r0_figures v_r0_things (Value.ref a_r0_hampers) (Value.int r0_days) v_r0_fields v_r0_done r0_goes q_4 q_5 hc_5
          refine k_goIp hA hW [0, 1] rfl rfl (k_runV C hA hW mw_Sta_couldBe mv_Sta_couldBe (ct_5.2 _) [0, 1] rfl rfl 0 rfl rfl qm_Dia_27 ⟨Nat.le_of_ble_eq_true rfl, Nat.le_of_ble_eq_true rfl, Nat.zero_le _, Nat.zero_le _⟩ rfl rfl (Nat.le_of_ble_eq_true rfl) hl.1 d_Dia_twosApart_24) (fun H locs hW => ?_)
          refine lv_istore_n (lv' := [(3, .int q_5), (0, .ref a_r0), (1, .int y1_1), (2, .int y2_1)]) hx hb d_Dia_twosApart_27 rfl hl (by decide) rfl (fun ls hl => ?_)
          refine lv_iload_n hx hb d_Dia_twosApart_28 rfl (lv_at hl 3 rfl) ?_
          refine lv_iconst (v := 1) hx hb d_Dia_twosApart_29 (by decide) ?_
          refine lv_iadd hx hb d_Dia_twosApart_30 ?_
          refine lv_istore (lv' := [(4, .int (y2_1 + 1)), (3, .int q_5), (0, .ref a_r0), (1, .int y1_1), (2, .int y2_1)]) hx hb d_Dia_twosApart_31 hl (by decide) rfl (fun ls hl => ?_)
          obtain ⟨ex_6, hw_6, hk_6⟩ := ob hr
          have hx_6 : ∀ (e_6 : (Int32)), e_6 = ex_6 → ∀ (H : Heap) (locs : List Loc) (ls : Array Slot), wd A s.heap D (w_Dia_twosApart cI a_r0 a_r0_goes a_r0_hampers v_r0_weights v_r0_kinds v_r0_figures v_r0_things v_r0_fields v_r0_done r0_days r0_goes r0_hampers) H locs → lv_has ls 5 [(0, .ref a_r0), (2, .int y2_1), (1, .int e_6)] → W p l e (rmd 2) s m ([.ref a_r0] : List Value).toArray below meth c H locs 0 0 Q (F0 m 73 ls []) := by
            intro e_6 hE H locs ls hW hl
            subst hE; have hr := hk_6
            refine lv_iinc (v := (y2_1 + 1)) (lv' := [(2, .int (y2_1 + 1)), (0, .ref a_r0), (1, .int e_6)]) hx hb d_Dia_twosApart_73 hl (k := 1) rfl rfl (by decide) rfl (fun ls hl => ?_)
            refine lv_goto (tgt := 4) hx hb d_Dia_twosApart_76 (by decide) ?_
            exact ih_1 e_6 (y2_1 + 1) (hz1_1 _ (Option.some.inj hr).symm) _ _ _ hW (lv_sub hl [1, 2, 0] rfl)
          have hl_6 : ∀ (k : Nat) (y1_6 : Int32) (y4_6 : Int32), wh (fun (s : (Int32) × (Int32)) => F_Dia_twosApart_L33 r0_days r0_goes r0_hampers q_5 s.1 s.2) k (y1_6, y4_6) = some ex_6 → ∀ (H : Heap) (locs : List Loc) (ls : Array Slot), wd A s.heap D (w_Dia_twosApart cI a_r0 a_r0_goes a_r0_hampers v_r0_weights v_r0_kinds v_r0_figures v_r0_things v_r0_fields v_r0_done r0_days r0_goes r0_hampers) H locs → lv_has ls 5 [(3, .int q_5), (0, .ref a_r0), (2, .int y2_1), (1, .int y1_6), (4, .int y4_6)] → W p l e (rmd 2) s m ([.ref a_r0] : List Value).toArray below meth c H locs 0 0 Q (F0 m 33 ls []) := by
            intro k
            induction k with
            | zero => intro y1_6 y4_6 hw; exact absurd hw wh_0
            | succ k ih_6 =>
              intro y1_6 y4_6 hw H locs ls hW hl
              obtain ⟨z_6, hr, hz1_6, hz2_6⟩ := wh_s hw
              have hr : F_Dia_twosApart_L33 r0_days r0_goes r0_hampers q_5 y1_6 y4_6 = some z_6 := hr
              unfold F_Dia_twosApart_L33 at hr
              refine lv_iload hx hb d_Dia_twosApart_33 (lv_at hl 4 rfl) ?_
              refine lv_bipush (v := 8) hx hb d_Dia_twosApart_35 (by decide) ?_
              refine lv_icmp_ge (tgt := 73) hx hb d_Dia_twosApart_37 (by decide) (fun c_7 => ?_) (fun c_7 => ?_)
              · replace hr := ip c_7 hr
                exact hx_6 _ (hz2_6 _ (Option.some.inj hr).symm) _ _ _ hW (lv_sub hl [1, 2, 3] rfl)
              · replace hr := iN c_7 hr
                refine lv_iload hx hb d_Dia_twosApart_40 (lv_at hl 4 rfl) ?_
                refine lv_aload_n hx hb d_Dia_twosApart_42 rfl (lv_at hl 1 rfl) ?_
                refine k_getN i_Sta C hW 0 rfl rfl 6 (by decide) qf_Dia_30 rfl rfl d_Dia_twosApart_43 ?_
                refine lv_icmp_ge (tgt := 73) hx hb d_Dia_twosApart_46 (by decide) (fun c_8 => ?_) (fun c_8 => ?_)
                · replace hr := ip c_8 hr
                  exact hx_6 _ (hz2_6 _ (Option.some.inj hr).symm) _ _ _ hW (lv_sub hl [1, 2, 3] rfl)
                · replace hr := iN c_8 hr
                  refine lv_iload_n hx hb d_Dia_twosApart_49 rfl (lv_at hl 0 rfl) ?_
                  refine lv_aload_n hx hb d_Dia_twosApart_50 rfl (lv_at hl 1 rfl) ?_
                  refine lv_aload_n hx hb d_Dia_twosApart_51 rfl (lv_at hl 1 rfl) ?_
                  refine lv_iload hx hb d_Dia_twosApart_52 (lv_at hl 4 rfl) ?_
                  obtain ⟨q_9, hc_9, hr⟩ := ob hr
                  have ct_9 := C_Sta_hamperOf l D cI cS a_r0 a_r0_hampers v_r0_weights v_r0_kinds v_r0_figures (Value.ref a_r0_goes) v_r0_things v_r0_fields v_r0_done r0_days r0_hampers y4_6 q_9 hc_9
                  refine k_goIp hA hW [0, 2] rfl rfl (k_runV C hA hW mw_Sta_hamperOf mv_Sta_hamperOf (ct_9.2 _) [0, 2] rfl rfl 0 rfl rfl qm_Dia_9 ⟨Nat.le_of_ble_eq_true rfl, Nat.le_of_ble_eq_true rfl, Nat.zero_le _, Nat.zero_le _⟩ rfl rfl (Nat.le_of_ble_eq_true rfl) hl.1 d_Dia_twosApart_54) (fun H locs hW => ?_)
                  obtain ⟨q_10, hc_10, hr⟩ := ob hr
                  have ct_10 := C_Sta_couldBe l D cI cS a_r0 a_r0_goes v_r0_weights v_r0_kinds v_r0_figures v_r0_things (Value.ref a_r0_hampers) (Value.int r0_days) v_r0_fields v_r0_done r0_goes q_9 q_10 hc_10
                  refine k_goIp hA hW [0, 1] rfl rfl (k_runV C hA hW mw_Sta_couldBe mv_Sta_couldBe (ct_10.2 _) [0, 1] rfl rfl 0 rfl rfl qm_Dia_27 ⟨Nat.le_of_ble_eq_true rfl, Nat.le_of_ble_eq_true rfl, Nat.zero_le _, Nat.zero_le _⟩ rfl rfl (Nat.le_of_ble_eq_true rfl) hl.1 d_Dia_twosApart_57) (fun H locs hW => ?_)
                  refine lv_iand hx hb d_Dia_twosApart_60 ?_
                  refine lv_if_ne (tgt := 67) hx hb d_Dia_twosApart_61 (by decide) (fun c_11 => ?_) (fun c_11 => ?_)
                  · replace hr := iN c_11 hr
                    refine lv_iinc (v := (y4_6 + 1)) (lv' := [(4, .int (y4_6 + 1)), (3, .int q_5), (0, .ref a_r0), (2, .int y2_1), (1, .int y1_6)]) hx hb d_Dia_twosApart_67 hl (k := 4) rfl rfl (by decide) rfl (fun ls hl => ?_)
                    refine lv_goto (tgt := 33) hx hb d_Dia_twosApart_70 (by decide) ?_
                    exact ih_6 y1_6 (y4_6 + 1) (hz1_6 _ (Option.some.inj hr).symm) _ _ _ hW (lv_sub hl [1, 2, 3, 4, 0] rfl)
                  · replace hr := ip c_11 hr
                    refine lv_iinc (v := (y1_6 + 1)) (lv' := [(1, .int (y1_6 + 1)), (3, .int q_5), (0, .ref a_r0), (2, .int y2_1), (4, .int y4_6)]) hx hb d_Dia_twosApart_64 hl (k := 3) rfl rfl (by decide) rfl (fun ls hl => ?_)
                    refine lv_iinc (v := (y4_6 + 1)) (lv' := [(4, .int (y4_6 + 1)), (1, .int (y1_6 + 1)), (3, .int q_5), (0, .ref a_r0), (2, .int y2_1)]) hx hb d_Dia_twosApart_67 hl (k := 4) rfl rfl (by decide) rfl (fun ls hl => ?_)
                    refine lv_goto (tgt := 33) hx hb d_Dia_twosApart_70 (by decide) ?_
                    exact ih_6 (y1_6 + 1) (y4_6 + 1) (hz1_6 _ (Option.some.inj hr).symm) _ _ _ hW (lv_sub hl [2, 3, 4, 1, 0] rfl)
          exact hl_6 _ y1_1 (y2_1 + 1) hw_6 _ _ _ hW (lv_sub hl [1, 2, 4, 3, 0] rfl)
  exact hl_1 _ 0 0 hw_1 _ _ _ hW (lv_sub hl [2, 1, 0] rfl)
def w_Dia_withNoneOf (cI : ClassId) (a_r0 : Nat) (a_r0_goes : Nat) (a_r0_hampers : Nat) (v_r0_weights v_r0_kinds v_r0_figures v_r0_things v_r0_fields v_r0_done : Value) (r0_days : Int32) (r0_goes : Nat → Int32) (r0_hampers : Nat → Int32) : va_W := [(a_r0, .inr (1, [v_r0_weights, v_r0_kinds, v_r0_figures, .ref a_r0_goes, v_r0_things, .ref a_r0_hampers, .int r0_days, v_r0_fields, v_r0_done])), (a_r0_goes, .inl (cI, 8, .inl r0_goes)), (a_r0_hampers, .inl (cI, 8, .inl r0_hampers))]
def F_Dia_withNoneOf_L4 (r0_days : Int32) (r0_goes : Nat → Int32) (r0_hampers : Nat → Int32) (x1 : Int32) (y2_1 : Int32) (y3_1 : Int32) : Option (((Int32) × (Int32)) ⊕ ((Int32))) :=
  (if (8 : Int32) ≤ y3_1 then (some (.inr y2_1)) else ((F_Sta_hasDay r0_days y3_1).bind (fun q_3 => (if q_3 = 0 then (some (.inl (y2_1, (y3_1 + 1)))) else ((F_Sta_hamperOf r0_days r0_hampers y3_1).bind (fun q_5 => ((F_Sta_couldBe r0_goes q_5).bind (fun q_6 => (if (q_6 &&& x1) = 0 then (some (.inl ((y2_1 ||| ((1 : Int32) <<< ((y3_1 : Int32) &&& 31))), (y3_1 + 1)))) else (some (.inl (y2_1, (y3_1 + 1)))))))))))))
def F_Dia_withNoneOf (r0_days : Int32) (r0_goes : Nat → Int32) (r0_hampers : Nat → Int32) (x1 : Int32) : Option (Int32) :=
  ((wh (fun (s : (Int32) × (Int32)) => F_Dia_withNoneOf_L4 r0_days r0_goes r0_hampers x1 s.1 s.2) 400 ((0 : Int32), (0 : Int32))).bind (fun e_1 => (some e_1)))
set_option maxHeartbeats 4000000 in
set_option maxRecDepth 100000 in
theorem C_Dia_withNoneOf (l : Launch) (D : va_G) (cI cS : ClassId) (a_r0 : Nat) (a_r0_goes : Nat) (a_r0_hampers : Nat) (v_r0_weights v_r0_kinds v_r0_figures v_r0_things v_r0_fields v_r0_done : Value) (r0_days : Int32) (r0_goes : Nat → Int32) (r0_hampers : Nat → Int32) (x1 : Int32) (o : Int32) (hr : F_Dia_withNoneOf r0_days r0_goes r0_hampers x1 = some o) : ctI l y_Dia_withNoneOf (Cond.code y_Dia_withNoneOf b_Dia_withNoneOf 4 (some FieldType.int)) (rmd 2) D (kTy cI cS) [.ref a_r0, .int x1] (w_Dia_withNoneOf cI a_r0 a_r0_goes a_r0_hampers v_r0_weights v_r0_kinds v_r0_figures v_r0_things v_r0_fields v_r0_done r0_days r0_goes r0_hampers) (w_Dia_withNoneOf cI a_r0 a_r0_goes a_r0_hampers v_r0_weights v_r0_kinds v_r0_figures v_r0_things v_r0_fields v_r0_done r0_days r0_goes r0_hampers) o := by
  unfold F_Dia_withNoneOf at hr
  refine ⟨rfl, fun sz => ct_of (w0 := (w_Dia_withNoneOf cI a_r0 a_r0_goes a_r0_hampers v_r0_weights v_r0_kinds v_r0_figures v_r0_things v_r0_fields v_r0_done r0_days r0_goes r0_hampers)) (Qc := fun A => qI D (w_Dia_withNoneOf cI a_r0 a_r0_goes a_r0_hampers v_r0_weights v_r0_kinds v_r0_figures v_r0_things v_r0_fields v_r0_done r0_days r0_goes r0_hampers) o A) rfl (Nat.le_of_ble_eq_true rfl) ?_ sz⟩
  intro p e s m below meth c A hA C hret ls hl hW
  have C : cx p s m ([.ref a_r0, .int x1] : List Value).toArray meth c b_Dia_withNoneOf 4 R_Dia D (kTy cI cS) (Cond.code y_Dia_withNoneOf b_Dia_withNoneOf 4 (some FieldType.int)) := C
  obtain ⟨hx, hb, hml, hown, hts, hK, hlk, hN⟩ := id C
  have hl : lv_has ls 4 [(0, .ref a_r0), (1, .int x1)] := hl
  obtain ⟨Q, hQ⟩ : ∃ Q, Q = MQ below (qI D (w_Dia_withNoneOf cI a_r0 a_r0_goes a_r0_hampers v_r0_weights v_r0_kinds v_r0_figures v_r0_things v_r0_fields v_r0_done r0_days r0_goes r0_hampers) o A) ([.ref a_r0, .int x1] : List Value).toArray s 0 0 A := ⟨_, rfl⟩
  rw [← hQ]
  refine lv_iconst (v := 0) hx hb d_Dia_withNoneOf_0 (by decide) ?_
  refine lv_istore_n (lv' := [(2, .int 0), (0, .ref a_r0), (1, .int x1)]) hx hb d_Dia_withNoneOf_1 rfl hl (by decide) rfl (fun ls hl => ?_)
  refine lv_iconst (v := 0) hx hb d_Dia_withNoneOf_2 (by decide) ?_
  refine lv_istore_n (lv' := [(3, .int 0), (2, .int 0), (0, .ref a_r0), (1, .int x1)]) hx hb d_Dia_withNoneOf_3 rfl hl (by decide) rfl (fun ls hl => ?_)
  obtain ⟨ex_1, hw_1, hk_1⟩ := ob hr
  have hx_1 : ∀ (e_1 : (Int32)), e_1 = ex_1 → ∀ (H : Heap) (locs : List Loc) (ls : Array Slot), wd A s.heap D (w_Dia_withNoneOf cI a_r0 a_r0_goes a_r0_hampers v_r0_weights v_r0_kinds v_r0_figures v_r0_things v_r0_fields v_r0_done r0_days r0_goes r0_hampers) H locs → lv_has ls 4 [(2, .int e_1)] → W p l e (rmd 2) s m ([.ref a_r0, .int x1] : List Value).toArray below meth c H locs 0 0 Q (F0 m 44 ls []) := by
    intro e_1 hE H locs ls hW hl
    subst hE; have hr := hk_1
    refine lv_iload_n hx hb d_Dia_withNoneOf_44 rfl (lv_at hl 0 rfl) ?_
    obtain rfl := Option.some.inj hr
    rw [hQ]; exact k_iret C hret hW d_Dia_withNoneOf_45
  have hl_1 : ∀ (k : Nat) (y2_1 : Int32) (y3_1 : Int32), wh (fun (s : (Int32) × (Int32)) => F_Dia_withNoneOf_L4 r0_days r0_goes r0_hampers x1 s.1 s.2) k (y2_1, y3_1) = some ex_1 → ∀ (H : Heap) (locs : List Loc) (ls : Array Slot), wd A s.heap D (w_Dia_withNoneOf cI a_r0 a_r0_goes a_r0_hampers v_r0_weights v_r0_kinds v_r0_figures v_r0_things v_r0_fields v_r0_done r0_days r0_goes r0_hampers) H locs → lv_has ls 4 [(0, .ref a_r0), (1, .int x1), (2, .int y2_1), (3, .int y3_1)] → W p l e (rmd 2) s m ([.ref a_r0, .int x1] : List Value).toArray below meth c H locs 0 0 Q (F0 m 4 ls []) := by
    intro k
    induction k with
    | zero => intro y2_1 y3_1 hw; exact absurd hw wh_0
    | succ k ih_1 =>
      intro y2_1 y3_1 hw H locs ls hW hl
      obtain ⟨z_1, hr, hz1_1, hz2_1⟩ := wh_s hw
      have hr : F_Dia_withNoneOf_L4 r0_days r0_goes r0_hampers x1 y2_1 y3_1 = some z_1 := hr
      unfold F_Dia_withNoneOf_L4 at hr
      refine lv_iload_n hx hb d_Dia_withNoneOf_4 rfl (lv_at hl 3 rfl) ?_
      refine lv_bipush (v := 8) hx hb d_Dia_withNoneOf_5 (by decide) ?_
      refine lv_icmp_ge (tgt := 44) hx hb d_Dia_withNoneOf_7 (by decide) (fun c_2 => ?_) (fun c_2 => ?_)
      · replace hr := ip c_2 hr
        exact hx_1 _ (hz2_1 _ (Option.some.inj hr).symm) _ _ _ hW (lv_sub hl [2] rfl)
      · replace hr := iN c_2 hr
        refine lv_aload_n hx hb d_Dia_withNoneOf_10 rfl (lv_at hl 0 rfl) ?_
        refine lv_iload_n hx hb d_Dia_withNoneOf_11 rfl (lv_at hl 3 rfl) ?_
        obtain ⟨q_3, hc_3, hr⟩ := ob hr
        have ct_3 := C_Sta_hasDay l D cI cS a_r0 v_r0_weights v_r0_kinds v_r0_figures (Value.ref a_r0_goes) v_r0_things (Value.ref a_r0_hampers) v_r0_fields v_r0_done r0_days y3_1 q_3 hc_3
        refine k_goIp hA hW [0] rfl rfl (k_runV C hA hW mw_Sta_hasDay mv_Sta_hasDay (ct_3.2 _) [0] rfl rfl 0 rfl rfl qm_Dia_23 ⟨Nat.le_of_ble_eq_true rfl, Nat.le_of_ble_eq_true rfl, Nat.zero_le _, Nat.zero_le _⟩ rfl rfl (Nat.le_of_ble_eq_true rfl) hl.1 d_Dia_withNoneOf_12) (fun H locs hW => ?_)
        refine lv_if_eq (tgt := 38) hx hb d_Dia_withNoneOf_15 (by decide) (fun c_4 => ?_) (fun c_4 => ?_)
        · replace hr := ip c_4 hr
          refine lv_iinc (v := (y3_1 + 1)) (lv' := [(3, .int (y3_1 + 1)), (0, .ref a_r0), (1, .int x1), (2, .int y2_1)]) hx hb d_Dia_withNoneOf_38 hl (k := 3) rfl rfl (by decide) rfl (fun ls hl => ?_)
          refine lv_goto (tgt := 4) hx hb d_Dia_withNoneOf_41 (by decide) ?_
          exact ih_1 y2_1 (y3_1 + 1) (hz1_1 _ (Option.some.inj hr).symm) _ _ _ hW (lv_sub hl [1, 2, 3, 0] rfl)
        · replace hr := iN c_4 hr
          refine lv_aload_n hx hb d_Dia_withNoneOf_18 rfl (lv_at hl 0 rfl) ?_
          refine lv_aload_n hx hb d_Dia_withNoneOf_19 rfl (lv_at hl 0 rfl) ?_
          refine lv_iload_n hx hb d_Dia_withNoneOf_20 rfl (lv_at hl 3 rfl) ?_
          obtain ⟨q_5, hc_5, hr⟩ := ob hr
          have ct_5 := C_Sta_hamperOf l D cI cS a_r0 a_r0_hampers v_r0_weights v_r0_kinds v_r0_figures (Value.ref a_r0_goes) v_r0_things v_r0_fields v_r0_done r0_days r0_hampers y3_1 q_5 hc_5
          refine k_goIp hA hW [0, 2] rfl rfl (k_runV C hA hW mw_Sta_hamperOf mv_Sta_hamperOf (ct_5.2 _) [0, 2] rfl rfl 0 rfl rfl qm_Dia_9 ⟨Nat.le_of_ble_eq_true rfl, Nat.le_of_ble_eq_true rfl, Nat.zero_le _, Nat.zero_le _⟩ rfl rfl (Nat.le_of_ble_eq_true rfl) hl.1 d_Dia_withNoneOf_21) (fun H locs hW => ?_)
          obtain ⟨q_6, hc_6, hr⟩ := ob hr
          have ct_6 := C_Sta_couldBe l D cI cS a_r0 a_r0_goes v_r0_weights v_r0_kinds v_r0_figures v_r0_things (Value.ref a_r0_hampers) (Value.int r0_days) v_r0_fields v_r0_done r0_goes q_5 q_6 hc_6
          refine k_goIp hA hW [0, 1] rfl rfl (k_runV C hA hW mw_Sta_couldBe mv_Sta_couldBe (ct_6.2 _) [0, 1] rfl rfl 0 rfl rfl qm_Dia_27 ⟨Nat.le_of_ble_eq_true rfl, Nat.le_of_ble_eq_true rfl, Nat.zero_le _, Nat.zero_le _⟩ rfl rfl (Nat.le_of_ble_eq_true rfl) hl.1 d_Dia_withNoneOf_24) (fun H locs hW => ?_)
          refine lv_iload_n hx hb d_Dia_withNoneOf_27 rfl (lv_at hl 1 rfl) ?_
          refine lv_iand hx hb d_Dia_withNoneOf_28 ?_
          refine lv_if_ne (tgt := 38) hx hb d_Dia_withNoneOf_29 (by decide) (fun c_7 => ?_) (fun c_7 => ?_)
          · replace hr := iN c_7 hr
            refine lv_iinc (v := (y3_1 + 1)) (lv' := [(3, .int (y3_1 + 1)), (0, .ref a_r0), (1, .int x1), (2, .int y2_1)]) hx hb d_Dia_withNoneOf_38 hl (k := 3) rfl rfl (by decide) rfl (fun ls hl => ?_)
            refine lv_goto (tgt := 4) hx hb d_Dia_withNoneOf_41 (by decide) ?_
            exact ih_1 y2_1 (y3_1 + 1) (hz1_1 _ (Option.some.inj hr).symm) _ _ _ hW (lv_sub hl [1, 2, 3, 0] rfl)
          · replace hr := ip c_7 hr
            refine lv_iload_n hx hb d_Dia_withNoneOf_32 rfl (lv_at hl 2 rfl) ?_
            refine lv_iconst (v := 1) hx hb d_Dia_withNoneOf_33 (by decide) ?_
            refine lv_iload_n hx hb d_Dia_withNoneOf_34 rfl (lv_at hl 3 rfl) ?_
            refine lv_ishl hx hb d_Dia_withNoneOf_35 ?_
            refine lv_ior hx hb d_Dia_withNoneOf_36 ?_
            refine lv_istore_n (lv' := [(2, .int (y2_1 ||| ((1 : Int32) <<< ((y3_1 : Int32) &&& 31)))), (0, .ref a_r0), (1, .int x1), (3, .int y3_1)]) hx hb d_Dia_withNoneOf_37 rfl hl (by decide) rfl (fun ls hl => ?_)
            refine lv_iinc (v := (y3_1 + 1)) (lv' := [(3, .int (y3_1 + 1)), (2, .int (y2_1 ||| ((1 : Int32) <<< ((y3_1 : Int32) &&& 31)))), (0, .ref a_r0), (1, .int x1)]) hx hb d_Dia_withNoneOf_38 hl (k := 3) rfl rfl (by decide) rfl (fun ls hl => ?_)
            refine lv_goto (tgt := 4) hx hb d_Dia_withNoneOf_41 (by decide) ?_
            exact ih_1 (y2_1 ||| ((1 : Int32) <<< ((y3_1 : Int32) &&& 31))) (y3_1 + 1) (hz1_1 _ (Option.some.inj hr).symm) _ _ _ hW (lv_sub hl [2, 3, 1, 0] rfl)
  exact hl_1 _ 0 0 hw_1 _ _ _ hW (lv_sub hl [2, 3, 1, 0] rfl)
