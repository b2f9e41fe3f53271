def w_Sps_noteWeight (cI cS : ClassId) (a_r0 : Nat) (a_r0_steps : Nat) (s_r0_steps : Nat → Nat) (a_r1 : Nat) (a_r1_weights : Nat) (v_r1_kinds v_r1_figures v_r1_goes v_r1_things v_r1_hampers v_r1_days v_r1_fields : Value) (r0_count : Int32) (r0_steps : Nat → Nat) (r0_steps_before : Nat → Int32) (r0_steps_doneBefore : Nat → Int32) (r0_steps_leftBefore : Nat → Int32) (r0_steps_part : Nat → Int32) (r0_steps_place : Nat → Int32) (r1_done : Int32) (r1_weights : Nat → Int32) : va_W := [(a_r0, .inr (3, [.ref a_r0_steps, .int r0_count])), (a_r0_steps, .inl (cS, 8, .inr (.inr (.inr (.inr (fun i => some (s_r0_steps (r0_steps i)))))))), (s_r0_steps 0, .inr (4, [.int (r0_steps_part 0), .int (r0_steps_place 0), .int (r0_steps_before 0), .int (r0_steps_leftBefore 0), .int (r0_steps_doneBefore 0)])), (s_r0_steps 1, .inr (4, [.int (r0_steps_part 1), .int (r0_steps_place 1), .int (r0_steps_before 1), .int (r0_steps_leftBefore 1), .int (r0_steps_doneBefore 1)])), (s_r0_steps 2, .inr (4, [.int (r0_steps_part 2), .int (r0_steps_place 2), .int (r0_steps_before 2), .int (r0_steps_leftBefore 2), .int (r0_steps_doneBefore 2)])), (s_r0_steps 3, .inr (4, [.int (r0_steps_part 3), .int (r0_steps_place 3), .int (r0_steps_before 3), .int (r0_steps_leftBefore 3), .int (r0_steps_doneBefore 3)])), (s_r0_steps 4, .inr (4, [.int (r0_steps_part 4), .int (r0_steps_place 4), .int (r0_steps_before 4), .int (r0_steps_leftBefore 4), .int (r0_steps_doneBefore 4)])), (s_r0_steps 5, .inr (4, [.int (r0_steps_part 5), .int (r0_steps_place 5), .int (r0_steps_before 5), .int (r0_steps_leftBefore 5), .int (r0_steps_doneBefore 5)])), (s_r0_steps 6, .inr (4, [.int (r0_steps_part 6), .int (r0_steps_place 6), .int (r0_steps_before 6), .int (r0_steps_leftBefore 6), .int (r0_steps_doneBefore 6)])), (s_r0_steps 7, .inr (4, [.int (r0_steps_part 7), .int (r0_steps_place 7), .int (r0_steps_before 7), .int (r0_steps_leftBefore 7), .int (r0_steps_doneBefore 7)])), (a_r1, .inr (1, [.ref a_r1_weights, v_r1_kinds, v_r1_figures, v_r1_goes, v_r1_things, v_r1_hampers, v_r1_days, v_r1_fields, .int r1_done])), (a_r1_weights, .inl (cI, 6, .inl r1_weights))]
def F_Sps_noteWeight (r0_count : Int32) (r0_steps : Nat → Nat) (r0_steps_before : Nat → Int32) (r0_steps_doneBefore : Nat → Int32) (r0_steps_part : Nat → Int32) (r0_steps_place : Nat → Int32) (r1_done : Int32) (r1_weights : Nat → Int32) (x2 : Int32) : Option ((Int32) × (Nat → Nat) × (Nat → Int32) × (Nat → Int32) × (Nat → Int32) × (Nat → Int32)) :=
  ((F_Sps_note r0_count r0_steps r0_steps_doneBefore r0_steps_part r0_steps_place r1_done (0 : Int32) x2).bind (fun q_1 => ((F_Sta_weightOf r1_weights x2).bind (fun q_2 => (ckN q_1.1 (some (q_1.2.1, q_1.2.2.1, (upd r0_steps_before q_1.1 q_2), q_1.2.2.2.1, q_1.2.2.2.2.1, q_1.2.2.2.2.2)))))))
set_option maxHeartbeats 4000000 in
set_option maxRecDepth 100000 in
theorem C_Sps_noteWeight (l : Launch) (D : va_G) (cI cS : ClassId) (a_r0 : Nat) (a_r0_steps : Nat) (s_r0_steps : Nat → Nat) (a_r1 : Nat) (a_r1_weights : Nat) (v_r1_kinds v_r1_figures v_r1_goes v_r1_things v_r1_hampers v_r1_days v_r1_fields : Value) (r0_count : Int32) (r0_steps : Nat → Nat) (r0_steps_before : Nat → Int32) (r0_steps_doneBefore : Nat → Int32) (r0_steps_leftBefore : Nat → Int32) (r0_steps_part : Nat → Int32) (r0_steps_place : Nat → Int32) (r1_done : Int32) (r1_weights : Nat → Int32) (x2 : Int32) (o : (Int32) × (Nat → Nat) × (Nat → Int32) × (Nat → Int32) × (Nat → Int32) × (Nat → Int32)) (hr : F_Sps_noteWeight r0_count r0_steps r0_steps_before r0_steps_doneBefore r0_steps_part r0_steps_place r1_done r1_weights x2 = some o) : ctV l y_Sps_noteWeight (Cond.code y_Sps_noteWeight b_Sps_noteWeight 3 none) (rmd 2) D (kTy cI cS) [.ref a_r0, .ref a_r1, .int x2] (w_Sps_noteWeight cI cS a_r0 a_r0_steps s_r0_steps a_r1 a_r1_weights v_r1_kinds v_r1_figures v_r1_goes v_r1_things v_r1_hampers v_r1_days v_r1_fields r0_count r0_steps r0_steps_before r0_steps_doneBefore r0_steps_leftBefore r0_steps_part r0_steps_place r1_done r1_weights) (w_Sps_noteWeight cI cS a_r0 a_r0_steps s_r0_steps a_r1 a_r1_weights v_r1_kinds v_r1_figures v_r1_goes v_r1_things v_r1_hampers v_r1_days v_r1_fields o.1 o.2.1 o.2.2.1 o.2.2.2.1 r0_steps_leftBefore o.2.2.2.2.1 o.2.2.2.2.2 r1_done r1_weights) := by
  unfold F_Sps_noteWeight at hr
  refine ⟨rfl, fun sz => ct_of (w0 := (w_Sps_noteWeight cI cS a_r0 a_r0_steps s_r0_steps a_r1 a_r1_weights v_r1_kinds v_r1_figures v_r1_goes v_r1_things v_r1_hampers v_r1_days v_r1_fields r0_count r0_steps r0_steps_before r0_steps_doneBefore r0_steps_leftBefore r0_steps_part r0_steps_place r1_done r1_weights)) (Qc := fun A => qV D (w_Sps_noteWeight cI cS a_r0 a_r0_steps s_r0_steps a_r1 a_r1_weights v_r1_kinds v_r1_figures v_r1_goes v_r1_things v_r1_hampers v_r1_days v_r1_fields o.1 o.2.1 o.2.2.1 o.2.2.2.1 r0_steps_leftBefore o.2.2.2.2.1 o.2.2.2.2.2 r1_done r1_weights) A) rfl (Nat.le_of_ble_eq_true rfl) ?_ sz⟩
  intro p e s m below meth c A hA C hret ls hl hW
  have C : cx p s m ([.ref a_r0, .ref a_r1, .int x2] : List Value).toArray meth c b_Sps_noteWeight 3 R_Sps D (kTy cI cS) (Cond.code y_Sps_noteWeight b_Sps_noteWeight 3 none) := C
  obtain ⟨hx, hb, hml, hown, hts, hK, hlk, hN⟩ := id C
  have hl : lv_has ls 3 [(0, .ref a_r0), (1, .ref a_r1), (2, .int x2)] := hl
  obtain ⟨Q, hQ⟩ : ∃ Q, Q = MQ below (qV D (w_Sps_noteWeight cI cS a_r0 a_r0_steps s_r0_steps a_r1 a_r1_weights v_r1_kinds v_r1_figures v_r1_goes v_r1_things v_r1_hampers v_r1_days v_r1_fields o.1 o.2.1 o.2.2.1 o.2.2.2.1 r0_steps_leftBefore o.2.2.2.2.1 o.2.2.2.2.2 r1_done r1_weights) A) ([.ref a_r0, .ref a_r1, .int x2] : List Value).toArray s 0 0 A := ⟨_, rfl⟩
  rw [← hQ]
  refine lv_aload_n hx hb d_Sps_noteWeight_0 rfl (lv_at hl 0 rfl) ?_
  refine lv_aload_n hx hb d_Sps_noteWeight_1 rfl (lv_at hl 1 rfl) ?_
  refine lv_iconst (v := 0) hx hb d_Sps_noteWeight_2 (by decide) ?_
  refine lv_iload_n hx hb d_Sps_noteWeight_3 rfl (lv_at hl 2 rfl) ?_
  obtain ⟨q_1, hc_1, hr⟩ := ob hr
  have ct_1 := C_Sps_note l D cI cS a_r0 a_r0_steps s_r0_steps a_r1 (Value.ref a_r1_weights) v_r1_kinds v_r1_figures v_r1_goes v_r1_things v_r1_hampers v_r1_days v_r1_fields r0_count r0_steps r0_steps_before r0_steps_doneBefore r0_steps_leftBefore r0_steps_part r0_steps_place r1_done 0 x2 q_1 hc_1
  refine k_goR hA hW [0, 1, 2, 3, 4, 5, 6, 7, 8, 9, 10] rfl ct_1.1 (ws' := (w_Sps_noteWeight cI cS a_r0 a_r0_steps s_r0_steps a_r1 a_r1_weights v_r1_kinds v_r1_figures v_r1_goes v_r1_things v_r1_hampers v_r1_days v_r1_fields q_1.2.1 q_1.2.2.1 r0_steps_before q_1.2.2.2.1 r0_steps_leftBefore q_1.2.2.2.2.1 q_1.2.2.2.2.2 r1_done r1_weights)) rfl (k_runV C hA hW mw_Sps_note mv_Sps_note (ct_1.2 _) [0, 1, 2, 3, 4, 5, 6, 7, 8, 9, 10] rfl rfl 0 rfl rfl qm_Sps_22 ⟨Nat.le_of_ble_eq_true rfl, Nat.le_of_ble_eq_true rfl, Nat.zero_le _, Nat.zero_le _⟩ rfl rfl (Nat.le_of_ble_eq_true rfl) hl.1 d_Sps_noteWeight_4) (fun H locs hW => ?_)
  refine lv_aload_n hx hb d_Sps_noteWeight_7 rfl (lv_at hl 1 rfl) ?_
  refine lv_iload_n hx hb d_Sps_noteWeight_8 rfl (lv_at hl 2 rfl) ?_
  obtain ⟨q_2, hc_2, hr⟩ := ob hr
  have ct_2 := C_Sta_weightOf l D cI cS a_r1 a_r1_weights v_r1_kinds v_r1_figures v_r1_goes v_r1_things v_r1_hampers v_r1_days v_r1_fields (Value.int r1_done) r1_weights x2 q_2 hc_2
  refine k_goIp hA hW [10, 11] rfl rfl (k_runV C hA hW mw_Sta_weightOf mv_Sta_weightOf (ct_2.2 _) [10, 11] rfl rfl 10 rfl rfl qm_Sps_26 ⟨Nat.le_of_ble_eq_true rfl, Nat.le_of_ble_eq_true rfl, Nat.zero_le _, Nat.zero_le _⟩ rfl rfl (Nat.le_of_ble_eq_true rfl) hl.1 d_Sps_noteWeight_9) (fun H locs hW => ?_)
  obtain ⟨h_3, hr⟩ := ckN_some hr
  refine k_putN i_Stp t_Stp_ok n_Stp C hW _ (at8 (P := fun j => ((w_Sps_noteWeight cI cS a_r0 a_r0_steps s_r0_steps a_r1 a_r1_weights v_r1_kinds v_r1_figures v_r1_goes v_r1_things v_r1_hampers v_r1_days v_r1_fields q_1.2.1 q_1.2.2.1 r0_steps_before q_1.2.2.2.1 r0_steps_leftBefore q_1.2.2.2.2.1 q_1.2.2.2.2.2 r1_done r1_weights) : va_W)[2 + j]? = some (s_r0_steps j, .inr (4, [.int (q_1.2.2.2.2.1 j), .int (q_1.2.2.2.2.2 j), .int (r0_steps_before j), .int (r0_steps_leftBefore j), .int (q_1.2.2.2.1 j)]))) h_3 rfl rfl rfl rfl rfl rfl rfl rfl) rfl 2 (by decide) qf_Sps_32 rfl rfl (ty := .int) rfl rfl rfl (Nat.le_of_ble_eq_true rfl) (ws' := (w_Sps_noteWeight cI cS a_r0 a_r0_steps s_r0_steps a_r1 a_r1_weights v_r1_kinds v_r1_figures v_r1_goes v_r1_things v_r1_hampers v_r1_days v_r1_fields q_1.2.1 q_1.2.2.1 (upd r0_steps_before q_1.1 q_2) q_1.2.2.2.1 r0_steps_leftBefore q_1.2.2.2.2.1 q_1.2.2.2.2.2 r1_done r1_weights)) (at8 (P := fun j => List.set (w_Sps_noteWeight cI cS a_r0 a_r0_steps s_r0_steps a_r1 a_r1_weights v_r1_kinds v_r1_figures v_r1_goes v_r1_things v_r1_hampers v_r1_days v_r1_fields q_1.2.1 q_1.2.2.1 r0_steps_before q_1.2.2.2.1 r0_steps_leftBefore q_1.2.2.2.2.1 q_1.2.2.2.2.2 r1_done r1_weights) (2 + j) (s_r0_steps j, .inr (4, List.set [.int (q_1.2.2.2.2.1 j), .int (q_1.2.2.2.2.2 j), .int (r0_steps_before j), .int (r0_steps_leftBefore j), .int (q_1.2.2.2.1 j)] 2 (.int q_2))) = (w_Sps_noteWeight cI cS a_r0 a_r0_steps s_r0_steps a_r1 a_r1_weights v_r1_kinds v_r1_figures v_r1_goes v_r1_things v_r1_hampers v_r1_days v_r1_fields q_1.2.1 q_1.2.2.1 (upd r0_steps_before j q_2) q_1.2.2.2.1 r0_steps_leftBefore q_1.2.2.2.2.1 q_1.2.2.2.2.2 r1_done r1_weights)) h_3 rfl rfl rfl rfl rfl rfl rfl rfl) d_Sps_noteWeight_12 (fun H locs hW => ?_)
  obtain rfl := Option.some.inj hr
  rw [hQ]; exact k_vret C hret hW d_Sps_noteWeight_15
def w_Sps_takeBack (cI cS : ClassId) (a_r0 : Nat) (a_r0_steps : Nat) (s_r0_steps : Nat → Nat) (a_r1 : Nat) (a_r1_fields : Nat) (a_r1_fields_lefts : Nat) (a_r1_fields_wishes : Nat) (a_r1_hampers : Nat) (a_r1_weights : Nat) (v_r1_kinds v_r1_figures v_r1_goes v_r1_things : Value) (r0_count : Int32) (r0_steps : Nat → Nat) (r0_steps_before : Nat → Int32) (r0_steps_doneBefore : Nat → Int32) (r0_steps_leftBefore : Nat → Int32) (r0_steps_part : Nat → Int32) (r0_steps_place : Nat → Int32) (r1_days : Int32) (r1_done : Int32) (r1_fields_lefts : Nat → Int32) (r1_fields_wishes : Nat → Int32) (r1_hampers : Nat → Int32) (r1_weights : Nat → Int32) : va_W := [(a_r0, .inr (3, [.ref a_r0_steps, .int r0_count])), (a_r0_steps, .inl (cS, 8, .inr (.inr (.inr (.inr (fun i => some (s_r0_steps (r0_steps i)))))))), (s_r0_steps 0, .inr (4, [.int (r0_steps_part 0), .int (r0_steps_place 0), .int (r0_steps_before 0), .int (r0_steps_leftBefore 0), .int (r0_steps_doneBefore 0)])), (s_r0_steps 1, .inr (4, [.int (r0_steps_part 1), .int (r0_steps_place 1), .int (r0_steps_before 1), .int (r0_steps_leftBefore 1), .int (r0_steps_doneBefore 1)])), (s_r0_steps 2, .inr (4, [.int (r0_steps_part 2), .int (r0_steps_place 2), .int (r0_steps_before 2), .int (r0_steps_leftBefore 2), .int (r0_steps_doneBefore 2)])), (s_r0_steps 3, .inr (4, [.int (r0_steps_part 3), .int (r0_steps_place 3), .int (r0_steps_before 3), .int (r0_steps_leftBefore 3), .int (r0_steps_doneBefore 3)])), (s_r0_steps 4, .inr (4, [.int (r0_steps_part 4), .int (r0_steps_place 4), .int (r0_steps_before 4), .int (r0_steps_leftBefore 4), .int (r0_steps_doneBefore 4)])), (s_r0_steps 5, .inr (4, [.int (r0_steps_part 5), .int (r0_steps_place 5), .int (r0_steps_before 5), .int (r0_steps_leftBefore 5), .int (r0_steps_doneBefore 5)])), (s_r0_steps 6, .inr (4, [.int (r0_steps_part 6), .int (r0_steps_place 6), .int (r0_steps_before 6), .int (r0_steps_leftBefore 6), .int (r0_steps_doneBefore 6)])), (s_r0_steps 7, .inr (4, [.int (r0_steps_part 7), .int (r0_steps_place 7), .int (r0_steps_before 7), .int (r0_steps_leftBefore 7), .int (r0_steps_doneBefore 7)])), (a_r1, .inr (1, [.ref a_r1_weights, v_r1_kinds, v_r1_figures, v_r1_goes, v_r1_things, .ref a_r1_hampers, .int r1_days, .ref a_r1_fields, .int r1_done])), (a_r1_fields, .inr (2, [.ref a_r1_fields_wishes, .ref a_r1_fields_lefts])), (a_r1_fields_lefts, .inl (cI, 4, .inl r1_fields_lefts)), (a_r1_fields_wishes, .inl (cI, 4, .inl r1_fields_wishes)), (a_r1_hampers, .inl (cI, 8, .inl r1_hampers)), (a_r1_weights, .inl (cI, 6, .inl r1_weights))]
def F_Sps_takeBack_J99_7 (r0_count : Int32) (r0_steps : Nat → Nat) (r0_steps_before : Nat → Int32) (r0_steps_doneBefore : Nat → Int32) (r0_steps_leftBefore : Nat → Int32) (r0_steps_part : Nat → Int32) (r0_steps_place : Nat → Int32) (r1_done : Int32) (r1_fields_lefts : Nat → Int32) (r1_fields_wishes : Nat → Int32) (r1_hampers : Nat → Int32) (r1_weights : Nat → Int32) : Option (Int32 × (Int32) × (Int32) × (Nat → Int32) × (Nat → Int32) × (Nat → Int32) × (Nat → Int32)) :=
  (ckN (r0_steps (Int32.toNatClampNeg (r0_count - 1))) (if (r0_steps_part (r0_steps (Int32.toNatClampNeg (r0_count - 1)))) = 2 then ((F_Fld_become r1_fields_lefts r1_fields_wishes (r0_steps_place (r0_steps (Int32.toNatClampNeg (r0_count - 1)))) (r0_steps_before (r0_steps (Int32.toNatClampNeg (r0_count - 1)))) (r0_steps_leftBefore (r0_steps (Int32.toNatClampNeg (r0_count - 1))))).bind (fun q_10 => (some ((r0_count - 1), (r0_count - 1), (r0_steps_doneBefore (r0_steps (Int32.toNatClampNeg (r0_count - 1)))), q_10.1, q_10.2, r1_hampers, r1_weights)))) else (some ((r0_count - 1), (r0_count - 1), r1_done, r1_fields_lefts, r1_fields_wishes, r1_hampers, r1_weights))))
def F_Sps_takeBack (r0_count : Int32) (r0_steps : Nat → Nat) (r0_steps_before : Nat → Int32) (r0_steps_doneBefore : Nat → Int32) (r0_steps_leftBefore : Nat → Int32) (r0_steps_part : Nat → Int32) (r0_steps_place : Nat → Int32) (r1_days : Int32) (r1_done : Int32) (r1_fields_lefts : Nat → Int32) (r1_fields_wishes : Nat → Int32) (r1_hampers : Nat → Int32) (r1_weights : Nat → Int32) : Option (Int32 × (Int32) × (Int32) × (Nat → Int32) × (Nat → Int32) × (Nat → Int32) × (Nat → Int32)) :=
  (if r0_count < 1 then (some (r0_count, r0_count, r1_done, r1_fields_lefts, r1_fields_wishes, r1_hampers, r1_weights)) else (if r0_count ≤ 8 then (ck (r0_count - 1) 8 (ckN (r0_steps (Int32.toNatClampNeg (r0_count - 1))) (if (r0_steps_part (r0_steps (Int32.toNatClampNeg (r0_count - 1)))) = 0 then ((F_Sta_reweigh r1_weights (r0_steps_place (r0_steps (Int32.toNatClampNeg (r0_count - 1)))) (r0_steps_before (r0_steps (Int32.toNatClampNeg (r0_count - 1))))).bind (fun q_14 => (some ((r0_count - 1), (r0_count - 1), r1_done, r1_fields_lefts, r1_fields_wishes, r1_hampers, q_14)))) else (if (r0_steps_part (r0_steps (Int32.toNatClampNeg (r0_count - 1)))) = 1 then ((F_Sta_hasDay r1_days (r0_steps_place (r0_steps (Int32.toNatClampNeg (r0_count - 1))))).bind (fun q_11 => (if q_11 = 0 then (F_Sps_takeBack_J99_7 r0_count r0_steps r0_steps_before r0_steps_doneBefore r0_steps_leftBefore r0_steps_part r0_steps_place r1_done r1_fields_lefts r1_fields_wishes r1_hampers r1_weights) else (ck (r0_steps_place (r0_steps (Int32.toNatClampNeg (r0_count - 1)))) 8 (some ((r0_count - 1), (r0_count - 1), r1_done, r1_fields_lefts, r1_fields_wishes, (upd r1_hampers (Int32.toNatClampNeg (r0_steps_place (r0_steps (Int32.toNatClampNeg (r0_count - 1))))) (r0_steps_before (r0_steps (Int32.toNatClampNeg (r0_count - 1))))), r1_weights)))))) else (F_Sps_takeBack_J99_7 r0_count r0_steps r0_steps_before r0_steps_doneBefore r0_steps_leftBefore r0_steps_part r0_steps_place r1_done r1_fields_lefts r1_fields_wishes r1_hampers r1_weights))))) else (some (r0_count, r0_count, r1_done, r1_fields_lefts, r1_fields_wishes, r1_hampers, r1_weights))))
set_option maxHeartbeats 4000000 in
set_option maxRecDepth 100000 in
theorem C_Sps_takeBack (l : Launch) (D : va_G) (cI cS : ClassId) (a_r0 : Nat) (a_r0_steps : Nat) (s_r0_steps : Nat → Nat) (a_r1 : Nat) (a_r1_fields : Nat) (a_r1_fields_lefts : Nat) (a_r1_fields_wishes : Nat) (a_r1_hampers : Nat) (a_r1_weights : Nat) (v_r1_kinds v_r1_figures v_r1_goes v_r1_things : Value) (r0_count : Int32) (r0_steps : Nat → Nat) (r0_steps_before : Nat → Int32) (r0_steps_doneBefore : Nat → Int32) (r0_steps_leftBefore : Nat → Int32) (r0_steps_part : Nat → Int32) (r0_steps_place : Nat → Int32) (r1_days : Int32) (r1_done : Int32) (r1_fields_lefts : Nat → Int32) (r1_fields_wishes : Nat → Int32) (r1_hampers : Nat → Int32) (r1_weights : Nat → Int32) (o : Int32 × (Int32) × (Int32) × (Nat → Int32) × (Nat → Int32) × (Nat → Int32) × (Nat → Int32)) (hr : F_Sps_takeBack r0_count r0_steps r0_steps_before r0_steps_doneBefore r0_steps_leftBefore r0_steps_part r0_steps_place r1_days r1_done r1_fields_lefts r1_fields_wishes r1_hampers r1_weights = some o) : ctI l y_Sps_takeBack (Cond.code y_Sps_takeBack b_Sps_takeBack 3 (some FieldType.int)) (rmd 2) D (kTy cI cS) [.ref a_r0, .ref a_r1] (w_Sps_takeBack cI cS a_r0 a_r0_steps s_r0_steps a_r1 a_r1_fields a_r1_fields_lefts a_r1_fields_wishes a_r1_hampers a_r1_weights v_r1_kinds v_r1_figures v_r1_goes v_r1_things r0_count r0_steps r0_steps_before r0_steps_doneBefore r0_steps_leftBefore r0_steps_part r0_steps_place r1_days r1_done r1_fields_lefts r1_fields_wishes r1_hampers r1_weights) (w_Sps_takeBack cI cS a_r0 a_r0_steps s_r0_steps a_r1 a_r1_fields a_r1_fields_lefts a_r1_fields_wishes a_r1_hampers a_r1_weights v_r1_kinds v_r1_figures v_r1_goes v_r1_things o.2.1 r0_steps r0_steps_before r0_steps_doneBefore r0_steps_leftBefore r0_steps_part r0_steps_place r1_days o.2.2.1 o.2.2.2.1 o.2.2.2.2.1 o.2.2.2.2.2.1 o.2.2.2.2.2.2) o.1 := by
  unfold F_Sps_takeBack at hr
  refine ⟨rfl, fun sz => ct_of (w0 := (w_Sps_takeBack cI cS a_r0 a_r0_steps s_r0_steps a_r1 a_r1_fields a_r1_fields_lefts a_r1_fields_wishes a_r1_hampers a_r1_weights v_r1_kinds v_r1_figures v_r1_goes v_r1_things r0_count r0_steps r0_steps_before r0_steps_doneBefore r0_steps_leftBefore r0_steps_part r0_steps_place r1_days r1_done r1_fields_lefts r1_fields_wishes r1_hampers r1_weights)) (Qc := fun A => qI D (w_Sps_takeBack cI cS a_r0 a_r0_steps s_r0_steps a_r1 a_r1_fields a_r1_fields_lefts a_r1_fields_wishes a_r1_hampers a_r1_weights v_r1_kinds v_r1_figures v_r1_goes v_r1_things o.2.1 r0_steps r0_steps_before r0_steps_doneBefore r0_steps_leftBefore r0_steps_part r0_steps_place r1_days o.2.2.1 o.2.2.2.1 o.2.2.2.2.1 o.2.2.2.2.2.1 o.2.2.2.2.2.2) o.1 A) rfl (Nat.le_of_ble_eq_true rfl) ?_ sz⟩
  intro p e s m below meth c A hA C hret ls hl hW
  have C : cx p s m ([.ref a_r0, .ref a_r1] : List Value).toArray meth c b_Sps_takeBack 3 R_Sps D (kTy cI cS) (Cond.code y_Sps_takeBack b_Sps_takeBack 3 (some FieldType.int)) := C
  obtain ⟨hx, hb, hml, hown, hts, hK, hlk, hN⟩ := id C
  have hl : lv_has ls 3 [(0, .ref a_r0), (1, .ref a_r1)] := hl
  obtain ⟨Q, hQ⟩ : ∃ Q, Q = MQ below (qI D (w_Sps_takeBack cI cS a_r0 a_r0_steps s_r0_steps a_r1 a_r1_fields a_r1_fields_lefts a_r1_fields_wishes a_r1_hampers a_r1_weights v_r1_kinds v_r1_figures v_r1_goes v_r1_things o.2.1 r0_steps r0_steps_before r0_steps_doneBefore r0_steps_leftBefore r0_steps_part r0_steps_place r1_days o.2.2.1 o.2.2.2.1 o.2.2.2.2.1 o.2.2.2.2.2.1 o.2.2.2.2.2.2) o.1 A) ([.ref a_r0, .ref a_r1] : List Value).toArray s 0 0 A := ⟨_, rfl⟩
  rw [← hQ]
  refine lv_aload_n hx hb d_Sps_takeBack_0 rfl (lv_at hl 0 rfl) ?_
  refine k_get i_Sps C hW 0 rfl rfl 1 (by decide) qf_Sps_18 rfl rfl d_Sps_takeBack_1 ?_
  refine lv_iconst (v := 1) hx hb d_Sps_takeBack_4 (by decide) ?_
  refine lv_icmp_lt (tgt := 17) hx hb d_Sps_takeBack_5 (by decide) (fun c_1 => ?_) (fun c_1 => ?_)
  · replace hr := ip c_1 hr
    refine lv_aload_n hx hb d_Sps_takeBack_17 rfl (lv_at hl 0 rfl) ?_
    refine k_get i_Sps C hW 0 rfl rfl 1 (by decide) qf_Sps_18 rfl rfl d_Sps_takeBack_18 ?_
    obtain rfl := Option.some.inj hr
    rw [hQ]; exact k_iret C hret hW d_Sps_takeBack_21
  · replace hr := iN c_1 hr
    refine lv_aload_n hx hb d_Sps_takeBack_8 rfl (lv_at hl 0 rfl) ?_
    refine k_get i_Sps C hW 0 rfl rfl 1 (by decide) qf_Sps_18 rfl rfl d_Sps_takeBack_9 ?_
    refine lv_bipush (v := 8) hx hb d_Sps_takeBack_12 (by decide) ?_
    refine lv_icmp_le (tgt := 22) hx hb d_Sps_takeBack_14 (by decide) (fun c_2 => ?_) (fun c_2 => ?_)
    · replace hr := ip c_2 hr
      refine lv_aload_n hx hb d_Sps_takeBack_22 rfl (lv_at hl 0 rfl) ?_
      refine lv_dup hx hb d_Sps_takeBack_23 rfl ?_
      refine k_get i_Sps C hW 0 rfl rfl 1 (by decide) qf_Sps_18 rfl rfl d_Sps_takeBack_24 ?_
      refine lv_iconst (v := 1) hx hb d_Sps_takeBack_27 (by decide) ?_
      refine lv_isub hx hb d_Sps_takeBack_28 ?_
      refine k_put i_Sps t_Sps_ok n_Sps C hW 0 rfl rfl 1 (by decide) qf_Sps_18 rfl rfl (ty := .int) rfl rfl rfl (Nat.le_of_ble_eq_true rfl) (ws' := (w_Sps_takeBack cI cS a_r0 a_r0_steps s_r0_steps a_r1 a_r1_fields a_r1_fields_lefts a_r1_fields_wishes a_r1_hampers a_r1_weights v_r1_kinds v_r1_figures v_r1_goes v_r1_things (r0_count - 1) r0_steps r0_steps_before r0_steps_doneBefore r0_steps_leftBefore r0_steps_part r0_steps_place r1_days r1_done r1_fields_lefts r1_fields_wishes r1_hampers r1_weights)) rfl d_Sps_takeBack_29 (fun H locs hW => ?_)
      refine lv_aload_n hx hb d_Sps_takeBack_32 rfl (lv_at hl 0 rfl) ?_
      refine k_get i_Sps C hW 0 rfl rfl 0 (by decide) qf_Sps_11 rfl rfl d_Sps_takeBack_33 ?_
      refine lv_aload_n hx hb d_Sps_takeBack_36 rfl (lv_at hl 0 rfl) ?_
      refine k_get i_Sps C hW 0 rfl rfl 1 (by decide) qf_Sps_18 rfl rfl d_Sps_takeBack_37 ?_
      obtain ⟨h_3, hr⟩ := ck_some hr
      refine k_aald C hW 1 (sa := s_r0_steps) (g := r0_steps) rfl h_3 d_Sps_takeBack_40 ?_
      refine lv_astore_n (lv' := [(2, .ref (s_r0_steps (r0_steps (Int32.toNatClampNeg (r0_count - 1))))), (0, .ref a_r0), (1, .ref a_r1)]) hx hb d_Sps_takeBack_41 rfl hl (by decide) rfl (fun ls hl => ?_)
      refine lv_aload_n hx hb d_Sps_takeBack_42 rfl (lv_at hl 0 rfl) ?_
      obtain ⟨h_4, hr⟩ := ckN_some hr
      refine k_getN i_Stp C hW _ (at8 (P := fun j => ((w_Sps_takeBack cI cS a_r0 a_r0_steps s_r0_steps a_r1 a_r1_fields a_r1_fields_lefts a_r1_fields_wishes a_r1_hampers a_r1_weights v_r1_kinds v_r1_figures v_r1_goes v_r1_things (r0_count - 1) r0_steps r0_steps_before r0_steps_doneBefore r0_steps_leftBefore r0_steps_part r0_steps_place r1_days r1_done r1_fields_lefts r1_fields_wishes r1_hampers r1_weights) : va_W)[2 + j]? = some (s_r0_steps j, .inr (4, [.int (r0_steps_part j), .int (r0_steps_place j), .int (r0_steps_before j), .int (r0_steps_leftBefore j), .int (r0_steps_doneBefore j)]))) h_4 rfl rfl rfl rfl rfl rfl rfl rfl) rfl 0 (by decide) qf_Sps_70 rfl rfl d_Sps_takeBack_43 ?_
      refine lv_if_ne (tgt := 64) hx hb d_Sps_takeBack_46 (by decide) (fun c_5 => ?_) (fun c_5 => ?_)
      · replace hr := iN c_5 hr
        refine lv_aload_n hx hb d_Sps_takeBack_64 rfl (lv_at hl 0 rfl) ?_
        refine k_getN i_Stp C hW _ (at8 (P := fun j => ((w_Sps_takeBack cI cS a_r0 a_r0_steps s_r0_steps a_r1 a_r1_fields a_r1_fields_lefts a_r1_fields_wishes a_r1_hampers a_r1_weights v_r1_kinds v_r1_figures v_r1_goes v_r1_things (r0_count - 1) r0_steps r0_steps_before r0_steps_doneBefore r0_steps_leftBefore r0_steps_part r0_steps_place r1_days r1_done r1_fields_lefts r1_fields_wishes r1_hampers r1_weights) : va_W)[2 + j]? = some (s_r0_steps j, .inr (4, [.int (r0_steps_part j), .int (r0_steps_place j), .int (r0_steps_before j), .int (r0_steps_leftBefore j), .int (r0_steps_doneBefore j)]))) h_4 rfl rfl rfl rfl rfl rfl rfl rfl) rfl 0 (by decide) qf_Sps_70 rfl rfl d_Sps_takeBack_65 ?_
        refine lv_iconst (v := 1) hx hb d_Sps_takeBack_68 (by decide) ?_
        have hJ_7 : ∀ (_ : Unit), F_Sps_takeBack_J99_7 r0_count r0_steps r0_steps_before r0_steps_doneBefore r0_steps_leftBefore r0_steps_part r0_steps_place r1_done r1_fields_lefts r1_fields_wishes r1_hampers r1_weights = some o → ∀ (H : Heap) (locs : List Loc) (ls : Array Slot), wd A s.heap D (w_Sps_takeBack cI cS a_r0 a_r0_steps s_r0_steps a_r1 a_r1_fields a_r1_fields_lefts a_r1_fields_wishes a_r1_hampers a_r1_weights v_r1_kinds v_r1_figures v_r1_goes v_r1_things (r0_count - 1) r0_steps r0_steps_before r0_steps_doneBefore r0_steps_leftBefore r0_steps_part r0_steps_place r1_days r1_done r1_fields_lefts r1_fields_wishes r1_hampers r1_weights) H locs → lv_has ls 3 [(0, .ref a_r0), (1, .ref a_r1), (2, .ref (s_r0_steps (r0_steps (Int32.toNatClampNeg (r0_count - 1)))))] → W p l e (rmd 2) s m ([.ref a_r0, .ref a_r1] : List Value).toArray below meth c H locs 0 0 Q (F0 m 99 ls []) := by
          intro _ hr H locs ls hW hl
          unfold F_Sps_takeBack_J99_7 at hr
          refine lv_aload_n hx hb d_Sps_takeBack_99 rfl (lv_at hl 2 rfl) ?_
          obtain ⟨h_8, hr⟩ := ckN_some hr
          refine k_getN i_Stp C hW _ (at8 (P := fun j => ((w_Sps_takeBack cI cS a_r0 a_r0_steps s_r0_steps a_r1 a_r1_fields a_r1_fields_lefts a_r1_fields_wishes a_r1_hampers a_r1_weights v_r1_kinds v_r1_figures v_r1_goes v_r1_things (r0_count - 1) r0_steps r0_steps_before r0_steps_doneBefore r0_steps_leftBefore r0_steps_part r0_steps_place r1_days r1_done r1_fields_lefts r1_fields_wishes r1_hampers r1_weights) : va_W)[2 + j]? = some (s_r0_steps j, .inr (4, [.int (r0_steps_part j), .int (r0_steps_place j), .int (r0_steps_before j), .int (r0_steps_leftBefore j), .int (r0_steps_doneBefore j)]))) h_8 rfl rfl rfl rfl rfl rfl rfl rfl) rfl 0 (by decide) qf_Sps_70 rfl rfl d_Sps_takeBack_100 ?_
          refine lv_iconst (v := 2) hx hb d_Sps_takeBack_103 (by decide) ?_
          refine lv_icmp_ne (tgt := 134) hx hb d_Sps_takeBack_104 (by decide) (fun c_9 => ?_) (fun c_9 => ?_)
          · replace hr := iN c_9 hr
            refine lv_aload_n hx hb d_Sps_takeBack_134 rfl (lv_at hl 0 rfl) ?_
            refine k_get i_Sps C hW 0 rfl rfl 1 (by decide) qf_Sps_18 rfl rfl d_Sps_takeBack_135 ?_
            obtain rfl := Option.some.inj hr
            rw [hQ]; exact k_iret C hret hW d_Sps_takeBack_138
          · replace hr := ip c_9 hr
            refine lv_aload_n hx hb d_Sps_takeBack_107 rfl (lv_at hl 1 rfl) ?_
            refine k_getN i_Sta C hW 10 rfl rfl 7 (by decide) qf_Sps_42 rfl rfl d_Sps_takeBack_108 ?_
            refine lv_aload_n hx hb d_Sps_takeBack_111 rfl (lv_at hl 2 rfl) ?_
            refine k_getN i_Stp C hW _ (at8 (P := fun j => ((w_Sps_takeBack cI cS a_r0 a_r0_steps s_r0_steps a_r1 a_r1_fields a_r1_fields_lefts a_r1_fields_wishes a_r1_hampers a_r1_weights v_r1_kinds v_r1_figures v_r1_goes v_r1_things (r0_count - 1) r0_steps r0_steps_before r0_steps_doneBefore r0_steps_leftBefore r0_steps_part r0_steps_place r1_days r1_done r1_fields_lefts r1_fields_wishes r1_hampers r1_weights) : va_W)[2 + j]? = some (s_r0_steps j, .inr (4, [.int (r0_steps_part j), .int (r0_steps_place j), .int (r0_steps_before j), .int (r0_steps_leftBefore j), .int (r0_steps_doneBefore j)]))) h_8 rfl rfl rfl rfl rfl rfl rfl rfl) rfl 1 (by decide) qf_Sps_73 rfl rfl d_Sps_takeBack_112 ?_
            refine lv_aload_n hx hb d_Sps_takeBack_115 rfl (lv_at hl 2 rfl) ?_
            refine k_getN i_Stp C hW _ (at8 (P := fun j => ((w_Sps_takeBack cI cS a_r0 a_r0_steps s_r0_steps a_r1 a_r1_fields a_r1_fields_lefts a_r1_fields_wishes a_r1_hampers a_r1_weights v_r1_kinds v_r1_figures v_r1_goes v_r1_things (r0_count - 1) r0_steps r0_steps_before r0_steps_doneBefore r0_steps_leftBefore r0_steps_part r0_steps_place r1_days r1_done r1_fields_lefts r1_fields_wishes r1_hampers r1_weights) : va_W)[2 + j]? = some (s_r0_steps j, .inr (4, [.int (r0_steps_part j), .int (r0_steps_place j), .int (r0_steps_before j), .int (r0_steps_leftBefore j), .int (r0_steps_doneBefore j)]))) h_8 rfl rfl rfl rfl rfl rfl rfl rfl) rfl 2 (by decide) qf_Sps_32 rfl rfl d_Sps_takeBack_116 ?_
            refine lv_aload_n hx hb d_Sps_takeBack_119 rfl (lv_at hl 2 rfl) ?_
            refine k_getN i_Stp C hW _ (at8 (P := fun j => ((w_Sps_takeBack cI cS a_r0 a_r0_steps s_r0_steps a_r1 a_r1_fields a_r1_fields_lefts a_r1_fields_wishes a_r1_hampers a_r1_weights v_r1_kinds v_r1_figures v_r1_goes v_r1_things (r0_count - 1) r0_steps r0_steps_before r0_steps_doneBefore r0_steps_leftBefore r0_steps_part r0_steps_place r1_days r1_done r1_fields_lefts r1_fields_wishes r1_hampers r1_weights) : va_W)[2 + j]? = some (s_r0_steps j, .inr (4, [.int (r0_steps_part j), .int (r0_steps_place j), .int (r0_steps_before j), .int (r0_steps_leftBefore j), .int (r0_steps_doneBefore j)]))) h_8 rfl rfl rfl rfl rfl rfl rfl rfl) rfl 3 (by decide) qf_Sps_55 rfl rfl d_Sps_takeBack_120 ?_
            obtain ⟨q_10, hc_10, hr⟩ := ob hr
            have ct_10 := C_Fld_become l D cI cS a_r1_fields a_r1_fields_lefts a_r1_fields_wishes r1_fields_lefts r1_fields_wishes (r0_steps_place (r0_steps (Int32.toNatClampNeg (r0_count - 1)))) (r0_steps_before (r0_steps (Int32.toNatClampNeg (r0_count - 1)))) (r0_steps_leftBefore (r0_steps (Int32.toNatClampNeg (r0_count - 1)))) q_10 hc_10
            refine k_goV hA hW [11, 12, 13] rfl ct_10.1 (ws' := (w_Sps_takeBack cI cS a_r0 a_r0_steps s_r0_steps a_r1 a_r1_fields a_r1_fields_lefts a_r1_fields_wishes a_r1_hampers a_r1_weights v_r1_kinds v_r1_figures v_r1_goes v_r1_things (r0_count - 1) r0_steps r0_steps_before r0_steps_doneBefore r0_steps_leftBefore r0_steps_part r0_steps_place r1_days r1_done q_10.1 q_10.2 r1_hampers r1_weights)) rfl (k_runV C hA hW mw_Fld_become mv_Fld_become (ct_10.2 _) [11, 12, 13] rfl rfl 11 rfl rfl qm_Sps_92 ⟨Nat.le_of_ble_eq_true rfl, Nat.le_of_ble_eq_true rfl, Nat.zero_le _, Nat.zero_le _⟩ rfl rfl (Nat.le_of_ble_eq_true rfl) hl.1 d_Sps_takeBack_123) (fun H locs hW => ?_)
            refine lv_aload_n hx hb d_Sps_takeBack_126 rfl (lv_at hl 1 rfl) ?_
            refine lv_aload_n hx hb d_Sps_takeBack_127 rfl (lv_at hl 2 rfl) ?_
            refine k_getN i_Stp C hW _ (at8 (P := fun j => ((w_Sps_takeBack cI cS a_r0 a_r0_steps s_r0_steps a_r1 a_r1_fields a_r1_fields_lefts a_r1_fields_wishes a_r1_hampers a_r1_weights v_r1_kinds v_r1_figures v_r1_goes v_r1_things (r0_count - 1) r0_steps r0_steps_before r0_steps_doneBefore r0_steps_leftBefore r0_steps_part r0_steps_place r1_days r1_done q_10.1 q_10.2 r1_hampers r1_weights) : va_W)[2 + j]? = some (s_r0_steps j, .inr (4, [.int (r0_steps_part j), .int (r0_steps_place j), .int (r0_steps_before j), .int (r0_steps_leftBefore j), .int (r0_steps_doneBefore j)]))) h_8 rfl rfl rfl rfl rfl rfl rfl rfl) rfl 4 (by decide) qf_Sps_79 rfl rfl d_Sps_takeBack_128 ?_
            refine k_putN i_Sta t_Sta_ok n_Sta C hW 10 rfl rfl 8 (by decide) qf_Sps_76 rfl rfl (ty := .int) rfl rfl rfl (Nat.le_of_ble_eq_true rfl) (ws' := (w_Sps_takeBack cI cS a_r0 a_r0_steps s_r0_steps a_r1 a_r1_fields a_r1_fields_lefts a_r1_fields_wishes a_r1_hampers a_r1_weights v_r1_kinds v_r1_figures v_r1_goes v_r1_things (r0_count - 1) r0_steps r0_steps_before r0_steps_doneBefore r0_steps_leftBefore r0_steps_part r0_steps_place r1_days (r0_steps_doneBefore (r0_steps (Int32.toNatClampNeg (r0_count - 1)))) q_10.1 q_10.2 r1_hampers r1_weights)) rfl d_Sps_takeBack_131 (fun H locs hW => ?_)
            refine lv_aload_n hx hb d_Sps_takeBack_134 rfl (lv_at hl 0 rfl) ?_
            refine k_get i_Sps C hW 0 rfl rfl 1 (by decide) qf_Sps_18 rfl rfl d_Sps_takeBack_135 ?_
            obtain rfl := Option.some.inj hr
            rw [hQ]; exact k_iret C hret hW d_Sps_takeBack_138
        refine lv_icmp_ne (tgt := 99) hx hb d_Sps_takeBack_69 (by decide) (fun c_6 => ?_) (fun c_6 => ?_)
        · replace hr := iN c_6 hr
          exact hJ_7 () hr _ _ _ hW (lv_sub hl [1, 2, 0] rfl)
        · replace hr := ip c_6 hr
          refine lv_aload_n hx hb d_Sps_takeBack_72 rfl (lv_at hl 2 rfl) ?_
          refine lv_aload_n hx hb d_Sps_takeBack_73 rfl (lv_at hl 0 rfl) ?_
          refine k_getN i_Stp C hW _ (at8 (P := fun j => ((w_Sps_takeBack cI cS a_r0 a_r0_steps s_r0_steps a_r1 a_r1_fields a_r1_fields_lefts a_r1_fields_wishes a_r1_hampers a_r1_weights v_r1_kinds v_r1_figures v_r1_goes v_r1_things (r0_count - 1) r0_steps r0_steps_before r0_steps_doneBefore r0_steps_leftBefore r0_steps_part r0_steps_place r1_days r1_done r1_fields_lefts r1_fields_wishes r1_hampers r1_weights) : va_W)[2 + j]? = some (s_r0_steps j, .inr (4, [.int (r0_steps_part j), .int (r0_steps_place j), .int (r0_steps_before j), .int (r0_steps_leftBefore j), .int (r0_steps_doneBefore j)]))) h_4 rfl rfl rfl rfl rfl rfl rfl rfl) rfl 1 (by decide) qf_Sps_73 rfl rfl d_Sps_takeBack_74 ?_
          obtain ⟨q_11, hc_11, hr⟩ := ob hr
          have ct_11 := C_Sta_hasDay l D cI cS a_r1 (Value.ref a_r1_weights) v_r1_kinds v_r1_figures v_r1_goes v_r1_things (Value.ref a_r1_hampers) (Value.ref a_r1_fields) (Value.int r1_done) r1_days (r0_steps_place (r0_steps (Int32.toNatClampNeg (r0_count - 1)))) q_11 hc_11
          refine k_goIp hA hW [10] rfl rfl (k_runV C hA hW mw_Sta_hasDay mv_Sta_hasDay (ct_11.2 _) [10] rfl rfl 10 rfl rfl qm_Sps_86 ⟨Nat.le_of_ble_eq_true rfl, Nat.le_of_ble_eq_true rfl, Nat.zero_le _, Nat.zero_le _⟩ rfl rfl (Nat.le_of_ble_eq_true rfl) hl.1 d_Sps_takeBack_77) (fun H locs hW => ?_)
          refine lv_if_eq (tgt := 99) hx hb d_Sps_takeBack_80 (by decide) (fun c_12 => ?_) (fun c_12 => ?_)
          · replace hr := ip c_12 hr
            exact hJ_7 () hr _ _ _ hW (lv_sub hl [1, 2, 0] rfl)
          · replace hr := iN c_12 hr
            refine lv_aload_n hx hb d_Sps_takeBack_83 rfl (lv_at hl 2 rfl) ?_
            refine k_getN i_Sta C hW 10 rfl rfl 5 (by decide) qf_Sps_89 rfl rfl d_Sps_takeBack_84 ?_
            refine lv_aload_n hx hb d_Sps_takeBack_87 rfl (lv_at hl 0 rfl) ?_
            refine k_getN i_Stp C hW _ (at8 (P := fun j => ((w_Sps_takeBack cI cS a_r0 a_r0_steps s_r0_steps a_r1 a_r1_fields a_r1_fields_lefts a_r1_fields_wishes a_r1_hampers a_r1_weights v_r1_kinds v_r1_figures v_r1_goes v_r1_things (r0_count - 1) r0_steps r0_steps_before r0_steps_doneBefore r0_steps_leftBefore r0_steps_part r0_steps_place r1_days r1_done r1_fields_lefts r1_fields_wishes r1_hampers r1_weights) : va_W)[2 + j]? = some (s_r0_steps j, .inr (4, [.int (r0_steps_part j), .int (r0_steps_place j), .int (r0_steps_before j), .int (r0_steps_leftBefore j), .int (r0_steps_doneBefore j)]))) h_4 rfl rfl rfl rfl rfl rfl rfl rfl) rfl 1 (by decide) qf_Sps_73 rfl rfl d_Sps_takeBack_88 ?_
            refine lv_aload_n hx hb d_Sps_takeBack_91 rfl (lv_at hl 0 rfl) ?_
            refine k_getN i_Stp C hW _ (at8 (P := fun j => ((w_Sps_takeBack cI cS a_r0 a_r0_steps s_r0_steps a_r1 a_r1_fields a_r1_fields_lefts a_r1_fields_wishes a_r1_hampers a_r1_weights v_r1_kinds v_r1_figures v_r1_goes v_r1_things (r0_count - 1) r0_steps r0_steps_before r0_steps_doneBefore r0_steps_leftBefore r0_steps_part r0_steps_place r1_days r1_done r1_fields_lefts r1_fields_wishes r1_hampers r1_weights) : va_W)[2 + j]? = some (s_r0_steps j, .inr (4, [.int (r0_steps_part j), .int (r0_steps_place j), .int (r0_steps_before j), .int (r0_steps_leftBefore j), .int (r0_steps_doneBefore j)]))) h_4 rfl rfl rfl rfl rfl rfl rfl rfl) rfl 2 (by decide) qf_Sps_32 rfl rfl d_Sps_takeBack_92 ?_
            obtain ⟨h_13, hr⟩ := ck_some hr
            refine k_iast C hW 14 rfl h_13 (ws' := (w_Sps_takeBack cI cS a_r0 a_r0_steps s_r0_steps a_r1 a_r1_fields a_r1_fields_lefts a_r1_fields_wishes a_r1_hampers a_r1_weights v_r1_kinds v_r1_figures v_r1_goes v_r1_things (r0_count - 1) r0_steps r0_steps_before r0_steps_doneBefore r0_steps_leftBefore r0_steps_part r0_steps_place r1_days r1_done r1_fields_lefts r1_fields_wishes (upd r1_hampers (Int32.toNatClampNeg (r0_steps_place (r0_steps (Int32.toNatClampNeg (r0_count - 1))))) (r0_steps_before (r0_steps (Int32.toNatClampNeg (r0_count - 1))))) r1_weights)) rfl d_Sps_takeBack_95 (fun H locs hW => ?_)
            refine lv_goto (tgt := 134) hx hb d_Sps_takeBack_96 (by decide) ?_
            refine lv_aload_n hx hb d_Sps_takeBack_134 rfl (lv_at hl 1 rfl) ?_
            refine k_get i_Sps C hW 0 rfl rfl 1 (by decide) qf_Sps_18 rfl rfl d_Sps_takeBack_135 ?_
            obtain rfl := Option.some.inj hr
            rw [hQ]; exact k_iret C hret hW d_Sps_takeBack_138
      · replace hr := ip c_5 hr
        refine lv_aload_n hx hb d_Sps_takeBack_49 rfl (lv_at hl 2 rfl) ?_
        refine lv_aload_n hx hb d_Sps_takeBack_50 rfl (lv_at hl 0 rfl) ?_
        refine k_getN i_Stp C hW _ (at8 (P := fun j => ((w_Sps_takeBack cI cS a_r0 a_r0_steps s_r0_steps a_r1 a_r1_fields a_r1_fields_lefts a_r1_fields_wishes a_r1_hampers a_r1_weights v_r1_kinds v_r1_figures v_r1_goes v_r1_things (r0_count - 1) r0_steps r0_steps_before r0_steps_doneBefore r0_steps_leftBefore r0_steps_part r0_steps_place r1_days r1_done r1_fields_lefts r1_fields_wishes r1_hampers r1_weights) : va_W)[2 + j]? = some (s_r0_steps j, .inr (4, [.int (r0_steps_part j), .int (r0_steps_place j), .int (r0_steps_before j), .int (r0_steps_leftBefore j), .int (r0_steps_doneBefore j)]))) h_4 rfl rfl rfl rfl rfl rfl rfl rfl) rfl 1 (by decide) qf_Sps_73 rfl rfl d_Sps_takeBack_51 ?_
        refine lv_aload_n hx hb d_Sps_takeBack_54 rfl (lv_at hl 0 rfl) ?_
        refine k_getN i_Stp C hW _ (at8 (P := fun j => ((w_Sps_takeBack cI cS a_r0 a_r0_steps s_r0_steps a_r1 a_r1_fields a_r1_fields_lefts a_r1_fields_wishes a_r1_hampers a_r1_weights v_r1_kinds v_r1_figures v_r1_goes v_r1_things (r0_count - 1) r0_steps r0_steps_before r0_steps_doneBefore r0_steps_leftBefore r0_steps_part r0_steps_place r1_days r1_done r1_fields_lefts r1_fields_wishes r1_hampers r1_weights) : va_W)[2 + j]? = some (s_r0_steps j, .inr (4, [.int (r0_steps_part j), .int (r0_steps_place j), .int (r0_steps_before j), .int (r0_steps_leftBefore j), .int (r0_steps_doneBefore j)]))) h_4 rfl rfl rfl rfl rfl rfl rfl rfl) rfl 2 (by decide) qf_Sps_32 rfl rfl d_Sps_takeBack_55 ?_
        obtain ⟨q_14, hc_14, hr⟩ := ob hr
        have ct_14 := C_Sta_reweigh l D cI cS a_r1 a_r1_weights v_r1_kinds v_r1_figures v_r1_goes v_r1_things (Value.ref a_r1_hampers) (Value.int r1_days) (Value.ref a_r1_fields) (Value.int r1_done) r1_weights (r0_steps_place (r0_steps (Int32.toNatClampNeg (r0_count - 1)))) (r0_steps_before (r0_steps (Int32.toNatClampNeg (r0_count - 1)))) q_14 hc_14
        refine k_goV hA hW [10, 15] rfl ct_14.1 (ws' := (w_Sps_takeBack cI cS a_r0 a_r0_steps s_r0_steps a_r1 a_r1_fields a_r1_fields_lefts a_r1_fields_wishes a_r1_hampers a_r1_weights v_r1_kinds v_r1_figures v_r1_goes v_r1_things (r0_count - 1) r0_steps r0_steps_before r0_steps_doneBefore r0_steps_leftBefore r0_steps_part r0_steps_place r1_days r1_done r1_fields_lefts r1_fields_wishes r1_hampers q_14)) rfl (k_runV C hA hW mw_Sta_reweigh mv_Sta_reweigh (ct_14.2 _) [10, 15] rfl rfl 10 rfl rfl qm_Sps_82 ⟨Nat.le_of_ble_eq_true rfl, Nat.le_of_ble_eq_true rfl, Nat.zero_le _, Nat.zero_le _⟩ rfl rfl (Nat.le_of_ble_eq_true rfl) hl.1 d_Sps_takeBack_58) (fun H locs hW => ?_)
        refine lv_goto (tgt := 134) hx hb d_Sps_takeBack_61 (by decide) ?_
        refine lv_aload_n hx hb d_Sps_takeBack_134 rfl (lv_at hl 1 rfl) ?_
        refine k_get i_Sps C hW 0 rfl rfl 1 (by decide) qf_Sps_18 rfl rfl d_Sps_takeBack_135 ?_
        obtain rfl := Option.some.inj hr
        rw [hQ]; exact k_iret C hret hW d_Sps_takeBack_138
    · replace hr := iN c_2 hr
      refine lv_aload_n hx hb d_Sps_takeBack_17 rfl (lv_at hl 0 rfl) ?_
      refine k_get i_Sps C hW 0 rfl rfl 1 (by decide) qf_Sps_18 rfl rfl d_Sps_takeBack_18 ?_
      obtain rfl := Option.some.inj hr
      rw [hQ]; exact k_iret C hret hW d_Sps_takeBack_21
def w_H_apart (cI : ClassId) (a_r0 : Nat) (a_r0_now : Nat) (a_r0_now_goes : Nat) (a_r0_now_hampers : Nat) (v_r0_kept v_r0_trial v_r0_hasKept v_r0_steps v_r0_letters v_r0_numbers v_r0_harvest v_r0_fraction v_r0_refusals v_r0_now_weights v_r0_now_kinds v_r0_now_figures v_r0_now_things v_r0_now_fields v_r0_now_done : Value) (r0_now_days : Int32) (r0_now_goes : Nat → Int32) (r0_now_hampers : Nat → Int32) : va_W := [(a_r0, .inr (0, [.ref a_r0_now, v_r0_kept, v_r0_trial, v_r0_hasKept, v_r0_steps, v_r0_letters, v_r0_numbers, v_r0_harvest, v_r0_fraction, v_r0_refusals])), (a_r0_now, .inr (1, [v_r0_now_weights, v_r0_now_kinds, v_r0_now_figures, .ref a_r0_now_goes, v_r0_now_things, .ref a_r0_now_hampers, .int r0_now_days, v_r0_now_fields, v_r0_now_done])), (a_r0_now_goes, .inl (cI, 8, .inl r0_now_goes)), (a_r0_now_hampers, .inl (cI, 8, .inl r0_now_hampers))]
def F_H_apart (r0_now_days : Int32) (r0_now_goes : Nat → Int32) (r0_now_hampers : Nat → Int32) : Option (Int32) :=
  ((F_Dia_twosApart r0_now_days r0_now_goes r0_now_hampers).bind (fun q_1 => (some q_1)))
set_option maxHeartbeats 4000000 in
set_option maxRecDepth 100000 in
theorem C_H_apart (l : Launch) (D : va_G) (cI cS : ClassId) (a_r0 : Nat) (a_r0_now : Nat) (a_r0_now_goes : Nat) (a_r0_now_hampers : Nat) (v_r0_kept v_r0_trial v_r0_hasKept v_r0_steps v_r0_letters v_r0_numbers v_r0_harvest v_r0_fraction v_r0_refusals v_r0_now_weights v_r0_now_kinds v_r0_now_figures v_r0_now_things v_r0_now_fields v_r0_now_done : Value) (r0_now_days : Int32) (r0_now_goes : Nat → Int32) (r0_now_hampers : Nat → Int32) (o : Int32) (hr : F_H_apart r0_now_days r0_now_goes r0_now_hampers = some o) : ctI l y_H_apart (Cond.code y_H_apart b_H_apart 1 (some FieldType.int)) (rmd 3) D (kTy cI cS) [.ref a_r0] (w_H_apart cI a_r0 a_r0_now a_r0_now_goes a_r0_now_hampers v_r0_kept v_r0_trial v_r0_hasKept v_r0_steps v_r0_letters v_r0_numbers v_r0_harvest v_r0_fraction v_r0_refusals v_r0_now_weights v_r0_now_kinds v_r0_now_figures v_r0_now_things v_r0_now_fields v_r0_now_done r0_now_days r0_now_goes r0_now_hampers) (w_H_apart cI a_r0 a_r0_now a_r0_now_goes a_r0_now_hampers v_r0_kept v_r0_trial v_r0_hasKept v_r0_steps v_r0_letters v_r0_numbers v_r0_harvest v_r0_fraction v_r0_refusals v_r0_now_weights v_r0_now_kinds v_r0_now_figures v_r0_now_things v_r0_now_fields v_r0_now_done r0_now_days r0_now_goes r0_now_hampers) o := by
  unfold F_H_apart at hr
  refine ⟨rfl, fun sz => ct_of (w0 := (w_H_apart cI a_r0 a_r0_now a_r0_now_goes a_r0_now_hampers v_r0_kept v_r0_trial v_r0_hasKept v_r0_steps v_r0_letters v_r0_numbers v_r0_harvest v_r0_fraction v_r0_refusals v_r0_now_weights v_r0_now_kinds v_r0_now_figures v_r0_now_things v_r0_now_fields v_r0_now_done r0_now_days r0_now_goes r0_now_hampers)) (Qc := fun A => qI D (w_H_apart cI a_r0 a_r0_now a_r0_now_goes a_r0_now_hampers v_r0_kept v_r0_trial v_r0_hasKept v_r0_steps v_r0_letters v_r0_numbers v_r0_harvest v_r0_fraction v_r0_refusals v_r0_now_weights v_r0_now_kinds v_r0_now_figures v_r0_now_things v_r0_now_fields v_r0_now_done r0_now_days r0_now_goes r0_now_hampers) o A) rfl (Nat.le_of_ble_eq_true rfl) ?_ sz⟩
  intro p e s m below meth c A hA C hret ls hl hW
  have C : cx p s m ([.ref a_r0] : List Value).toArray meth c b_H_apart 1 R_H D (kTy cI cS) (Cond.code y_H_apart b_H_apart 1 (some FieldType.int)) := C
  obtain ⟨hx, hb, hml, hown, hts, hK, hlk, hN⟩ := id C
  have hl : lv_has ls 1 [(0, .ref a_r0)] := hl
  obtain ⟨Q, hQ⟩ : ∃ Q, Q = MQ below (qI D (w_H_apart cI a_r0 a_r0_now a_r0_now_goes a_r0_now_hampers v_r0_kept v_r0_trial v_r0_hasKept v_r0_steps v_r0_letters v_r0_numbers v_r0_harvest v_r0_fraction v_r0_refusals v_r0_now_weights v_r0_now_kinds v_r0_now_figures v_r0_now_things v_r0_now_fields v_r0_now_done r0_now_days r0_now_goes r0_now_hampers) o A) ([.ref a_r0] : List Value).toArray s 0 0 A := ⟨_, rfl⟩
  rw [← hQ]
  refine lv_aload_n hx hb d_H_apart_0 rfl (lv_at hl 0 rfl) ?_
  refine k_get i_H C hW 0 rfl rfl 0 (by decide) qf_H_10 rfl rfl d_H_apart_1 ?_
  obtain ⟨q_1, hc_1, hr⟩ := ob hr
  have ct_1 := C_Dia_twosApart l D cI cS a_r0_now a_r0_now_goes a_r0_now_hampers v_r0_now_weights v_r0_now_kinds v_r0_now_figures v_r0_now_things v_r0_now_fields v_r0_now_done r0_now_days r0_now_goes r0_now_hampers q_1 hc_1
  refine k_goIp hA hW [1, 2, 3] rfl rfl (k_runS C hA hW mw_Dia_twosApart ms_Dia_twosApart (ct_1.2 _) [1, 2, 3] rfl rfl qm_H_249 ⟨Nat.le_of_ble_eq_true rfl, Nat.le_of_ble_eq_true rfl, Nat.zero_le _, Nat.zero_le _⟩ rfl rfl (Nat.le_of_ble_eq_true rfl) hl.1 d_H_apart_4) (fun H locs hW => ?_)
  obtain rfl := Option.some.inj hr
  rw [hQ]; exact k_iret C hret hW d_H_apart_7
def w_H_refused (cI : ClassId) (a_r0 : Nat) (a_r0_refusals : Nat) (v_r0_now v_r0_kept v_r0_trial v_r0_hasKept v_r0_steps v_r0_letters v_r0_numbers v_r0_harvest v_r0_fraction : Value) (r0_refusals : Nat → Int32) : va_W := [(a_r0, .inr (0, [v_r0_now, v_r0_kept, v_r0_trial, v_r0_hasKept, v_r0_steps, v_r0_letters, v_r0_numbers, v_r0_harvest, v_r0_fraction, .ref a_r0_refusals])), (a_r0_refusals, .inl (cI, 7, .inl r0_refusals))]
def F_H_refused (r0_refusals : Nat → Int32) (x1 : Int32) : Option (Int32 × (Nat → Int32)) :=
  (if (-x1) < 0 then (some (x1, r0_refusals)) else (if (7 : Int32) ≤ (-x1) then (some (x1, r0_refusals)) else (ck (-x1) 7 (ck (-x1) 7 (some (x1, (upd r0_refusals (Int32.toNatClampNeg (-x1)) ((r0_refusals (Int32.toNatClampNeg (-x1))) + 1))))))))
set_option maxHeartbeats 4000000 in
set_option maxRecDepth 100000 in
theorem C_H_refused (l : Launch) (D : va_G) (cI cS : ClassId) (a_r0 : Nat) (a_r0_refusals : Nat) (v_r0_now v_r0_kept v_r0_trial v_r0_hasKept v_r0_steps v_r0_letters v_r0_numbers v_r0_harvest v_r0_fraction : Value) (r0_refusals : Nat → Int32) (x1 : Int32) (o : Int32 × (Nat → Int32)) (hr : F_H_refused r0_refusals x1 = some o) : ctI l y_H_refused (Cond.code y_H_refused b_H_refused 3 (some FieldType.int)) (rmd 0) D (kTy cI cS) [.ref a_r0, .int x1] (w_H_refused cI a_r0 a_r0_refusals v_r0_now v_r0_kept v_r0_trial v_r0_hasKept v_r0_steps v_r0_letters v_r0_numbers v_r0_harvest v_r0_fraction r0_refusals) (w_H_refused cI a_r0 a_r0_refusals v_r0_now v_r0_kept v_r0_trial v_r0_hasKept v_r0_steps v_r0_letters v_r0_numbers v_r0_harvest v_r0_fraction o.2) o.1 := by
  unfold F_H_refused at hr
  refine ⟨rfl, fun sz => ct_of (w0 := (w_H_refused cI a_r0 a_r0_refusals v_r0_now v_r0_kept v_r0_trial v_r0_hasKept v_r0_steps v_r0_letters v_r0_numbers v_r0_harvest v_r0_fraction r0_refusals)) (Qc := fun A => qI D (w_H_refused cI a_r0 a_r0_refusals v_r0_now v_r0_kept v_r0_trial v_r0_hasKept v_r0_steps v_r0_letters v_r0_numbers v_r0_harvest v_r0_fraction o.2) o.1 A) rfl (Nat.le_of_ble_eq_true rfl) ?_ sz⟩
  intro p e s m below meth c A hA C hret ls hl hW
  have C : cx p s m ([.ref a_r0, .int x1] : List Value).toArray meth c b_H_refused 3 R_H D (kTy cI cS) (Cond.code y_H_refused b_H_refused 3 (some FieldType.int)) := C
  obtain ⟨hx, hb, hml, hown, hts, hK, hlk, hN⟩ := id C
  have hl : lv_has ls 3 [(0, .ref a_r0), (1, .int x1)] := hl
  obtain ⟨Q, hQ⟩ : ∃ Q, Q = MQ below (qI D (w_H_refused cI a_r0 a_r0_refusals v_r0_now v_r0_kept v_r0_trial v_r0_hasKept v_r0_steps v_r0_letters v_r0_numbers v_r0_harvest v_r0_fraction o.2) o.1 A) ([.ref a_r0, .int x1] : List Value).toArray s 0 0 A := ⟨_, rfl⟩
  rw [← hQ]
  refine lv_iload_n hx hb d_H_refused_0 rfl (lv_at hl 1 rfl) ?_
  refine lv_ineg hx hb d_H_refused_1 ?_
  refine lv_istore_n (lv' := [(2, .int (-x1)), (0, .ref a_r0), (1, .int x1)]) hx hb d_H_refused_2 rfl hl (by decide) rfl (fun ls hl => ?_)
  refine lv_iload_n hx hb d_H_refused_3 rfl (lv_at hl 0 rfl) ?_
  refine lv_if_lt (tgt := 26) hx hb d_H_refused_4 (by decide) (fun c_1 => ?_) (fun c_1 => ?_)
  · replace hr := ip c_1 hr
    refine lv_iload_n hx hb d_H_refused_26 rfl (lv_at hl 2 rfl) ?_
    obtain rfl := Option.some.inj hr
    rw [hQ]; exact k_iret C hret hW d_H_refused_27
  · replace hr := iN c_1 hr
    refine lv_iload_n hx hb d_H_refused_7 rfl (lv_at hl 0 rfl) ?_
    refine lv_aload_n hx hb d_H_refused_8 rfl (lv_at hl 1 rfl) ?_
    refine k_get i_H C hW 0 rfl rfl 9 (by decide) qf_H_61 rfl rfl d_H_refused_9 ?_
    refine va_alen hx hb hK hW.1 1 0 rfl rfl (v := 7) rfl d_H_refused_12 ?_
    refine lv_icmp_ge (tgt := 26) hx hb d_H_refused_13 (by decide) (fun c_2 => ?_) (fun c_2 => ?_)
    · replace hr := ip c_2 hr
      refine lv_iload_n hx hb d_H_refused_26 rfl (lv_at hl 2 rfl) ?_
      obtain rfl := Option.some.inj hr
      rw [hQ]; exact k_iret C hret hW d_H_refused_27
    · replace hr := iN c_2 hr
      refine lv_aload_n hx hb d_H_refused_16 rfl (lv_at hl 1 rfl) ?_
      refine k_get i_H C hW 0 rfl rfl 9 (by decide) qf_H_61 rfl rfl d_H_refused_17 ?_
      refine lv_iload_n hx hb d_H_refused_20 rfl (lv_at hl 0 rfl) ?_
      refine lv_dup2_11 hx hb d_H_refused_21 rfl rfl ?_
      obtain ⟨h_3, hr⟩ := ck_some hr
      refine k_iald C hW 1 rfl h_3 d_H_refused_22 ?_
      refine lv_iconst (v := 1) hx hb d_H_refused_23 (by decide) ?_
      refine lv_iadd hx hb d_H_refused_24 ?_
      obtain ⟨h_4, hr⟩ := ck_some hr
      refine k_iast C hW 1 rfl h_4 (ws' := (w_H_refused cI a_r0 a_r0_refusals v_r0_now v_r0_kept v_r0_trial v_r0_hasKept v_r0_steps v_r0_letters v_r0_numbers v_r0_harvest v_r0_fraction (upd r0_refusals (Int32.toNatClampNeg (-x1)) ((r0_refusals (Int32.toNatClampNeg (-x1))) + 1)))) rfl d_H_refused_25 (fun H locs hW => ?_)
      refine lv_iload_n hx hb d_H_refused_26 rfl (lv_at hl 2 rfl) ?_
      obtain rfl := Option.some.inj hr
      rw [hQ]; exact k_iret C hret hW d_H_refused_27
def w_H_back (cI cS : ClassId) (a_r0 : Nat) (a_r0_now : Nat) (a_r0_now_fields : Nat) (a_r0_now_fields_lefts : Nat) (a_r0_now_fields_wishes : Nat) (a_r0_now_hampers : Nat) (a_r0_now_weights : Nat) (a_r0_refusals : Nat) (a_r0_steps : Nat) (a_r0_steps_steps : Nat) (s_r0_steps_steps : Nat → Nat) (v_r0_kept v_r0_trial v_r0_hasKept v_r0_letters v_r0_numbers v_r0_harvest v_r0_fraction v_r0_now_kinds v_r0_now_figures v_r0_now_goes v_r0_now_things : Value) (r0_now_days : Int32) (r0_now_done : Int32) (r0_now_fields_lefts : Nat → Int32) (r0_now_fields_wishes : Nat → Int32) (r0_now_hampers : Nat → Int32) (r0_now_weights : Nat → Int32) (r0_refusals : Nat → Int32) (r0_steps_count : Int32) (r0_steps_steps : Nat → Nat) (r0_steps_steps_before : Nat → Int32) (r0_steps_steps_doneBefore : Nat → Int32) (r0_steps_steps_leftBefore : Nat → Int32) (r0_steps_steps_part : Nat → Int32) (r0_steps_steps_place : Nat → Int32) : va_W := [(a_r0, .inr (0, [.ref a_r0_now, v_r0_kept, v_r0_trial, v_r0_hasKept, .ref a_r0_steps, v_r0_letters, v_r0_numbers, v_r0_harvest, v_r0_fraction, .ref a_r0_refusals])), (a_r0_now, .inr (1, [.ref a_r0_now_weights, v_r0_now_kinds, v_r0_now_figures, v_r0_now_goes, v_r0_now_things, .ref a_r0_now_hampers, .int r0_now_days, .ref a_r0_now_fields, .int r0_now_done])), (a_r0_now_fields, .inr (2, [.ref a_r0_now_fields_wishes, .ref a_r0_now_fields_lefts])), (a_r0_now_fields_lefts, .inl (cI, 4, .inl r0_now_fields_lefts)), (a_r0_now_fields_wishes, .inl (cI, 4, .inl r0_now_fields_wishes)), (a_r0_now_hampers, .inl (cI, 8, .inl r0_now_hampers)), (a_r0_now_weights, .inl (cI, 6, .inl r0_now_weights)), (a_r0_refusals, .inl (cI, 7, .inl r0_refusals)), (a_r0_steps, .inr (3, [.ref a_r0_steps_steps, .int r0_steps_count])), (a_r0_steps_steps, .inl (cS, 8, .inr (.inr (.inr (.inr (fun i => some (s_r0_steps_steps (r0_steps_steps i)))))))), (s_r0_steps_steps 0, .inr (4, [.int (r0_steps_steps_part 0), .int (r0_steps_steps_place 0), .int (r0_steps_steps_before 0), .int (r0_steps_steps_leftBefore 0), .int (r0_steps_steps_doneBefore 0)])), (s_r0_steps_steps 1, .inr (4, [.int (r0_steps_steps_part 1), .int (r0_steps_steps_place 1), .int (r0_steps_steps_before 1), .int (r0_steps_steps_leftBefore 1), .int (r0_steps_steps_doneBefore 1)])), (s_r0_steps_steps 2, .inr (4, [.int (r0_steps_steps_part 2), .int (r0_steps_steps_place 2), .int (r0_steps_steps_before 2), .int (r0_steps_steps_leftBefore 2), .int (r0_steps_steps_doneBefore 2)])), (s_r0_steps_steps 3, .inr (4, [.int (r0_steps_steps_part 3), .int (r0_steps_steps_place 3), .int (r0_steps_steps_before 3), .int (r0_steps_steps_leftBefore 3), .int (r0_steps_steps_doneBefore 3)])), (s_r0_steps_steps 4, .inr (4, [.int (r0_steps_steps_part 4), .int (r0_steps_steps_place 4), .int (r0_steps_steps_before 4), .int (r0_steps_steps_leftBefore 4), .int (r0_steps_steps_doneBefore 4)])), (s_r0_steps_steps 5, .inr (4, [.int (r0_steps_steps_part 5), .int (r0_steps_steps_place 5), .int (r0_steps_steps_before 5), .int (r0_steps_steps_leftBefore 5), .int (r0_steps_steps_doneBefore 5)])), (s_r0_steps_steps 6, .inr (4, [.int (r0_steps_steps_part 6), .int (r0_steps_steps_place 6), .int (r0_steps_steps_before 6), .int (r0_steps_steps_leftBefore 6), .int (r0_steps_steps_doneBefore 6)])), (s_r0_steps_steps 7, .inr (4, [.int (r0_steps_steps_part 7), .int (r0_steps_steps_place 7), .int (r0_steps_steps_before 7), .int (r0_steps_steps_leftBefore 7), .int (r0_steps_steps_doneBefore 7)]))]
def F_H_back (r0_now_days : Int32) (r0_now_done : Int32) (r0_now_fields_lefts : Nat → Int32) (r0_now_fields_wishes : Nat → Int32) (r0_now_hampers : Nat → Int32) (r0_now_weights : Nat → Int32) (r0_refusals : Nat → Int32) (r0_steps_count : Int32) (r0_steps_steps : Nat → Nat) (r0_steps_steps_before : Nat → Int32) (r0_steps_steps_doneBefore : Nat → Int32) (r0_steps_steps_leftBefore : Nat → Int32) (r0_steps_steps_part : Nat → Int32) (r0_steps_steps_place : Nat → Int32) : Option (Int32 × (Int32) × (Nat → Int32) × (Nat → Int32) × (Nat → Int32) × (Nat → Int32) × (Nat → Int32) × (Int32)) :=
  (if r0_steps_count = 0 then ((F_H_refused r0_refusals ((-3) : Int32)).bind (fun q_3 => (some (q_3.1, r0_now_done, r0_now_fields_lefts, r0_now_fields_wishes, r0_now_hampers, r0_now_weights, q_3.2, r0_steps_count)))) else ((F_Sps_takeBack r0_steps_count r0_steps_steps r0_steps_steps_before r0_steps_steps_doneBefore r0_steps_steps_leftBefore r0_steps_steps_part r0_steps_steps_place r0_now_days r0_now_done r0_now_fields_lefts r0_now_fields_wishes r0_now_hampers r0_now_weights).bind (fun q_2 => (some (q_2.1, q_2.2.2.1, q_2.2.2.2.1, q_2.2.2.2.2.1, q_2.2.2.2.2.2.1, q_2.2.2.2.2.2.2, r0_refusals, q_2.2.1)))))
set_option maxHeartbeats 4000000 in
set_option maxRecDepth 100000 in
theorem C_H_back (l : Launch) (D : va_G) (cI cS : ClassId) (a_r0 : Nat) (a_r0_now : Nat) (a_r0_now_fields : Nat) (a_r0_now_fields_lefts : Nat) (a_r0_now_fields_wishes : Nat) (a_r0_now_hampers : Nat) (a_r0_now_weights : Nat) (a_r0_refusals : Nat) (a_r0_steps : Nat) (a_r0_steps_steps : Nat) (s_r0_steps_steps : Nat → Nat) (v_r0_kept v_r0_trial v_r0_hasKept v_r0_letters v_r0_numbers v_r0_harvest v_r0_fraction v_r0_now_kinds v_r0_now_figures v_r0_now_goes v_r0_now_things : Value) (r0_now_days : Int32) (r0_now_done : Int32) (r0_now_fields_lefts : Nat → Int32) (r0_now_fields_wishes : Nat → Int32) (r0_now_hampers : Nat → Int32) (r0_now_weights : Nat → Int32) (r0_refusals : Nat → Int32) (r0_steps_count : Int32) (r0_steps_steps : Nat → Nat) (r0_steps_steps_before : Nat → Int32) (r0_steps_steps_doneBefore : Nat → Int32) (r0_steps_steps_leftBefore : Nat → Int32) (r0_steps_steps_part : Nat → Int32) (r0_steps_steps_place : Nat → Int32) (o : Int32 × (Int32) × (Nat → Int32) × (Nat → Int32) × (Nat → Int32) × (Nat → Int32) × (Nat → Int32) × (Int32)) (hr : F_H_back r0_now_days r0_now_done r0_now_fields_lefts r0_now_fields_wishes r0_now_hampers r0_now_weights r0_refusals r0_steps_count r0_steps_steps r0_steps_steps_before r0_steps_steps_doneBefore r0_steps_steps_leftBefore r0_steps_steps_part r0_steps_steps_place = some o) : ctI l y_H_back (Cond.code y_H_back b_H_back 1 (some FieldType.int)) (rmd 3) D (kTy cI cS) [.ref a_r0] (w_H_back cI cS a_r0 a_r0_now a_r0_now_fields a_r0_now_fields_lefts a_r0_now_fields_wishes a_r0_now_hampers a_r0_now_weights a_r0_refusals a_r0_steps a_r0_steps_steps s_r0_steps_steps v_r0_kept v_r0_trial v_r0_hasKept v_r0_letters v_r0_numbers v_r0_harvest v_r0_fraction v_r0_now_kinds v_r0_now_figures v_r0_now_goes v_r0_now_things r0_now_days r0_now_done r0_now_fields_lefts r0_now_fields_wishes r0_now_hampers r0_now_weights r0_refusals r0_steps_count r0_steps_steps r0_steps_steps_before r0_steps_steps_doneBefore r0_steps_steps_leftBefore r0_steps_steps_part r0_steps_steps_place) (w_H_back cI cS a_r0 a_r0_now a_r0_now_fields a_r0_now_fields_lefts a_r0_now_fields_wishes a_r0_now_hampers a_r0_now_weights a_r0_refusals a_r0_steps a_r0_steps_steps s_r0_steps_steps v_r0_kept v_r0_trial v_r0_hasKept v_r0_letters v_r0_numbers v_r0_harvest v_r0_fraction v_r0_now_kinds v_r0_now_figures v_r0_now_goes v_r0_now_things r0_now_days o.2.1 o.2.2.1 o.2.2.2.1 o.2.2.2.2.1 o.2.2.2.2.2.1 o.2.2.2.2.2.2.1 o.2.2.2.2.2.2.2 r0_steps_steps r0_steps_steps_before r0_steps_steps_doneBefore r0_steps_steps_leftBefore r0_steps_steps_part r0_steps_steps_place) o.1 := by
  unfold F_H_back at hr
  refine ⟨rfl, fun sz => ct_of (w0 := (w_H_back cI cS a_r0 a_r0_now a_r0_now_fields a_r0_now_fields_lefts a_r0_now_fields_wishes a_r0_now_hampers a_r0_now_weights a_r0_refusals a_r0_steps a_r0_steps_steps s_r0_steps_steps v_r0_kept v_r0_trial v_r0_hasKept v_r0_letters v_r0_numbers v_r0_harvest v_r0_fraction v_r0_now_kinds v_r0_now_figures v_r0_now_goes v_r0_now_things r0_now_days r0_now_done r0_now_fields_lefts r0_now_fields_wishes r0_now_hampers r0_now_weights r0_refusals r0_steps_count r0_steps_steps r0_steps_steps_before r0_steps_steps_doneBefore r0_steps_steps_leftBefore r0_steps_steps_part r0_steps_steps_place)) (Qc := fun A => qI D (w_H_back cI cS a_r0 a_r0_now a_r0_now_fields a_r0_now_fields_lefts a_r0_now_fields_wishes a_r0_now_hampers a_r0_now_weights a_r0_refusals a_r0_steps a_r0_steps_steps s_r0_steps_steps v_r0_kept v_r0_trial v_r0_hasKept v_r0_letters v_r0_numbers v_r0_harvest v_r0_fraction v_r0_now_kinds v_r0_now_figures v_r0_now_goes v_r0_now_things r0_now_days o.2.1 o.2.2.1 o.2.2.2.1 o.2.2.2.2.1 o.2.2.2.2.2.1 o.2.2.2.2.2.2.1 o.2.2.2.2.2.2.2 r0_steps_steps r0_steps_steps_before r0_steps_steps_doneBefore r0_steps_steps_leftBefore r0_steps_steps_part r0_steps_steps_place) o.1 A) rfl (Nat.le_of_ble_eq_true rfl) ?_ sz⟩
  intro p e s m below meth c A hA C hret ls hl hW
  have C : cx p s m ([.ref a_r0] : List Value).toArray meth c b_H_back 1 R_H D (kTy cI cS) (Cond.code y_H_back b_H_back 1 (some FieldType.int)) := C
  obtain ⟨hx, hb, hml, hown, hts, hK, hlk, hN⟩ := id C
  have hl : lv_has ls 1 [(0, .ref a_r0)] := hl
  obtain ⟨Q, hQ⟩ : ∃ Q, Q = MQ below (qI D (w_H_back cI cS a_r0 a_r0_now a_r0_now_fields a_r0_now_fields_lefts a_r0_now_fields_wishes a_r0_now_hampers a_r0_now_weights a_r0_refusals a_r0_steps a_r0_steps_steps s_r0_steps_steps v_r0_kept v_r0_trial v_r0_hasKept v_r0_letters v_r0_numbers v_r0_harvest v_r0_fraction v_r0_now_kinds v_r0_now_figures v_r0_now_goes v_r0_now_things r0_now_days o.2.1 o.2.2.1 o.2.2.2.1 o.2.2.2.2.1 o.2.2.2.2.2.1 o.2.2.2.2.2.2.1 o.2.2.2.2.2.2.2 r0_steps_steps r0_steps_steps_before r0_steps_steps_doneBefore r0_steps_steps_leftBefore r0_steps_steps_part r0_steps_steps_place) o.1 A) ([.ref a_r0] : List Value).toArray s 0 0 A := ⟨_, rfl⟩
  rw [← hQ]
  refine lv_aload_n hx hb d_H_back_0 rfl (lv_at hl 0 rfl) ?_
  refine k_get i_H C hW 0 rfl rfl 4 (by decide) qf_H_29 rfl rfl d_H_back_1 ?_
  refine k_getN i_Sps C hW 8 rfl rfl 1 (by decide) qf_H_84 rfl rfl d_H_back_4 ?_
  refine lv_if_ne (tgt := 17) hx hb d_H_back_7 (by decide) (fun c_1 => ?_) (fun c_1 => ?_)
  · replace hr := iN c_1 hr
    refine lv_aload_n hx hb d_H_back_17 rfl (lv_at hl 0 rfl) ?_
    refine k_get i_H C hW 0 rfl rfl 4 (by decide) qf_H_29 rfl rfl d_H_back_18 ?_
    refine lv_aload_n hx hb d_H_back_21 rfl (lv_at hl 0 rfl) ?_
    refine k_get i_H C hW 0 rfl rfl 0 (by decide) qf_H_10 rfl rfl d_H_back_22 ?_
    obtain ⟨q_2, hc_2, hr⟩ := ob hr
    have ct_2 := C_Sps_takeBack l D cI cS a_r0_steps a_r0_steps_steps s_r0_steps_steps a_r0_now a_r0_now_fields a_r0_now_fields_lefts a_r0_now_fields_wishes a_r0_now_hampers a_r0_now_weights v_r0_now_kinds v_r0_now_figures v_r0_now_goes v_r0_now_things r0_steps_count r0_steps_steps r0_steps_steps_before r0_steps_steps_doneBefore r0_steps_steps_leftBefore r0_steps_steps_part r0_steps_steps_place r0_now_days r0_now_done r0_now_fields_lefts r0_now_fields_wishes r0_now_hampers r0_now_weights q_2 hc_2
    refine k_goI hA hW [8, 9, 10, 11, 12, 13, 14, 15, 16, 17, 1, 2, 3, 4, 5, 6] rfl ct_2.1 (ws' := (w_H_back cI cS a_r0 a_r0_now a_r0_now_fields a_r0_now_fields_lefts a_r0_now_fields_wishes a_r0_now_hampers a_r0_now_weights a_r0_refusals a_r0_steps a_r0_steps_steps s_r0_steps_steps v_r0_kept v_r0_trial v_r0_hasKept v_r0_letters v_r0_numbers v_r0_harvest v_r0_fraction v_r0_now_kinds v_r0_now_figures v_r0_now_goes v_r0_now_things r0_now_days q_2.2.2.1 q_2.2.2.2.1 q_2.2.2.2.2.1 q_2.2.2.2.2.2.1 q_2.2.2.2.2.2.2 r0_refusals q_2.2.1 r0_steps_steps r0_steps_steps_before r0_steps_steps_doneBefore r0_steps_steps_leftBefore r0_steps_steps_part r0_steps_steps_place)) rfl (k_runV C hA hW mw_Sps_takeBack mv_Sps_takeBack (ct_2.2 _) [8, 9, 10, 11, 12, 13, 14, 15, 16, 17, 1, 2, 3, 4, 5, 6] rfl rfl 8 rfl rfl qm_H_204 ⟨Nat.le_of_ble_eq_true rfl, Nat.le_of_ble_eq_true rfl, Nat.zero_le _, Nat.zero_le _⟩ rfl rfl (Nat.le_of_ble_eq_true rfl) hl.1 d_H_back_25) (fun H locs hW => ?_)
    obtain rfl := Option.some.inj hr
    rw [hQ]; exact k_iret C hret hW d_H_back_28
  · replace hr := ip c_1 hr
    refine lv_aload_n hx hb d_H_back_10 rfl (lv_at hl 0 rfl) ?_
    refine lv_bipush (v := (-3)) hx hb d_H_back_11 (by decide) ?_
    obtain ⟨q_3, hc_3, hr⟩ := ob hr
    have ct_3 := C_H_refused l D cI cS a_r0 a_r0_refusals (Value.ref a_r0_now) v_r0_kept v_r0_trial v_r0_hasKept (Value.ref a_r0_steps) v_r0_letters v_r0_numbers v_r0_harvest v_r0_fraction r0_refusals (-3) q_3 hc_3
    refine k_goI hA hW [0, 7] rfl ct_3.1 (ws' := (w_H_back cI cS a_r0 a_r0_now a_r0_now_fields a_r0_now_fields_lefts a_r0_now_fields_wishes a_r0_now_hampers a_r0_now_weights a_r0_refusals a_r0_steps a_r0_steps_steps s_r0_steps_steps v_r0_kept v_r0_trial v_r0_hasKept v_r0_letters v_r0_numbers v_r0_harvest v_r0_fraction v_r0_now_kinds v_r0_now_figures v_r0_now_goes v_r0_now_things r0_now_days r0_now_done r0_now_fields_lefts r0_now_fields_wishes r0_now_hampers r0_now_weights q_3.2 r0_steps_count r0_steps_steps r0_steps_steps_before r0_steps_steps_doneBefore r0_steps_steps_leftBefore r0_steps_steps_part r0_steps_steps_place)) rfl (k_runV C hA hW mw_H_refused mv_H_refused (ct_3.2 _) [0, 7] rfl rfl 0 rfl rfl qm_H_65 ⟨Nat.le_of_ble_eq_true rfl, Nat.le_of_ble_eq_true rfl, Nat.zero_le _, Nat.zero_le _⟩ rfl rfl (Nat.le_of_ble_eq_true rfl) hl.1 d_H_back_13) (fun H locs hW => ?_)
    obtain rfl := Option.some.inj hr
    rw [hQ]; exact k_iret C hret hW d_H_back_16
def w_H_bet (cI : ClassId) (a_r0 : Nat) (a_r0_now : Nat) (a_r0_now_figures : Nat) (a_r0_now_hampers : Nat) (a_r0_now_kinds : Nat) (a_r0_refusals : Nat) (v_r0_kept v_r0_trial v_r0_hasKept v_r0_steps v_r0_letters v_r0_numbers v_r0_harvest v_r0_fraction v_r0_now_weights v_r0_now_goes v_r0_now_things v_r0_now_fields v_r0_now_done : Value) (r0_now_days : Int32) (r0_now_figures : Nat → Int32) (r0_now_hampers : Nat → Int32) (r0_now_kinds : Nat → Int32) (r0_refusals : Nat → Int32) : va_W := [(a_r0, .inr (0, [.ref a_r0_now, v_r0_kept, v_r0_trial, v_r0_hasKept, v_r0_steps, v_r0_letters, v_r0_numbers, v_r0_harvest, v_r0_fraction, .ref a_r0_refusals])), (a_r0_now, .inr (1, [v_r0_now_weights, .ref a_r0_now_kinds, .ref a_r0_now_figures, v_r0_now_goes, v_r0_now_things, .ref a_r0_now_hampers, .int r0_now_days, v_r0_now_fields, v_r0_now_done])), (a_r0_now_figures, .inl (cI, 8, .inl r0_now_figures)), (a_r0_now_hampers, .inl (cI, 8, .inl r0_now_hampers)), (a_r0_now_kinds, .inl (cI, 8, .inl r0_now_kinds)), (a_r0_refusals, .inl (cI, 7, .inl r0_refusals))]
def F_H_bet_J27_3 (r0_refusals : Nat → Int32) : Option (Int32 × (Nat → Int32)) :=
  ((F_H_refused r0_refusals ((-1) : Int32)).bind (fun q_4 => (some (q_4.1, q_4.2))))
def F_H_bet (r0_now_days : Int32) (r0_now_figures : Nat → Int32) (r0_now_hampers : Nat → Int32) (r0_now_kinds : Nat → Int32) (r0_refusals : Nat → Int32) (x1 : Int32) (x2 : Int32) : Option (Int32 × (Nat → Int32)) :=
  ((F_Sta_hasDay r0_now_days x1).bind (fun q_1 => (if q_1 = 0 then (F_H_bet_J27_3 r0_refusals) else ((F_Sta_hasDay r0_now_days x2).bind (fun q_5 => (if q_5 = 0 then (F_H_bet_J27_3 r0_refusals) else (if x1 = x2 then (F_H_bet_J27_3 r0_refusals) else (ck x1 8 ((F_Sta_dearOf r0_now_figures r0_now_kinds (r0_now_hampers (Int32.toNatClampNeg x1))).bind (fun q_9 => (ck x2 8 ((F_Sta_dearOf r0_now_figures r0_now_kinds (r0_now_hampers (Int32.toNatClampNeg x2))).bind (fun q_11 => ((F_Dia_firstSettledBet q_9 q_11).bind (fun q_12 => (some (q_12, r0_refusals)))))))))))))))))
set_option maxHeartbeats 4000000 in
set_option maxRecDepth 100000 in
theorem C_H_bet (l : Launch) (D : va_G) (cI cS : ClassId) (a_r0 : Nat) (a_r0_now : Nat) (a_r0_now_figures : Nat) (a_r0_now_hampers : Nat) (a_r0_now_kinds : Nat) (a_r0_refusals : Nat) (v_r0_kept v_r0_trial v_r0_hasKept v_r0_steps v_r0_letters v_r0_numbers v_r0_harvest v_r0_fraction v_r0_now_weights v_r0_now_goes v_r0_now_things v_r0_now_fields v_r0_now_done : Value) (r0_now_days : Int32) (r0_now_figures : Nat → Int32) (r0_now_hampers : Nat → Int32) (r0_now_kinds : Nat → Int32) (r0_refusals : Nat → Int32) (x1 : Int32) (x2 : Int32) (o : Int32 × (Nat → Int32)) (hr : F_H_bet r0_now_days r0_now_figures r0_now_hampers r0_now_kinds r0_refusals x1 x2 = some o) : ctI l y_H_bet (Cond.code y_H_bet b_H_bet 3 (some FieldType.int)) (rmd 3) D (kTy cI cS) [.ref a_r0, .int x1, .int x2] (w_H_bet cI a_r0 a_r0_now a_r0_now_figures a_r0_now_hampers a_r0_now_kinds a_r0_refusals v_r0_kept v_r0_trial v_r0_hasKept v_r0_steps v_r0_letters v_r0_numbers v_r0_harvest v_r0_fraction v_r0_now_weights v_r0_now_goes v_r0_now_things v_r0_now_fields v_r0_now_done r0_now_days r0_now_figures r0_now_hampers r0_now_kinds r0_refusals) (w_H_bet cI a_r0 a_r0_now a_r0_now_figures a_r0_now_hampers a_r0_now_kinds a_r0_refusals v_r0_kept v_r0_trial v_r0_hasKept v_r0_steps v_r0_letters v_r0_numbers v_r0_harvest v_r0_fraction v_r0_now_weights v_r0_now_goes v_r0_now_things v_r0_now_fields v_r0_now_done r0_now_days r0_now_figures r0_now_hampers r0_now_kinds o.2) o.1 := by
  unfold F_H_bet at hr
  refine ⟨rfl, fun sz => ct_of (w0 := (w_H_bet cI a_r0 a_r0_now a_r0_now_figures a_r0_now_hampers a_r0_now_kinds a_r0_refusals v_r0_kept v_r0_trial v_r0_hasKept v_r0_steps v_r0_letters v_r0_numbers v_r0_harvest v_r0_fraction v_r0_now_weights v_r0_now_goes v_r0_now_things v_r0_now_fields v_r0_now_done r0_now_days r0_now_figures r0_now_hampers r0_now_kinds r0_refusals)) (Qc := fun A => qI D (w_H_bet cI a_r0 a_r0_now a_r0_now_figures a_r0_now_hampers a_r0_now_kinds a_r0_refusals v_r0_kept v_r0_trial v_r0_hasKept v_r0_steps v_r0_letters v_r0_numbers v_r0_harvest v_r0_fraction v_r0_now_weights v_r0_now_goes v_r0_now_things v_r0_now_fields v_r0_now_done r0_now_days r0_now_figures r0_now_hampers r0_now_kinds o.2) o.1 A) rfl (Nat.le_of_ble_eq_true rfl) ?_ sz⟩
  intro p e s m below meth c A hA C hret ls hl hW
  have C : cx p s m ([.ref a_r0, .int x1, .int x2] : List Value).toArray meth c b_H_bet 3 R_H D (kTy cI cS) (Cond.code y_H_bet b_H_bet 3 (some FieldType.int)) := C
  obtain ⟨hx, hb, hml, hown, hts, hK, hlk, hN⟩ := id C
  have hl : lv_has ls 3 [(0, .ref a_r0), (1, .int x1), (2, .int x2)] := hl
  obtain ⟨Q, hQ⟩ : ∃ Q, Q = MQ below (qI D (w_H_bet cI a_r0 a_r0_now a_r0_now_figures a_r0_now_hampers a_r0_now_kinds a_r0_refusals v_r0_kept v_r0_trial v_r0_hasKept v_r0_steps v_r0_letters v_r0_numbers v_r0_harvest v_r0_fraction v_r0_now_weights v_r0_now_goes v_r0_now_things v_r0_now_fields v_r0_now_done r0_now_days r0_now_figures r0_now_hampers r0_now_kinds o.2) o.1 A) ([.ref a_r0, .int x1, .int x2] : List Value).toArray s 0 0 A := ⟨_, rfl⟩
  rw [← hQ]
  refine lv_aload_n hx hb d_H_bet_0 rfl (lv_at hl 0 rfl) ?_
  refine k_get i_H C hW 0 rfl rfl 0 (by decide) qf_H_10 rfl rfl d_H_bet_1 ?_
  refine lv_iload_n hx hb d_H_bet_4 rfl (lv_at hl 1 rfl) ?_
  obtain ⟨q_1, hc_1, hr⟩ := ob hr
  have ct_1 := C_Sta_hasDay l D cI cS a_r0_now v_r0_now_weights (Value.ref a_r0_now_kinds) (Value.ref a_r0_now_figures) v_r0_now_goes v_r0_now_things (Value.ref a_r0_now_hampers) v_r0_now_fields v_r0_now_done r0_now_days x1 q_1 hc_1
  refine k_goIp hA hW [1] rfl rfl (k_runV C hA hW mw_Sta_hasDay mv_Sta_hasDay (ct_1.2 _) [1] rfl rfl 1 rfl rfl qm_H_107 ⟨Nat.le_of_ble_eq_true rfl, Nat.le_of_ble_eq_true rfl, Nat.zero_le _, Nat.zero_le _⟩ rfl rfl (Nat.le_of_ble_eq_true rfl) hl.1 d_H_bet_5) (fun H locs hW => ?_)
  have hJ_3 : ∀ (_ : Unit), F_H_bet_J27_3 r0_refusals = some o → ∀ (H : Heap) (locs : List Loc) (ls : Array Slot), wd A s.heap D (w_H_bet cI a_r0 a_r0_now a_r0_now_figures a_r0_now_hampers a_r0_now_kinds a_r0_refusals v_r0_kept v_r0_trial v_r0_hasKept v_r0_steps v_r0_letters v_r0_numbers v_r0_harvest v_r0_fraction v_r0_now_weights v_r0_now_goes v_r0_now_things v_r0_now_fields v_r0_now_done r0_now_days r0_now_figures r0_now_hampers r0_now_kinds r0_refusals) H locs → lv_has ls 3 [(0, .ref a_r0)] → W p l e (rmd 3) s m ([.ref a_r0, .int x1, .int x2] : List Value).toArray below meth c H locs 0 0 Q (F0 m 27 ls []) := by
    intro _ hr H locs ls hW hl
    unfold F_H_bet_J27_3 at hr
    refine lv_aload_n hx hb d_H_bet_27 rfl (lv_at hl 0 rfl) ?_
    refine lv_iconst (v := (-1)) hx hb d_H_bet_28 (by decide) ?_
    obtain ⟨q_4, hc_4, hr⟩ := ob hr
    have ct_4 := C_H_refused l D cI cS a_r0 a_r0_refusals (Value.ref a_r0_now) v_r0_kept v_r0_trial v_r0_hasKept v_r0_steps v_r0_letters v_r0_numbers v_r0_harvest v_r0_fraction r0_refusals (-1) q_4 hc_4
    refine k_goI hA hW [0, 5] rfl ct_4.1 (ws' := (w_H_bet cI a_r0 a_r0_now a_r0_now_figures a_r0_now_hampers a_r0_now_kinds a_r0_refusals v_r0_kept v_r0_trial v_r0_hasKept v_r0_steps v_r0_letters v_r0_numbers v_r0_harvest v_r0_fraction v_r0_now_weights v_r0_now_goes v_r0_now_things v_r0_now_fields v_r0_now_done r0_now_days r0_now_figures r0_now_hampers r0_now_kinds q_4.2)) rfl (k_runV C hA hW mw_H_refused mv_H_refused (ct_4.2 _) [0, 5] rfl rfl 0 rfl rfl qm_H_65 ⟨Nat.le_of_ble_eq_true rfl, Nat.le_of_ble_eq_true rfl, Nat.zero_le _, Nat.zero_le _⟩ rfl rfl (Nat.le_of_ble_eq_true rfl) hl.1 d_H_bet_29) (fun H locs hW => ?_)
    obtain rfl := Option.some.inj hr
    rw [hQ]; exact k_iret C hret hW d_H_bet_32
  refine lv_if_eq (tgt := 27) hx hb d_H_bet_8 (by decide) (fun c_2 => ?_) (fun c_2 => ?_)
  · replace hr := ip c_2 hr
    exact hJ_3 () hr _ _ _ hW (lv_sub hl [0] rfl)
  · replace hr := iN c_2 hr
    refine lv_aload_n hx hb d_H_bet_11 rfl (lv_at hl 0 rfl) ?_
    refine k_get i_H C hW 0 rfl rfl 0 (by decide) qf_H_10 rfl rfl d_H_bet_12 ?_
    refine lv_iload_n hx hb d_H_bet_15 rfl (lv_at hl 2 rfl) ?_
    obtain ⟨q_5, hc_5, hr⟩ := ob hr
    have ct_5 := C_Sta_hasDay l D cI cS a_r0_now v_r0_now_weights (Value.ref a_r0_now_kinds) (Value.ref a_r0_now_figures) v_r0_now_goes v_r0_now_things (Value.ref a_r0_now_hampers) v_r0_now_fields v_r0_now_done r0_now_days x2 q_5 hc_5
    refine k_goIp hA hW [1] rfl rfl (k_runV C hA hW mw_Sta_hasDay mv_Sta_hasDay (ct_5.2 _) [1] rfl rfl 1 rfl rfl qm_H_107 ⟨Nat.le_of_ble_eq_true rfl, Nat.le_of_ble_eq_true rfl, Nat.zero_le _, Nat.zero_le _⟩ rfl rfl (Nat.le_of_ble_eq_true rfl) hl.1 d_H_bet_16) (fun H locs hW => ?_)
    refine lv_if_eq (tgt := 27) hx hb d_H_bet_19 (by decide) (fun c_6 => ?_) (fun c_6 => ?_)
    · replace hr := ip c_6 hr
      exact hJ_3 () hr _ _ _ hW (lv_sub hl [0] rfl)
    · replace hr := iN c_6 hr
      refine lv_iload_n hx hb d_H_bet_22 rfl (lv_at hl 1 rfl) ?_
      refine lv_iload_n hx hb d_H_bet_23 rfl (lv_at hl 2 rfl) ?_
      refine lv_icmp_ne (tgt := 33) hx hb d_H_bet_24 (by decide) (fun c_7 => ?_) (fun c_7 => ?_)
      · replace hr := iN c_7 hr
        refine lv_aload_n hx hb d_H_bet_33 rfl (lv_at hl 0 rfl) ?_
        refine k_get i_H C hW 0 rfl rfl 0 (by decide) qf_H_10 rfl rfl d_H_bet_34 ?_
        refine lv_aload_n hx hb d_H_bet_37 rfl (lv_at hl 0 rfl) ?_
        refine k_get i_H C hW 0 rfl rfl 0 (by decide) qf_H_10 rfl rfl d_H_bet_38 ?_
        refine k_getN i_Sta C hW 1 rfl rfl 5 (by decide) qf_H_110 rfl rfl d_H_bet_41 ?_
        refine lv_iload_n hx hb d_H_bet_44 rfl (lv_at hl 1 rfl) ?_
        obtain ⟨h_8, hr⟩ := ck_some hr
        refine k_iald C hW 3 rfl h_8 d_H_bet_45 ?_
        obtain ⟨q_9, hc_9, hr⟩ := ob hr
        have ct_9 := C_Sta_dearOf l D cI cS a_r0_now a_r0_now_figures a_r0_now_kinds v_r0_now_weights v_r0_now_goes v_r0_now_things (Value.ref a_r0_now_hampers) (Value.int r0_now_days) v_r0_now_fields v_r0_now_done r0_now_figures r0_now_kinds (r0_now_hampers (Int32.toNatClampNeg x1)) q_9 hc_9
        refine k_goIp hA hW [1, 2, 4] rfl rfl (k_runV C hA hW mw_Sta_dearOf mv_Sta_dearOf (ct_9.2 _) [1, 2, 4] rfl rfl 1 rfl rfl qm_H_122 ⟨Nat.le_of_ble_eq_true rfl, Nat.le_of_ble_eq_true rfl, Nat.zero_le _, Nat.zero_le _⟩ rfl rfl (Nat.le_of_ble_eq_true rfl) hl.1 d_H_bet_46) (fun H locs hW => ?_)
        refine lv_aload_n hx hb d_H_bet_49 rfl (lv_at hl 0 rfl) ?_
        refine k_get i_H C hW 0 rfl rfl 0 (by decide) qf_H_10 rfl rfl d_H_bet_50 ?_
        refine lv_aload_n hx hb d_H_bet_53 rfl (lv_at hl 0 rfl) ?_
        refine k_get i_H C hW 0 rfl rfl 0 (by decide) qf_H_10 rfl rfl d_H_bet_54 ?_
        refine k_getN i_Sta C hW 1 rfl rfl 5 (by decide) qf_H_110 rfl rfl d_H_bet_57 ?_
        refine lv_iload_n hx hb d_H_bet_60 rfl (lv_at hl 2 rfl) ?_
        obtain ⟨h_10, hr⟩ := ck_some hr
        refine k_iald C hW 3 rfl h_10 d_H_bet_61 ?_
        obtain ⟨q_11, hc_11, hr⟩ := ob hr
        have ct_11 := C_Sta_dearOf l D cI cS a_r0_now a_r0_now_figures a_r0_now_kinds v_r0_now_weights v_r0_now_goes v_r0_now_things (Value.ref a_r0_now_hampers) (Value.int r0_now_days) v_r0_now_fields v_r0_now_done r0_now_figures r0_now_kinds (r0_now_hampers (Int32.toNatClampNeg x2)) q_11 hc_11
        refine k_goIp hA hW [1, 2, 4] rfl rfl (k_runV C hA hW mw_Sta_dearOf mv_Sta_dearOf (ct_11.2 _) [1, 2, 4] rfl rfl 1 rfl rfl qm_H_122 ⟨Nat.le_of_ble_eq_true rfl, Nat.le_of_ble_eq_true rfl, Nat.zero_le _, Nat.zero_le _⟩ rfl rfl (Nat.le_of_ble_eq_true rfl) hl.1 d_H_bet_62) (fun H locs hW => ?_)
        obtain ⟨q_12, hc_12, hr⟩ := ob hr
        have ct_12 := C_Dia_firstSettledBet l D cI cS q_9 q_11 q_12 hc_12
        refine k_goIp hA hW [] rfl rfl (k_runS C hA hW mw_Dia_firstSettledBet ms_Dia_firstSettledBet (ct_12.2 _) [] rfl rfl qm_H_303 ⟨Nat.le_of_ble_eq_true rfl, Nat.le_of_ble_eq_true rfl, Nat.zero_le _, Nat.zero_le _⟩ rfl rfl (Nat.le_of_ble_eq_true rfl) hl.1 d_H_bet_65) (fun H locs hW => ?_)
        obtain rfl := Option.some.inj hr
        rw [hQ]; exact k_iret C hret hW d_H_bet_68
      · replace hr := ip c_7 hr
        exact hJ_3 () hr _ _ _ hW (lv_sub hl [0] rfl)
def w_H_clear (cI : ClassId) (a_r0 : Nat) (a_r0_numbers : Nat) (v_r0_now v_r0_kept v_r0_trial v_r0_hasKept v_r0_steps v_r0_letters v_r0_harvest v_r0_fraction v_r0_refusals v_r0_numbers_numbers : Value) (r0_numbers_count : Int32) : va_W := [(a_r0, .inr (0, [v_r0_now, v_r0_kept, v_r0_trial, v_r0_hasKept, v_r0_steps, v_r0_letters, .ref a_r0_numbers, v_r0_harvest, v_r0_fraction, v_r0_refusals])), (a_r0_numbers, .inr (6, [v_r0_numbers_numbers, .int r0_numbers_count]))]
def F_H_clear (r0_numbers_count : Int32) : Option (Int32 × (Int32)) :=
  (some (r0_numbers_count, 0))
set_option maxHeartbeats 4000000 in
set_option maxRecDepth 100000 in
theorem C_H_clear (l : Launch) (D : va_G) (cI cS : ClassId) (a_r0 : Nat) (a_r0_numbers : Nat) (v_r0_now v_r0_kept v_r0_trial v_r0_hasKept v_r0_steps v_r0_letters v_r0_harvest v_r0_fraction v_r0_refusals v_r0_numbers_numbers : Value) (r0_numbers_count : Int32) (o : Int32 × (Int32)) (hr : F_H_clear r0_numbers_count = some o) : ctI l y_H_clear (Cond.code y_H_clear b_H_clear 2 (some FieldType.int)) (rmd 0) D (kTy cI cS) [.ref a_r0] (w_H_clear cI a_r0 a_r0_numbers v_r0_now v_r0_kept v_r0_trial v_r0_hasKept v_r0_steps v_r0_letters v_r0_harvest v_r0_fraction v_r0_refusals v_r0_numbers_numbers r0_numbers_count) (w_H_clear cI a_r0 a_r0_numbers v_r0_now v_r0_kept v_r0_trial v_r0_hasKept v_r0_steps v_r0_letters v_r0_harvest v_r0_fraction v_r0_refusals v_r0_numbers_numbers o.2) o.1 := by
  unfold F_H_clear at hr
  refine ⟨rfl, fun sz => ct_of (w0 := (w_H_clear cI a_r0 a_r0_numbers v_r0_now v_r0_kept v_r0_trial v_r0_hasKept v_r0_steps v_r0_letters v_r0_harvest v_r0_fraction v_r0_refusals v_r0_numbers_numbers r0_numbers_count)) (Qc := fun A => qI D (w_H_clear cI a_r0 a_r0_numbers v_r0_now v_r0_kept v_r0_trial v_r0_hasKept v_r0_steps v_r0_letters v_r0_harvest v_r0_fraction v_r0_refusals v_r0_numbers_numbers o.2) o.1 A) rfl (Nat.le_of_ble_eq_true rfl) ?_ sz⟩
  intro p e s m below meth c A hA C hret ls hl hW
  have C : cx p s m ([.ref a_r0] : List Value).toArray meth c b_H_clear 2 R_H D (kTy cI cS) (Cond.code y_H_clear b_H_clear 2 (some FieldType.int)) := C
  obtain ⟨hx, hb, hml, hown, hts, hK, hlk, hN⟩ := id C
  have hl : lv_has ls 2 [(0, .ref a_r0)] := hl
  obtain ⟨Q, hQ⟩ : ∃ Q, Q = MQ below (qI D (w_H_clear cI a_r0 a_r0_numbers v_r0_now v_r0_kept v_r0_trial v_r0_hasKept v_r0_steps v_r0_letters v_r0_harvest v_r0_fraction v_r0_refusals v_r0_numbers_numbers o.2) o.1 A) ([.ref a_r0] : List Value).toArray s 0 0 A := ⟨_, rfl⟩
  rw [← hQ]
  refine lv_aload_n hx hb d_H_clear_0 rfl (lv_at hl 0 rfl) ?_
  refine k_get i_H C hW 0 rfl rfl 6 (by decide) qf_H_43 rfl rfl d_H_clear_1 ?_
  refine k_getN i_Num C hW 1 rfl rfl 1 (by decide) qf_H_347 rfl rfl d_H_clear_4 ?_
  refine lv_istore_n (lv' := [(1, .int r0_numbers_count), (0, .ref a_r0)]) hx hb d_H_clear_7 rfl hl (by decide) rfl (fun ls hl => ?_)
  refine lv_aload_n hx hb d_H_clear_8 rfl (lv_at hl 1 rfl) ?_
  refine k_get i_H C hW 0 rfl rfl 6 (by decide) qf_H_43 rfl rfl d_H_clear_9 ?_
  refine lv_iconst (v := 0) hx hb d_H_clear_12 (by decide) ?_
  refine k_putN i_Num t_Num_ok n_Num C hW 1 rfl rfl 1 (by decide) qf_H_347 rfl rfl (ty := .int) rfl rfl rfl (Nat.le_of_ble_eq_true rfl) (ws' := (w_H_clear cI a_r0 a_r0_numbers v_r0_now v_r0_kept v_r0_trial v_r0_hasKept v_r0_steps v_r0_letters v_r0_harvest v_r0_fraction v_r0_refusals v_r0_numbers_numbers 0)) rfl d_H_clear_13 (fun H locs hW => ?_)
  refine lv_iload_n hx hb d_H_clear_16 rfl (lv_at hl 0 rfl) ?_
  obtain rfl := Option.some.inj hr
  rw [hQ]; exact k_iret C hret hW d_H_clear_17
def w_H_codes (cI : ClassId) (a_r0 : Nat) (a_r0_now : Nat) (a_r0_now_goes : Nat) (a_r0_refusals : Nat) (v_r0_kept v_r0_trial v_r0_hasKept v_r0_steps v_r0_letters v_r0_numbers v_r0_harvest v_r0_fraction v_r0_now_weights v_r0_now_kinds v_r0_now_figures v_r0_now_hampers v_r0_now_days v_r0_now_fields v_r0_now_done : Value) (r0_now_things : Int32) (r0_now_goes : Nat → Int32) (r0_refusals : Nat → Int32) : va_W := [(a_r0, .inr (0, [.ref a_r0_now, v_r0_kept, v_r0_trial, v_r0_hasKept, v_r0_steps, v_r0_letters, v_r0_numbers, v_r0_harvest, v_r0_fraction, .ref a_r0_refusals])), (a_r0_now, .inr (1, [v_r0_now_weights, v_r0_now_kinds, v_r0_now_figures, .ref a_r0_now_goes, .int r0_now_things, v_r0_now_hampers, v_r0_now_days, v_r0_now_fields, v_r0_now_done])), (a_r0_now_goes, .inl (cI, 8, .inl r0_now_goes)), (a_r0_refusals, .inl (cI, 7, .inl r0_refusals))]
def F_H_codes (r0_now_things : Int32) (r0_now_goes : Nat → Int32) (r0_refusals : Nat → Int32) (x1 : Int32) : Option (Int32 × (Nat → Int32)) :=
  (if x1 = 0 then ((F_Set_unlikeCodes r0_now_things r0_now_goes).bind (fun q_2 => (some (q_2, r0_refusals)))) else (if x1 = 1 then ((F_Set_unlikeCodes r0_now_things r0_now_goes).bind (fun q_4 => (some (((64 : Int32) - q_4), r0_refusals)))) else ((F_H_refused r0_refusals ((-2) : Int32)).bind (fun q_5 => (some (q_5.1, q_5.2))))))
set_option maxHeartbeats 4000000 in
set_option maxRecDepth 100000 in
theorem C_H_codes (l : Launch) (D : va_G) (cI cS : ClassId) (a_r0 : Nat) (a_r0_now : Nat) (a_r0_now_goes : Nat) (a_r0_refusals : Nat) (v_r0_kept v_r0_trial v_r0_hasKept v_r0_steps v_r0_letters v_r0_numbers v_r0_harvest v_r0_fraction v_r0_now_weights v_r0_now_kinds v_r0_now_figures v_r0_now_hampers v_r0_now_days v_r0_now_fields v_r0_now_done : Value) (r0_now_things : Int32) (r0_now_goes : Nat → Int32) (r0_refusals : Nat → Int32) (x1 : Int32) (o : Int32 × (Nat → Int32)) (hr : F_H_codes r0_now_things r0_now_goes r0_refusals x1 = some o) : ctI l y_H_codes (Cond.code y_H_codes b_H_codes 2 (some FieldType.int)) (rmd 3) D (kTy cI cS) [.ref a_r0, .int x1] (w_H_codes cI a_r0 a_r0_now a_r0_now_goes a_r0_refusals v_r0_kept v_r0_trial v_r0_hasKept v_r0_steps v_r0_letters v_r0_numbers v_r0_harvest v_r0_fraction v_r0_now_weights v_r0_now_kinds v_r0_now_figures v_r0_now_hampers v_r0_now_days v_r0_now_fields v_r0_now_done r0_now_things r0_now_goes r0_refusals) (w_H_codes cI a_r0 a_r0_now a_r0_now_goes a_r0_refusals v_r0_kept v_r0_trial v_r0_hasKept v_r0_steps v_r0_letters v_r0_numbers v_r0_harvest v_r0_fraction v_r0_now_weights v_r0_now_kinds v_r0_now_figures v_r0_now_hampers v_r0_now_days v_r0_now_fields v_r0_now_done r0_now_things r0_now_goes o.2) o.1 := by
  unfold F_H_codes at hr
  refine ⟨rfl, fun sz => ct_of (w0 := (w_H_codes cI a_r0 a_r0_now a_r0_now_goes a_r0_refusals v_r0_kept v_r0_trial v_r0_hasKept v_r0_steps v_r0_letters v_r0_numbers v_r0_harvest v_r0_fraction v_r0_now_weights v_r0_now_kinds v_r0_now_figures v_r0_now_hampers v_r0_now_days v_r0_now_fields v_r0_now_done r0_now_things r0_now_goes r0_refusals)) (Qc := fun A => qI D (w_H_codes cI a_r0 a_r0_now a_r0_now_goes a_r0_refusals v_r0_kept v_r0_trial v_r0_hasKept v_r0_steps v_r0_letters v_r0_numbers v_r0_harvest v_r0_fraction v_r0_now_weights v_r0_now_kinds v_r0_now_figures v_r0_now_hampers v_r0_now_days v_r0_now_fields v_r0_now_done r0_now_things r0_now_goes o.2) o.1 A) rfl (Nat.le_of_ble_eq_true rfl) ?_ sz⟩
  intro p e s m below meth c A hA C hret ls hl hW
  have C : cx p s m ([.ref a_r0, .int x1] : List Value).toArray meth c b_H_codes 2 R_H D (kTy cI cS) (Cond.code y_H_codes b_H_codes 2 (some FieldType.int)) := C
  obtain ⟨hx, hb, hml, hown, hts, hK, hlk, hN⟩ := id C
  have hl : lv_has ls 2 [(0, .ref a_r0), (1, .int x1)] := hl
  obtain ⟨Q, hQ⟩ : ∃ Q, Q = MQ below (qI D (w_H_codes cI a_r0 a_r0_now a_r0_now_goes a_r0_refusals v_r0_kept v_r0_trial v_r0_hasKept v_r0_steps v_r0_letters v_r0_numbers v_r0_harvest v_r0_fraction v_r0_now_weights v_r0_now_kinds v_r0_now_figures v_r0_now_hampers v_r0_now_days v_r0_now_fields v_r0_now_done r0_now_things r0_now_goes o.2) o.1 A) ([.ref a_r0, .int x1] : List Value).toArray s 0 0 A := ⟨_, rfl⟩
  rw [← hQ]
  refine lv_iload_n hx hb d_H_codes_0 rfl (lv_at hl 1 rfl) ?_
  by_cases c_1 : x1 = 0
  · replace hr := ip c_1 hr
    refine k_lookIn (tgt := 28) (off := 27) c_1 hx hb d_H_codes_1 (by decide) (by decide) (by decide) ?_
    refine lv_aload_n hx hb d_H_codes_28 rfl (lv_at hl 0 rfl) ?_
    refine k_get i_H C hW 0 rfl rfl 0 (by decide) qf_H_10 rfl rfl d_H_codes_29 ?_
    obtain ⟨q_2, hc_2, hr⟩ := ob hr
    have ct_2 := C_Set_unlikeCodes l D cI cS a_r0_now a_r0_now_goes v_r0_now_weights v_r0_now_kinds v_r0_now_figures v_r0_now_hampers v_r0_now_days v_r0_now_fields v_r0_now_done r0_now_things r0_now_goes q_2 hc_2
    refine k_goIp hA hW [1, 2] rfl rfl (k_runS C hA hW mw_Set_unlikeCodes ms_Set_unlikeCodes (ct_2.2 _) [1, 2] rfl rfl qm_H_255 ⟨Nat.le_of_ble_eq_true rfl, Nat.le_of_ble_eq_true rfl, Nat.zero_le _, Nat.zero_le _⟩ rfl rfl (Nat.le_of_ble_eq_true rfl) hl.1 d_H_codes_32) (fun H locs hW => ?_)
    obtain rfl := Option.some.inj hr
    rw [hQ]; exact k_iret C hret hW d_H_codes_35
  · replace hr := iN c_1 hr
    by_cases c_3 : x1 = 1
    · replace hr := ip c_3 hr
      refine k_lookIn (tgt := 36) (off := 35) c_3 hx hb d_H_codes_1 (by decide) (by decide) (by decide) ?_
      refine lv_bipush (v := 64) hx hb d_H_codes_36 (by decide) ?_
      refine lv_aload_n hx hb d_H_codes_38 rfl (lv_at hl 0 rfl) ?_
      refine k_get i_H C hW 0 rfl rfl 0 (by decide) qf_H_10 rfl rfl d_H_codes_39 ?_
      obtain ⟨q_4, hc_4, hr⟩ := ob hr
      have ct_4 := C_Set_unlikeCodes l D cI cS a_r0_now a_r0_now_goes v_r0_now_weights v_r0_now_kinds v_r0_now_figures v_r0_now_hampers v_r0_now_days v_r0_now_fields v_r0_now_done r0_now_things r0_now_goes q_4 hc_4
      refine k_goIp hA hW [1, 2] rfl rfl (k_runS C hA hW mw_Set_unlikeCodes ms_Set_unlikeCodes (ct_4.2 _) [1, 2] rfl rfl qm_H_255 ⟨Nat.le_of_ble_eq_true rfl, Nat.le_of_ble_eq_true rfl, Nat.zero_le _, Nat.zero_le _⟩ rfl rfl (Nat.le_of_ble_eq_true rfl) hl.1 d_H_codes_42) (fun H locs hW => ?_)
      refine lv_isub hx hb d_H_codes_45 ?_
      obtain rfl := Option.some.inj hr
      rw [hQ]; exact k_iret C hret hW d_H_codes_46
    · replace hr := iN c_3 hr
      refine lv_lookup (tgt := 47) (off := 46) hx hb d_H_codes_1 (by decide) (look_out _ [0, 1] (by decide +kernel) (by simp only [List.forall_mem_cons]; exact ⟨c_1, c_3, fun _ h => absurd h List.not_mem_nil⟩)) (by decide) ?_
      refine lv_aload_n hx hb d_H_codes_47 rfl (lv_at hl 0 rfl) ?_
      refine lv_bipush (v := (-2)) hx hb d_H_codes_48 (by decide) ?_
      obtain ⟨q_5, hc_5, hr⟩ := ob hr
      have ct_5 := C_H_refused l D cI cS a_r0 a_r0_refusals (Value.ref a_r0_now) v_r0_kept v_r0_trial v_r0_hasKept v_r0_steps v_r0_letters v_r0_numbers v_r0_harvest v_r0_fraction r0_refusals (-2) q_5 hc_5
      refine k_goI hA hW [0, 3] rfl ct_5.1 (ws' := (w_H_codes cI a_r0 a_r0_now a_r0_now_goes a_r0_refusals v_r0_kept v_r0_trial v_r0_hasKept v_r0_steps v_r0_letters v_r0_numbers v_r0_harvest v_r0_fraction v_r0_now_weights v_r0_now_kinds v_r0_now_figures v_r0_now_hampers v_r0_now_days v_r0_now_fields v_r0_now_done r0_now_things r0_now_goes q_5.2)) rfl (k_runV C hA hW mw_H_refused mv_H_refused (ct_5.2 _) [0, 3] rfl rfl 0 rfl rfl qm_H_65 ⟨Nat.le_of_ble_eq_true rfl, Nat.le_of_ble_eq_true rfl, Nat.zero_le _, Nat.zero_le _⟩ rfl rfl (Nat.le_of_ble_eq_true rfl) hl.1 d_H_codes_50) (fun H locs hW => ?_)
      obtain rfl := Option.some.inj hr
      rw [hQ]; exact k_iret C hret hW d_H_codes_53
def w_H_count (cI : ClassId) (a_r0 : Nat) (a_r0_letters : Nat) (a_r0_now : Nat) (a_r0_now_hampers : Nat) (a_r0_now_weights : Nat) (a_r0_numbers : Nat) (a_r0_refusals : Nat) (a_r0_steps : Nat) (v_r0_kept v_r0_trial v_r0_hasKept v_r0_harvest v_r0_fraction v_r0_letters_letters v_r0_now_kinds v_r0_now_figures v_r0_now_goes v_r0_now_fields v_r0_numbers_numbers v_r0_steps_steps : Value) (r0_letters_count : Int32) (r0_now_days : Int32) (r0_now_done : Int32) (r0_now_things : Int32) (r0_now_hampers : Nat → Int32) (r0_now_weights : Nat → Int32) (r0_numbers_count : Int32) (r0_refusals : Nat → Int32) (r0_steps_count : Int32) : va_W := [(a_r0, .inr (0, [.ref a_r0_now, v_r0_kept, v_r0_trial, v_r0_hasKept, .ref a_r0_steps, .ref a_r0_letters, .ref a_r0_numbers, v_r0_harvest, v_r0_fraction, .ref a_r0_refusals])), (a_r0_letters, .inr (5, [v_r0_letters_letters, .int r0_letters_count])), (a_r0_now, .inr (1, [.ref a_r0_now_weights, v_r0_now_kinds, v_r0_now_figures, v_r0_now_goes, .int r0_now_things, .ref a_r0_now_hampers, .int r0_now_days, v_r0_now_fields, .int r0_now_done])), (a_r0_now_hampers, .inl (cI, 8, .inl r0_now_hampers)), (a_r0_now_weights, .inl (cI, 6, .inl r0_now_weights)), (a_r0_numbers, .inr (6, [v_r0_numbers_numbers, .int r0_numbers_count])), (a_r0_refusals, .inl (cI, 7, .inl r0_refusals)), (a_r0_steps, .inr (3, [v_r0_steps_steps, .int r0_steps_count]))]
def F_H_count (r0_letters_count : Int32) (r0_now_days : Int32) (r0_now_done : Int32) (r0_now_things : Int32) (r0_now_hampers : Nat → Int32) (r0_now_weights : Nat → Int32) (r0_numbers_count : Int32) (r0_refusals : Nat → Int32) (r0_steps_count : Int32) (x1 : Int32) : Option (Int32) :=
  (if x1 = 0 then (some r0_now_things) else (if x1 = 1 then (some r0_now_days) else (if x1 = 2 then (some r0_now_done) else (if x1 = 3 then ((F_Sta_weightOfAll r0_now_weights (63 : Int32)).bind (fun q_5 => (some q_5))) else (if x1 = 4 then ((F_Sta_allPacked r0_now_days r0_now_hampers).bind (fun q_7 => (some q_7))) else (if x1 = 5 then (some r0_letters_count) else (if x1 = 6 then (some r0_numbers_count) else (if x1 = 7 then (some r0_steps_count) else (if x1 = 11 then (ck (x1 - 10) 7 (some (r0_refusals (Int32.toNatClampNeg (x1 - 10))))) else (if x1 = 12 then (ck (x1 - 10) 7 (some (r0_refusals (Int32.toNatClampNeg (x1 - 10))))) else (if x1 = 13 then (ck (x1 - 10) 7 (some (r0_refusals (Int32.toNatClampNeg (x1 - 10))))) else (if x1 = 14 then (ck (x1 - 10) 7 (some (r0_refusals (Int32.toNatClampNeg (x1 - 10))))) else (if x1 = 15 then (ck (x1 - 10) 7 (some (r0_refusals (Int32.toNatClampNeg (x1 - 10))))) else (if x1 = 16 then (ck (x1 - 10) 7 (some (r0_refusals (Int32.toNatClampNeg (x1 - 10))))) else (some (-9))))))))))))))))
set_option maxHeartbeats 4000000 in
set_option maxRecDepth 100000 in
theorem C_H_count (l : Launch) (D : va_G) (cI cS : ClassId) (a_r0 : Nat) (a_r0_letters : Nat) (a_r0_now : Nat) (a_r0_now_hampers : Nat) (a_r0_now_weights : Nat) (a_r0_numbers : Nat) (a_r0_refusals : Nat) (a_r0_steps : Nat) (v_r0_kept v_r0_trial v_r0_hasKept v_r0_harvest v_r0_fraction v_r0_letters_letters v_r0_now_kinds v_r0_now_figures v_r0_now_goes v_r0_now_fields v_r0_numbers_numbers v_r0_steps_steps : Value) (r0_letters_count : Int32) (r0_now_days : Int32) (r0_now_done : Int32) (r0_now_things : Int32) (r0_now_hampers : Nat → Int32) (r0_now_weights : Nat → Int32) (r0_numbers_count : Int32) (r0_refusals : Nat → Int32) (r0_steps_count : Int32) (x1 : Int32) (o : Int32) (hr : F_H_count r0_letters_count r0_now_days r0_now_done r0_now_things r0_now_hampers r0_now_weights r0_numbers_count r0_refusals r0_steps_count x1 = some o) : ctI l y_H_count (Cond.code y_H_count b_H_count 2 (some FieldType.int)) (rmd 3) D (kTy cI cS) [.ref a_r0, .int x1] (w_H_count cI a_r0 a_r0_letters a_r0_now a_r0_now_hampers a_r0_now_weights a_r0_numbers a_r0_refusals a_r0_steps v_r0_kept v_r0_trial v_r0_hasKept v_r0_harvest v_r0_fraction v_r0_letters_letters v_r0_now_kinds v_r0_now_figures v_r0_now_goes v_r0_now_fields v_r0_numbers_numbers v_r0_steps_steps r0_letters_count r0_now_days r0_now_done r0_now_things r0_now_hampers r0_now_weights r0_numbers_count r0_refusals r0_steps_count) (w_H_count cI a_r0 a_r0_letters a_r0_now a_r0_now_hampers a_r0_now_weights a_r0_numbers a_r0_refusals a_r0_steps v_r0_kept v_r0_trial v_r0_hasKept v_r0_harvest v_r0_fraction v_r0_letters_letters v_r0_now_kinds v_r0_now_figures v_r0_now_goes v_r0_now_fields v_r0_numbers_numbers v_r0_steps_steps r0_letters_count r0_now_days r0_now_done r0_now_things r0_now_hampers r0_now_weights r0_numbers_count r0_refusals r0_steps_count) o := by
  unfold F_H_count at hr
  refine ⟨rfl, fun sz => ct_of (w0 := (w_H_count cI a_r0 a_r0_letters a_r0_now a_r0_now_hampers a_r0_now_weights a_r0_numbers a_r0_refusals a_r0_steps v_r0_kept v_r0_trial v_r0_hasKept v_r0_harvest v_r0_fraction v_r0_letters_letters v_r0_now_kinds v_r0_now_figures v_r0_now_goes v_r0_now_fields v_r0_numbers_numbers v_r0_steps_steps r0_letters_count r0_now_days r0_now_done r0_now_things r0_now_hampers r0_now_weights r0_numbers_count r0_refusals r0_steps_count)) (Qc := fun A => qI D (w_H_count cI a_r0 a_r0_letters a_r0_now a_r0_now_hampers a_r0_now_weights a_r0_numbers a_r0_refusals a_r0_steps v_r0_kept v_r0_trial v_r0_hasKept v_r0_harvest v_r0_fraction v_r0_letters_letters v_r0_now_kinds v_r0_now_figures v_r0_now_goes v_r0_now_fields v_r0_numbers_numbers v_r0_steps_steps r0_letters_count r0_now_days r0_now_done r0_now_things r0_now_hampers r0_now_weights r0_numbers_count r0_refusals r0_steps_count) o A) rfl (Nat.le_of_ble_eq_true rfl) ?_ sz⟩
  intro p e s m below meth c A hA C hret ls hl hW
  have C : cx p s m ([.ref a_r0, .int x1] : List Value).toArray meth c b_H_count 2 R_H D (kTy cI cS) (Cond.code y_H_count b_H_count 2 (some FieldType.int)) := C
  obtain ⟨hx, hb, hml, hown, hts, hK, hlk, hN⟩ := id C
  have hl : lv_has ls 2 [(0, .ref a_r0), (1, .int x1)] := hl
  obtain ⟨Q, hQ⟩ : ∃ Q, Q = MQ below (qI D (w_H_count cI a_r0 a_r0_letters a_r0_now a_r0_now_hampers a_r0_now_weights a_r0_numbers a_r0_refusals a_r0_steps v_r0_kept v_r0_trial v_r0_hasKept v_r0_harvest v_r0_fraction v_r0_letters_letters v_r0_now_kinds v_r0_now_figures v_r0_now_goes v_r0_now_fields v_r0_numbers_numbers v_r0_steps_steps r0_letters_count r0_now_days r0_now_done r0_now_things r0_now_hampers r0_now_weights r0_numbers_count r0_refusals r0_steps_count) o A) ([.ref a_r0, .int x1] : List Value).toArray s 0 0 A := ⟨_, rfl⟩
  rw [← hQ]
  refine lv_iload_n hx hb d_H_count_0 rfl (lv_at hl 1 rfl) ?_
  by_cases c_1 : x1 = 0
  · replace hr := ip c_1 hr
    refine k_tabIn (tgt := 84) (off := 83) c_1 hx hb d_H_count_1 (by decide) (by decide) (by decide) (by decide) ?_
    refine lv_aload_n hx hb d_H_count_84 rfl (lv_at hl 0 rfl) ?_
    refine k_get i_H C hW 0 rfl rfl 0 (by decide) qf_H_10 rfl rfl d_H_count_85 ?_
    refine k_getN i_Sta C hW 2 rfl rfl 4 (by decide) qf_H_365 rfl rfl d_H_count_88 ?_
    obtain rfl := Option.some.inj hr
    rw [hQ]; exact k_iret C hret hW d_H_count_91
  · replace hr := iN c_1 hr
    by_cases c_2 : x1 = 1
    · replace hr := ip c_2 hr
      refine k_tabIn (tgt := 92) (off := 91) c_2 hx hb d_H_count_1 (by decide) (by decide) (by decide) (by decide) ?_
      refine lv_aload_n hx hb d_H_count_92 rfl (lv_at hl 0 rfl) ?_
      refine k_get i_H C hW 0 rfl rfl 0 (by decide) qf_H_10 rfl rfl d_H_count_93 ?_
      refine k_getN i_Sta C hW 2 rfl rfl 6 (by decide) qf_H_272 rfl rfl d_H_count_96 ?_
      obtain rfl := Option.some.inj hr
      rw [hQ]; exact k_iret C hret hW d_H_count_99
    · replace hr := iN c_2 hr
      by_cases c_3 : x1 = 2
      · replace hr := ip c_3 hr
        refine k_tabIn (tgt := 100) (off := 99) c_3 hx hb d_H_count_1 (by decide) (by decide) (by decide) (by decide) ?_
        refine lv_aload_n hx hb d_H_count_100 rfl (lv_at hl 0 rfl) ?_
        refine k_get i_H C hW 0 rfl rfl 0 (by decide) qf_H_10 rfl rfl d_H_count_101 ?_
        refine k_getN i_Sta C hW 2 rfl rfl 8 (by decide) qf_H_362 rfl rfl d_H_count_104 ?_
        obtain rfl := Option.some.inj hr
        rw [hQ]; exact k_iret C hret hW d_H_count_107
      · replace hr := iN c_3 hr
        by_cases c_4 : x1 = 3
        · replace hr := ip c_4 hr
          refine k_tabIn (tgt := 108) (off := 107) c_4 hx hb d_H_count_1 (by decide) (by decide) (by decide) (by decide) ?_
          refine lv_aload_n hx hb d_H_count_108 rfl (lv_at hl 0 rfl) ?_
          refine k_get i_H C hW 0 rfl rfl 0 (by decide) qf_H_10 rfl rfl d_H_count_109 ?_
          refine lv_bipush (v := 63) hx hb d_H_count_112 (by decide) ?_
          obtain ⟨q_5, hc_5, hr⟩ := ob hr
          have ct_5 := C_Sta_weightOfAll l D cI cS a_r0_now a_r0_now_weights v_r0_now_kinds v_r0_now_figures v_r0_now_goes (Value.int r0_now_things) (Value.ref a_r0_now_hampers) (Value.int r0_now_days) v_r0_now_fields (Value.int r0_now_done) r0_now_weights 63 q_5 hc_5
          refine k_goIp hA hW [2, 4] rfl rfl (k_runV C hA hW mw_Sta_weightOfAll mv_Sta_weightOfAll (ct_5.2 _) [2, 4] rfl rfl 2 rfl rfl qm_H_219 ⟨Nat.le_of_ble_eq_true rfl, Nat.le_of_ble_eq_true rfl, Nat.zero_le _, Nat.zero_le _⟩ rfl rfl (Nat.le_of_ble_eq_true rfl) hl.1 d_H_count_114) (fun H locs hW => ?_)
          obtain rfl := Option.some.inj hr
          rw [hQ]; exact k_iret C hret hW d_H_count_117
        · replace hr := iN c_4 hr
          by_cases c_6 : x1 = 4
          · replace hr := ip c_6 hr
            refine k_tabIn (tgt := 118) (off := 117) c_6 hx hb d_H_count_1 (by decide) (by decide) (by decide) (by decide) ?_
            refine lv_aload_n hx hb d_H_count_118 rfl (lv_at hl 0 rfl) ?_
            refine k_get i_H C hW 0 rfl rfl 0 (by decide) qf_H_10 rfl rfl d_H_count_119 ?_
            obtain ⟨q_7, hc_7, hr⟩ := ob hr
            have ct_7 := C_Sta_allPacked l D cI cS a_r0_now a_r0_now_hampers (Value.ref a_r0_now_weights) v_r0_now_kinds v_r0_now_figures v_r0_now_goes (Value.int r0_now_things) v_r0_now_fields (Value.int r0_now_done) r0_now_days r0_now_hampers q_7 hc_7
            refine k_goIp hA hW [2, 3] rfl rfl (k_runV C hA hW mw_Sta_allPacked mv_Sta_allPacked (ct_7.2 _) [2, 3] rfl rfl 2 rfl rfl qm_H_368 ⟨Nat.le_of_ble_eq_true rfl, Nat.le_of_ble_eq_true rfl, Nat.zero_le _, Nat.zero_le _⟩ rfl rfl (Nat.le_of_ble_eq_true rfl) hl.1 d_H_count_122) (fun H locs hW => ?_)
            obtain rfl := Option.some.inj hr
            rw [hQ]; exact k_iret C hret hW d_H_count_125
          · replace hr := iN c_6 hr
            by_cases c_8 : x1 = 5
            · replace hr := ip c_8 hr
              refine k_tabIn (tgt := 126) (off := 125) c_8 hx hb d_H_count_1 (by decide) (by decide) (by decide) (by decide) ?_
              refine lv_aload_n hx hb d_H_count_126 rfl (lv_at hl 0 rfl) ?_
              refine k_get i_H C hW 0 rfl rfl 5 (by decide) qf_H_36 rfl rfl d_H_count_127 ?_
              refine k_getN i_Let C hW 1 rfl rfl 1 (by decide) qf_H_69 rfl rfl d_H_count_130 ?_
              obtain rfl := Option.some.inj hr
              rw [hQ]; exact k_iret C hret hW d_H_count_133
            · replace hr := iN c_8 hr
              by_cases c_9 : x1 = 6
              · replace hr := ip c_9 hr
                refine k_tabIn (tgt := 134) (off := 133) c_9 hx hb d_H_count_1 (by decide) (by decide) (by decide) (by decide) ?_
                refine lv_aload_n hx hb d_H_count_134 rfl (lv_at hl 0 rfl) ?_
                refine k_get i_H C hW 0 rfl rfl 6 (by decide) qf_H_43 rfl rfl d_H_count_135 ?_
                refine k_getN i_Num C hW 5 rfl rfl 1 (by decide) qf_H_347 rfl rfl d_H_count_138 ?_
                obtain rfl := Option.some.inj hr
                rw [hQ]; exact k_iret C hret hW d_H_count_141
              · replace hr := iN c_9 hr
                by_cases c_10 : x1 = 7
                · replace hr := ip c_10 hr
                  refine k_tabIn (tgt := 142) (off := 141) c_10 hx hb d_H_count_1 (by decide) (by decide) (by decide) (by decide) ?_
                  refine lv_aload_n hx hb d_H_count_142 rfl (lv_at hl 0 rfl) ?_
                  refine k_get i_H C hW 0 rfl rfl 4 (by decide) qf_H_29 rfl rfl d_H_count_143 ?_
                  refine k_getN i_Sps C hW 7 rfl rfl 1 (by decide) qf_H_84 rfl rfl d_H_count_146 ?_
                  obtain rfl := Option.some.inj hr
                  rw [hQ]; exact k_iret C hret hW d_H_count_149
                · replace hr := iN c_10 hr
                  by_cases c_11 : x1 = 11
                  · replace hr := ip c_11 hr
                    refine k_tabIn (tgt := 150) (off := 149) c_11 hx hb d_H_count_1 (by decide) (by decide) (by decide) (by decide) ?_
                    refine lv_aload_n hx hb d_H_count_150 rfl (lv_at hl 0 rfl) ?_
                    refine k_get i_H C hW 0 rfl rfl 9 (by decide) qf_H_61 rfl rfl d_H_count_151 ?_
                    refine lv_iload_n hx hb d_H_count_154 rfl (lv_at hl 1 rfl) ?_
                    refine lv_bipush (v := 10) hx hb d_H_count_155 (by decide) ?_
                    refine lv_isub hx hb d_H_count_157 ?_
                    obtain ⟨h_12, hr⟩ := ck_some hr
                    refine k_iald C hW 6 rfl h_12 d_H_count_158 ?_
                    obtain rfl := Option.some.inj hr
                    rw [hQ]; exact k_iret C hret hW d_H_count_159
                  · replace hr := iN c_11 hr
                    by_cases c_13 : x1 = 12
                    · replace hr := ip c_13 hr
                      refine k_tabIn (tgt := 150) (off := 149) c_13 hx hb d_H_count_1 (by decide) (by decide) (by decide) (by decide) ?_
                      refine lv_aload_n hx hb d_H_count_150 rfl (lv_at hl 0 rfl) ?_
                      refine k_get i_H C hW 0 rfl rfl 9 (by decide) qf_H_61 rfl rfl d_H_count_151 ?_
                      refine lv_iload_n hx hb d_H_count_154 rfl (lv_at hl 1 rfl) ?_
                      refine lv_bipush (v := 10) hx hb d_H_count_155 (by decide) ?_
                      refine lv_isub hx hb d_H_count_157 ?_
                      obtain ⟨h_14, hr⟩ := ck_some hr
                      refine k_iald C hW 6 rfl h_14 d_H_count_158 ?_
                      obtain rfl := Option.some.inj hr
                      rw [hQ]; exact k_iret C hret hW d_H_count_159
                    · replace hr := iN c_13 hr
                      by_cases c_15 : x1 = 13
                      · replace hr := ip c_15 hr
                        refine k_tabIn (tgt := 150) (off := 149) c_15 hx hb d_H_count_1 (by decide) (by decide) (by decide) (by decide) ?_
                        refine lv_aload_n hx hb d_H_count_150 rfl (lv_at hl 0 rfl) ?_
                        refine k_get i_H C hW 0 rfl rfl 9 (by decide) qf_H_61 rfl rfl d_H_count_151 ?_
                        refine lv_iload_n hx hb d_H_count_154 rfl (lv_at hl 1 rfl) ?_
                        refine lv_bipush (v := 10) hx hb d_H_count_155 (by decide) ?_
                        refine lv_isub hx hb d_H_count_157 ?_
                        obtain ⟨h_16, hr⟩ := ck_some hr
                        refine k_iald C hW 6 rfl h_16 d_H_count_158 ?_
                        obtain rfl := Option.some.inj hr
                        rw [hQ]; exact k_iret C hret hW d_H_count_159
                      · replace hr := iN c_15 hr
                        by_cases c_17 : x1 = 14
                        · replace hr := ip c_17 hr
                          refine k_tabIn (tgt := 150) (off := 149) c_17 hx hb d_H_count_1 (by decide) (by decide) (by decide) (by decide) ?_
                          refine lv_aload_n hx hb d_H_count_150 rfl (lv_at hl 0 rfl) ?_
                          refine k_get i_H C hW 0 rfl rfl 9 (by decide) qf_H_61 rfl rfl d_H_count_151 ?_
                          refine lv_iload_n hx hb d_H_count_154 rfl (lv_at hl 1 rfl) ?_
                          refine lv_bipush (v := 10) hx hb d_H_count_155 (by decide) ?_
                          refine lv_isub hx hb d_H_count_157 ?_
                          obtain ⟨h_18, hr⟩ := ck_some hr
                          refine k_iald C hW 6 rfl h_18 d_H_count_158 ?_
                          obtain rfl := Option.some.inj hr
                          rw [hQ]; exact k_iret C hret hW d_H_count_159
                        · replace hr := iN c_17 hr
                          by_cases c_19 : x1 = 15
                          · replace hr := ip c_19 hr
                            refine k_tabIn (tgt := 150) (off := 149) c_19 hx hb d_H_count_1 (by decide) (by decide) (by decide) (by decide) ?_
                            refine lv_aload_n hx hb d_H_count_150 rfl (lv_at hl 0 rfl) ?_
                            refine k_get i_H C hW 0 rfl rfl 9 (by decide) qf_H_61 rfl rfl d_H_count_151 ?_
                            refine lv_iload_n hx hb d_H_count_154 rfl (lv_at hl 1 rfl) ?_
                            refine lv_bipush (v := 10) hx hb d_H_count_155 (by decide) ?_
                            refine lv_isub hx hb d_H_count_157 ?_
                            obtain ⟨h_20, hr⟩ := ck_some hr
                            refine k_iald C hW 6 rfl h_20 d_H_count_158 ?_
                            obtain rfl := Option.some.inj hr
                            rw [hQ]; exact k_iret C hret hW d_H_count_159
                          · replace hr := iN c_19 hr
                            by_cases c_21 : x1 = 16
                            · replace hr := ip c_21 hr
                              refine k_tabIn (tgt := 150) (off := 149) c_21 hx hb d_H_count_1 (by decide) (by decide) (by decide) (by decide) ?_
                              refine lv_aload_n hx hb d_H_count_150 rfl (lv_at hl 0 rfl) ?_
                              refine k_get i_H C hW 0 rfl rfl 9 (by decide) qf_H_61 rfl rfl d_H_count_151 ?_
                              refine lv_iload_n hx hb d_H_count_154 rfl (lv_at hl 1 rfl) ?_
                              refine lv_bipush (v := 10) hx hb d_H_count_155 (by decide) ?_
                              refine lv_isub hx hb d_H_count_157 ?_
                              obtain ⟨h_22, hr⟩ := ck_some hr
                              refine k_iald C hW 6 rfl h_22 d_H_count_158 ?_
                              obtain rfl := Option.some.inj hr
                              rw [hQ]; exact k_iret C hret hW d_H_count_159
                            · replace hr := iN c_21 hr
                              refine k_tabDef (tgt := 160) [0, 1, 2, 3, 4, 5, 6, 7, 11, 12, 13, 14, 15, 16] (by decide +kernel) (by simp only [List.forall_mem_cons]; exact ⟨c_1, c_2, c_3, c_4, c_6, c_8, c_9, c_10, c_11, c_13, c_15, c_17, c_19, c_21, fun _ h => absurd h List.not_mem_nil⟩) hx hb d_H_count_1 (by decide) ?_
                              refine lv_bipush (v := (-9)) hx hb d_H_count_160 (by decide) ?_
                              obtain rfl := Option.some.inj hr
                              rw [hQ]; exact k_iret C hret hW d_H_count_162
def w_H_day (cI : ClassId) (a_r0 : Nat) (a_r0_now : Nat) (a_r0_now_hampers : Nat) (a_r0_refusals : Nat) (a_r0_steps : Nat) (v_r0_kept v_r0_trial v_r0_hasKept v_r0_letters v_r0_numbers v_r0_harvest v_r0_fraction v_r0_now_weights v_r0_now_kinds v_r0_now_figures v_r0_now_goes v_r0_now_fields v_r0_now_done v_r0_steps_steps : Value) (r0_now_days : Int32) (r0_now_things : Int32) (r0_now_hampers : Nat → Int32) (r0_refusals : Nat → Int32) (r0_steps_count : Int32) : va_W := [(a_r0, .inr (0, [.ref a_r0_now, v_r0_kept, v_r0_trial, v_r0_hasKept, .ref a_r0_steps, v_r0_letters, v_r0_numbers, v_r0_harvest, v_r0_fraction, .ref a_r0_refusals])), (a_r0_now, .inr (1, [v_r0_now_weights, v_r0_now_kinds, v_r0_now_figures, v_r0_now_goes, .int r0_now_things, .ref a_r0_now_hampers, .int r0_now_days, v_r0_now_fields, v_r0_now_done])), (a_r0_now_hampers, .inl (cI, 8, .inl r0_now_hampers)), (a_r0_refusals, .inl (cI, 7, .inl r0_refusals)), (a_r0_steps, .inr (3, [v_r0_steps_steps, .int r0_steps_count]))]
def F_H_day (r0_now_days : Int32) (r0_now_things : Int32) (r0_now_hampers : Nat → Int32) (r0_refusals : Nat → Int32) (r0_steps_count : Int32) (x1 : Int32) : Option (Int32 × (Int32) × (Nat → Int32) × (Nat → Int32) × (Int32)) :=
  ((F_Sta_dayRefusal r0_now_days r0_now_things x1).bind (fun q_1 => (if q_1 = 0 then ((F_Sta_addDay r0_now_days r0_now_hampers x1).bind (fun q_3 => (some (q_3.1, q_3.2.1, q_3.2.2, r0_refusals, 0)))) else ((F_H_refused r0_refusals q_1).bind (fun q_4 => (some (q_4.1, r0_now_days, r0_now_hampers, q_4.2, r0_steps_count)))))))
set_option maxHeartbeats 4000000 in
set_option maxRecDepth 100000 in
theorem C_H_day (l : Launch) (D : va_G) (cI cS : ClassId) (a_r0 : Nat) (a_r0_now : Nat) (a_r0_now_hampers : Nat) (a_r0_refusals : Nat) (a_r0_steps : Nat) (v_r0_kept v_r0_trial v_r0_hasKept v_r0_letters v_r0_numbers v_r0_harvest v_r0_fraction v_r0_now_weights v_r0_now_kinds v_r0_now_figures v_r0_now_goes v_r0_now_fields v_r0_now_done v_r0_steps_steps : Value) (r0_now_days : Int32) (r0_now_things : Int32) (r0_now_hampers : Nat → Int32) (r0_refusals : Nat → Int32) (r0_steps_count : Int32) (x1 : Int32) (o : Int32 × (Int32) × (Nat → Int32) × (Nat → Int32) × (Int32)) (hr : F_H_day r0_now_days r0_now_things r0_now_hampers r0_refusals r0_steps_count x1 = some o) : ctI l y_H_day (Cond.code y_H_day b_H_day 3 (some FieldType.int)) (rmd 2) D (kTy cI cS) [.ref a_r0, .int x1] (w_H_day cI a_r0 a_r0_now a_r0_now_hampers a_r0_refusals a_r0_steps v_r0_kept v_r0_trial v_r0_hasKept v_r0_letters v_r0_numbers v_r0_harvest v_r0_fraction v_r0_now_weights v_r0_now_kinds v_r0_now_figures v_r0_now_goes v_r0_now_fields v_r0_now_done v_r0_steps_steps r0_now_days r0_now_things r0_now_hampers r0_refusals r0_steps_count) (w_H_day cI a_r0 a_r0_now a_r0_now_hampers a_r0_refusals a_r0_steps v_r0_kept v_r0_trial v_r0_hasKept v_r0_letters v_r0_numbers v_r0_harvest v_r0_fraction v_r0_now_weights v_r0_now_kinds v_r0_now_figures v_r0_now_goes v_r0_now_fields v_r0_now_done v_r0_steps_steps o.2.1 r0_now_things o.2.2.1 o.2.2.2.1 o.2.2.2.2) o.1 := by
  unfold F_H_day at hr
  refine ⟨rfl, fun sz => ct_of (w0 := (w_H_day cI a_r0 a_r0_now a_r0_now_hampers a_r0_refusals a_r0_steps v_r0_kept v_r0_trial v_r0_hasKept v_r0_letters v_r0_numbers v_r0_harvest v_r0_fraction v_r0_now_weights v_r0_now_kinds v_r0_now_figures v_r0_now_goes v_r0_now_fields v_r0_now_done v_r0_steps_steps r0_now_days r0_now_things r0_now_hampers r0_refusals r0_steps_count)) (Qc := fun A => qI D (w_H_day cI a_r0 a_r0_now a_r0_now_hampers a_r0_refusals a_r0_steps v_r0_kept v_r0_trial v_r0_hasKept v_r0_letters v_r0_numbers v_r0_harvest v_r0_fraction v_r0_now_weights v_r0_now_kinds v_r0_now_figures v_r0_now_goes v_r0_now_fields v_r0_now_done v_r0_steps_steps o.2.1 r0_now_things o.2.2.1 o.2.2.2.1 o.2.2.2.2) o.1 A) rfl (Nat.le_of_ble_eq_true rfl) ?_ sz⟩
  intro p e s m below meth c A hA C hret ls hl hW
  have C : cx p s m ([.ref a_r0, .int x1] : List Value).toArray meth c b_H_day 3 R_H D (kTy cI cS) (Cond.code y_H_day b_H_day 3 (some FieldType.int)) := C
  obtain ⟨hx, hb, hml, hown, hts, hK, hlk, hN⟩ := id C
  have hl : lv_has ls 3 [(0, .ref a_r0), (1, .int x1)] := hl
  obtain ⟨Q, hQ⟩ : ∃ Q, Q = MQ below (qI D (w_H_day cI a_r0 a_r0_now a_r0_now_hampers a_r0_refusals a_r0_steps v_r0_kept v_r0_trial v_r0_hasKept v_r0_letters v_r0_numbers v_r0_harvest v_r0_fraction v_r0_now_weights v_r0_now_kinds v_r0_now_figures v_r0_now_goes v_r0_now_fields v_r0_now_done v_r0_steps_steps o.2.1 r0_now_things o.2.2.1 o.2.2.2.1 o.2.2.2.2) o.1 A) ([.ref a_r0, .int x1] : List Value).toArray s 0 0 A := ⟨_, rfl⟩
  rw [← hQ]
  refine lv_aload_n hx hb d_H_day_0 rfl (lv_at hl 0 rfl) ?_
  refine k_get i_H C hW 0 rfl rfl 0 (by decide) qf_H_10 rfl rfl d_H_day_1 ?_
  refine lv_iload_n hx hb d_H_day_4 rfl (lv_at hl 1 rfl) ?_
  obtain ⟨q_1, hc_1, hr⟩ := ob hr
  have ct_1 := C_Sta_dayRefusal l D cI cS a_r0_now v_r0_now_weights v_r0_now_kinds v_r0_now_figures v_r0_now_goes (Value.ref a_r0_now_hampers) v_r0_now_fields v_r0_now_done r0_now_days r0_now_things x1 q_1 hc_1
  refine k_goIp hA hW [1] rfl rfl (k_runV C hA hW mw_Sta_dayRefusal mv_Sta_dayRefusal (ct_1.2 _) [1] rfl rfl 1 rfl rfl qm_H_152 ⟨Nat.le_of_ble_eq_true rfl, Nat.le_of_ble_eq_true rfl, Nat.zero_le _, Nat.zero_le _⟩ rfl rfl (Nat.le_of_ble_eq_true rfl) hl.1 d_H_day_5) (fun H locs hW => ?_)
  refine lv_istore_n (lv' := [(2, .int q_1), (0, .ref a_r0), (1, .int x1)]) hx hb d_H_day_8 rfl hl (by decide) rfl (fun ls hl => ?_)
  refine lv_iload_n hx hb d_H_day_9 rfl (lv_at hl 0 rfl) ?_
  refine lv_if_eq (tgt := 19) hx hb d_H_day_10 (by decide) (fun c_2 => ?_) (fun c_2 => ?_)
  · replace hr := ip c_2 hr
    refine lv_aload_n hx hb d_H_day_19 rfl (lv_at hl 1 rfl) ?_
    refine k_get i_H C hW 0 rfl rfl 4 (by decide) qf_H_29 rfl rfl d_H_day_20 ?_
    refine lv_iconst (v := 0) hx hb d_H_day_23 (by decide) ?_
    refine k_putN i_Sps t_Sps_ok n_Sps C hW 4 rfl rfl 1 (by decide) qf_H_84 rfl rfl (ty := .int) rfl rfl rfl (Nat.le_of_ble_eq_true rfl) (ws' := (w_H_day cI a_r0 a_r0_now a_r0_now_hampers a_r0_refusals a_r0_steps v_r0_kept v_r0_trial v_r0_hasKept v_r0_letters v_r0_numbers v_r0_harvest v_r0_fraction v_r0_now_weights v_r0_now_kinds v_r0_now_figures v_r0_now_goes v_r0_now_fields v_r0_now_done v_r0_steps_steps r0_now_days r0_now_things r0_now_hampers r0_refusals 0)) rfl d_H_day_24 (fun H locs hW => ?_)
    refine lv_aload_n hx hb d_H_day_27 rfl (lv_at hl 1 rfl) ?_
    refine k_get i_H C hW 0 rfl rfl 0 (by decide) qf_H_10 rfl rfl d_H_day_28 ?_
    refine lv_iload_n hx hb d_H_day_31 rfl (lv_at hl 2 rfl) ?_
    obtain ⟨q_3, hc_3, hr⟩ := ob hr
    have ct_3 := C_Sta_addDay l D cI cS a_r0_now a_r0_now_hampers v_r0_now_weights v_r0_now_kinds v_r0_now_figures v_r0_now_goes (Value.int r0_now_things) v_r0_now_fields v_r0_now_done r0_now_days r0_now_hampers x1 q_3 hc_3
    refine k_goI hA hW [1, 2] rfl ct_3.1 (ws' := (w_H_day cI a_r0 a_r0_now a_r0_now_hampers a_r0_refusals a_r0_steps v_r0_kept v_r0_trial v_r0_hasKept v_r0_letters v_r0_numbers v_r0_harvest v_r0_fraction v_r0_now_weights v_r0_now_kinds v_r0_now_figures v_r0_now_goes v_r0_now_fields v_r0_now_done v_r0_steps_steps q_3.2.1 r0_now_things q_3.2.2 r0_refusals 0)) rfl (k_runV C hA hW mw_Sta_addDay mv_Sta_addDay (ct_3.2 _) [1, 2] rfl rfl 1 rfl rfl qm_H_155 ⟨Nat.le_of_ble_eq_true rfl, Nat.le_of_ble_eq_true rfl, Nat.zero_le _, Nat.zero_le _⟩ rfl rfl (Nat.le_of_ble_eq_true rfl) hl.1 d_H_day_32) (fun H locs hW => ?_)
    obtain rfl := Option.some.inj hr
    rw [hQ]; exact k_iret C hret hW d_H_day_35
  · replace hr := iN c_2 hr
    refine lv_aload_n hx hb d_H_day_13 rfl (lv_at hl 1 rfl) ?_
    refine lv_iload_n hx hb d_H_day_14 rfl (lv_at hl 0 rfl) ?_
    obtain ⟨q_4, hc_4, hr⟩ := ob hr
    have ct_4 := C_H_refused l D cI cS a_r0 a_r0_refusals (Value.ref a_r0_now) v_r0_kept v_r0_trial v_r0_hasKept (Value.ref a_r0_steps) v_r0_letters v_r0_numbers v_r0_harvest v_r0_fraction r0_refusals q_1 q_4 hc_4
    refine k_goI hA hW [0, 3] rfl ct_4.1 (ws' := (w_H_day cI a_r0 a_r0_now a_r0_now_hampers a_r0_refusals a_r0_steps v_r0_kept v_r0_trial v_r0_hasKept v_r0_letters v_r0_numbers v_r0_harvest v_r0_fraction v_r0_now_weights v_r0_now_kinds v_r0_now_figures v_r0_now_goes v_r0_now_fields v_r0_now_done v_r0_steps_steps r0_now_days r0_now_things r0_now_hampers q_4.2 r0_steps_count)) rfl (k_runV C hA hW mw_H_refused mv_H_refused (ct_4.2 _) [0, 3] rfl rfl 0 rfl rfl qm_H_65 ⟨Nat.le_of_ble_eq_true rfl, Nat.le_of_ble_eq_true rfl, Nat.zero_le _, Nat.zero_le _⟩ rfl rfl (Nat.le_of_ble_eq_true rfl) hl.1 d_H_day_15) (fun H locs hW => ?_)
    obtain rfl := Option.some.inj hr
    rw [hQ]; exact k_iret C hret hW d_H_day_18
def w_H_dayOf (cI : ClassId) (a_r0 : Nat) (a_r0_now : Nat) (a_r0_now_figures : Nat) (a_r0_now_goes : Nat) (a_r0_now_hampers : Nat) (a_r0_now_kinds : Nat) (a_r0_now_weights : Nat) (a_r0_refusals : Nat) (v_r0_kept v_r0_trial v_r0_hasKept v_r0_steps v_r0_letters v_r0_numbers v_r0_harvest v_r0_fraction v_r0_now_things v_r0_now_fields v_r0_now_done : Value) (r0_now_days : Int32) (r0_now_figures : Nat → Int32) (r0_now_goes : Nat → Int32) (r0_now_hampers : Nat → Int32) (r0_now_kinds : Nat → Int32) (r0_now_weights : Nat → Int32) (r0_refusals : Nat → Int32) : va_W := [(a_r0, .inr (0, [.ref a_r0_now, v_r0_kept, v_r0_trial, v_r0_hasKept, v_r0_steps, v_r0_letters, v_r0_numbers, v_r0_harvest, v_r0_fraction, .ref a_r0_refusals])), (a_r0_now, .inr (1, [.ref a_r0_now_weights, .ref a_r0_now_kinds, .ref a_r0_now_figures, .ref a_r0_now_goes, v_r0_now_things, .ref a_r0_now_hampers, .int r0_now_days, v_r0_now_fields, v_r0_now_done])), (a_r0_now_figures, .inl (cI, 8, .inl r0_now_figures)), (a_r0_now_goes, .inl (cI, 8, .inl r0_now_goes)), (a_r0_now_hampers, .inl (cI, 8, .inl r0_now_hampers)), (a_r0_now_kinds, .inl (cI, 8, .inl r0_now_kinds)), (a_r0_now_weights, .inl (cI, 6, .inl r0_now_weights)), (a_r0_refusals, .inl (cI, 7, .inl r0_refusals))]
def F_H_dayOf (r0_now_days : Int32) (r0_now_figures : Nat → Int32) (r0_now_goes : Nat → Int32) (r0_now_hampers : Nat → Int32) (r0_now_kinds : Nat → Int32) (r0_now_weights : Nat → Int32) (r0_refusals : Nat → Int32) (x1 : Int32) (x2 : Int32) : Option (Int32 × (Nat → Int32)) :=
  ((F_Sta_hasDay r0_now_days x1).bind (fun q_1 => (if q_1 = 0 then ((F_H_refused r0_refusals ((-1) : Int32)).bind (fun q_14 => (some (q_14.1, q_14.2)))) else (ck x1 8 (if x2 = 0 then (some ((r0_now_hampers (Int32.toNatClampNeg x1)), r0_refusals)) else (if x2 = 1 then ((F_Sta_couldBe r0_now_goes (r0_now_hampers (Int32.toNatClampNeg x1))).bind (fun q_6 => (some (q_6, r0_refusals)))) else (if x2 = 2 then ((F_Sta_likeliestBy r0_now_goes r0_now_weights (r0_now_hampers (Int32.toNatClampNeg x1))).bind (fun q_8 => (some (q_8, r0_refusals)))) else (if x2 = 3 then ((F_Sta_heavyOf r0_now_figures r0_now_kinds (r0_now_hampers (Int32.toNatClampNeg x1))).bind (fun q_10 => (some (q_10, r0_refusals)))) else (if x2 = 4 then ((F_Sta_dearOf r0_now_figures r0_now_kinds (r0_now_hampers (Int32.toNatClampNeg x1))).bind (fun q_12 => (some (q_12, r0_refusals)))) else ((F_H_refused r0_refusals ((-2) : Int32)).bind (fun q_13 => (some (q_13.1, q_13.2)))))))))))))
set_option maxHeartbeats 4000000 in
set_option maxRecDepth 100000 in
theorem C_H_dayOf (l : Launch) (D : va_G) (cI cS : ClassId) (a_r0 : Nat) (a_r0_now : Nat) (a_r0_now_figures : Nat) (a_r0_now_goes : Nat) (a_r0_now_hampers : Nat) (a_r0_now_kinds : Nat) (a_r0_now_weights : Nat) (a_r0_refusals : Nat) (v_r0_kept v_r0_trial v_r0_hasKept v_r0_steps v_r0_letters v_r0_numbers v_r0_harvest v_r0_fraction v_r0_now_things v_r0_now_fields v_r0_now_done : Value) (r0_now_days : Int32) (r0_now_figures : Nat → Int32) (r0_now_goes : Nat → Int32) (r0_now_hampers : Nat → Int32) (r0_now_kinds : Nat → Int32) (r0_now_weights : Nat → Int32) (r0_refusals : Nat → Int32) (x1 : Int32) (x2 : Int32) (o : Int32 × (Nat → Int32)) (hr : F_H_dayOf r0_now_days r0_now_figures r0_now_goes r0_now_hampers r0_now_kinds r0_now_weights r0_refusals x1 x2 = some o) : ctI l y_H_dayOf (Cond.code y_H_dayOf b_H_dayOf 4 (some FieldType.int)) (rmd 3) D (kTy cI cS) [.ref a_r0, .int x1, .int x2] (w_H_dayOf cI a_r0 a_r0_now a_r0_now_figures a_r0_now_goes a_r0_now_hampers a_r0_now_kinds a_r0_now_weights a_r0_refusals v_r0_kept v_r0_trial v_r0_hasKept v_r0_steps v_r0_letters v_r0_numbers v_r0_harvest v_r0_fraction v_r0_now_things v_r0_now_fields v_r0_now_done r0_now_days r0_now_figures r0_now_goes r0_now_hampers r0_now_kinds r0_now_weights r0_refusals) (w_H_dayOf cI a_r0 a_r0_now a_r0_now_figures a_r0_now_goes a_r0_now_hampers a_r0_now_kinds a_r0_now_weights a_r0_refusals v_r0_kept v_r0_trial v_r0_hasKept v_r0_steps v_r0_letters v_r0_numbers v_r0_harvest v_r0_fraction v_r0_now_things v_r0_now_fields v_r0_now_done r0_now_days r0_now_figures r0_now_goes r0_now_hampers r0_now_kinds r0_now_weights o.2) o.1 := by
  unfold F_H_dayOf at hr
  refine ⟨rfl, fun sz => ct_of (w0 := (w_H_dayOf cI a_r0 a_r0_now a_r0_now_figures a_r0_now_goes a_r0_now_hampers a_r0_now_kinds a_r0_now_weights a_r0_refusals v_r0_kept v_r0_trial v_r0_hasKept v_r0_steps v_r0_letters v_r0_numbers v_r0_harvest v_r0_fraction v_r0_now_things v_r0_now_fields v_r0_now_done r0_now_days r0_now_figures r0_now_goes r0_now_hampers r0_now_kinds r0_now_weights r0_refusals)) (Qc := fun A => qI D (w_H_dayOf cI a_r0 a_r0_now a_r0_now_figures a_r0_now_goes a_r0_now_hampers a_r0_now_kinds a_r0_now_weights a_r0_refusals v_r0_kept v_r0_trial v_r0_hasKept v_r0_steps v_r0_letters v_r0_numbers v_r0_harvest v_r0_fraction v_r0_now_things v_r0_now_fields v_r0_now_done r0_now_days r0_now_figures r0_now_goes r0_now_hampers r0_now_kinds r0_now_weights o.2) o.1 A) rfl (Nat.le_of_ble_eq_true rfl) ?_ sz⟩
  intro p e s m below meth c A hA C hret ls hl hW
  have C : cx p s m ([.ref a_r0, .int x1, .int x2] : List Value).toArray meth c b_H_dayOf 4 R_H D (kTy cI cS) (Cond.code y_H_dayOf b_H_dayOf 4 (some FieldType.int)) := C
  obtain ⟨hx, hb, hml, hown, hts, hK, hlk, hN⟩ := id C
  have hl : lv_has ls 4 [(0, .ref a_r0), (1, .int x1), (2, .int x2)] := hl
  obtain ⟨Q, hQ⟩ : ∃ Q, Q = MQ below (qI D (w_H_dayOf cI a_r0 a_r0_now a_r0_now_figures a_r0_now_goes a_r0_now_hampers a_r0_now_kinds a_r0_now_weights a_r0_refusals v_r0_kept v_r0_trial v_r0_hasKept v_r0_steps v_r0_letters v_r0_numbers v_r0_harvest v_r0_fraction v_r0_now_things v_r0_now_fields v_r0_now_done r0_now_days r0_now_figures r0_now_goes r0_now_hampers r0_now_kinds r0_now_weights o.2) o.1 A) ([.ref a_r0, .int x1, .int x2] : List Value).toArray s 0 0 A := ⟨_, rfl⟩
  rw [← hQ]
  refine lv_aload_n hx hb d_H_dayOf_0 rfl (lv_at hl 0 rfl) ?_
  refine k_get i_H C hW 0 rfl rfl 0 (by decide) qf_H_10 rfl rfl d_H_dayOf_1 ?_
  refine lv_iload_n hx hb d_H_dayOf_4 rfl (lv_at hl 1 rfl) ?_
  obtain ⟨q_1, hc_1, hr⟩ := ob hr
  have ct_1 := C_Sta_hasDay l D cI cS a_r0_now (Value.ref a_r0_now_weights) (Value.ref a_r0_now_kinds) (Value.ref a_r0_now_figures) (Value.ref a_r0_now_goes) v_r0_now_things (Value.ref a_r0_now_hampers) v_r0_now_fields v_r0_now_done r0_now_days x1 q_1 hc_1
  refine k_goIp hA hW [1] rfl rfl (k_runV C hA hW mw_Sta_hasDay mv_Sta_hasDay (ct_1.2 _) [1] rfl rfl 1 rfl rfl qm_H_107 ⟨Nat.le_of_ble_eq_true rfl, Nat.le_of_ble_eq_true rfl, Nat.zero_le _, Nat.zero_le _⟩ rfl rfl (Nat.le_of_ble_eq_true rfl) hl.1 d_H_dayOf_5) (fun H locs hW => ?_)
  refine lv_if_ne (tgt := 17) hx hb d_H_dayOf_8 (by decide) (fun c_2 => ?_) (fun c_2 => ?_)
  · replace hr := iN c_2 hr
    refine lv_aload_n hx hb d_H_dayOf_17 rfl (lv_at hl 0 rfl) ?_
    refine k_get i_H C hW 0 rfl rfl 0 (by decide) qf_H_10 rfl rfl d_H_dayOf_18 ?_
    refine k_getN i_Sta C hW 1 rfl rfl 5 (by decide) qf_H_110 rfl rfl d_H_dayOf_21 ?_
    refine lv_iload_n hx hb d_H_dayOf_24 rfl (lv_at hl 1 rfl) ?_
    obtain ⟨h_3, hr⟩ := ck_some hr
    refine k_iald C hW 4 rfl h_3 d_H_dayOf_25 ?_
    refine lv_istore_n (lv' := [(3, .int (r0_now_hampers (Int32.toNatClampNeg x1))), (0, .ref a_r0), (1, .int x1), (2, .int x2)]) hx hb d_H_dayOf_26 rfl hl (by decide) rfl (fun ls hl => ?_)
    refine lv_iload_n hx hb d_H_dayOf_27 rfl (lv_at hl 3 rfl) ?_
    by_cases c_4 : x2 = 0
    · replace hr := ip c_4 hr
      refine k_tabIn (tgt := 64) (off := 36) c_4 hx hb d_H_dayOf_28 (by decide) (by decide) (by decide) (by decide) ?_
      refine lv_iload_n hx hb d_H_dayOf_64 rfl (lv_at hl 0 rfl) ?_
      obtain rfl := Option.some.inj hr
      rw [hQ]; exact k_iret C hret hW d_H_dayOf_65
    · replace hr := iN c_4 hr
      by_cases c_5 : x2 = 1
      · replace hr := ip c_5 hr
        refine k_tabIn (tgt := 66) (off := 38) c_5 hx hb d_H_dayOf_28 (by decide) (by decide) (by decide) (by decide) ?_
        refine lv_aload_n hx hb d_H_dayOf_66 rfl (lv_at hl 1 rfl) ?_
        refine k_get i_H C hW 0 rfl rfl 0 (by decide) qf_H_10 rfl rfl d_H_dayOf_67 ?_
        refine lv_iload_n hx hb d_H_dayOf_70 rfl (lv_at hl 0 rfl) ?_
        obtain ⟨q_6, hc_6, hr⟩ := ob hr
        have ct_6 := C_Sta_couldBe l D cI cS a_r0_now a_r0_now_goes (Value.ref a_r0_now_weights) (Value.ref a_r0_now_kinds) (Value.ref a_r0_now_figures) v_r0_now_things (Value.ref a_r0_now_hampers) (Value.int r0_now_days) v_r0_now_fields v_r0_now_done r0_now_goes (r0_now_hampers (Int32.toNatClampNeg x1)) q_6 hc_6
        refine k_goIp hA hW [1, 3] rfl rfl (k_runV C hA hW mw_Sta_couldBe mv_Sta_couldBe (ct_6.2 _) [1, 3] rfl rfl 1 rfl rfl qm_H_113 ⟨Nat.le_of_ble_eq_true rfl, Nat.le_of_ble_eq_true rfl, Nat.zero_le _, Nat.zero_le _⟩ rfl rfl (Nat.le_of_ble_eq_true rfl) hl.1 d_H_dayOf_71) (fun H locs hW => ?_)
        obtain rfl := Option.some.inj hr
        rw [hQ]; exact k_iret C hret hW d_H_dayOf_74
      · replace hr := iN c_5 hr
        by_cases c_7 : x2 = 2
        · replace hr := ip c_7 hr
          refine k_tabIn (tgt := 75) (off := 47) c_7 hx hb d_H_dayOf_28 (by decide) (by decide) (by decide) (by decide) ?_
          refine lv_aload_n hx hb d_H_dayOf_75 rfl (lv_at hl 1 rfl) ?_
          refine k_get i_H C hW 0 rfl rfl 0 (by decide) qf_H_10 rfl rfl d_H_dayOf_76 ?_
          refine lv_iload_n hx hb d_H_dayOf_79 rfl (lv_at hl 0 rfl) ?_
          obtain ⟨q_8, hc_8, hr⟩ := ob hr
          have ct_8 := C_Sta_likeliestBy l D cI cS a_r0_now a_r0_now_goes a_r0_now_weights (Value.ref a_r0_now_kinds) (Value.ref a_r0_now_figures) v_r0_now_things (Value.ref a_r0_now_hampers) (Value.int r0_now_days) v_r0_now_fields v_r0_now_done r0_now_goes r0_now_weights (r0_now_hampers (Int32.toNatClampNeg x1)) q_8 hc_8
          refine k_goIp hA hW [1, 3, 6] rfl rfl (k_runV C hA hW mw_Sta_likeliestBy mv_Sta_likeliestBy (ct_8.2 _) [1, 3, 6] rfl rfl 1 rfl rfl qm_H_116 ⟨Nat.le_of_ble_eq_true rfl, Nat.le_of_ble_eq_true rfl, Nat.zero_le _, Nat.zero_le _⟩ rfl rfl (Nat.le_of_ble_eq_true rfl) hl.1 d_H_dayOf_80) (fun H locs hW => ?_)
          obtain rfl := Option.some.inj hr
          rw [hQ]; exact k_iret C hret hW d_H_dayOf_83
        · replace hr := iN c_7 hr
          by_cases c_9 : x2 = 3
          · replace hr := ip c_9 hr
            refine k_tabIn (tgt := 84) (off := 56) c_9 hx hb d_H_dayOf_28 (by decide) (by decide) (by decide) (by decide) ?_
            refine lv_aload_n hx hb d_H_dayOf_84 rfl (lv_at hl 1 rfl) ?_
            refine k_get i_H C hW 0 rfl rfl 0 (by decide) qf_H_10 rfl rfl d_H_dayOf_85 ?_
            refine lv_iload_n hx hb d_H_dayOf_88 rfl (lv_at hl 0 rfl) ?_
            obtain ⟨q_10, hc_10, hr⟩ := ob hr
            have ct_10 := C_Sta_heavyOf l D cI cS a_r0_now a_r0_now_figures a_r0_now_kinds (Value.ref a_r0_now_weights) (Value.ref a_r0_now_goes) v_r0_now_things (Value.ref a_r0_now_hampers) (Value.int r0_now_days) v_r0_now_fields v_r0_now_done r0_now_figures r0_now_kinds (r0_now_hampers (Int32.toNatClampNeg x1)) q_10 hc_10
            refine k_goIp hA hW [1, 2, 5] rfl rfl (k_runV C hA hW mw_Sta_heavyOf mv_Sta_heavyOf (ct_10.2 _) [1, 2, 5] rfl rfl 1 rfl rfl qm_H_119 ⟨Nat.le_of_ble_eq_true rfl, Nat.le_of_ble_eq_true rfl, Nat.zero_le _, Nat.zero_le _⟩ rfl rfl (Nat.le_of_ble_eq_true rfl) hl.1 d_H_dayOf_89) (fun H locs hW => ?_)
            obtain rfl := Option.some.inj hr
            rw [hQ]; exact k_iret C hret hW d_H_dayOf_92
          · replace hr := iN c_9 hr
            by_cases c_11 : x2 = 4
            · replace hr := ip c_11 hr
              refine k_tabIn (tgt := 93) (off := 65) c_11 hx hb d_H_dayOf_28 (by decide) (by decide) (by decide) (by decide) ?_
              refine lv_aload_n hx hb d_H_dayOf_93 rfl (lv_at hl 1 rfl) ?_
              refine k_get i_H C hW 0 rfl rfl 0 (by decide) qf_H_10 rfl rfl d_H_dayOf_94 ?_
              refine lv_iload_n hx hb d_H_dayOf_97 rfl (lv_at hl 0 rfl) ?_
              obtain ⟨q_12, hc_12, hr⟩ := ob hr
              have ct_12 := C_Sta_dearOf l D cI cS a_r0_now a_r0_now_figures a_r0_now_kinds (Value.ref a_r0_now_weights) (Value.ref a_r0_now_goes) v_r0_now_things (Value.ref a_r0_now_hampers) (Value.int r0_now_days) v_r0_now_fields v_r0_now_done r0_now_figures r0_now_kinds (r0_now_hampers (Int32.toNatClampNeg x1)) q_12 hc_12
              refine k_goIp hA hW [1, 2, 5] rfl rfl (k_runV C hA hW mw_Sta_dearOf mv_Sta_dearOf (ct_12.2 _) [1, 2, 5] rfl rfl 1 rfl rfl qm_H_122 ⟨Nat.le_of_ble_eq_true rfl, Nat.le_of_ble_eq_true rfl, Nat.zero_le _, Nat.zero_le _⟩ rfl rfl (Nat.le_of_ble_eq_true rfl) hl.1 d_H_dayOf_98) (fun H locs hW => ?_)
              obtain rfl := Option.some.inj hr
              rw [hQ]; exact k_iret C hret hW d_H_dayOf_101
            · replace hr := iN c_11 hr
              refine k_tabDef (tgt := 102) [0, 1, 2, 3, 4] (by decide +kernel) (by simp only [List.forall_mem_cons]; exact ⟨c_4, c_5, c_7, c_9, c_11, fun _ h => absurd h List.not_mem_nil⟩) hx hb d_H_dayOf_28 (by decide) ?_
              refine lv_aload_n hx hb d_H_dayOf_102 rfl (lv_at hl 1 rfl) ?_
              refine lv_bipush (v := (-2)) hx hb d_H_dayOf_103 (by decide) ?_
              obtain ⟨q_13, hc_13, hr⟩ := ob hr
              have ct_13 := C_H_refused l D cI cS a_r0 a_r0_refusals (Value.ref a_r0_now) v_r0_kept v_r0_trial v_r0_hasKept v_r0_steps v_r0_letters v_r0_numbers v_r0_harvest v_r0_fraction r0_refusals (-2) q_13 hc_13
              refine k_goI hA hW [0, 7] rfl ct_13.1 (ws' := (w_H_dayOf cI a_r0 a_r0_now a_r0_now_figures a_r0_now_goes a_r0_now_hampers a_r0_now_kinds a_r0_now_weights a_r0_refusals v_r0_kept v_r0_trial v_r0_hasKept v_r0_steps v_r0_letters v_r0_numbers v_r0_harvest v_r0_fraction v_r0_now_things v_r0_now_fields v_r0_now_done r0_now_days r0_now_figures r0_now_goes r0_now_hampers r0_now_kinds r0_now_weights q_13.2)) rfl (k_runV C hA hW mw_H_refused mv_H_refused (ct_13.2 _) [0, 7] rfl rfl 0 rfl rfl qm_H_65 ⟨Nat.le_of_ble_eq_true rfl, Nat.le_of_ble_eq_true rfl, Nat.zero_le _, Nat.zero_le _⟩ rfl rfl (Nat.le_of_ble_eq_true rfl) hl.1 d_H_dayOf_105) (fun H locs hW => ?_)
              obtain rfl := Option.some.inj hr
              rw [hQ]; exact k_iret C hret hW d_H_dayOf_108
  · replace hr := ip c_2 hr
    refine lv_aload_n hx hb d_H_dayOf_11 rfl (lv_at hl 0 rfl) ?_
    refine lv_iconst (v := (-1)) hx hb d_H_dayOf_12 (by decide) ?_
    obtain ⟨q_14, hc_14, hr⟩ := ob hr
    have ct_14 := C_H_refused l D cI cS a_r0 a_r0_refusals (Value.ref a_r0_now) v_r0_kept v_r0_trial v_r0_hasKept v_r0_steps v_r0_letters v_r0_numbers v_r0_harvest v_r0_fraction r0_refusals (-1) q_14 hc_14
    refine k_goI hA hW [0, 7] rfl ct_14.1 (ws' := (w_H_dayOf cI a_r0 a_r0_now a_r0_now_figures a_r0_now_goes a_r0_now_hampers a_r0_now_kinds a_r0_now_weights a_r0_refusals v_r0_kept v_r0_trial v_r0_hasKept v_r0_steps v_r0_letters v_r0_numbers v_r0_harvest v_r0_fraction v_r0_now_things v_r0_now_fields v_r0_now_done r0_now_days r0_now_figures r0_now_goes r0_now_hampers r0_now_kinds r0_now_weights q_14.2)) rfl (k_runV C hA hW mw_H_refused mv_H_refused (ct_14.2 _) [0, 7] rfl rfl 0 rfl rfl qm_H_65 ⟨Nat.le_of_ble_eq_true rfl, Nat.le_of_ble_eq_true rfl, Nat.zero_le _, Nat.zero_le _⟩ rfl rfl (Nat.le_of_ble_eq_true rfl) hl.1 d_H_dayOf_13) (fun H locs hW => ?_)
    obtain rfl := Option.some.inj hr
    rw [hQ]; exact k_iret C hret hW d_H_dayOf_16
def w_H_drop (cI : ClassId) (a_r0 : Nat) (a_r0_now : Nat) (a_r0_now_goes : Nat) (a_r0_now_hampers : Nat) (a_r0_now_weights : Nat) (v_r0_kept v_r0_trial v_r0_hasKept v_r0_steps v_r0_letters v_r0_numbers v_r0_harvest v_r0_fraction v_r0_refusals v_r0_now_kinds v_r0_now_figures v_r0_now_fields v_r0_now_done : Value) (r0_now_days : Int32) (r0_now_things : Int32) (r0_now_goes : Nat → Int32) (r0_now_hampers : Nat → Int32) (r0_now_weights : Nat → Int32) : va_W := [(a_r0, .inr (0, [.ref a_r0_now, v_r0_kept, v_r0_trial, v_r0_hasKept, v_r0_steps, v_r0_letters, v_r0_numbers, v_r0_harvest, v_r0_fraction, v_r0_refusals])), (a_r0_now, .inr (1, [.ref a_r0_now_weights, v_r0_now_kinds, v_r0_now_figures, .ref a_r0_now_goes, .int r0_now_things, .ref a_r0_now_hampers, .int r0_now_days, v_r0_now_fields, v_r0_now_done])), (a_r0_now_goes, .inl (cI, 8, .inl r0_now_goes)), (a_r0_now_hampers, .inl (cI, 8, .inl r0_now_hampers)), (a_r0_now_weights, .inl (cI, 6, .inl r0_now_weights))]
def F_H_drop (r0_now_days : Int32) (r0_now_things : Int32) (r0_now_goes : Nat → Int32) (r0_now_hampers : Nat → Int32) (r0_now_weights : Nat → Int32) : Option (Int32) :=
  ((F_Dia_bestDropped r0_now_days r0_now_things r0_now_goes r0_now_hampers r0_now_weights).bind (fun q_1 => (some q_1)))
set_option maxHeartbeats 4000000 in
set_option maxRecDepth 100000 in
theorem C_H_drop (l : Launch) (D : va_G) (cI cS : ClassId) (a_r0 : Nat) (a_r0_now : Nat) (a_r0_now_goes : Nat) (a_r0_now_hampers : Nat) (a_r0_now_weights : Nat) (v_r0_kept v_r0_trial v_r0_hasKept v_r0_steps v_r0_letters v_r0_numbers v_r0_harvest v_r0_fraction v_r0_refusals v_r0_now_kinds v_r0_now_figures v_r0_now_fields v_r0_now_done : Value) (r0_now_days : Int32) (r0_now_things : Int32) (r0_now_goes : Nat → Int32) (r0_now_hampers : Nat → Int32) (r0_now_weights : Nat → Int32) (o : Int32) (hr : F_H_drop r0_now_days r0_now_things r0_now_goes r0_now_hampers r0_now_weights = some o) : ctI l y_H_drop (Cond.code y_H_drop b_H_drop 1 (some FieldType.int)) (rmd 5) D (kTy cI cS) [.ref a_r0] (w_H_drop cI a_r0 a_r0_now a_r0_now_goes a_r0_now_hampers a_r0_now_weights v_r0_kept v_r0_trial v_r0_hasKept v_r0_steps v_r0_letters v_r0_numbers v_r0_harvest v_r0_fraction v_r0_refusals v_r0_now_kinds v_r0_now_figures v_r0_now_fields v_r0_now_done r0_now_days r0_now_things r0_now_goes r0_now_hampers r0_now_weights) (w_H_drop cI a_r0 a_r0_now a_r0_now_goes a_r0_now_hampers a_r0_now_weights v_r0_kept v_r0_trial v_r0_hasKept v_r0_steps v_r0_letters v_r0_numbers v_r0_harvest v_r0_fraction v_r0_refusals v_r0_now_kinds v_r0_now_figures v_r0_now_fields v_r0_now_done r0_now_days r0_now_things r0_now_goes r0_now_hampers r0_now_weights) o := by
  unfold F_H_drop at hr
  refine ⟨rfl, fun sz => ct_of (w0 := (w_H_drop cI a_r0 a_r0_now a_r0_now_goes a_r0_now_hampers a_r0_now_weights v_r0_kept v_r0_trial v_r0_hasKept v_r0_steps v_r0_letters v_r0_numbers v_r0_harvest v_r0_fraction v_r0_refusals v_r0_now_kinds v_r0_now_figures v_r0_now_fields v_r0_now_done r0_now_days r0_now_things r0_now_goes r0_now_hampers r0_now_weights)) (Qc := fun A => qI D (w_H_drop cI a_r0 a_r0_now a_r0_now_goes a_r0_now_hampers a_r0_now_weights v_r0_kept v_r0_trial v_r0_hasKept v_r0_steps v_r0_letters v_r0_numbers v_r0_harvest v_r0_fraction v_r0_refusals v_r0_now_kinds v_r0_now_figures v_r0_now_fields v_r0_now_done r0_now_days r0_now_things r0_now_goes r0_now_hampers r0_now_weights) o A) rfl (Nat.le_of_ble_eq_true rfl) ?_ sz⟩
  intro p e s m below meth c A hA C hret ls hl hW
  have C : cx p s m ([.ref a_r0] : List Value).toArray meth c b_H_drop 1 R_H D (kTy cI cS) (Cond.code y_H_drop b_H_drop 1 (some FieldType.int)) := C
  obtain ⟨hx, hb, hml, hown, hts, hK, hlk, hN⟩ := id C
  have hl : lv_has ls 1 [(0, .ref a_r0)] := hl
  obtain ⟨Q, hQ⟩ : ∃ Q, Q = MQ below (qI D (w_H_drop cI a_r0 a_r0_now a_r0_now_goes a_r0_now_hampers a_r0_now_weights v_r0_kept v_r0_trial v_r0_hasKept v_r0_steps v_r0_letters v_r0_numbers v_r0_harvest v_r0_fraction v_r0_refusals v_r0_now_kinds v_r0_now_figures v_r0_now_fields v_r0_now_done r0_now_days r0_now_things r0_now_goes r0_now_hampers r0_now_weights) o A) ([.ref a_r0] : List Value).toArray s 0 0 A := ⟨_, rfl⟩
  rw [← hQ]
  refine lv_aload_n hx hb d_H_drop_0 rfl (lv_at hl 0 rfl) ?_
  refine k_get i_H C hW 0 rfl rfl 0 (by decide) qf_H_10 rfl rfl d_H_drop_1 ?_
  obtain ⟨q_1, hc_1, hr⟩ := ob hr
  have ct_1 := C_Dia_bestDropped l D cI cS a_r0_now a_r0_now_goes a_r0_now_hampers a_r0_now_weights v_r0_now_kinds v_r0_now_figures v_r0_now_fields v_r0_now_done r0_now_days r0_now_things r0_now_goes r0_now_hampers r0_now_weights q_1 hc_1
  refine k_goIp hA hW [1, 2, 3, 4] rfl rfl (k_runS C hA hW mw_Dia_bestDropped ms_Dia_bestDropped (ct_1.2 _) [1, 2, 3, 4] rfl rfl qm_H_344 ⟨Nat.le_of_ble_eq_true rfl, Nat.le_of_ble_eq_true rfl, Nat.zero_le _, Nat.zero_le _⟩ rfl rfl (Nat.le_of_ble_eq_true rfl) hl.1 d_H_drop_4) (fun H locs hW => ?_)
  obtain rfl := Option.some.inj hr
  rw [hQ]; exact k_iret C hret hW d_H_drop_7
def w_H_eggAndRope (cI : ClassId) (a_r0 : Nat) (a_r0_now : Nat) (a_r0_now_goes : Nat) (v_r0_kept v_r0_trial v_r0_hasKept v_r0_steps v_r0_letters v_r0_numbers v_r0_harvest v_r0_fraction v_r0_refusals v_r0_now_weights v_r0_now_kinds v_r0_now_figures v_r0_now_hampers v_r0_now_days v_r0_now_fields v_r0_now_done : Value) (r0_now_things : Int32) (r0_now_goes : Nat → Int32) : va_W := [(a_r0, .inr (0, [.ref a_r0_now, v_r0_kept, v_r0_trial, v_r0_hasKept, v_r0_steps, v_r0_letters, v_r0_numbers, v_r0_harvest, v_r0_fraction, v_r0_refusals])), (a_r0_now, .inr (1, [v_r0_now_weights, v_r0_now_kinds, v_r0_now_figures, .ref a_r0_now_goes, .int r0_now_things, v_r0_now_hampers, v_r0_now_days, v_r0_now_fields, v_r0_now_done])), (a_r0_now_goes, .inl (cI, 8, .inl r0_now_goes))]
def F_H_eggAndRope (r0_now_things : Int32) (r0_now_goes : Nat → Int32) : Option (Int32) :=
  ((F_Set_nearestTwo r0_now_things r0_now_goes).bind (fun q_1 => (some q_1)))
set_option maxHeartbeats 4000000 in
set_option maxRecDepth 100000 in
theorem C_H_eggAndRope (l : Launch) (D : va_G) (cI cS : ClassId) (a_r0 : Nat) (a_r0_now : Nat) (a_r0_now_goes : Nat) (v_r0_kept v_r0_trial v_r0_hasKept v_r0_steps v_r0_letters v_r0_numbers v_r0_harvest v_r0_fraction v_r0_refusals v_r0_now_weights v_r0_now_kinds v_r0_now_figures v_r0_now_hampers v_r0_now_days v_r0_now_fields v_r0_now_done : Value) (r0_now_things : Int32) (r0_now_goes : Nat → Int32) (o : Int32) (hr : F_H_eggAndRope r0_now_things r0_now_goes = some o) : ctI l y_H_eggAndRope (Cond.code y_H_eggAndRope b_H_eggAndRope 1 (some FieldType.int)) (rmd 2) D (kTy cI cS) [.ref a_r0] (w_H_eggAndRope cI a_r0 a_r0_now a_r0_now_goes v_r0_kept v_r0_trial v_r0_hasKept v_r0_steps v_r0_letters v_r0_numbers v_r0_harvest v_r0_fraction v_r0_refusals v_r0_now_weights v_r0_now_kinds v_r0_now_figures v_r0_now_hampers v_r0_now_days v_r0_now_fields v_r0_now_done r0_now_things r0_now_goes) (w_H_eggAndRope cI a_r0 a_r0_now a_r0_now_goes v_r0_kept v_r0_trial v_r0_hasKept v_r0_steps v_r0_letters v_r0_numbers v_r0_harvest v_r0_fraction v_r0_refusals v_r0_now_weights v_r0_now_kinds v_r0_now_figures v_r0_now_hampers v_r0_now_days v_r0_now_fields v_r0_now_done r0_now_things r0_now_goes) o := by
  unfold F_H_eggAndRope at hr
  refine ⟨rfl, fun sz => ct_of (w0 := (w_H_eggAndRope cI a_r0 a_r0_now a_r0_now_goes v_r0_kept v_r0_trial v_r0_hasKept v_r0_steps v_r0_letters v_r0_numbers v_r0_harvest v_r0_fraction v_r0_refusals v_r0_now_weights v_r0_now_kinds v_r0_now_figures v_r0_now_hampers v_r0_now_days v_r0_now_fields v_r0_now_done r0_now_things r0_now_goes)) (Qc := fun A => qI D (w_H_eggAndRope cI a_r0 a_r0_now a_r0_now_goes v_r0_kept v_r0_trial v_r0_hasKept v_r0_steps v_r0_letters v_r0_numbers v_r0_harvest v_r0_fraction v_r0_refusals v_r0_now_weights v_r0_now_kinds v_r0_now_figures v_r0_now_hampers v_r0_now_days v_r0_now_fields v_r0_now_done r0_now_things r0_now_goes) o A) rfl (Nat.le_of_ble_eq_true rfl) ?_ sz⟩
  intro p e s m below meth c A hA C hret ls hl hW
  have C : cx p s m ([.ref a_r0] : List Value).toArray meth c b_H_eggAndRope 1 R_H D (kTy cI cS) (Cond.code y_H_eggAndRope b_H_eggAndRope 1 (some FieldType.int)) := C
  obtain ⟨hx, hb, hml, hown, hts, hK, hlk, hN⟩ := id C
  have hl : lv_has ls 1 [(0, .ref a_r0)] := hl
  obtain ⟨Q, hQ⟩ : ∃ Q, Q = MQ below (qI D (w_H_eggAndRope cI a_r0 a_r0_now a_r0_now_goes v_r0_kept v_r0_trial v_r0_hasKept v_r0_steps v_r0_letters v_r0_numbers v_r0_harvest v_r0_fraction v_r0_refusals v_r0_now_weights v_r0_now_kinds v_r0_now_figures v_r0_now_hampers v_r0_now_days v_r0_now_fields v_r0_now_done r0_now_things r0_now_goes) o A) ([.ref a_r0] : List Value).toArray s 0 0 A := ⟨_, rfl⟩
  rw [← hQ]
  refine lv_aload_n hx hb d_H_eggAndRope_0 rfl (lv_at hl 0 rfl) ?_
  refine k_get i_H C hW 0 rfl rfl 0 (by decide) qf_H_10 rfl rfl d_H_eggAndRope_1 ?_
  obtain ⟨q_1, hc_1, hr⟩ := ob hr
  have ct_1 := C_Set_nearestTwo l D cI cS a_r0_now a_r0_now_goes v_r0_now_weights v_r0_now_kinds v_r0_now_figures v_r0_now_hampers v_r0_now_days v_r0_now_fields v_r0_now_done r0_now_things r0_now_goes q_1 hc_1
  refine k_goIp hA hW [1, 2] rfl rfl (k_runS C hA hW mw_Set_nearestTwo ms_Set_nearestTwo (ct_1.2 _) [1, 2] rfl rfl qm_H_262 ⟨Nat.le_of_ble_eq_true rfl, Nat.le_of_ble_eq_true rfl, Nat.zero_le _, Nat.zero_le _⟩ rfl rfl (Nat.le_of_ble_eq_true rfl) hl.1 d_H_eggAndRope_4) (fun H locs hW => ?_)
  obtain rfl := Option.some.inj hr
  rw [hQ]; exact k_iret C hret hW d_H_eggAndRope_7
def w_H_feed (cI : ClassId) (a_r0 : Nat) (a_r0_letters : Nat) (a_r0_letters_letters : Nat) (a_r0_refusals : Nat) (v_r0_now v_r0_kept v_r0_trial v_r0_hasKept v_r0_steps v_r0_numbers v_r0_harvest v_r0_fraction : Value) (r0_letters_count : Int32) (r0_letters_letters : Nat → Int32) (r0_refusals : Nat → Int32) : va_W := [(a_r0, .inr (0, [v_r0_now, v_r0_kept, v_r0_trial, v_r0_hasKept, v_r0_steps, .ref a_r0_letters, v_r0_numbers, v_r0_harvest, v_r0_fraction, .ref a_r0_refusals])), (a_r0_letters, .inr (5, [.ref a_r0_letters_letters, .int r0_letters_count])), (a_r0_letters_letters, .inl (cI, 96, .inl r0_letters_letters)), (a_r0_refusals, .inl (cI, 7, .inl r0_refusals))]
def F_H_feed_J30_3 (r0_letters_count : Int32) (r0_letters_letters : Nat → Int32) (r0_refusals : Nat → Int32) : Option (Int32 × (Int32) × (Nat → Int32) × (Nat → Int32)) :=
  ((F_H_refused r0_refusals ((-6) : Int32)).bind (fun q_4 => (some (q_4.1, r0_letters_count, r0_letters_letters, q_4.2))))
def F_H_feed (r0_letters_count : Int32) (r0_letters_letters : Nat → Int32) (r0_refusals : Nat → Int32) (x1 : Int32) : Option (Int32 × (Int32) × (Nat → Int32) × (Nat → Int32)) :=
  (if (0 : Int32) ≤ x1 then (if (255 : Int32) < x1 then (F_H_feed_J30_3 r0_letters_count r0_letters_letters r0_refusals) else (if r0_letters_count < 96 then ((F_Let_append r0_letters_count r0_letters_letters x1).bind (fun q_6 => (some (q_6.1, q_6.2.1, q_6.2.2, r0_refusals)))) else (F_H_feed_J30_3 r0_letters_count r0_letters_letters r0_refusals))) else ((F_H_refused r0_refusals ((-4) : Int32)).bind (fun q_7 => (some (q_7.1, r0_letters_count, r0_letters_letters, q_7.2)))))
set_option maxHeartbeats 4000000 in
set_option maxRecDepth 100000 in
theorem C_H_feed (l : Launch) (D : va_G) (cI cS : ClassId) (a_r0 : Nat) (a_r0_letters : Nat) (a_r0_letters_letters : Nat) (a_r0_refusals : Nat) (v_r0_now v_r0_kept v_r0_trial v_r0_hasKept v_r0_steps v_r0_numbers v_r0_harvest v_r0_fraction : Value) (r0_letters_count : Int32) (r0_letters_letters : Nat → Int32) (r0_refusals : Nat → Int32) (x1 : Int32) (o : Int32 × (Int32) × (Nat → Int32) × (Nat → Int32)) (hr : F_H_feed r0_letters_count r0_letters_letters r0_refusals x1 = some o) : ctI l y_H_feed (Cond.code y_H_feed b_H_feed 2 (some FieldType.int)) (rmd 1) D (kTy cI cS) [.ref a_r0, .int x1] (w_H_feed cI a_r0 a_r0_letters a_r0_letters_letters a_r0_refusals v_r0_now v_r0_kept v_r0_trial v_r0_hasKept v_r0_steps v_r0_numbers v_r0_harvest v_r0_fraction r0_letters_count r0_letters_letters r0_refusals) (w_H_feed cI a_r0 a_r0_letters a_r0_letters_letters a_r0_refusals v_r0_now v_r0_kept v_r0_trial v_r0_hasKept v_r0_steps v_r0_numbers v_r0_harvest v_r0_fraction o.2.1 o.2.2.1 o.2.2.2) o.1 := by
  unfold F_H_feed at hr
  refine ⟨rfl, fun sz => ct_of (w0 := (w_H_feed cI a_r0 a_r0_letters a_r0_letters_letters a_r0_refusals v_r0_now v_r0_kept v_r0_trial v_r0_hasKept v_r0_steps v_r0_numbers v_r0_harvest v_r0_fraction r0_letters_count r0_letters_letters r0_refusals)) (Qc := fun A => qI D (w_H_feed cI a_r0 a_r0_letters a_r0_letters_letters a_r0_refusals v_r0_now v_r0_kept v_r0_trial v_r0_hasKept v_r0_steps v_r0_numbers v_r0_harvest v_r0_fraction o.2.1 o.2.2.1 o.2.2.2) o.1 A) rfl (Nat.le_of_ble_eq_true rfl) ?_ sz⟩
  intro p e s m below meth c A hA C hret ls hl hW
  have C : cx p s m ([.ref a_r0, .int x1] : List Value).toArray meth c b_H_feed 2 R_H D (kTy cI cS) (Cond.code y_H_feed b_H_feed 2 (some FieldType.int)) := C
  obtain ⟨hx, hb, hml, hown, hts, hK, hlk, hN⟩ := id C
  have hl : lv_has ls 2 [(0, .ref a_r0), (1, .int x1)] := hl
  obtain ⟨Q, hQ⟩ : ∃ Q, Q = MQ below (qI D (w_H_feed cI a_r0 a_r0_letters a_r0_letters_letters a_r0_refusals v_r0_now v_r0_kept v_r0_trial v_r0_hasKept v_r0_steps v_r0_numbers v_r0_harvest v_r0_fraction o.2.1 o.2.2.1 o.2.2.2) o.1 A) ([.ref a_r0, .int x1] : List Value).toArray s 0 0 A := ⟨_, rfl⟩
  rw [← hQ]
  refine lv_iload_n hx hb d_H_feed_0 rfl (lv_at hl 1 rfl) ?_
  refine lv_if_ge (tgt := 11) hx hb d_H_feed_1 (by decide) (fun c_1 => ?_) (fun c_1 => ?_)
  · replace hr := ip c_1 hr
    refine lv_iload_n hx hb d_H_feed_11 rfl (lv_at hl 1 rfl) ?_
    refine lv_sipush (v := 255) hx hb d_H_feed_12 (by decide) ?_
    have hJ_3 : ∀ (_ : Unit), F_H_feed_J30_3 r0_letters_count r0_letters_letters r0_refusals = some o → ∀ (H : Heap) (locs : List Loc) (ls : Array Slot), wd A s.heap D (w_H_feed cI a_r0 a_r0_letters a_r0_letters_letters a_r0_refusals v_r0_now v_r0_kept v_r0_trial v_r0_hasKept v_r0_steps v_r0_numbers v_r0_harvest v_r0_fraction r0_letters_count r0_letters_letters r0_refusals) H locs → lv_has ls 2 [(0, .ref a_r0)] → W p l e (rmd 1) s m ([.ref a_r0, .int x1] : List Value).toArray below meth c H locs 0 0 Q (F0 m 30 ls []) := by
      intro _ hr H locs ls hW hl
      unfold F_H_feed_J30_3 at hr
      refine lv_aload_n hx hb d_H_feed_30 rfl (lv_at hl 0 rfl) ?_
      refine lv_bipush (v := (-6)) hx hb d_H_feed_31 (by decide) ?_
      obtain ⟨q_4, hc_4, hr⟩ := ob hr
      have ct_4 := C_H_refused l D cI cS a_r0 a_r0_refusals v_r0_now v_r0_kept v_r0_trial v_r0_hasKept v_r0_steps (Value.ref a_r0_letters) v_r0_numbers v_r0_harvest v_r0_fraction r0_refusals (-6) q_4 hc_4
      refine k_goI hA hW [0, 3] rfl ct_4.1 (ws' := (w_H_feed cI a_r0 a_r0_letters a_r0_letters_letters a_r0_refusals v_r0_now v_r0_kept v_r0_trial v_r0_hasKept v_r0_steps v_r0_numbers v_r0_harvest v_r0_fraction r0_letters_count r0_letters_letters q_4.2)) rfl (k_runV C hA hW mw_H_refused mv_H_refused (ct_4.2 _) [0, 3] rfl rfl 0 rfl rfl qm_H_65 ⟨Nat.le_of_ble_eq_true rfl, Nat.le_of_ble_eq_true rfl, Nat.zero_le _, Nat.zero_le _⟩ rfl rfl (Nat.le_of_ble_eq_true rfl) hl.1 d_H_feed_33) (fun H locs hW => ?_)
      obtain rfl := Option.some.inj hr
      rw [hQ]; exact k_iret C hret hW d_H_feed_36
    refine lv_icmp_gt (tgt := 30) hx hb d_H_feed_15 (by decide) (fun c_2 => ?_) (fun c_2 => ?_)
    · replace hr := ip c_2 hr
      exact hJ_3 () hr _ _ _ hW (lv_sub hl [0] rfl)
    · replace hr := iN c_2 hr
      refine lv_aload_n hx hb d_H_feed_18 rfl (lv_at hl 0 rfl) ?_
      refine k_get i_H C hW 0 rfl rfl 5 (by decide) qf_H_36 rfl rfl d_H_feed_19 ?_
      refine k_getN i_Let C hW 1 rfl rfl 1 (by decide) qf_H_69 rfl rfl d_H_feed_22 ?_
      refine lv_bipush (v := 96) hx hb d_H_feed_25 (by decide) ?_
      refine lv_icmp_lt (tgt := 37) hx hb d_H_feed_27 (by decide) (fun c_5 => ?_) (fun c_5 => ?_)
      · replace hr := ip c_5 hr
        refine lv_aload_n hx hb d_H_feed_37 rfl (lv_at hl 0 rfl) ?_
        refine k_get i_H C hW 0 rfl rfl 5 (by decide) qf_H_36 rfl rfl d_H_feed_38 ?_
        refine lv_iload_n hx hb d_H_feed_41 rfl (lv_at hl 1 rfl) ?_
        obtain ⟨q_6, hc_6, hr⟩ := ob hr
        have ct_6 := C_Let_append l D cI cS a_r0_letters a_r0_letters_letters r0_letters_count r0_letters_letters x1 q_6 hc_6
        refine k_goI hA hW [1, 2] rfl ct_6.1 (ws' := (w_H_feed cI a_r0 a_r0_letters a_r0_letters_letters a_r0_refusals v_r0_now v_r0_kept v_r0_trial v_r0_hasKept v_r0_steps v_r0_numbers v_r0_harvest v_r0_fraction q_6.2.1 q_6.2.2 r0_refusals)) rfl (k_runV C hA hW mw_Let_append mv_Let_append (ct_6.2 _) [1, 2] rfl rfl 1 rfl rfl qm_H_73 ⟨Nat.le_of_ble_eq_true rfl, Nat.le_of_ble_eq_true rfl, Nat.zero_le _, Nat.zero_le _⟩ rfl rfl (Nat.le_of_ble_eq_true rfl) hl.1 d_H_feed_42) (fun H locs hW => ?_)
        obtain rfl := Option.some.inj hr
        rw [hQ]; exact k_iret C hret hW d_H_feed_45
      · replace hr := iN c_5 hr
        exact hJ_3 () hr _ _ _ hW (lv_sub hl [0] rfl)
  · replace hr := iN c_1 hr
    refine lv_aload_n hx hb d_H_feed_4 rfl (lv_at hl 0 rfl) ?_
    refine lv_bipush (v := (-4)) hx hb d_H_feed_5 (by decide) ?_
    obtain ⟨q_7, hc_7, hr⟩ := ob hr
    have ct_7 := C_H_refused l D cI cS a_r0 a_r0_refusals v_r0_now v_r0_kept v_r0_trial v_r0_hasKept v_r0_steps (Value.ref a_r0_letters) v_r0_numbers v_r0_harvest v_r0_fraction r0_refusals (-4) q_7 hc_7
    refine k_goI hA hW [0, 3] rfl ct_7.1 (ws' := (w_H_feed cI a_r0 a_r0_letters a_r0_letters_letters a_r0_refusals v_r0_now v_r0_kept v_r0_trial v_r0_hasKept v_r0_steps v_r0_numbers v_r0_harvest v_r0_fraction r0_letters_count r0_letters_letters q_7.2)) rfl (k_runV C hA hW mw_H_refused mv_H_refused (ct_7.2 _) [0, 3] rfl rfl 0 rfl rfl qm_H_65 ⟨Nat.le_of_ble_eq_true rfl, Nat.le_of_ble_eq_true rfl, Nat.zero_le _, Nat.zero_le _⟩ rfl rfl (Nat.le_of_ble_eq_true rfl) hl.1 d_H_feed_7) (fun H locs hW => ?_)
    obtain rfl := Option.some.inj hr
    rw [hQ]; exact k_iret C hret hW d_H_feed_10
def w_H_fieldOf (cI : ClassId) (a_r0 : Nat) (a_r0_now : Nat) (a_r0_now_fields : Nat) (a_r0_now_fields_lefts : Nat) (a_r0_now_fields_wishes : Nat) (a_r0_refusals : Nat) (v_r0_kept v_r0_trial v_r0_hasKept v_r0_steps v_r0_letters v_r0_numbers v_r0_harvest v_r0_fraction v_r0_now_weights v_r0_now_kinds v_r0_now_figures v_r0_now_goes v_r0_now_things v_r0_now_hampers v_r0_now_days v_r0_now_done : Value) (r0_now_fields_lefts : Nat → Int32) (r0_now_fields_wishes : Nat → Int32) (r0_refusals : Nat → Int32) : va_W := [(a_r0, .inr (0, [.ref a_r0_now, v_r0_kept, v_r0_trial, v_r0_hasKept, v_r0_steps, v_r0_letters, v_r0_numbers, v_r0_harvest, v_r0_fraction, .ref a_r0_refusals])), (a_r0_now, .inr (1, [v_r0_now_weights, v_r0_now_kinds, v_r0_now_figures, v_r0_now_goes, v_r0_now_things, v_r0_now_hampers, v_r0_now_days, .ref a_r0_now_fields, v_r0_now_done])), (a_r0_now_fields, .inr (2, [.ref a_r0_now_fields_wishes, .ref a_r0_now_fields_lefts])), (a_r0_now_fields_lefts, .inl (cI, 4, .inl r0_now_fields_lefts)), (a_r0_now_fields_wishes, .inl (cI, 4, .inl r0_now_fields_wishes)), (a_r0_refusals, .inl (cI, 7, .inl r0_refusals))]
def F_H_fieldOf (r0_now_fields_lefts : Nat → Int32) (r0_now_fields_wishes : Nat → Int32) (r0_refusals : Nat → Int32) (x1 : Int32) (x2 : Int32) : Option (Int32 × (Nat → Int32)) :=
  ((F_H_isField x1).bind (fun q_1 => (if q_1 = 0 then ((F_H_refused r0_refusals ((-1) : Int32)).bind (fun q_8 => (some (q_8.1, q_8.2)))) else (if x2 = 0 then (ck x1 4 (some ((r0_now_fields_wishes (Int32.toNatClampNeg x1)), r0_refusals))) else (if x2 = 1 then (ck x1 4 (some ((r0_now_fields_lefts (Int32.toNatClampNeg x1)), r0_refusals))) else ((F_H_refused r0_refusals ((-2) : Int32)).bind (fun q_7 => (some (q_7.1, q_7.2)))))))))
set_option maxHeartbeats 4000000 in
set_option maxRecDepth 100000 in
theorem C_H_fieldOf (l : Launch) (D : va_G) (cI cS : ClassId) (a_r0 : Nat) (a_r0_now : Nat) (a_r0_now_fields : Nat) (a_r0_now_fields_lefts : Nat) (a_r0_now_fields_wishes : Nat) (a_r0_refusals : Nat) (v_r0_kept v_r0_trial v_r0_hasKept v_r0_steps v_r0_letters v_r0_numbers v_r0_harvest v_r0_fraction v_r0_now_weights v_r0_now_kinds v_r0_now_figures v_r0_now_goes v_r0_now_things v_r0_now_hampers v_r0_now_days v_r0_now_done : Value) (r0_now_fields_lefts : Nat → Int32) (r0_now_fields_wishes : Nat → Int32) (r0_refusals : Nat → Int32) (x1 : Int32) (x2 : Int32) (o : Int32 × (Nat → Int32)) (hr : F_H_fieldOf r0_now_fields_lefts r0_now_fields_wishes r0_refusals x1 x2 = some o) : ctI l y_H_fieldOf (Cond.code y_H_fieldOf b_H_fieldOf 3 (some FieldType.int)) (rmd 1) D (kTy cI cS) [.ref a_r0, .int x1, .int x2] (w_H_fieldOf cI a_r0 a_r0_now a_r0_now_fields a_r0_now_fields_lefts a_r0_now_fields_wishes a_r0_refusals v_r0_kept v_r0_trial v_r0_hasKept v_r0_steps v_r0_letters v_r0_numbers v_r0_harvest v_r0_fraction v_r0_now_weights v_r0_now_kinds v_r0_now_figures v_r0_now_goes v_r0_now_things v_r0_now_hampers v_r0_now_days v_r0_now_done r0_now_fields_lefts r0_now_fields_wishes r0_refusals) (w_H_fieldOf cI a_r0 a_r0_now a_r0_now_fields a_r0_now_fields_lefts a_r0_now_fields_wishes a_r0_refusals v_r0_kept v_r0_trial v_r0_hasKept v_r0_steps v_r0_letters v_r0_numbers v_r0_harvest v_r0_fraction v_r0_now_weights v_r0_now_kinds v_r0_now_figures v_r0_now_goes v_r0_now_things v_r0_now_hampers v_r0_now_days v_r0_now_done r0_now_fields_lefts r0_now_fields_wishes o.2) o.1 := by
  unfold F_H_fieldOf at hr
  refine ⟨rfl, fun sz => ct_of (w0 := (w_H_fieldOf cI a_r0 a_r0_now a_r0_now_fields a_r0_now_fields_lefts a_r0_now_fields_wishes a_r0_refusals v_r0_kept v_r0_trial v_r0_hasKept v_r0_steps v_r0_letters v_r0_numbers v_r0_harvest v_r0_fraction v_r0_now_weights v_r0_now_kinds v_r0_now_figures v_r0_now_goes v_r0_now_things v_r0_now_hampers v_r0_now_days v_r0_now_done r0_now_fields_lefts r0_now_fields_wishes r0_refusals)) (Qc := fun A => qI D (w_H_fieldOf cI a_r0 a_r0_now a_r0_now_fields a_r0_now_fields_lefts a_r0_now_fields_wishes a_r0_refusals v_r0_kept v_r0_trial v_r0_hasKept v_r0_steps v_r0_letters v_r0_numbers v_r0_harvest v_r0_fraction v_r0_now_weights v_r0_now_kinds v_r0_now_figures v_r0_now_goes v_r0_now_things v_r0_now_hampers v_r0_now_days v_r0_now_done r0_now_fields_lefts r0_now_fields_wishes o.2) o.1 A) rfl (Nat.le_of_ble_eq_true rfl) ?_ sz⟩
  intro p e s m below meth c A hA C hret ls hl hW
  have C : cx p s m ([.ref a_r0, .int x1, .int x2] : List Value).toArray meth c b_H_fieldOf 3 R_H D (kTy cI cS) (Cond.code y_H_fieldOf b_H_fieldOf 3 (some FieldType.int)) := C
  obtain ⟨hx, hb, hml, hown, hts, hK, hlk, hN⟩ := id C
  have hl : lv_has ls 3 [(0, .ref a_r0), (1, .int x1), (2, .int x2)] := hl
  obtain ⟨Q, hQ⟩ : ∃ Q, Q = MQ below (qI D (w_H_fieldOf cI a_r0 a_r0_now a_r0_now_fields a_r0_now_fields_lefts a_r0_now_fields_wishes a_r0_refusals v_r0_kept v_r0_trial v_r0_hasKept v_r0_steps v_r0_letters v_r0_numbers v_r0_harvest v_r0_fraction v_r0_now_weights v_r0_now_kinds v_r0_now_figures v_r0_now_goes v_r0_now_things v_r0_now_hampers v_r0_now_days v_r0_now_done r0_now_fields_lefts r0_now_fields_wishes o.2) o.1 A) ([.ref a_r0, .int x1, .int x2] : List Value).toArray s 0 0 A := ⟨_, rfl⟩
  rw [← hQ]
  refine lv_iload_n hx hb d_H_fieldOf_0 rfl (lv_at hl 1 rfl) ?_
  obtain ⟨q_1, hc_1, hr⟩ := ob hr
  have ct_1 := C_H_isField l D cI cS x1 q_1 hc_1
  refine k_goIp hA hW [] rfl rfl (k_runS C hA hW mw_H_isField ms_H_isField (ct_1.2 _) [] rfl rfl qm_H_125 ⟨Nat.le_of_ble_eq_true rfl, Nat.le_of_ble_eq_true rfl, Nat.zero_le _, Nat.zero_le _⟩ rfl rfl (Nat.le_of_ble_eq_true rfl) hl.1 d_H_fieldOf_1) (fun H locs hW => ?_)
  refine lv_if_ne (tgt := 13) hx hb d_H_fieldOf_4 (by decide) (fun c_2 => ?_) (fun c_2 => ?_)
  · replace hr := iN c_2 hr
    refine lv_iload_n hx hb d_H_fieldOf_13 rfl (lv_at hl 2 rfl) ?_
    by_cases c_3 : x2 = 0
    · replace hr := ip c_3 hr
      refine k_lookIn (tgt := 40) (off := 26) c_3 hx hb d_H_fieldOf_14 (by decide) (by decide) (by decide) ?_
      refine lv_aload_n hx hb d_H_fieldOf_40 rfl (lv_at hl 0 rfl) ?_
      refine k_get i_H C hW 0 rfl rfl 0 (by decide) qf_H_10 rfl rfl d_H_fieldOf_41 ?_
      refine k_getN i_Sta C hW 1 rfl rfl 7 (by decide) qf_H_128 rfl rfl d_H_fieldOf_44 ?_
      refine k_getN i_Fld C hW 2 rfl rfl 0 (by decide) qf_H_132 rfl rfl d_H_fieldOf_47 ?_
      refine lv_iload_n hx hb d_H_fieldOf_50 rfl (lv_at hl 1 rfl) ?_
      obtain ⟨h_4, hr⟩ := ck_some hr
      refine k_iald C hW 4 rfl h_4 d_H_fieldOf_51 ?_
      obtain rfl := Option.some.inj hr
      rw [hQ]; exact k_iret C hret hW d_H_fieldOf_52
    · replace hr := iN c_3 hr
      by_cases c_5 : x2 = 1
      · replace hr := ip c_5 hr
        refine k_lookIn (tgt := 53) (off := 39) c_5 hx hb d_H_fieldOf_14 (by decide) (by decide) (by decide) ?_
        refine lv_aload_n hx hb d_H_fieldOf_53 rfl (lv_at hl 0 rfl) ?_
        refine k_get i_H C hW 0 rfl rfl 0 (by decide) qf_H_10 rfl rfl d_H_fieldOf_54 ?_
        refine k_getN i_Sta C hW 1 rfl rfl 7 (by decide) qf_H_128 rfl rfl d_H_fieldOf_57 ?_
        refine k_getN i_Fld C hW 2 rfl rfl 1 (by decide) qf_H_137 rfl rfl d_H_fieldOf_60 ?_
        refine lv_iload_n hx hb d_H_fieldOf_63 rfl (lv_at hl 1 rfl) ?_
        obtain ⟨h_6, hr⟩ := ck_some hr
        refine k_iald C hW 3 rfl h_6 d_H_fieldOf_64 ?_
        obtain rfl := Option.some.inj hr
        rw [hQ]; exact k_iret C hret hW d_H_fieldOf_65
      · replace hr := iN c_5 hr
        refine lv_lookup (tgt := 66) (off := 52) hx hb d_H_fieldOf_14 (by decide) (look_out _ [0, 1] (by decide +kernel) (by simp only [List.forall_mem_cons]; exact ⟨c_3, c_5, fun _ h => absurd h List.not_mem_nil⟩)) (by decide) ?_
        refine lv_aload_n hx hb d_H_fieldOf_66 rfl (lv_at hl 0 rfl) ?_
        refine lv_bipush (v := (-2)) hx hb d_H_fieldOf_67 (by decide) ?_
        obtain ⟨q_7, hc_7, hr⟩ := ob hr
        have ct_7 := C_H_refused l D cI cS a_r0 a_r0_refusals (Value.ref a_r0_now) v_r0_kept v_r0_trial v_r0_hasKept v_r0_steps v_r0_letters v_r0_numbers v_r0_harvest v_r0_fraction r0_refusals (-2) q_7 hc_7
        refine k_goI hA hW [0, 5] rfl ct_7.1 (ws' := (w_H_fieldOf cI a_r0 a_r0_now a_r0_now_fields a_r0_now_fields_lefts a_r0_now_fields_wishes a_r0_refusals v_r0_kept v_r0_trial v_r0_hasKept v_r0_steps v_r0_letters v_r0_numbers v_r0_harvest v_r0_fraction v_r0_now_weights v_r0_now_kinds v_r0_now_figures v_r0_now_goes v_r0_now_things v_r0_now_hampers v_r0_now_days v_r0_now_done r0_now_fields_lefts r0_now_fields_wishes q_7.2)) rfl (k_runV C hA hW mw_H_refused mv_H_refused (ct_7.2 _) [0, 5] rfl rfl 0 rfl rfl qm_H_65 ⟨Nat.le_of_ble_eq_true rfl, Nat.le_of_ble_eq_true rfl, Nat.zero_le _, Nat.zero_le _⟩ rfl rfl (Nat.le_of_ble_eq_true rfl) hl.1 d_H_fieldOf_69) (fun H locs hW => ?_)
        obtain rfl := Option.some.inj hr
        rw [hQ]; exact k_iret C hret hW d_H_fieldOf_72
  · replace hr := ip c_2 hr
    refine lv_aload_n hx hb d_H_fieldOf_7 rfl (lv_at hl 0 rfl) ?_
    refine lv_iconst (v := (-1)) hx hb d_H_fieldOf_8 (by decide) ?_
    obtain ⟨q_8, hc_8, hr⟩ := ob hr
    have ct_8 := C_H_refused l D cI cS a_r0 a_r0_refusals (Value.ref a_r0_now) v_r0_kept v_r0_trial v_r0_hasKept v_r0_steps v_r0_letters v_r0_numbers v_r0_harvest v_r0_fraction r0_refusals (-1) q_8 hc_8
    refine k_goI hA hW [0, 5] rfl ct_8.1 (ws' := (w_H_fieldOf cI a_r0 a_r0_now a_r0_now_fields a_r0_now_fields_lefts a_r0_now_fields_wishes a_r0_refusals v_r0_kept v_r0_trial v_r0_hasKept v_r0_steps v_r0_letters v_r0_numbers v_r0_harvest v_r0_fraction v_r0_now_weights v_r0_now_kinds v_r0_now_figures v_r0_now_goes v_r0_now_things v_r0_now_hampers v_r0_now_days v_r0_now_done r0_now_fields_lefts r0_now_fields_wishes q_8.2)) rfl (k_runV C hA hW mw_H_refused mv_H_refused (ct_8.2 _) [0, 5] rfl rfl 0 rfl rfl qm_H_65 ⟨Nat.le_of_ble_eq_true rfl, Nat.le_of_ble_eq_true rfl, Nat.zero_le _, Nat.zero_le _⟩ rfl rfl (Nat.le_of_ble_eq_true rfl) hl.1 d_H_fieldOf_9) (fun H locs hW => ?_)
    obtain rfl := Option.some.inj hr
    rw [hQ]; exact k_iret C hret hW d_H_fieldOf_12
def w_H_gotIn (cI : ClassId) (a_r0 : Nat) (a_r0_harvest : Nat) (a_r0_harvest_fields : Nat) (a_r0_harvest_fields_lefts : Nat) (a_r0_harvest_fields_wishes : Nat) (a_r0_harvest_weathers : Nat) (a_r0_now : Nat) (a_r0_now_fields : Nat) (a_r0_now_fields_lefts : Nat) (a_r0_now_fields_wishes : Nat) (a_r0_now_goes : Nat) (a_r0_now_hampers : Nat) (a_r0_now_weights : Nat) (a_r0_refusals : Nat) (v_r0_kept v_r0_trial v_r0_hasKept v_r0_steps v_r0_letters v_r0_numbers v_r0_fraction v_r0_harvest_path v_r0_harvest_best v_r0_harvest_counted v_r0_harvest_atMost v_r0_harvest_most v_r0_harvest_oneIn v_r0_harvest_lotsDone v_r0_harvest_lotsNone v_r0_now_kinds v_r0_now_figures v_r0_now_things v_r0_now_done : Value) (r0_harvest_days : Int32) (r0_harvest_fields_lefts : Nat → Int32) (r0_harvest_fields_wishes : Nat → Int32) (r0_harvest_weathers : Nat → Int32) (r0_now_days : Int32) (r0_now_fields_lefts : Nat → Int32) (r0_now_fields_wishes : Nat → Int32) (r0_now_goes : Nat → Int32) (r0_now_hampers : Nat → Int32) (r0_now_weights : Nat → Int32) (r0_refusals : Nat → Int32) : va_W := [(a_r0, .inr (0, [.ref a_r0_now, v_r0_kept, v_r0_trial, v_r0_hasKept, v_r0_steps, v_r0_letters, v_r0_numbers, .ref a_r0_harvest, v_r0_fraction, .ref a_r0_refusals])), (a_r0_harvest, .inr (7, [.ref a_r0_harvest_fields, .ref a_r0_harvest_weathers, .int r0_harvest_days, v_r0_harvest_path, v_r0_harvest_best, v_r0_harvest_counted, v_r0_harvest_atMost, v_r0_harvest_most, v_r0_harvest_oneIn, v_r0_harvest_lotsDone, v_r0_harvest_lotsNone])), (a_r0_harvest_fields, .inr (2, [.ref a_r0_harvest_fields_wishes, .ref a_r0_harvest_fields_lefts])), (a_r0_harvest_fields_lefts, .inl (cI, 4, .inl r0_harvest_fields_lefts)), (a_r0_harvest_fields_wishes, .inl (cI, 4, .inl r0_harvest_fields_wishes)), (a_r0_harvest_weathers, .inl (cI, 8, .inl r0_harvest_weathers)), (a_r0_now, .inr (1, [.ref a_r0_now_weights, v_r0_now_kinds, v_r0_now_figures, .ref a_r0_now_goes, v_r0_now_things, .ref a_r0_now_hampers, .int r0_now_days, .ref a_r0_now_fields, v_r0_now_done])), (a_r0_now_fields, .inr (2, [.ref a_r0_now_fields_wishes, .ref a_r0_now_fields_lefts])), (a_r0_now_fields_lefts, .inl (cI, 4, .inl r0_now_fields_lefts)), (a_r0_now_fields_wishes, .inl (cI, 4, .inl r0_now_fields_wishes)), (a_r0_now_goes, .inl (cI, 8, .inl r0_now_goes)), (a_r0_now_hampers, .inl (cI, 8, .inl r0_now_hampers)), (a_r0_now_weights, .inl (cI, 6, .inl r0_now_weights)), (a_r0_refusals, .inl (cI, 7, .inl r0_refusals))]
def F_H_gotIn (r0_harvest_days : Int32) (r0_harvest_fields_lefts : Nat → Int32) (r0_harvest_fields_wishes : Nat → Int32) (r0_harvest_weathers : Nat → Int32) (r0_now_days : Int32) (r0_now_fields_lefts : Nat → Int32) (r0_now_fields_wishes : Nat → Int32) (r0_now_goes : Nat → Int32) (r0_now_hampers : Nat → Int32) (r0_now_weights : Nat → Int32) (r0_refusals : Nat → Int32) (x1 : Int32) : Option (Int32 × (Int32) × (Nat → Int32) × (Nat → Int32) × (Nat → Int32) × (Nat → Int32)) :=
  (if x1 = 0 then ((F_Har_gather r0_harvest_fields_lefts r0_harvest_fields_wishes r0_harvest_weathers r0_now_days r0_now_fields_lefts r0_now_fields_wishes r0_now_goes r0_now_hampers r0_now_weights (0 : Int32)).bind (fun q_2 => (some (q_2.1, q_2.2.1, q_2.2.2.1, q_2.2.2.2.1, q_2.2.2.2.2, r0_refusals)))) else (if x1 = 1 then ((F_Har_gather r0_harvest_fields_lefts r0_harvest_fields_wishes r0_harvest_weathers r0_now_days r0_now_fields_lefts r0_now_fields_wishes r0_now_goes r0_now_hampers r0_now_weights (0 : Int32)).bind (fun q_4 => ((F_Fld_emptied q_4.2.2.1).bind (fun q_5 => (some (q_5, q_4.2.1, q_4.2.2.1, q_4.2.2.2.1, q_4.2.2.2.2, r0_refusals)))))) else ((F_H_refused r0_refusals ((-2) : Int32)).bind (fun q_6 => (some (q_6.1, r0_harvest_days, r0_harvest_fields_lefts, r0_harvest_fields_wishes, r0_harvest_weathers, q_6.2))))))
set_option maxHeartbeats 4000000 in
set_option maxRecDepth 100000 in
theorem C_H_gotIn (l : Launch) (D : va_G) (cI cS : ClassId) (a_r0 : Nat) (a_r0_harvest : Nat) (a_r0_harvest_fields : Nat) (a_r0_harvest_fields_lefts : Nat) (a_r0_harvest_fields_wishes : Nat) (a_r0_harvest_weathers : Nat) (a_r0_now : Nat) (a_r0_now_fields : Nat) (a_r0_now_fields_lefts : Nat) (a_r0_now_fields_wishes : Nat) (a_r0_now_goes : Nat) (a_r0_now_hampers : Nat) (a_r0_now_weights : Nat) (a_r0_refusals : Nat) (v_r0_kept v_r0_trial v_r0_hasKept v_r0_steps v_r0_letters v_r0_numbers v_r0_fraction v_r0_harvest_path v_r0_harvest_best v_r0_harvest_counted v_r0_harvest_atMost v_r0_harvest_most v_r0_harvest_oneIn v_r0_harvest_lotsDone v_r0_harvest_lotsNone v_r0_now_kinds v_r0_now_figures v_r0_now_things v_r0_now_done : Value) (r0_harvest_days : Int32) (r0_harvest_fields_lefts : Nat → Int32) (r0_harvest_fields_wishes : Nat → Int32) (r0_harvest_weathers : Nat → Int32) (r0_now_days : Int32) (r0_now_fields_lefts : Nat → Int32) (r0_now_fields_wishes : Nat → Int32) (r0_now_goes : Nat → Int32) (r0_now_hampers : Nat → Int32) (r0_now_weights : Nat → Int32) (r0_refusals : Nat → Int32) (x1 : Int32) (o : Int32 × (Int32) × (Nat → Int32) × (Nat → Int32) × (Nat → Int32) × (Nat → Int32)) (hr : F_H_gotIn r0_harvest_days r0_harvest_fields_lefts r0_harvest_fields_wishes r0_harvest_weathers r0_now_days r0_now_fields_lefts r0_now_fields_wishes r0_now_goes r0_now_hampers r0_now_weights r0_refusals x1 = some o) : ctI l y_H_gotIn (Cond.code y_H_gotIn b_H_gotIn 2 (some FieldType.int)) (rmd 5) D (kTy cI cS) [.ref a_r0, .int x1] (w_H_gotIn cI a_r0 a_r0_harvest a_r0_harvest_fields a_r0_harvest_fields_lefts a_r0_harvest_fields_wishes a_r0_harvest_weathers a_r0_now a_r0_now_fields a_r0_now_fields_lefts a_r0_now_fields_wishes a_r0_now_goes a_r0_now_hampers a_r0_now_weights a_r0_refusals v_r0_kept v_r0_trial v_r0_hasKept v_r0_steps v_r0_letters v_r0_numbers v_r0_fraction v_r0_harvest_path v_r0_harvest_best v_r0_harvest_counted v_r0_harvest_atMost v_r0_harvest_most v_r0_harvest_oneIn v_r0_harvest_lotsDone v_r0_harvest_lotsNone v_r0_now_kinds v_r0_now_figures v_r0_now_things v_r0_now_done r0_harvest_days r0_harvest_fields_lefts r0_harvest_fields_wishes r0_harvest_weathers r0_now_days r0_now_fields_lefts r0_now_fields_wishes r0_now_goes r0_now_hampers r0_now_weights r0_refusals) (w_H_gotIn cI a_r0 a_r0_harvest a_r0_harvest_fields a_r0_harvest_fields_lefts a_r0_harvest_fields_wishes a_r0_harvest_weathers a_r0_now a_r0_now_fields a_r0_now_fields_lefts a_r0_now_fields_wishes a_r0_now_goes a_r0_now_hampers a_r0_now_weights a_r0_refusals v_r0_kept v_r0_trial v_r0_hasKept v_r0_steps v_r0_letters v_r0_numbers v_r0_fraction v_r0_harvest_path v_r0_harvest_best v_r0_harvest_counted v_r0_harvest_atMost v_r0_harvest_most v_r0_harvest_oneIn v_r0_harvest_lotsDone v_r0_harvest_lotsNone v_r0_now_kinds v_r0_now_figures v_r0_now_things v_r0_now_done o.2.1 o.2.2.1 o.2.2.2.1 o.2.2.2.2.1 r0_now_days r0_now_fields_lefts r0_now_fields_wishes r0_now_goes r0_now_hampers r0_now_weights o.2.2.2.2.2) o.1 := by
  unfold F_H_gotIn at hr
  refine ⟨rfl, fun sz => ct_of (w0 := (w_H_gotIn cI a_r0 a_r0_harvest a_r0_harvest_fields a_r0_harvest_fields_lefts a_r0_harvest_fields_wishes a_r0_harvest_weathers a_r0_now a_r0_now_fields a_r0_now_fields_lefts a_r0_now_fields_wishes a_r0_now_goes a_r0_now_hampers a_r0_now_weights a_r0_refusals v_r0_kept v_r0_trial v_r0_hasKept v_r0_steps v_r0_letters v_r0_numbers v_r0_fraction v_r0_harvest_path v_r0_harvest_best v_r0_harvest_counted v_r0_harvest_atMost v_r0_harvest_most v_r0_harvest_oneIn v_r0_harvest_lotsDone v_r0_harvest_lotsNone v_r0_now_kinds v_r0_now_figures v_r0_now_things v_r0_now_done r0_harvest_days r0_harvest_fields_lefts r0_harvest_fields_wishes r0_harvest_weathers r0_now_days r0_now_fields_lefts r0_now_fields_wishes r0_now_goes r0_now_hampers r0_now_weights r0_refusals)) (Qc := fun A => qI D (w_H_gotIn cI a_r0 a_r0_harvest a_r0_harvest_fields a_r0_harvest_fields_lefts a_r0_harvest_fields_wishes a_r0_harvest_weathers a_r0_now a_r0_now_fields a_r0_now_fields_lefts a_r0_now_fields_wishes a_r0_now_goes a_r0_now_hampers a_r0_now_weights a_r0_refusals v_r0_kept v_r0_trial v_r0_hasKept v_r0_steps v_r0_letters v_r0_numbers v_r0_fraction v_r0_harvest_path v_r0_harvest_best v_r0_harvest_counted v_r0_harvest_atMost v_r0_harvest_most v_r0_harvest_oneIn v_r0_harvest_lotsDone v_r0_harvest_lotsNone v_r0_now_kinds v_r0_now_figures v_r0_now_things v_r0_now_done o.2.1 o.2.2.1 o.2.2.2.1 o.2.2.2.2.1 r0_now_days r0_now_fields_lefts r0_now_fields_wishes r0_now_goes r0_now_hampers r0_now_weights o.2.2.2.2.2) o.1 A) rfl (Nat.le_of_ble_eq_true rfl) ?_ sz⟩
  intro p e s m below meth c A hA C hret ls hl hW
  have C : cx p s m ([.ref a_r0, .int x1] : List Value).toArray meth c b_H_gotIn 2 R_H D (kTy cI cS) (Cond.code y_H_gotIn b_H_gotIn 2 (some FieldType.int)) := C
  obtain ⟨hx, hb, hml, hown, hts, hK, hlk, hN⟩ := id C
  have hl : lv_has ls 2 [(0, .ref a_r0), (1, .int x1)] := hl
  obtain ⟨Q, hQ⟩ : ∃ Q, Q = MQ below (qI D (w_H_gotIn cI a_r0 a_r0_harvest a_r0_harvest_fields a_r0_harvest_fields_lefts a_r0_harvest_fields_wishes a_r0_harvest_weathers a_r0_now a_r0_now_fields a_r0_now_fields_lefts a_r0_now_fields_wishes a_r0_now_goes a_r0_now_hampers a_r0_now_weights a_r0_refusals v_r0_kept v_r0_trial v_r0_hasKept v_r0_steps v_r0_letters v_r0_numbers v_r0_fraction v_r0_harvest_path v_r0_harvest_best v_r0_harvest_counted v_r0_harvest_atMost v_r0_harvest_most v_r0_harvest_oneIn v_r0_harvest_lotsDone v_r0_harvest_lotsNone v_r0_now_kinds v_r0_now_figures v_r0_now_things v_r0_now_done o.2.1 o.2.2.1 o.2.2.2.1 o.2.2.2.2.1 r0_now_days r0_now_fields_lefts r0_now_fields_wishes r0_now_goes r0_now_hampers r0_now_weights o.2.2.2.2.2) o.1 A) ([.ref a_r0, .int x1] : List Value).toArray s 0 0 A := ⟨_, rfl⟩
  rw [← hQ]
  refine lv_iload_n hx hb d_H_gotIn_0 rfl (lv_at hl 1 rfl) ?_
  by_cases c_1 : x1 = 0
  · replace hr := ip c_1 hr
    refine k_lookIn (tgt := 28) (off := 27) c_1 hx hb d_H_gotIn_1 (by decide) (by decide) (by decide) ?_
    refine lv_aload_n hx hb d_H_gotIn_28 rfl (lv_at hl 0 rfl) ?_
    refine k_get i_H C hW 0 rfl rfl 7 (by decide) qf_H_50 rfl rfl d_H_gotIn_29 ?_
    refine lv_aload_n hx hb d_H_gotIn_32 rfl (lv_at hl 0 rfl) ?_
    refine k_get i_H C hW 0 rfl rfl 0 (by decide) qf_H_10 rfl rfl d_H_gotIn_33 ?_
    refine lv_iconst (v := 0) hx hb d_H_gotIn_36 (by decide) ?_
    obtain ⟨q_2, hc_2, hr⟩ := ob hr
    have ct_2 := C_Har_gather l D cI cS a_r0_harvest a_r0_harvest_fields a_r0_harvest_fields_lefts a_r0_harvest_fields_wishes a_r0_harvest_weathers a_r0_now a_r0_now_fields a_r0_now_fields_lefts a_r0_now_fields_wishes a_r0_now_goes a_r0_now_hampers a_r0_now_weights v_r0_harvest_path v_r0_harvest_best v_r0_harvest_counted v_r0_harvest_atMost v_r0_harvest_most v_r0_harvest_oneIn v_r0_harvest_lotsDone v_r0_harvest_lotsNone v_r0_now_kinds v_r0_now_figures v_r0_now_things v_r0_now_done r0_harvest_days r0_harvest_fields_lefts r0_harvest_fields_wishes r0_harvest_weathers r0_now_days r0_now_fields_lefts r0_now_fields_wishes r0_now_goes r0_now_hampers r0_now_weights 0 q_2 hc_2
    refine k_goI hA hW [1, 2, 3, 4, 5, 6, 7, 8, 9, 10, 11, 12] rfl ct_2.1 (ws' := (w_H_gotIn cI a_r0 a_r0_harvest a_r0_harvest_fields a_r0_harvest_fields_lefts a_r0_harvest_fields_wishes a_r0_harvest_weathers a_r0_now a_r0_now_fields a_r0_now_fields_lefts a_r0_now_fields_wishes a_r0_now_goes a_r0_now_hampers a_r0_now_weights a_r0_refusals v_r0_kept v_r0_trial v_r0_hasKept v_r0_steps v_r0_letters v_r0_numbers v_r0_fraction v_r0_harvest_path v_r0_harvest_best v_r0_harvest_counted v_r0_harvest_atMost v_r0_harvest_most v_r0_harvest_oneIn v_r0_harvest_lotsDone v_r0_harvest_lotsNone v_r0_now_kinds v_r0_now_figures v_r0_now_things v_r0_now_done q_2.2.1 q_2.2.2.1 q_2.2.2.2.1 q_2.2.2.2.2 r0_now_days r0_now_fields_lefts r0_now_fields_wishes r0_now_goes r0_now_hampers r0_now_weights r0_refusals)) rfl (k_runV C hA hW mw_Har_gather mv_Har_gather (ct_2.2 _) [1, 2, 3, 4, 5, 6, 7, 8, 9, 10, 11, 12] rfl rfl 1 rfl rfl qm_H_265 ⟨Nat.le_of_ble_eq_true rfl, Nat.le_of_ble_eq_true rfl, Nat.zero_le _, Nat.zero_le _⟩ rfl rfl (Nat.le_of_ble_eq_true rfl) hl.1 d_H_gotIn_37) (fun H locs hW => ?_)
    obtain rfl := Option.some.inj hr
    rw [hQ]; exact k_iret C hret hW d_H_gotIn_40
  · replace hr := iN c_1 hr
    by_cases c_3 : x1 = 1
    · replace hr := ip c_3 hr
      refine k_lookIn (tgt := 41) (off := 40) c_3 hx hb d_H_gotIn_1 (by decide) (by decide) (by decide) ?_
      refine lv_aload_n hx hb d_H_gotIn_41 rfl (lv_at hl 0 rfl) ?_
      refine k_get i_H C hW 0 rfl rfl 7 (by decide) qf_H_50 rfl rfl d_H_gotIn_42 ?_
      refine lv_aload_n hx hb d_H_gotIn_45 rfl (lv_at hl 0 rfl) ?_
      refine k_get i_H C hW 0 rfl rfl 0 (by decide) qf_H_10 rfl rfl d_H_gotIn_46 ?_
      refine lv_iconst (v := 0) hx hb d_H_gotIn_49 (by decide) ?_
      obtain ⟨q_4, hc_4, hr⟩ := ob hr
      have ct_4 := C_Har_gather l D cI cS a_r0_harvest a_r0_harvest_fields a_r0_harvest_fields_lefts a_r0_harvest_fields_wishes a_r0_harvest_weathers a_r0_now a_r0_now_fields a_r0_now_fields_lefts a_r0_now_fields_wishes a_r0_now_goes a_r0_now_hampers a_r0_now_weights v_r0_harvest_path v_r0_harvest_best v_r0_harvest_counted v_r0_harvest_atMost v_r0_harvest_most v_r0_harvest_oneIn v_r0_harvest_lotsDone v_r0_harvest_lotsNone v_r0_now_kinds v_r0_now_figures v_r0_now_things v_r0_now_done r0_harvest_days r0_harvest_fields_lefts r0_harvest_fields_wishes r0_harvest_weathers r0_now_days r0_now_fields_lefts r0_now_fields_wishes r0_now_goes r0_now_hampers r0_now_weights 0 q_4 hc_4
      refine k_goI hA hW [1, 2, 3, 4, 5, 6, 7, 8, 9, 10, 11, 12] rfl ct_4.1 (ws' := (w_H_gotIn cI a_r0 a_r0_harvest a_r0_harvest_fields a_r0_harvest_fields_lefts a_r0_harvest_fields_wishes a_r0_harvest_weathers a_r0_now a_r0_now_fields a_r0_now_fields_lefts a_r0_now_fields_wishes a_r0_now_goes a_r0_now_hampers a_r0_now_weights a_r0_refusals v_r0_kept v_r0_trial v_r0_hasKept v_r0_steps v_r0_letters v_r0_numbers v_r0_fraction v_r0_harvest_path v_r0_harvest_best v_r0_harvest_counted v_r0_harvest_atMost v_r0_harvest_most v_r0_harvest_oneIn v_r0_harvest_lotsDone v_r0_harvest_lotsNone v_r0_now_kinds v_r0_now_figures v_r0_now_things v_r0_now_done q_4.2.1 q_4.2.2.1 q_4.2.2.2.1 q_4.2.2.2.2 r0_now_days r0_now_fields_lefts r0_now_fields_wishes r0_now_goes r0_now_hampers r0_now_weights r0_refusals)) rfl (k_runV C hA hW mw_Har_gather mv_Har_gather (ct_4.2 _) [1, 2, 3, 4, 5, 6, 7, 8, 9, 10, 11, 12] rfl rfl 1 rfl rfl qm_H_265 ⟨Nat.le_of_ble_eq_true rfl, Nat.le_of_ble_eq_true rfl, Nat.zero_le _, Nat.zero_le _⟩ rfl rfl (Nat.le_of_ble_eq_true rfl) hl.1 d_H_gotIn_50) (fun H locs hW => ?_)
      refine lv_pop hx hb d_H_gotIn_53 rfl ?_
      refine lv_aload_n hx hb d_H_gotIn_54 rfl (lv_at hl 0 rfl) ?_
      refine k_get i_H C hW 0 rfl rfl 7 (by decide) qf_H_50 rfl rfl d_H_gotIn_55 ?_
      refine k_getN i_Har C hW 1 rfl rfl 0 (by decide) qf_H_268 rfl rfl d_H_gotIn_58 ?_
      obtain ⟨q_5, hc_5, hr⟩ := ob hr
      have ct_5 := C_Fld_emptied l D cI cS a_r0_harvest_fields a_r0_harvest_fields_lefts (Value.ref a_r0_harvest_fields_wishes) q_4.2.2.1 q_5 hc_5
      refine k_goIp hA hW [2, 3] rfl rfl (k_runV C hA hW mw_Fld_emptied mv_Fld_emptied (ct_5.2 _) [2, 3] rfl rfl 2 rfl rfl qm_H_269 ⟨Nat.le_of_ble_eq_true rfl, Nat.le_of_ble_eq_true rfl, Nat.zero_le _, Nat.zero_le _⟩ rfl rfl (Nat.le_of_ble_eq_true rfl) hl.1 d_H_gotIn_61) (fun H locs hW => ?_)
      obtain rfl := Option.some.inj hr
      rw [hQ]; exact k_iret C hret hW d_H_gotIn_64
    · replace hr := iN c_3 hr
      refine lv_lookup (tgt := 65) (off := 64) hx hb d_H_gotIn_1 (by decide) (look_out _ [0, 1] (by decide +kernel) (by simp only [List.forall_mem_cons]; exact ⟨c_1, c_3, fun _ h => absurd h List.not_mem_nil⟩)) (by decide) ?_
      refine lv_aload_n hx hb d_H_gotIn_65 rfl (lv_at hl 0 rfl) ?_
      refine lv_bipush (v := (-2)) hx hb d_H_gotIn_66 (by decide) ?_
      obtain ⟨q_6, hc_6, hr⟩ := ob hr
      have ct_6 := C_H_refused l D cI cS a_r0 a_r0_refusals (Value.ref a_r0_now) v_r0_kept v_r0_trial v_r0_hasKept v_r0_steps v_r0_letters v_r0_numbers (Value.ref a_r0_harvest) v_r0_fraction r0_refusals (-2) q_6 hc_6
      refine k_goI hA hW [0, 13] rfl ct_6.1 (ws' := (w_H_gotIn cI a_r0 a_r0_harvest a_r0_harvest_fields a_r0_harvest_fields_lefts a_r0_harvest_fields_wishes a_r0_harvest_weathers a_r0_now a_r0_now_fields a_r0_now_fields_lefts a_r0_now_fields_wishes a_r0_now_goes a_r0_now_hampers a_r0_now_weights a_r0_refusals v_r0_kept v_r0_trial v_r0_hasKept v_r0_steps v_r0_letters v_r0_numbers v_r0_fraction v_r0_harvest_path v_r0_harvest_best v_r0_harvest_counted v_r0_harvest_atMost v_r0_harvest_most v_r0_harvest_oneIn v_r0_harvest_lotsDone v_r0_harvest_lotsNone v_r0_now_kinds v_r0_now_figures v_r0_now_things v_r0_now_done r0_harvest_days r0_harvest_fields_lefts r0_harvest_fields_wishes r0_harvest_weathers r0_now_days r0_now_fields_lefts r0_now_fields_wishes r0_now_goes r0_now_hampers r0_now_weights q_6.2)) rfl (k_runV C hA hW mw_H_refused mv_H_refused (ct_6.2 _) [0, 13] rfl rfl 0 rfl rfl qm_H_65 ⟨Nat.le_of_ble_eq_true rfl, Nat.le_of_ble_eq_true rfl, Nat.zero_le _, Nat.zero_le _⟩ rfl rfl (Nat.le_of_ble_eq_true rfl) hl.1 d_H_gotIn_68) (fun H locs hW => ?_)
      obtain rfl := Option.some.inj hr
      rw [hQ]; exact k_iret C hret hW d_H_gotIn_71
def w_H_hall (cI : ClassId) (a_r0 : Nat) (a_r0_letters : Nat) (a_r0_letters_letters : Nat) (a_r0_now : Nat) (a_r0_now_fields : Nat) (a_r0_now_fields_lefts : Nat) (a_r0_now_fields_wishes : Nat) (a_r0_now_figures : Nat) (a_r0_now_goes : Nat) (a_r0_now_hampers : Nat) (a_r0_now_kinds : Nat) (a_r0_now_weights : Nat) (a_r0_steps : Nat) (a_r0_trial : Nat) (a_r0_trial_fields : Nat) (a_r0_trial_fields_lefts : Nat) (a_r0_trial_fields_wishes : Nat) (a_r0_trial_figures : Nat) (a_r0_trial_goes : Nat) (a_r0_trial_hampers : Nat) (a_r0_trial_kinds : Nat) (a_r0_trial_weights : Nat) (v_r0_kept v_r0_hasKept v_r0_numbers v_r0_harvest v_r0_fraction v_r0_refusals v_r0_steps_steps : Value) (r0_letters_count : Int32) (r0_letters_letters : Nat → Int32) (r0_now_days : Int32) (r0_now_done : Int32) (r0_now_things : Int32) (r0_now_fields_lefts : Nat → Int32) (r0_now_fields_wishes : Nat → Int32) (r0_now_figures : Nat → Int32) (r0_now_goes : Nat → Int32) (r0_now_hampers : Nat → Int32) (r0_now_kinds : Nat → Int32) (r0_now_weights : Nat → Int32) (r0_steps_count : Int32) (r0_trial_days : Int32) (r0_trial_done : Int32) (r0_trial_things : Int32) (r0_trial_fields_lefts : Nat → Int32) (r0_trial_fields_wishes : Nat → Int32) (r0_trial_figures : Nat → Int32) (r0_trial_goes : Nat → Int32) (r0_trial_hampers : Nat → Int32) (r0_trial_kinds : Nat → Int32) (r0_trial_weights : Nat → Int32) : va_W := [(a_r0, .inr (0, [.ref a_r0_now, v_r0_kept, .ref a_r0_trial, v_r0_hasKept, .ref a_r0_steps, .ref a_r0_letters, v_r0_numbers, v_r0_harvest, v_r0_fraction, v_r0_refusals])), (a_r0_letters, .inr (5, [.ref a_r0_letters_letters, .int r0_letters_count])), (a_r0_letters_letters, .inl (cI, 96, .inl r0_letters_letters)), (a_r0_now, .inr (1, [.ref a_r0_now_weights, .ref a_r0_now_kinds, .ref a_r0_now_figures, .ref a_r0_now_goes, .int r0_now_things, .ref a_r0_now_hampers, .int r0_now_days, .ref a_r0_now_fields, .int r0_now_done])), (a_r0_now_fields, .inr (2, [.ref a_r0_now_fields_wishes, .ref a_r0_now_fields_lefts])), (a_r0_now_fields_lefts, .inl (cI, 4, .inl r0_now_fields_lefts)), (a_r0_now_fields_wishes, .inl (cI, 4, .inl r0_now_fields_wishes)), (a_r0_now_figures, .inl (cI, 8, .inl r0_now_figures)), (a_r0_now_goes, .inl (cI, 8, .inl r0_now_goes)), (a_r0_now_hampers, .inl (cI, 8, .inl r0_now_hampers)), (a_r0_now_kinds, .inl (cI, 8, .inl r0_now_kinds)), (a_r0_now_weights, .inl (cI, 6, .inl r0_now_weights)), (a_r0_steps, .inr (3, [v_r0_steps_steps, .int r0_steps_count])), (a_r0_trial, .inr (1, [.ref a_r0_trial_weights, .ref a_r0_trial_kinds, .ref a_r0_trial_figures, .ref a_r0_trial_goes, .int r0_trial_things, .ref a_r0_trial_hampers, .int r0_trial_days, .ref a_r0_trial_fields, .int r0_trial_done])), (a_r0_trial_fields, .inr (2, [.ref a_r0_trial_fields_wishes, .ref a_r0_trial_fields_lefts])), (a_r0_trial_fields_lefts, .inl (cI, 4, .inl r0_trial_fields_lefts)), (a_r0_trial_fields_wishes, .inl (cI, 4, .inl r0_trial_fields_wishes)), (a_r0_trial_figures, .inl (cI, 8, .inl r0_trial_figures)), (a_r0_trial_goes, .inl (cI, 8, .inl r0_trial_goes)), (a_r0_trial_hampers, .inl (cI, 8, .inl r0_trial_hampers)), (a_r0_trial_kinds, .inl (cI, 8, .inl r0_trial_kinds)), (a_r0_trial_weights, .inl (cI, 6, .inl r0_trial_weights))]
def F_H_hall (r0_letters_count : Int32) (r0_letters_letters : Nat → Int32) (r0_now_days : Int32) (r0_now_done : Int32) (r0_now_things : Int32) (r0_now_fields_lefts : Nat → Int32) (r0_now_fields_wishes : Nat → Int32) (r0_now_figures : Nat → Int32) (r0_now_goes : Nat → Int32) (r0_now_hampers : Nat → Int32) (r0_now_kinds : Nat → Int32) (r0_now_weights : Nat → Int32) (r0_steps_count : Int32) (r0_trial_days : Int32) (r0_trial_done : Int32) (r0_trial_things : Int32) (r0_trial_fields_lefts : Nat → Int32) (r0_trial_fields_wishes : Nat → Int32) (r0_trial_figures : Nat → Int32) (r0_trial_goes : Nat → Int32) (r0_trial_hampers : Nat → Int32) (r0_trial_kinds : Nat → Int32) (r0_trial_weights : Nat → Int32) : Option (Int32 × (Int32) × (Int32) × (Int32) × (Int32) × (Nat → Int32) × (Nat → Int32) × (Nat → Int32) × (Nat → Int32) × (Nat → Int32) × (Nat → Int32) × (Nat → Int32) × (Int32) × (Int32) × (Int32) × (Int32) × (Nat → Int32) × (Nat → Int32) × (Nat → Int32) × (Nat → Int32) × (Nat → Int32) × (Nat → Int32) × (Nat → Int32)) :=
  ((F_Let_tellInto r0_letters_count r0_letters_letters r0_trial_days r0_trial_done r0_trial_things r0_trial_fields_lefts r0_trial_fields_wishes r0_trial_figures r0_trial_goes r0_trial_hampers r0_trial_kinds r0_trial_weights r0_now_days r0_now_done r0_now_things r0_now_fields_lefts r0_now_fields_wishes r0_now_figures r0_now_goes r0_now_hampers r0_now_kinds r0_now_weights).bind (fun q_1 => (if q_1.1 < 0 then (some (q_1.1, 0, r0_now_days, r0_now_done, r0_now_things, r0_now_fields_lefts, r0_now_fields_wishes, r0_now_figures, r0_now_goes, r0_now_hampers, r0_now_kinds, r0_now_weights, r0_steps_count, q_1.2.1, q_1.2.2.1, q_1.2.2.2.1, q_1.2.2.2.2.1, q_1.2.2.2.2.2.1, q_1.2.2.2.2.2.2.1, q_1.2.2.2.2.2.2.2.1, q_1.2.2.2.2.2.2.2.2.1, q_1.2.2.2.2.2.2.2.2.2.1, q_1.2.2.2.2.2.2.2.2.2.2)) else ((F_Sta_copyFrom r0_now_fields_lefts r0_now_fields_wishes r0_now_figures r0_now_goes r0_now_hampers r0_now_kinds r0_now_weights q_1.2.1 q_1.2.2.1 q_1.2.2.2.1 q_1.2.2.2.2.1 q_1.2.2.2.2.2.1 q_1.2.2.2.2.2.2.1 q_1.2.2.2.2.2.2.2.1 q_1.2.2.2.2.2.2.2.2.1 q_1.2.2.2.2.2.2.2.2.2.1 q_1.2.2.2.2.2.2.2.2.2.2).bind (fun q_3 => (some (q_1.1, 0, q_3.1, q_3.2.1, q_3.2.2.1, q_3.2.2.2.1, q_3.2.2.2.2.1, q_3.2.2.2.2.2.1, q_3.2.2.2.2.2.2.1, q_3.2.2.2.2.2.2.2.1, q_3.2.2.2.2.2.2.2.2.1, q_3.2.2.2.2.2.2.2.2.2, 0, q_1.2.1, q_1.2.2.1, q_1.2.2.2.1, q_1.2.2.2.2.1, q_1.2.2.2.2.2.1, q_1.2.2.2.2.2.2.1, q_1.2.2.2.2.2.2.2.1, q_1.2.2.2.2.2.2.2.2.1, q_1.2.2.2.2.2.2.2.2.2.1, q_1.2.2.2.2.2.2.2.2.2.2)))))))
set_option maxHeartbeats 4000000 in
set_option maxRecDepth 100000 in
theorem C_H_hall (l : Launch) (D : va_G) (cI cS : ClassId) (a_r0 : Nat) (a_r0_letters : Nat) (a_r0_letters_letters : Nat) (a_r0_now : Nat) (a_r0_now_fields : Nat) (a_r0_now_fields_lefts : Nat) (a_r0_now_fields_wishes : Nat) (a_r0_now_figures : Nat) (a_r0_now_goes : Nat) (a_r0_now_hampers : Nat) (a_r0_now_kinds : Nat) (a_r0_now_weights : Nat) (a_r0_steps : Nat) (a_r0_trial : Nat) (a_r0_trial_fields : Nat) (a_r0_trial_fields_lefts : Nat) (a_r0_trial_fields_wishes : Nat) (a_r0_trial_figures : Nat) (a_r0_trial_goes : Nat) (a_r0_trial_hampers : Nat) (a_r0_trial_kinds : Nat) (a_r0_trial_weights : Nat) (v_r0_kept v_r0_hasKept v_r0_numbers v_r0_harvest v_r0_fraction v_r0_refusals v_r0_steps_steps : Value) (r0_letters_count : Int32) (r0_letters_letters : Nat → Int32) (r0_now_days : Int32) (r0_now_done : Int32) (r0_now_things : Int32) (r0_now_fields_lefts : Nat → Int32) (r0_now_fields_wishes : Nat → Int32) (r0_now_figures : Nat → Int32) (r0_now_goes : Nat → Int32) (r0_now_hampers : Nat → Int32) (r0_now_kinds : Nat → Int32) (r0_now_weights : Nat → Int32) (r0_steps_count : Int32) (r0_trial_days : Int32) (r0_trial_done : Int32) (r0_trial_things : Int32) (r0_trial_fields_lefts : Nat → Int32) (r0_trial_fields_wishes : Nat → Int32) (r0_trial_figures : Nat → Int32) (r0_trial_goes : Nat → Int32) (r0_trial_hampers : Nat → Int32) (r0_trial_kinds : Nat → Int32) (r0_trial_weights : Nat → Int32) (o : Int32 × (Int32) × (Int32) × (Int32) × (Int32) × (Nat → Int32) × (Nat → Int32) × (Nat → Int32) × (Nat → Int32) × (Nat → Int32) × (Nat → Int32) × (Nat → Int32) × (Int32) × (Int32) × (Int32) × (Int32) × (Nat → Int32) × (Nat → Int32) × (Nat → Int32) × (Nat → Int32) × (Nat → Int32) × (Nat → Int32) × (Nat → Int32)) (hr : F_H_hall r0_letters_count r0_letters_letters r0_now_days r0_now_done r0_now_things r0_now_fields_lefts r0_now_fields_wishes r0_now_figures r0_now_goes r0_now_hampers r0_now_kinds r0_now_weights r0_steps_count r0_trial_days r0_trial_done r0_trial_things r0_trial_fields_lefts r0_trial_fields_wishes r0_trial_figures r0_trial_goes r0_trial_hampers r0_trial_kinds r0_trial_weights = some o) : ctI l y_H_hall (Cond.code y_H_hall b_H_hall 2 (some FieldType.int)) (rmd 6) D (kTy cI cS) [.ref a_r0] (w_H_hall cI a_r0 a_r0_letters a_r0_letters_letters a_r0_now a_r0_now_fields a_r0_now_fields_lefts a_r0_now_fields_wishes a_r0_now_figures a_r0_now_goes a_r0_now_hampers a_r0_now_kinds a_r0_now_weights a_r0_steps a_r0_trial a_r0_trial_fields a_r0_trial_fields_lefts a_r0_trial_fields_wishes a_r0_trial_figures a_r0_trial_goes a_r0_trial_hampers a_r0_trial_kinds a_r0_trial_weights v_r0_kept v_r0_hasKept v_r0_numbers v_r0_harvest v_r0_fraction v_r0_refusals v_r0_steps_steps r0_letters_count r0_letters_letters r0_now_days r0_now_done r0_now_things r0_now_fields_lefts r0_now_fields_wishes r0_now_figures r0_now_goes r0_now_hampers r0_now_kinds r0_now_weights r0_steps_count r0_trial_days r0_trial_done r0_trial_things r0_trial_fields_lefts r0_trial_fields_wishes r0_trial_figures r0_trial_goes r0_trial_hampers r0_trial_kinds r0_trial_weights) (w_H_hall cI a_r0 a_r0_letters a_r0_letters_letters a_r0_now a_r0_now_fields a_r0_now_fields_lefts a_r0_now_fields_wishes a_r0_now_figures a_r0_now_goes a_r0_now_hampers a_r0_now_kinds a_r0_now_weights a_r0_steps a_r0_trial a_r0_trial_fields a_r0_trial_fields_lefts a_r0_trial_fields_wishes a_r0_trial_figures a_r0_trial_goes a_r0_trial_hampers a_r0_trial_kinds a_r0_trial_weights v_r0_kept v_r0_hasKept v_r0_numbers v_r0_harvest v_r0_fraction v_r0_refusals v_r0_steps_steps o.2.1 r0_letters_letters o.2.2.1 o.2.2.2.1 o.2.2.2.2.1 o.2.2.2.2.2.1 o.2.2.2.2.2.2.1 o.2.2.2.2.2.2.2.1 o.2.2.2.2.2.2.2.2.1 o.2.2.2.2.2.2.2.2.2.1 o.2.2.2.2.2.2.2.2.2.2.1 o.2.2.2.2.2.2.2.2.2.2.2.1 o.2.2.2.2.2.2.2.2.2.2.2.2.1 o.2.2.2.2.2.2.2.2.2.2.2.2.2.1 o.2.2.2.2.2.2.2.2.2.2.2.2.2.2.1 o.2.2.2.2.2.2.2.2.2.2.2.2.2.2.2.1 o.2.2.2.2.2.2.2.2.2.2.2.2.2.2.2.2.1 o.2.2.2.2.2.2.2.2.2.2.2.2.2.2.2.2.2.1 o.2.2.2.2.2.2.2.2.2.2.2.2.2.2.2.2.2.2.1 o.2.2.2.2.2.2.2.2.2.2.2.2.2.2.2.2.2.2.2.1 o.2.2.2.2.2.2.2.2.2.2.2.2.2.2.2.2.2.2.2.2.1 o.2.2.2.2.2.2.2.2.2.2.2.2.2.2.2.2.2.2.2.2.2.1 o.2.2.2.2.2.2.2.2.2.2.2.2.2.2.2.2.2.2.2.2.2.2) o.1 := by
  unfold F_H_hall at hr
  refine ⟨rfl, fun sz => ct_of (w0 := (w_H_hall cI a_r0 a_r0_letters a_r0_letters_letters a_r0_now a_r0_now_fields a_r0_now_fields_lefts a_r0_now_fields_wishes a_r0_now_figures a_r0_now_goes a_r0_now_hampers a_r0_now_kinds a_r0_now_weights a_r0_steps a_r0_trial a_r0_trial_fields a_r0_trial_fields_lefts a_r0_trial_fields_wishes a_r0_trial_figures a_r0_trial_goes a_r0_trial_hampers a_r0_trial_kinds a_r0_trial_weights v_r0_kept v_r0_hasKept v_r0_numbers v_r0_harvest v_r0_fraction v_r0_refusals v_r0_steps_steps r0_letters_count r0_letters_letters r0_now_days r0_now_done r0_now_things r0_now_fields_lefts r0_now_fields_wishes r0_now_figures r0_now_goes r0_now_hampers r0_now_kinds r0_now_weights r0_steps_count r0_trial_days r0_trial_done r0_trial_things r0_trial_fields_lefts r0_trial_fields_wishes r0_trial_figures r0_trial_goes r0_trial_hampers r0_trial_kinds r0_trial_weights)) (Qc := fun A => qI D (w_H_hall cI a_r0 a_r0_letters a_r0_letters_letters a_r0_now a_r0_now_fields a_r0_now_fields_lefts a_r0_now_fields_wishes a_r0_now_figures a_r0_now_goes a_r0_now_hampers a_r0_now_kinds a_r0_now_weights a_r0_steps a_r0_trial a_r0_trial_fields a_r0_trial_fields_lefts a_r0_trial_fields_wishes a_r0_trial_figures a_r0_trial_goes a_r0_trial_hampers a_r0_trial_kinds a_r0_trial_weights v_r0_kept v_r0_hasKept v_r0_numbers v_r0_harvest v_r0_fraction v_r0_refusals v_r0_steps_steps o.2.1 r0_letters_letters o.2.2.1 o.2.2.2.1 o.2.2.2.2.1 o.2.2.2.2.2.1 o.2.2.2.2.2.2.1 o.2.2.2.2.2.2.2.1 o.2.2.2.2.2.2.2.2.1 o.2.2.2.2.2.2.2.2.2.1 o.2.2.2.2.2.2.2.2.2.2.1 o.2.2.2.2.2.2.2.2.2.2.2.1 o.2.2.2.2.2.2.2.2.2.2.2.2.1 o.2.2.2.2.2.2.2.2.2.2.2.2.2.1 o.2.2.2.2.2.2.2.2.2.2.2.2.2.2.1 o.2.2.2.2.2.2.2.2.2.2.2.2.2.2.2.1 o.2.2.2.2.2.2.2.2.2.2.2.2.2.2.2.2.1 o.2.2.2.2.2.2.2.2.2.2.2.2.2.2.2.2.2.1 o.2.2.2.2.2.2.2.2.2.2.2.2.2.2.2.2.2.2.1 o.2.2.2.2.2.2.2.2.2.2.2.2.2.2.2.2.2.2.2.1 o.2.2.2.2.2.2.2.2.2.2.2.2.2.2.2.2.2.2.2.2.1 o.2.2.2.2.2.2.2.2.2.2.2.2.2.2.2.2.2.2.2.2.2.1 o.2.2.2.2.2.2.2.2.2.2.2.2.2.2.2.2.2.2.2.2.2.2) o.1 A) rfl (Nat.le_of_ble_eq_true rfl) ?_ sz⟩
  intro p e s m below meth c A hA C hret ls hl hW
  have C : cx p s m ([.ref a_r0] : List Value).toArray meth c b_H_hall 2 R_H D (kTy cI cS) (Cond.code y_H_hall b_H_hall 2 (some FieldType.int)) := C
  obtain ⟨hx, hb, hml, hown, hts, hK, hlk, hN⟩ := id C
  have hl : lv_has ls 2 [(0, .ref a_r0)] := hl
  obtain ⟨Q, hQ⟩ : ∃ Q, Q = MQ below (qI D (w_H_hall cI a_r0 a_r0_letters a_r0_letters_letters a_r0_now a_r0_now_fields a_r0_now_fields_lefts a_r0_now_fields_wishes a_r0_now_figures a_r0_now_goes a_r0_now_hampers a_r0_now_kinds a_r0_now_weights a_r0_steps a_r0_trial a_r0_trial_fields a_r0_trial_fields_lefts a_r0_trial_fields_wishes a_r0_trial_figures a_r0_trial_goes a_r0_trial_hampers a_r0_trial_kinds a_r0_trial_weights v_r0_kept v_r0_hasKept v_r0_numbers v_r0_harvest v_r0_fraction v_r0_refusals v_r0_steps_steps o.2.1 r0_letters_letters o.2.2.1 o.2.2.2.1 o.2.2.2.2.1 o.2.2.2.2.2.1 o.2.2.2.2.2.2.1 o.2.2.2.2.2.2.2.1 o.2.2.2.2.2.2.2.2.1 o.2.2.2.2.2.2.2.2.2.1 o.2.2.2.2.2.2.2.2.2.2.1 o.2.2.2.2.2.2.2.2.2.2.2.1 o.2.2.2.2.2.2.2.2.2.2.2.2.1 o.2.2.2.2.2.2.2.2.2.2.2.2.2.1 o.2.2.2.2.2.2.2.2.2.2.2.2.2.2.1 o.2.2.2.2.2.2.2.2.2.2.2.2.2.2.2.1 o.2.2.2.2.2.2.2.2.2.2.2.2.2.2.2.2.1 o.2.2.2.2.2.2.2.2.2.2.2.2.2.2.2.2.2.1 o.2.2.2.2.2.2.2.2.2.2.2.2.2.2.2.2.2.2.1 o.2.2.2.2.2.2.2.2.2.2.2.2.2.2.2.2.2.2.2.1 o.2.2.2.2.2.2.2.2.2.2.2.2.2.2.2.2.2.2.2.2.1 o.2.2.2.2.2.2.2.2.2.2.2.2.2.2.2.2.2.2.2.2.2.1 o.2.2.2.2.2.2.2.2.2.2.2.2.2.2.2.2.2.2.2.2.2.2) o.1 A) ([.ref a_r0] : List Value).toArray s 0 0 A := ⟨_, rfl⟩
  rw [← hQ]
  refine lv_aload_n hx hb d_H_hall_0 rfl (lv_at hl 0 rfl) ?_
  refine k_get i_H C hW 0 rfl rfl 5 (by decide) qf_H_36 rfl rfl d_H_hall_1 ?_
  refine lv_aload_n hx hb d_H_hall_4 rfl (lv_at hl 0 rfl) ?_
  refine k_get i_H C hW 0 rfl rfl 2 (by decide) qf_H_19 rfl rfl d_H_hall_5 ?_
  refine lv_aload_n hx hb d_H_hall_8 rfl (lv_at hl 0 rfl) ?_
  refine k_get i_H C hW 0 rfl rfl 0 (by decide) qf_H_10 rfl rfl d_H_hall_9 ?_
  obtain ⟨q_1, hc_1, hr⟩ := ob hr
  have ct_1 := C_Let_tellInto l D cI cS a_r0_letters a_r0_letters_letters a_r0_trial a_r0_trial_fields a_r0_trial_fields_lefts a_r0_trial_fields_wishes a_r0_trial_figures a_r0_trial_goes a_r0_trial_hampers a_r0_trial_kinds a_r0_trial_weights a_r0_now a_r0_now_fields a_r0_now_fields_lefts a_r0_now_fields_wishes a_r0_now_figures a_r0_now_goes a_r0_now_hampers a_r0_now_kinds a_r0_now_weights r0_letters_count r0_letters_letters r0_trial_days r0_trial_done r0_trial_things r0_trial_fields_lefts r0_trial_fields_wishes r0_trial_figures r0_trial_goes r0_trial_hampers r0_trial_kinds r0_trial_weights r0_now_days r0_now_done r0_now_things r0_now_fields_lefts r0_now_fields_wishes r0_now_figures r0_now_goes r0_now_hampers r0_now_kinds r0_now_weights q_1 hc_1
  refine k_goI hA hW [1, 2, 13, 14, 15, 16, 17, 18, 19, 20, 21, 3, 4, 5, 6, 7, 8, 9, 10, 11] rfl ct_1.1 (ws' := (w_H_hall cI a_r0 a_r0_letters a_r0_letters_letters a_r0_now a_r0_now_fields a_r0_now_fields_lefts a_r0_now_fields_wishes a_r0_now_figures a_r0_now_goes a_r0_now_hampers a_r0_now_kinds a_r0_now_weights a_r0_steps a_r0_trial a_r0_trial_fields a_r0_trial_fields_lefts a_r0_trial_fields_wishes a_r0_trial_figures a_r0_trial_goes a_r0_trial_hampers a_r0_trial_kinds a_r0_trial_weights v_r0_kept v_r0_hasKept v_r0_numbers v_r0_harvest v_r0_fraction v_r0_refusals v_r0_steps_steps r0_letters_count r0_letters_letters r0_now_days r0_now_done r0_now_things r0_now_fields_lefts r0_now_fields_wishes r0_now_figures r0_now_goes r0_now_hampers r0_now_kinds r0_now_weights r0_steps_count q_1.2.1 q_1.2.2.1 q_1.2.2.2.1 q_1.2.2.2.2.1 q_1.2.2.2.2.2.1 q_1.2.2.2.2.2.2.1 q_1.2.2.2.2.2.2.2.1 q_1.2.2.2.2.2.2.2.2.1 q_1.2.2.2.2.2.2.2.2.2.1 q_1.2.2.2.2.2.2.2.2.2.2)) rfl (k_runV C hA hW mw_Let_tellInto mv_Let_tellInto (ct_1.2 _) [1, 2, 13, 14, 15, 16, 17, 18, 19, 20, 21, 3, 4, 5, 6, 7, 8, 9, 10, 11] rfl rfl 1 rfl rfl qm_H_76 ⟨Nat.le_of_ble_eq_true rfl, Nat.le_of_ble_eq_true rfl, Nat.zero_le _, Nat.zero_le _⟩ rfl rfl (Nat.le_of_ble_eq_true rfl) hl.1 d_H_hall_12) (fun H locs hW => ?_)
  refine lv_istore_n (lv' := [(1, .int q_1.1), (0, .ref a_r0)]) hx hb d_H_hall_15 rfl hl (by decide) rfl (fun ls hl => ?_)
  refine lv_aload_n hx hb d_H_hall_16 rfl (lv_at hl 1 rfl) ?_
  refine k_get i_H C hW 0 rfl rfl 5 (by decide) qf_H_36 rfl rfl d_H_hall_17 ?_
  refine lv_iconst (v := 0) hx hb d_H_hall_20 (by decide) ?_
  refine k_putN i_Let t_Let_ok n_Let C hW 1 rfl rfl 1 (by decide) qf_H_69 rfl rfl (ty := .int) rfl rfl rfl (Nat.le_of_ble_eq_true rfl) (ws' := (w_H_hall cI a_r0 a_r0_letters a_r0_letters_letters a_r0_now a_r0_now_fields a_r0_now_fields_lefts a_r0_now_fields_wishes a_r0_now_figures a_r0_now_goes a_r0_now_hampers a_r0_now_kinds a_r0_now_weights a_r0_steps a_r0_trial a_r0_trial_fields a_r0_trial_fields_lefts a_r0_trial_fields_wishes a_r0_trial_figures a_r0_trial_goes a_r0_trial_hampers a_r0_trial_kinds a_r0_trial_weights v_r0_kept v_r0_hasKept v_r0_numbers v_r0_harvest v_r0_fraction v_r0_refusals v_r0_steps_steps 0 r0_letters_letters r0_now_days r0_now_done r0_now_things r0_now_fields_lefts r0_now_fields_wishes r0_now_figures r0_now_goes r0_now_hampers r0_now_kinds r0_now_weights r0_steps_count q_1.2.1 q_1.2.2.1 q_1.2.2.2.1 q_1.2.2.2.2.1 q_1.2.2.2.2.2.1 q_1.2.2.2.2.2.2.1 q_1.2.2.2.2.2.2.2.1 q_1.2.2.2.2.2.2.2.2.1 q_1.2.2.2.2.2.2.2.2.2.1 q_1.2.2.2.2.2.2.2.2.2.2)) rfl d_H_hall_21 (fun H locs hW => ?_)
  refine lv_iload_n hx hb d_H_hall_24 rfl (lv_at hl 0 rfl) ?_
  refine lv_if_lt (tgt := 47) hx hb d_H_hall_25 (by decide) (fun c_2 => ?_) (fun c_2 => ?_)
  · replace hr := ip c_2 hr
    refine lv_iload_n hx hb d_H_hall_47 rfl (lv_at hl 0 rfl) ?_
    obtain rfl := Option.some.inj hr
    rw [hQ]; exact k_iret C hret hW d_H_hall_48
  · replace hr := iN c_2 hr
    refine lv_aload_n hx hb d_H_hall_28 rfl (lv_at hl 1 rfl) ?_
    refine k_get i_H C hW 0 rfl rfl 0 (by decide) qf_H_10 rfl rfl d_H_hall_29 ?_
    refine lv_aload_n hx hb d_H_hall_32 rfl (lv_at hl 1 rfl) ?_
    refine k_get i_H C hW 0 rfl rfl 2 (by decide) qf_H_19 rfl rfl d_H_hall_33 ?_
    obtain ⟨q_3, hc_3, hr⟩ := ob hr
    have ct_3 := C_Sta_copyFrom l D cI cS a_r0_now a_r0_now_fields a_r0_now_fields_lefts a_r0_now_fields_wishes a_r0_now_figures a_r0_now_goes a_r0_now_hampers a_r0_now_kinds a_r0_now_weights a_r0_trial a_r0_trial_fields a_r0_trial_fields_lefts a_r0_trial_fields_wishes a_r0_trial_figures a_r0_trial_goes a_r0_trial_hampers a_r0_trial_kinds a_r0_trial_weights r0_now_days r0_now_done r0_now_things r0_now_fields_lefts r0_now_fields_wishes r0_now_figures r0_now_goes r0_now_hampers r0_now_kinds r0_now_weights q_1.2.1 q_1.2.2.1 q_1.2.2.2.1 q_1.2.2.2.2.1 q_1.2.2.2.2.2.1 q_1.2.2.2.2.2.2.1 q_1.2.2.2.2.2.2.2.1 q_1.2.2.2.2.2.2.2.2.1 q_1.2.2.2.2.2.2.2.2.2.1 q_1.2.2.2.2.2.2.2.2.2.2 q_3 hc_3
    refine k_goV hA hW [3, 4, 5, 6, 7, 8, 9, 10, 11, 13, 14, 15, 16, 17, 18, 19, 20, 21] rfl ct_3.1 (ws' := (w_H_hall cI a_r0 a_r0_letters a_r0_letters_letters a_r0_now a_r0_now_fields a_r0_now_fields_lefts a_r0_now_fields_wishes a_r0_now_figures a_r0_now_goes a_r0_now_hampers a_r0_now_kinds a_r0_now_weights a_r0_steps a_r0_trial a_r0_trial_fields a_r0_trial_fields_lefts a_r0_trial_fields_wishes a_r0_trial_figures a_r0_trial_goes a_r0_trial_hampers a_r0_trial_kinds a_r0_trial_weights v_r0_kept v_r0_hasKept v_r0_numbers v_r0_harvest v_r0_fraction v_r0_refusals v_r0_steps_steps 0 r0_letters_letters q_3.1 q_3.2.1 q_3.2.2.1 q_3.2.2.2.1 q_3.2.2.2.2.1 q_3.2.2.2.2.2.1 q_3.2.2.2.2.2.2.1 q_3.2.2.2.2.2.2.2.1 q_3.2.2.2.2.2.2.2.2.1 q_3.2.2.2.2.2.2.2.2.2 r0_steps_count q_1.2.1 q_1.2.2.1 q_1.2.2.2.1 q_1.2.2.2.2.1 q_1.2.2.2.2.2.1 q_1.2.2.2.2.2.2.1 q_1.2.2.2.2.2.2.2.1 q_1.2.2.2.2.2.2.2.2.1 q_1.2.2.2.2.2.2.2.2.2.1 q_1.2.2.2.2.2.2.2.2.2.2)) rfl (k_runV C hA hW mw_Sta_copyFrom mv_Sta_copyFrom (ct_3.2 _) [3, 4, 5, 6, 7, 8, 9, 10, 11, 13, 14, 15, 16, 17, 18, 19, 20, 21] rfl rfl 3 rfl rfl qm_H_80 ⟨Nat.le_of_ble_eq_true rfl, Nat.le_of_ble_eq_true rfl, Nat.zero_le _, Nat.zero_le _⟩ rfl rfl (Nat.le_of_ble_eq_true rfl) hl.1 d_H_hall_36) (fun H locs hW => ?_)
    refine lv_aload_n hx hb d_H_hall_39 rfl (lv_at hl 1 rfl) ?_
    refine k_get i_H C hW 0 rfl rfl 4 (by decide) qf_H_29 rfl rfl d_H_hall_40 ?_
    refine lv_iconst (v := 0) hx hb d_H_hall_43 (by decide) ?_
    refine k_putN i_Sps t_Sps_ok n_Sps C hW 12 rfl rfl 1 (by decide) qf_H_84 rfl rfl (ty := .int) rfl rfl rfl (Nat.le_of_ble_eq_true rfl) (ws' := (w_H_hall cI a_r0 a_r0_letters a_r0_letters_letters a_r0_now a_r0_now_fields a_r0_now_fields_lefts a_r0_now_fields_wishes a_r0_now_figures a_r0_now_goes a_r0_now_hampers a_r0_now_kinds a_r0_now_weights a_r0_steps a_r0_trial a_r0_trial_fields a_r0_trial_fields_lefts a_r0_trial_fields_wishes a_r0_trial_figures a_r0_trial_goes a_r0_trial_hampers a_r0_trial_kinds a_r0_trial_weights v_r0_kept v_r0_hasKept v_r0_numbers v_r0_harvest v_r0_fraction v_r0_refusals v_r0_steps_steps 0 r0_letters_letters q_3.1 q_3.2.1 q_3.2.2.1 q_3.2.2.2.1 q_3.2.2.2.2.1 q_3.2.2.2.2.2.1 q_3.2.2.2.2.2.2.1 q_3.2.2.2.2.2.2.2.1 q_3.2.2.2.2.2.2.2.2.1 q_3.2.2.2.2.2.2.2.2.2 0 q_1.2.1 q_1.2.2.1 q_1.2.2.2.1 q_1.2.2.2.2.1 q_1.2.2.2.2.2.1 q_1.2.2.2.2.2.2.1 q_1.2.2.2.2.2.2.2.1 q_1.2.2.2.2.2.2.2.2.1 q_1.2.2.2.2.2.2.2.2.2.1 q_1.2.2.2.2.2.2.2.2.2.2)) rfl d_H_hall_44 (fun H locs hW => ?_)
    refine lv_iload_n hx hb d_H_hall_47 rfl (lv_at hl 0 rfl) ?_
    obtain rfl := Option.some.inj hr
    rw [hQ]; exact k_iret C hret hW d_H_hall_48
def w_H_image (cI : ClassId) (a_r0 : Nat) (a_r0_kept : Nat) (a_r0_kept_fields : Nat) (a_r0_kept_fields_lefts : Nat) (a_r0_kept_fields_wishes : Nat) (a_r0_kept_figures : Nat) (a_r0_kept_goes : Nat) (a_r0_kept_hampers : Nat) (a_r0_kept_kinds : Nat) (a_r0_kept_weights : Nat) (a_r0_now : Nat) (a_r0_now_fields : Nat) (a_r0_now_fields_lefts : Nat) (a_r0_now_fields_wishes : Nat) (a_r0_now_figures : Nat) (a_r0_now_goes : Nat) (a_r0_now_hampers : Nat) (a_r0_now_kinds : Nat) (a_r0_now_weights : Nat) (v_r0_trial v_r0_steps v_r0_letters v_r0_numbers v_r0_harvest v_r0_fraction v_r0_refusals : Value) (r0_hasKept : Int32) (r0_kept_days : Int32) (r0_kept_done : Int32) (r0_kept_things : Int32) (r0_kept_fields_lefts : Nat → Int32) (r0_kept_fields_wishes : Nat → Int32) (r0_kept_figures : Nat → Int32) (r0_kept_goes : Nat → Int32) (r0_kept_hampers : Nat → Int32) (r0_kept_kinds : Nat → Int32) (r0_kept_weights : Nat → Int32) (r0_now_days : Int32) (r0_now_done : Int32) (r0_now_things : Int32) (r0_now_fields_lefts : Nat → Int32) (r0_now_fields_wishes : Nat → Int32) (r0_now_figures : Nat → Int32) (r0_now_goes : Nat → Int32) (r0_now_hampers : Nat → Int32) (r0_now_kinds : Nat → Int32) (r0_now_weights : Nat → Int32) : va_W := [(a_r0, .inr (0, [.ref a_r0_now, .ref a_r0_kept, v_r0_trial, .int r0_hasKept, v_r0_steps, v_r0_letters, v_r0_numbers, v_r0_harvest, v_r0_fraction, v_r0_refusals])), (a_r0_kept, .inr (1, [.ref a_r0_kept_weights, .ref a_r0_kept_kinds, .ref a_r0_kept_figures, .ref a_r0_kept_goes, .int r0_kept_things, .ref a_r0_kept_hampers, .int r0_kept_days, .ref a_r0_kept_fields, .int r0_kept_done])), (a_r0_kept_fields, .inr (2, [.ref a_r0_kept_fields_wishes, .ref a_r0_kept_fields_lefts])), (a_r0_kept_fields_lefts, .inl (cI, 4, .inl r0_kept_fields_lefts)), (a_r0_kept_fields_wishes, .inl (cI, 4, .inl r0_kept_fields_wishes)), (a_r0_kept_figures, .inl (cI, 8, .inl r0_kept_figures)), (a_r0_kept_goes, .inl (cI, 8, .inl r0_kept_goes)), (a_r0_kept_hampers, .inl (cI, 8, .inl r0_kept_hampers)), (a_r0_kept_kinds, .inl (cI, 8, .inl r0_kept_kinds)), (a_r0_kept_weights, .inl (cI, 6, .inl r0_kept_weights)), (a_r0_now, .inr (1, [.ref a_r0_now_weights, .ref a_r0_now_kinds, .ref a_r0_now_figures, .ref a_r0_now_goes, .int r0_now_things, .ref a_r0_now_hampers, .int r0_now_days, .ref a_r0_now_fields, .int r0_now_done])), (a_r0_now_fields, .inr (2, [.ref a_r0_now_fields_wishes, .ref a_r0_now_fields_lefts])), (a_r0_now_fields_lefts, .inl (cI, 4, .inl r0_now_fields_lefts)), (a_r0_now_fields_wishes, .inl (cI, 4, .inl r0_now_fields_wishes)), (a_r0_now_figures, .inl (cI, 8, .inl r0_now_figures)), (a_r0_now_goes, .inl (cI, 8, .inl r0_now_goes)), (a_r0_now_hampers, .inl (cI, 8, .inl r0_now_hampers)), (a_r0_now_kinds, .inl (cI, 8, .inl r0_now_kinds)), (a_r0_now_weights, .inl (cI, 6, .inl r0_now_weights))]
def F_H_image (r0_kept_fields_lefts : Nat → Int32) (r0_kept_fields_wishes : Nat → Int32) (r0_kept_figures : Nat → Int32) (r0_kept_goes : Nat → Int32) (r0_kept_hampers : Nat → Int32) (r0_kept_kinds : Nat → Int32) (r0_kept_weights : Nat → Int32) (r0_now_days : Int32) (r0_now_done : Int32) (r0_now_things : Int32) (r0_now_fields_lefts : Nat → Int32) (r0_now_fields_wishes : Nat → Int32) (r0_now_figures : Nat → Int32) (r0_now_goes : Nat → Int32) (r0_now_hampers : Nat → Int32) (r0_now_kinds : Nat → Int32) (r0_now_weights : Nat → Int32) : Option (Int32 × (Int32) × (Int32) × (Int32) × (Int32) × (Nat → Int32) × (Nat → Int32) × (Nat → Int32) × (Nat → Int32) × (Nat → Int32) × (Nat → Int32) × (Nat → Int32)) :=
  ((F_Sta_copyFrom r0_kept_fields_lefts r0_kept_fields_wishes r0_kept_figures r0_kept_goes r0_kept_hampers r0_kept_kinds r0_kept_weights r0_now_days r0_now_done r0_now_things r0_now_fields_lefts r0_now_fields_wishes r0_now_figures r0_now_goes r0_now_hampers r0_now_kinds r0_now_weights).bind (fun q_1 => (some (r0_now_done, 1, q_1.1, q_1.2.1, q_1.2.2.1, q_1.2.2.2.1, q_1.2.2.2.2.1, q_1.2.2.2.2.2.1, q_1.2.2.2.2.2.2.1, q_1.2.2.2.2.2.2.2.1, q_1.2.2.2.2.2.2.2.2.1, q_1.2.2.2.2.2.2.2.2.2))))
set_option maxHeartbeats 4000000 in
set_option maxRecDepth 100000 in
theorem C_H_image (l : Launch) (D : va_G) (cI cS : ClassId) (a_r0 : Nat) (a_r0_kept : Nat) (a_r0_kept_fields : Nat) (a_r0_kept_fields_lefts : Nat) (a_r0_kept_fields_wishes : Nat) (a_r0_kept_figures : Nat) (a_r0_kept_goes : Nat) (a_r0_kept_hampers : Nat) (a_r0_kept_kinds : Nat) (a_r0_kept_weights : Nat) (a_r0_now : Nat) (a_r0_now_fields : Nat) (a_r0_now_fields_lefts : Nat) (a_r0_now_fields_wishes : Nat) (a_r0_now_figures : Nat) (a_r0_now_goes : Nat) (a_r0_now_hampers : Nat) (a_r0_now_kinds : Nat) (a_r0_now_weights : Nat) (v_r0_trial v_r0_steps v_r0_letters v_r0_numbers v_r0_harvest v_r0_fraction v_r0_refusals : Value) (r0_hasKept : Int32) (r0_kept_days : Int32) (r0_kept_done : Int32) (r0_kept_things : Int32) (r0_kept_fields_lefts : Nat → Int32) (r0_kept_fields_wishes : Nat → Int32) (r0_kept_figures : Nat → Int32) (r0_kept_goes : Nat → Int32) (r0_kept_hampers : Nat → Int32) (r0_kept_kinds : Nat → Int32) (r0_kept_weights : Nat → Int32) (r0_now_days : Int32) (r0_now_done : Int32) (r0_now_things : Int32) (r0_now_fields_lefts : Nat → Int32) (r0_now_fields_wishes : Nat → Int32) (r0_now_figures : Nat → Int32) (r0_now_goes : Nat → Int32) (r0_now_hampers : Nat → Int32) (r0_now_kinds : Nat → Int32) (r0_now_weights : Nat → Int32) (o : Int32 × (Int32) × (Int32) × (Int32) × (Int32) × (Nat → Int32) × (Nat → Int32) × (Nat → Int32) × (Nat → Int32) × (Nat → Int32) × (Nat → Int32) × (Nat → Int32)) (hr : F_H_image r0_kept_fields_lefts r0_kept_fields_wishes r0_kept_figures r0_kept_goes r0_kept_hampers r0_kept_kinds r0_kept_weights r0_now_days r0_now_done r0_now_things r0_now_fields_lefts r0_now_fields_wishes r0_now_figures r0_now_goes r0_now_hampers r0_now_kinds r0_now_weights = some o) : ctI l y_H_image (Cond.code y_H_image b_H_image 1 (some FieldType.int)) (rmd 2) D (kTy cI cS) [.ref a_r0] (w_H_image cI a_r0 a_r0_kept a_r0_kept_fields a_r0_kept_fields_lefts a_r0_kept_fields_wishes a_r0_kept_figures a_r0_kept_goes a_r0_kept_hampers a_r0_kept_kinds a_r0_kept_weights a_r0_now a_r0_now_fields a_r0_now_fields_lefts a_r0_now_fields_wishes a_r0_now_figures a_r0_now_goes a_r0_now_hampers a_r0_now_kinds a_r0_now_weights v_r0_trial v_r0_steps v_r0_letters v_r0_numbers v_r0_harvest v_r0_fraction v_r0_refusals r0_hasKept r0_kept_days r0_kept_done r0_kept_things r0_kept_fields_lefts r0_kept_fields_wishes r0_kept_figures r0_kept_goes r0_kept_hampers r0_kept_kinds r0_kept_weights r0_now_days r0_now_done r0_now_things r0_now_fields_lefts r0_now_fields_wishes r0_now_figures r0_now_goes r0_now_hampers r0_now_kinds r0_now_weights) (w_H_image cI a_r0 a_r0_kept a_r0_kept_fields a_r0_kept_fields_lefts a_r0_kept_fields_wishes a_r0_kept_figures a_r0_kept_goes a_r0_kept_hampers a_r0_kept_kinds a_r0_kept_weights a_r0_now a_r0_now_fields a_r0_now_fields_lefts a_r0_now_fields_wishes a_r0_now_figures a_r0_now_goes a_r0_now_hampers a_r0_now_kinds a_r0_now_weights v_r0_trial v_r0_steps v_r0_letters v_r0_numbers v_r0_harvest v_r0_fraction v_r0_refusals o.2.1 o.2.2.1 o.2.2.2.1 o.2.2.2.2.1 o.2.2.2.2.2.1 o.2.2.2.2.2.2.1 o.2.2.2.2.2.2.2.1 o.2.2.2.2.2.2.2.2.1 o.2.2.2.2.2.2.2.2.2.1 o.2.2.2.2.2.2.2.2.2.2.1 o.2.2.2.2.2.2.2.2.2.2.2 r0_now_days r0_now_done r0_now_things r0_now_fields_lefts r0_now_fields_wishes r0_now_figures r0_now_goes r0_now_hampers r0_now_kinds r0_now_weights) o.1 := by
  unfold F_H_image at hr
  refine ⟨rfl, fun sz => ct_of (w0 := (w_H_image cI a_r0 a_r0_kept a_r0_kept_fields a_r0_kept_fields_lefts a_r0_kept_fields_wishes a_r0_kept_figures a_r0_kept_goes a_r0_kept_hampers a_r0_kept_kinds a_r0_kept_weights a_r0_now a_r0_now_fields a_r0_now_fields_lefts a_r0_now_fields_wishes a_r0_now_figures a_r0_now_goes a_r0_now_hampers a_r0_now_kinds a_r0_now_weights v_r0_trial v_r0_steps v_r0_letters v_r0_numbers v_r0_harvest v_r0_fraction v_r0_refusals r0_hasKept r0_kept_days r0_kept_done r0_kept_things r0_kept_fields_lefts r0_kept_fields_wishes r0_kept_figures r0_kept_goes r0_kept_hampers r0_kept_kinds r0_kept_weights r0_now_days r0_now_done r0_now_things r0_now_fields_lefts r0_now_fields_wishes r0_now_figures r0_now_goes r0_now_hampers r0_now_kinds r0_now_weights)) (Qc := fun A => qI D (w_H_image cI a_r0 a_r0_kept a_r0_kept_fields a_r0_kept_fields_lefts a_r0_kept_fields_wishes a_r0_kept_figures a_r0_kept_goes a_r0_kept_hampers a_r0_kept_kinds a_r0_kept_weights a_r0_now a_r0_now_fields a_r0_now_fields_lefts a_r0_now_fields_wishes a_r0_now_figures a_r0_now_goes a_r0_now_hampers a_r0_now_kinds a_r0_now_weights v_r0_trial v_r0_steps v_r0_letters v_r0_numbers v_r0_harvest v_r0_fraction v_r0_refusals o.2.1 o.2.2.1 o.2.2.2.1 o.2.2.2.2.1 o.2.2.2.2.2.1 o.2.2.2.2.2.2.1 o.2.2.2.2.2.2.2.1 o.2.2.2.2.2.2.2.2.1 o.2.2.2.2.2.2.2.2.2.1 o.2.2.2.2.2.2.2.2.2.2.1 o.2.2.2.2.2.2.2.2.2.2.2 r0_now_days r0_now_done r0_now_things r0_now_fields_lefts r0_now_fields_wishes r0_now_figures r0_now_goes r0_now_hampers r0_now_kinds r0_now_weights) o.1 A) rfl (Nat.le_of_ble_eq_true rfl) ?_ sz⟩
  intro p e s m below meth c A hA C hret ls hl hW
  have C : cx p s m ([.ref a_r0] : List Value).toArray meth c b_H_image 1 R_H D (kTy cI cS) (Cond.code y_H_image b_H_image 1 (some FieldType.int)) := C
  obtain ⟨hx, hb, hml, hown, hts, hK, hlk, hN⟩ := id C
  have hl : lv_has ls 1 [(0, .ref a_r0)] := hl
  obtain ⟨Q, hQ⟩ : ∃ Q, Q = MQ below (qI D (w_H_image cI a_r0 a_r0_kept a_r0_kept_fields a_r0_kept_fields_lefts a_r0_kept_fields_wishes a_r0_kept_figures a_r0_kept_goes a_r0_kept_hampers a_r0_kept_kinds a_r0_kept_weights a_r0_now a_r0_now_fields a_r0_now_fields_lefts a_r0_now_fields_wishes a_r0_now_figures a_r0_now_goes a_r0_now_hampers a_r0_now_kinds a_r0_now_weights v_r0_trial v_r0_steps v_r0_letters v_r0_numbers v_r0_harvest v_r0_fraction v_r0_refusals o.2.1 o.2.2.1 o.2.2.2.1 o.2.2.2.2.1 o.2.2.2.2.2.1 o.2.2.2.2.2.2.1 o.2.2.2.2.2.2.2.1 o.2.2.2.2.2.2.2.2.1 o.2.2.2.2.2.2.2.2.2.1 o.2.2.2.2.2.2.2.2.2.2.1 o.2.2.2.2.2.2.2.2.2.2.2 r0_now_days r0_now_done r0_now_things r0_now_fields_lefts r0_now_fields_wishes r0_now_figures r0_now_goes r0_now_hampers r0_now_kinds r0_now_weights) o.1 A) ([.ref a_r0] : List Value).toArray s 0 0 A := ⟨_, rfl⟩
  rw [← hQ]
  refine lv_aload_n hx hb d_H_image_0 rfl (lv_at hl 0 rfl) ?_
  refine k_get i_H C hW 0 rfl rfl 1 (by decide) qf_H_16 rfl rfl d_H_image_1 ?_
  refine lv_aload_n hx hb d_H_image_4 rfl (lv_at hl 0 rfl) ?_
  refine k_get i_H C hW 0 rfl rfl 0 (by decide) qf_H_10 rfl rfl d_H_image_5 ?_
  obtain ⟨q_1, hc_1, hr⟩ := ob hr
  have ct_1 := C_Sta_copyFrom l D cI cS a_r0_kept a_r0_kept_fields a_r0_kept_fields_lefts a_r0_kept_fields_wishes a_r0_kept_figures a_r0_kept_goes a_r0_kept_hampers a_r0_kept_kinds a_r0_kept_weights a_r0_now a_r0_now_fields a_r0_now_fields_lefts a_r0_now_fields_wishes a_r0_now_figures a_r0_now_goes a_r0_now_hampers a_r0_now_kinds a_r0_now_weights r0_kept_days r0_kept_done r0_kept_things r0_kept_fields_lefts r0_kept_fields_wishes r0_kept_figures r0_kept_goes r0_kept_hampers r0_kept_kinds r0_kept_weights r0_now_days r0_now_done r0_now_things r0_now_fields_lefts r0_now_fields_wishes r0_now_figures r0_now_goes r0_now_hampers r0_now_kinds r0_now_weights q_1 hc_1
  refine k_goV hA hW [1, 2, 3, 4, 5, 6, 7, 8, 9, 10, 11, 12, 13, 14, 15, 16, 17, 18] rfl ct_1.1 (ws' := (w_H_image cI a_r0 a_r0_kept a_r0_kept_fields a_r0_kept_fields_lefts a_r0_kept_fields_wishes a_r0_kept_figures a_r0_kept_goes a_r0_kept_hampers a_r0_kept_kinds a_r0_kept_weights a_r0_now a_r0_now_fields a_r0_now_fields_lefts a_r0_now_fields_wishes a_r0_now_figures a_r0_now_goes a_r0_now_hampers a_r0_now_kinds a_r0_now_weights v_r0_trial v_r0_steps v_r0_letters v_r0_numbers v_r0_harvest v_r0_fraction v_r0_refusals r0_hasKept q_1.1 q_1.2.1 q_1.2.2.1 q_1.2.2.2.1 q_1.2.2.2.2.1 q_1.2.2.2.2.2.1 q_1.2.2.2.2.2.2.1 q_1.2.2.2.2.2.2.2.1 q_1.2.2.2.2.2.2.2.2.1 q_1.2.2.2.2.2.2.2.2.2 r0_now_days r0_now_done r0_now_things r0_now_fields_lefts r0_now_fields_wishes r0_now_figures r0_now_goes r0_now_hampers r0_now_kinds r0_now_weights)) rfl (k_runV C hA hW mw_Sta_copyFrom mv_Sta_copyFrom (ct_1.2 _) [1, 2, 3, 4, 5, 6, 7, 8, 9, 10, 11, 12, 13, 14, 15, 16, 17, 18] rfl rfl 1 rfl rfl qm_H_80 ⟨Nat.le_of_ble_eq_true rfl, Nat.le_of_ble_eq_true rfl, Nat.zero_le _, Nat.zero_le _⟩ rfl rfl (Nat.le_of_ble_eq_true rfl) hl.1 d_H_image_8) (fun H locs hW => ?_)
  refine lv_aload_n hx hb d_H_image_11 rfl (lv_at hl 0 rfl) ?_
  refine lv_iconst (v := 1) hx hb d_H_image_12 (by decide) ?_
  refine k_put i_H t_H_ok n_H C hW 0 rfl rfl 3 (by decide) qf_H_22 rfl rfl (ty := .boolean) rfl nar1 rfl (Nat.le_of_ble_eq_true rfl) (ws' := (w_H_image cI a_r0 a_r0_kept a_r0_kept_fields a_r0_kept_fields_lefts a_r0_kept_fields_wishes a_r0_kept_figures a_r0_kept_goes a_r0_kept_hampers a_r0_kept_kinds a_r0_kept_weights a_r0_now a_r0_now_fields a_r0_now_fields_lefts a_r0_now_fields_wishes a_r0_now_figures a_r0_now_goes a_r0_now_hampers a_r0_now_kinds a_r0_now_weights v_r0_trial v_r0_steps v_r0_letters v_r0_numbers v_r0_harvest v_r0_fraction v_r0_refusals 1 q_1.1 q_1.2.1 q_1.2.2.1 q_1.2.2.2.1 q_1.2.2.2.2.1 q_1.2.2.2.2.2.1 q_1.2.2.2.2.2.2.1 q_1.2.2.2.2.2.2.2.1 q_1.2.2.2.2.2.2.2.2.1 q_1.2.2.2.2.2.2.2.2.2 r0_now_days r0_now_done r0_now_things r0_now_fields_lefts r0_now_fields_wishes r0_now_figures r0_now_goes r0_now_hampers r0_now_kinds r0_now_weights)) rfl d_H_image_13 (fun H locs hW => ?_)
  refine lv_aload_n hx hb d_H_image_16 rfl (lv_at hl 0 rfl) ?_
  refine k_get i_H C hW 0 rfl rfl 0 (by decide) qf_H_10 rfl rfl d_H_image_17 ?_
  refine k_getN i_Sta C hW 10 rfl rfl 8 (by decide) qf_H_362 rfl rfl d_H_image_20 ?_
  obtain rfl := Option.some.inj hr
  rw [hQ]; exact k_iret C hret hW d_H_image_23
def F_H_isPart (x0 : Int32) : Option (Int32) :=
  (if x0 = 0 then (some 1) else (if x0 = 1 then (some 1) else (some 0)))
set_option maxHeartbeats 4000000 in
set_option maxRecDepth 100000 in
theorem C_H_isPart (l : Launch) (D : va_G) (cI cS : ClassId) (x0 : Int32) (o : Int32) (hr : F_H_isPart x0 = some o) : ctI l y_H_isPart (Cond.code y_H_isPart b_H_isPart 1 (some FieldType.boolean)) (rmd 0) D (kTy cI cS) [.int x0] [] [] o := by
  unfold F_H_isPart at hr
  refine ⟨rfl, fun sz => ct_of (w0 := []) (Qc := fun A => qI D [] o A) rfl (Nat.le_of_ble_eq_true rfl) ?_ sz⟩
  intro p e s m below meth c A hA C hret ls hl hW
  have C : cx p s m ([.int x0] : List Value).toArray meth c b_H_isPart 1 R_H D (kTy cI cS) (Cond.code y_H_isPart b_H_isPart 1 (some FieldType.boolean)) := C
  obtain ⟨hx, hb, hml, hown, hts, hK, hlk, hN⟩ := id C
  have hl : lv_has ls 1 [(0, .int x0)] := hl
  obtain ⟨Q, hQ⟩ : ∃ Q, Q = MQ below (qI D [] o A) ([.int x0] : List Value).toArray s 0 0 A := ⟨_, rfl⟩
  rw [← hQ]
  refine lv_iload_n hx hb d_H_isPart_0 rfl (lv_at hl 0 rfl) ?_
  refine lv_if_eq (tgt := 9) hx hb d_H_isPart_1 (by decide) (fun c_1 => ?_) (fun c_1 => ?_)
  · replace hr := ip c_1 hr
    refine lv_iconst (v := 1) hx hb d_H_isPart_9 (by decide) ?_
    refine lv_goto (tgt := 14) hx hb d_H_isPart_10 (by decide) ?_
    obtain rfl := Option.some.inj hr
    rw [hQ]; exact k_zret C hret nar1 hW d_H_isPart_14
  · replace hr := iN c_1 hr
    refine lv_iload_n hx hb d_H_isPart_4 rfl (lv_at hl 0 rfl) ?_
    refine lv_iconst (v := 1) hx hb d_H_isPart_5 (by decide) ?_
    refine lv_icmp_ne (tgt := 13) hx hb d_H_isPart_6 (by decide) (fun c_2 => ?_) (fun c_2 => ?_)
    · replace hr := iN c_2 hr
      refine lv_iconst (v := 0) hx hb d_H_isPart_13 (by decide) ?_
      obtain rfl := Option.some.inj hr
      rw [hQ]; exact k_zret C hret nar0 hW d_H_isPart_14
    · replace hr := ip c_2 hr
      refine lv_iconst (v := 1) hx hb d_H_isPart_9 (by decide) ?_
      refine lv_goto (tgt := 14) hx hb d_H_isPart_10 (by decide) ?_
      obtain rfl := Option.some.inj hr
      rw [hQ]; exact k_zret C hret nar1 hW d_H_isPart_14
def w_H_judge (cI : ClassId) (a_r0 : Nat) (a_r0_now : Nat) (a_r0_now_goes : Nat) (a_r0_now_hampers : Nat) (a_r0_now_weights : Nat) (a_r0_numbers : Nat) (a_r0_numbers_numbers : Nat) (v_r0_kept v_r0_trial v_r0_hasKept v_r0_steps v_r0_letters v_r0_harvest v_r0_fraction v_r0_refusals v_r0_now_kinds v_r0_now_figures v_r0_now_things v_r0_now_fields v_r0_now_done : Value) (r0_now_days : Int32) (r0_now_goes : Nat → Int32) (r0_now_hampers : Nat → Int32) (r0_now_weights : Nat → Int32) (r0_numbers_count : Int32) (r0_numbers_numbers : Nat → Int32) : va_W := [(a_r0, .inr (0, [.ref a_r0_now, v_r0_kept, v_r0_trial, v_r0_hasKept, v_r0_steps, v_r0_letters, .ref a_r0_numbers, v_r0_harvest, v_r0_fraction, v_r0_refusals])), (a_r0_now, .inr (1, [.ref a_r0_now_weights, v_r0_now_kinds, v_r0_now_figures, .ref a_r0_now_goes, v_r0_now_things, .ref a_r0_now_hampers, .int r0_now_days, v_r0_now_fields, v_r0_now_done])), (a_r0_now_goes, .inl (cI, 8, .inl r0_now_goes)), (a_r0_now_hampers, .inl (cI, 8, .inl r0_now_hampers)), (a_r0_now_weights, .inl (cI, 6, .inl r0_now_weights)), (a_r0_numbers, .inr (6, [.ref a_r0_numbers_numbers, .int r0_numbers_count])), (a_r0_numbers_numbers, .inl (cI, 12, .inl r0_numbers_numbers))]
def F_H_judge (r0_now_days : Int32) (r0_now_goes : Nat → Int32) (r0_now_hampers : Nat → Int32) (r0_now_weights : Nat → Int32) (r0_numbers_count : Int32) (r0_numbers_numbers : Nat → Int32) : Option (Int32 × (Int32)) :=
  ((F_Num_firstWrong r0_numbers_count r0_numbers_numbers r0_now_days r0_now_goes r0_now_hampers r0_now_weights).bind (fun q_1 => (some (q_1, 0))))
set_option maxHeartbeats 4000000 in
set_option maxRecDepth 100000 in
theorem C_H_judge (l : Launch) (D : va_G) (cI cS : ClassId) (a_r0 : Nat) (a_r0_now : Nat) (a_r0_now_goes : Nat) (a_r0_now_hampers : Nat) (a_r0_now_weights : Nat) (a_r0_numbers : Nat) (a_r0_numbers_numbers : Nat) (v_r0_kept v_r0_trial v_r0_hasKept v_r0_steps v_r0_letters v_r0_harvest v_r0_fraction v_r0_refusals v_r0_now_kinds v_r0_now_figures v_r0_now_things v_r0_now_fields v_r0_now_done : Value) (r0_now_days : Int32) (r0_now_goes : Nat → Int32) (r0_now_hampers : Nat → Int32) (r0_now_weights : Nat → Int32) (r0_numbers_count : Int32) (r0_numbers_numbers : Nat → Int32) (o : Int32 × (Int32)) (hr : F_H_judge r0_now_days r0_now_goes r0_now_hampers r0_now_weights r0_numbers_count r0_numbers_numbers = some o) : ctI l y_H_judge (Cond.code y_H_judge b_H_judge 2 (some FieldType.int)) (rmd 5) D (kTy cI cS) [.ref a_r0] (w_H_judge cI a_r0 a_r0_now a_r0_now_goes a_r0_now_hampers a_r0_now_weights a_r0_numbers a_r0_numbers_numbers v_r0_kept v_r0_trial v_r0_hasKept v_r0_steps v_r0_letters v_r0_harvest v_r0_fraction v_r0_refusals v_r0_now_kinds v_r0_now_figures v_r0_now_things v_r0_now_fields v_r0_now_done r0_now_days r0_now_goes r0_now_hampers r0_now_weights r0_numbers_count r0_numbers_numbers) (w_H_judge cI a_r0 a_r0_now a_r0_now_goes a_r0_now_hampers a_r0_now_weights a_r0_numbers a_r0_numbers_numbers v_r0_kept v_r0_trial v_r0_hasKept v_r0_steps v_r0_letters v_r0_harvest v_r0_fraction v_r0_refusals v_r0_now_kinds v_r0_now_figures v_r0_now_things v_r0_now_fields v_r0_now_done r0_now_days r0_now_goes r0_now_hampers r0_now_weights o.2 r0_numbers_numbers) o.1 := by
  unfold F_H_judge at hr
  refine ⟨rfl, fun sz => ct_of (w0 := (w_H_judge cI a_r0 a_r0_now a_r0_now_goes a_r0_now_hampers a_r0_now_weights a_r0_numbers a_r0_numbers_numbers v_r0_kept v_r0_trial v_r0_hasKept v_r0_steps v_r0_letters v_r0_harvest v_r0_fraction v_r0_refusals v_r0_now_kinds v_r0_now_figures v_r0_now_things v_r0_now_fields v_r0_now_done r0_now_days r0_now_goes r0_now_hampers r0_now_weights r0_numbers_count r0_numbers_numbers)) (Qc := fun A => qI D (w_H_judge cI a_r0 a_r0_now a_r0_now_goes a_r0_now_hampers a_r0_now_weights a_r0_numbers a_r0_numbers_numbers v_r0_kept v_r0_trial v_r0_hasKept v_r0_steps v_r0_letters v_r0_harvest v_r0_fraction v_r0_refusals v_r0_now_kinds v_r0_now_figures v_r0_now_things v_r0_now_fields v_r0_now_done r0_now_days r0_now_goes r0_now_hampers r0_now_weights o.2 r0_numbers_numbers) o.1 A) rfl (Nat.le_of_ble_eq_true rfl) ?_ sz⟩
  intro p e s m below meth c A hA C hret ls hl hW
  have C : cx p s m ([.ref a_r0] : List Value).toArray meth c b_H_judge 2 R_H D (kTy cI cS) (Cond.code y_H_judge b_H_judge 2 (some FieldType.int)) := C
  obtain ⟨hx, hb, hml, hown, hts, hK, hlk, hN⟩ := id C
  have hl : lv_has ls 2 [(0, .ref a_r0)] := hl
  obtain ⟨Q, hQ⟩ : ∃ Q, Q = MQ below (qI D (w_H_judge cI a_r0 a_r0_now a_r0_now_goes a_r0_now_hampers a_r0_now_weights a_r0_numbers a_r0_numbers_numbers v_r0_kept v_r0_trial v_r0_hasKept v_r0_steps v_r0_letters v_r0_harvest v_r0_fraction v_r0_refusals v_r0_now_kinds v_r0_now_figures v_r0_now_things v_r0_now_fields v_r0_now_done r0_now_days r0_now_goes r0_now_hampers r0_now_weights o.2 r0_numbers_numbers) o.1 A) ([.ref a_r0] : List Value).toArray s 0 0 A := ⟨_, rfl⟩
  rw [← hQ]
  refine lv_aload_n hx hb d_H_judge_0 rfl (lv_at hl 0 rfl) ?_
  refine k_get i_H C hW 0 rfl rfl 6 (by decide) qf_H_43 rfl rfl d_H_judge_1 ?_
  refine lv_aload_n hx hb d_H_judge_4 rfl (lv_at hl 0 rfl) ?_
  refine k_get i_H C hW 0 rfl rfl 0 (by decide) qf_H_10 rfl rfl d_H_judge_5 ?_
  obtain ⟨q_1, hc_1, hr⟩ := ob hr
  have ct_1 := C_Num_firstWrong l D cI cS a_r0_numbers a_r0_numbers_numbers a_r0_now a_r0_now_goes a_r0_now_hampers a_r0_now_weights v_r0_now_kinds v_r0_now_figures v_r0_now_things v_r0_now_fields v_r0_now_done r0_numbers_count r0_numbers_numbers r0_now_days r0_now_goes r0_now_hampers r0_now_weights q_1 hc_1
  refine k_goIp hA hW [5, 6, 1, 2, 3, 4] rfl rfl (k_runV C hA hW mw_Num_firstWrong mv_Num_firstWrong (ct_1.2 _) [5, 6, 1, 2, 3, 4] rfl rfl 5 rfl rfl qm_H_349 ⟨Nat.le_of_ble_eq_true rfl, Nat.le_of_ble_eq_true rfl, Nat.zero_le _, Nat.zero_le _⟩ rfl rfl (Nat.le_of_ble_eq_true rfl) hl.1 d_H_judge_8) (fun H locs hW => ?_)
  refine lv_istore_n (lv' := [(1, .int q_1), (0, .ref a_r0)]) hx hb d_H_judge_11 rfl hl (by decide) rfl (fun ls hl => ?_)
  refine lv_aload_n hx hb d_H_judge_12 rfl (lv_at hl 1 rfl) ?_
  refine k_get i_H C hW 0 rfl rfl 6 (by decide) qf_H_43 rfl rfl d_H_judge_13 ?_
  refine lv_iconst (v := 0) hx hb d_H_judge_16 (by decide) ?_
  refine k_putN i_Num t_Num_ok n_Num C hW 5 rfl rfl 1 (by decide) qf_H_347 rfl rfl (ty := .int) rfl rfl rfl (Nat.le_of_ble_eq_true rfl) (ws' := (w_H_judge cI a_r0 a_r0_now a_r0_now_goes a_r0_now_hampers a_r0_now_weights a_r0_numbers a_r0_numbers_numbers v_r0_kept v_r0_trial v_r0_hasKept v_r0_steps v_r0_letters v_r0_harvest v_r0_fraction v_r0_refusals v_r0_now_kinds v_r0_now_figures v_r0_now_things v_r0_now_fields v_r0_now_done r0_now_days r0_now_goes r0_now_hampers r0_now_weights 0 r0_numbers_numbers)) rfl d_H_judge_17 (fun H locs hW => ?_)
  refine lv_iload_n hx hb d_H_judge_20 rfl (lv_at hl 0 rfl) ?_
  obtain rfl := Option.some.inj hr
  rw [hQ]; exact k_iret C hret hW d_H_judge_21
def w_H_lightest (cI : ClassId) (a_r0 : Nat) (a_r0_now : Nat) (a_r0_now_figures : Nat) (a_r0_now_hampers : Nat) (a_r0_now_kinds : Nat) (a_r0_refusals : Nat) (v_r0_kept v_r0_trial v_r0_hasKept v_r0_steps v_r0_letters v_r0_numbers v_r0_harvest v_r0_fraction v_r0_now_weights v_r0_now_goes v_r0_now_things v_r0_now_fields v_r0_now_done : Value) (r0_now_days : Int32) (r0_now_figures : Nat → Int32) (r0_now_hampers : Nat → Int32) (r0_now_kinds : Nat → Int32) (r0_refusals : Nat → Int32) : va_W := [(a_r0, .inr (0, [.ref a_r0_now, v_r0_kept, v_r0_trial, v_r0_hasKept, v_r0_steps, v_r0_letters, v_r0_numbers, v_r0_harvest, v_r0_fraction, .ref a_r0_refusals])), (a_r0_now, .inr (1, [v_r0_now_weights, .ref a_r0_now_kinds, .ref a_r0_now_figures, v_r0_now_goes, v_r0_now_things, .ref a_r0_now_hampers, .int r0_now_days, v_r0_now_fields, v_r0_now_done])), (a_r0_now_figures, .inl (cI, 8, .inl r0_now_figures)), (a_r0_now_hampers, .inl (cI, 8, .inl r0_now_hampers)), (a_r0_now_kinds, .inl (cI, 8, .inl r0_now_kinds)), (a_r0_refusals, .inl (cI, 7, .inl r0_refusals))]
def F_H_lightest_J16_2 (r0_now_days : Int32) (r0_now_figures : Nat → Int32) (r0_now_hampers : Nat → Int32) (r0_now_kinds : Nat → Int32) (r0_refusals : Nat → Int32) (x1 : Int32) : Option (Int32 × (Nat → Int32)) :=
  ((F_Dia_lightestDay r0_now_days r0_now_figures r0_now_hampers r0_now_kinds).bind (fun q_3 => (if x1 = 0 then (some (q_3, r0_refusals)) else (if (0 : Int32) ≤ q_3 then ((F_Sta_hamperOf r0_now_days r0_now_hampers q_3).bind (fun q_6 => ((F_Sta_heavyOf r0_now_figures r0_now_kinds q_6).bind (fun q_7 => (some (q_7, r0_refusals)))))) else (some (q_3, r0_refusals))))))
def F_H_lightest (r0_now_days : Int32) (r0_now_figures : Nat → Int32) (r0_now_hampers : Nat → Int32) (r0_now_kinds : Nat → Int32) (r0_refusals : Nat → Int32) (x1 : Int32) : Option (Int32 × (Nat → Int32)) :=
  (if x1 = 0 then (F_H_lightest_J16_2 r0_now_days r0_now_figures r0_now_hampers r0_now_kinds r0_refusals x1) else (if x1 = 1 then (F_H_lightest_J16_2 r0_now_days r0_now_figures r0_now_hampers r0_now_kinds r0_refusals x1) else ((F_H_refused r0_refusals ((-2) : Int32)).bind (fun q_9 => (some (q_9.1, q_9.2))))))
set_option maxHeartbeats 4000000 in
set_option maxRecDepth 100000 in
theorem C_H_lightest (l : Launch) (D : va_G) (cI cS : ClassId) (a_r0 : Nat) (a_r0_now : Nat) (a_r0_now_figures : Nat) (a_r0_now_hampers : Nat) (a_r0_now_kinds : Nat) (a_r0_refusals : Nat) (v_r0_kept v_r0_trial v_r0_hasKept v_r0_steps v_r0_letters v_r0_numbers v_r0_harvest v_r0_fraction v_r0_now_weights v_r0_now_goes v_r0_now_things v_r0_now_fields v_r0_now_done : Value) (r0_now_days : Int32) (r0_now_figures : Nat → Int32) (r0_now_hampers : Nat → Int32) (r0_now_kinds : Nat → Int32) (r0_refusals : Nat → Int32) (x1 : Int32) (o : Int32 × (Nat → Int32)) (hr : F_H_lightest r0_now_days r0_now_figures r0_now_hampers r0_now_kinds r0_refusals x1 = some o) : ctI l y_H_lightest (Cond.code y_H_lightest b_H_lightest 3 (some FieldType.int)) (rmd 3) D (kTy cI cS) [.ref a_r0, .int x1] (w_H_lightest cI a_r0 a_r0_now a_r0_now_figures a_r0_now_hampers a_r0_now_kinds a_r0_refusals v_r0_kept v_r0_trial v_r0_hasKept v_r0_steps v_r0_letters v_r0_numbers v_r0_harvest v_r0_fraction v_r0_now_weights v_r0_now_goes v_r0_now_things v_r0_now_fields v_r0_now_done r0_now_days r0_now_figures r0_now_hampers r0_now_kinds r0_refusals) (w_H_lightest cI a_r0 a_r0_now a_r0_now_figures a_r0_now_hampers a_r0_now_kinds a_r0_refusals v_r0_kept v_r0_trial v_r0_hasKept v_r0_steps v_r0_letters v_r0_numbers v_r0_harvest v_r0_fraction v_r0_now_weights v_r0_now_goes v_r0_now_things v_r0_now_fields v_r0_now_done r0_now_days r0_now_figures r0_now_hampers r0_now_kinds o.2) o.1 := by
  unfold F_H_lightest at hr
  refine ⟨rfl, fun sz => ct_of (w0 := (w_H_lightest cI a_r0 a_r0_now a_r0_now_figures a_r0_now_hampers a_r0_now_kinds a_r0_refusals v_r0_kept v_r0_trial v_r0_hasKept v_r0_steps v_r0_letters v_r0_numbers v_r0_harvest v_r0_fraction v_r0_now_weights v_r0_now_goes v_r0_now_things v_r0_now_fields v_r0_now_done r0_now_days r0_now_figures r0_now_hampers r0_now_kinds r0_refusals)) (Qc := fun A => qI D (w_H_lightest cI a_r0 a_r0_now a_r0_now_figures a_r0_now_hampers a_r0_now_kinds a_r0_refusals v_r0_kept v_r0_trial v_r0_hasKept v_r0_steps v_r0_letters v_r0_numbers v_r0_harvest v_r0_fraction v_r0_now_weights v_r0_now_goes v_r0_now_things v_r0_now_fields v_r0_now_done r0_now_days r0_now_figures r0_now_hampers r0_now_kinds o.2) o.1 A) rfl (Nat.le_of_ble_eq_true rfl) ?_ sz⟩
  intro p e s m below meth c A hA C hret ls hl hW
  have C : cx p s m ([.ref a_r0, .int x1] : List Value).toArray meth c b_H_lightest 3 R_H D (kTy cI cS) (Cond.code y_H_lightest b_H_lightest 3 (some FieldType.int)) := C
  obtain ⟨hx, hb, hml, hown, hts, hK, hlk, hN⟩ := id C
  have hl : lv_has ls 3 [(0, .ref a_r0), (1, .int x1)] := hl
  obtain ⟨Q, hQ⟩ : ∃ Q, Q = MQ below (qI D (w_H_lightest cI a_r0 a_r0_now a_r0_now_figures a_r0_now_hampers a_r0_now_kinds a_r0_refusals v_r0_kept v_r0_trial v_r0_hasKept v_r0_steps v_r0_letters v_r0_numbers v_r0_harvest v_r0_fraction v_r0_now_weights v_r0_now_goes v_r0_now_things v_r0_now_fields v_r0_now_done r0_now_days r0_now_figures r0_now_hampers r0_now_kinds o.2) o.1 A) ([.ref a_r0, .int x1] : List Value).toArray s 0 0 A := ⟨_, rfl⟩
  rw [← hQ]
  refine lv_iload_n hx hb d_H_lightest_0 rfl (lv_at hl 1 rfl) ?_
  have hJ_2 : ∀ (_ : Unit), F_H_lightest_J16_2 r0_now_days r0_now_figures r0_now_hampers r0_now_kinds r0_refusals x1 = some o → ∀ (H : Heap) (locs : List Loc) (ls : Array Slot), wd A s.heap D (w_H_lightest cI a_r0 a_r0_now a_r0_now_figures a_r0_now_hampers a_r0_now_kinds a_r0_refusals v_r0_kept v_r0_trial v_r0_hasKept v_r0_steps v_r0_letters v_r0_numbers v_r0_harvest v_r0_fraction v_r0_now_weights v_r0_now_goes v_r0_now_things v_r0_now_fields v_r0_now_done r0_now_days r0_now_figures r0_now_hampers r0_now_kinds r0_refusals) H locs → lv_has ls 3 [(0, .ref a_r0), (1, .int x1)] → W p l e (rmd 3) s m ([.ref a_r0, .int x1] : List Value).toArray below meth c H locs 0 0 Q (F0 m 16 ls []) := by
    intro _ hr H locs ls hW hl
    unfold F_H_lightest_J16_2 at hr
    refine lv_aload_n hx hb d_H_lightest_16 rfl (lv_at hl 0 rfl) ?_
    refine k_get i_H C hW 0 rfl rfl 0 (by decide) qf_H_10 rfl rfl d_H_lightest_17 ?_
    obtain ⟨q_3, hc_3, hr⟩ := ob hr
    have ct_3 := C_Dia_lightestDay l D cI cS a_r0_now a_r0_now_figures a_r0_now_hampers a_r0_now_kinds v_r0_now_weights v_r0_now_goes v_r0_now_things v_r0_now_fields v_r0_now_done r0_now_days r0_now_figures r0_now_hampers r0_now_kinds q_3 hc_3
    refine k_goIp hA hW [1, 2, 3, 4] rfl rfl (k_runS C hA hW mw_Dia_lightestDay ms_Dia_lightestDay (ct_3.2 _) [1, 2, 3, 4] rfl rfl qm_H_314 ⟨Nat.le_of_ble_eq_true rfl, Nat.le_of_ble_eq_true rfl, Nat.zero_le _, Nat.zero_le _⟩ rfl rfl (Nat.le_of_ble_eq_true rfl) hl.1 d_H_lightest_20) (fun H locs hW => ?_)
    refine lv_istore_n (lv' := [(2, .int q_3), (0, .ref a_r0), (1, .int x1)]) hx hb d_H_lightest_23 rfl hl (by decide) rfl (fun ls hl => ?_)
    refine lv_iload_n hx hb d_H_lightest_24 rfl (lv_at hl 2 rfl) ?_
    refine lv_if_eq (tgt := 32) hx hb d_H_lightest_25 (by decide) (fun c_4 => ?_) (fun c_4 => ?_)
    · replace hr := ip c_4 hr
      refine lv_iload_n hx hb d_H_lightest_32 rfl (lv_at hl 0 rfl) ?_
      refine lv_goto (tgt := 51) hx hb d_H_lightest_33 (by decide) ?_
      obtain rfl := Option.some.inj hr
      rw [hQ]; exact k_iret C hret hW d_H_lightest_51
    · replace hr := iN c_4 hr
      refine lv_iload_n hx hb d_H_lightest_28 rfl (lv_at hl 0 rfl) ?_
      refine lv_if_ge (tgt := 36) hx hb d_H_lightest_29 (by decide) (fun c_5 => ?_) (fun c_5 => ?_)
      · replace hr := ip c_5 hr
        refine lv_aload_n hx hb d_H_lightest_36 rfl (lv_at hl 1 rfl) ?_
        refine k_get i_H C hW 0 rfl rfl 0 (by decide) qf_H_10 rfl rfl d_H_lightest_37 ?_
        refine lv_aload_n hx hb d_H_lightest_40 rfl (lv_at hl 1 rfl) ?_
        refine k_get i_H C hW 0 rfl rfl 0 (by decide) qf_H_10 rfl rfl d_H_lightest_41 ?_
        refine lv_iload_n hx hb d_H_lightest_44 rfl (lv_at hl 0 rfl) ?_
        obtain ⟨q_6, hc_6, hr⟩ := ob hr
        have ct_6 := C_Sta_hamperOf l D cI cS a_r0_now a_r0_now_hampers v_r0_now_weights (Value.ref a_r0_now_kinds) (Value.ref a_r0_now_figures) v_r0_now_goes v_r0_now_things v_r0_now_fields v_r0_now_done r0_now_days r0_now_hampers q_3 q_6 hc_6
        refine k_goIp hA hW [1, 3] rfl rfl (k_runV C hA hW mw_Sta_hamperOf mv_Sta_hamperOf (ct_6.2 _) [1, 3] rfl rfl 1 rfl rfl qm_H_317 ⟨Nat.le_of_ble_eq_true rfl, Nat.le_of_ble_eq_true rfl, Nat.zero_le _, Nat.zero_le _⟩ rfl rfl (Nat.le_of_ble_eq_true rfl) hl.1 d_H_lightest_45) (fun H locs hW => ?_)
        obtain ⟨q_7, hc_7, hr⟩ := ob hr
        have ct_7 := C_Sta_heavyOf l D cI cS a_r0_now a_r0_now_figures a_r0_now_kinds v_r0_now_weights v_r0_now_goes v_r0_now_things (Value.ref a_r0_now_hampers) (Value.int r0_now_days) v_r0_now_fields v_r0_now_done r0_now_figures r0_now_kinds q_6 q_7 hc_7
        refine k_goIp hA hW [1, 2, 4] rfl rfl (k_runV C hA hW mw_Sta_heavyOf mv_Sta_heavyOf (ct_7.2 _) [1, 2, 4] rfl rfl 1 rfl rfl qm_H_119 ⟨Nat.le_of_ble_eq_true rfl, Nat.le_of_ble_eq_true rfl, Nat.zero_le _, Nat.zero_le _⟩ rfl rfl (Nat.le_of_ble_eq_true rfl) hl.1 d_H_lightest_48) (fun H locs hW => ?_)
        obtain rfl := Option.some.inj hr
        rw [hQ]; exact k_iret C hret hW d_H_lightest_51
      · replace hr := iN c_5 hr
        refine lv_iload_n hx hb d_H_lightest_32 rfl (lv_at hl 0 rfl) ?_
        refine lv_goto (tgt := 51) hx hb d_H_lightest_33 (by decide) ?_
        obtain rfl := Option.some.inj hr
        rw [hQ]; exact k_iret C hret hW d_H_lightest_51
  refine lv_if_eq (tgt := 16) hx hb d_H_lightest_1 (by decide) (fun c_1 => ?_) (fun c_1 => ?_)
  · replace hr := ip c_1 hr
    exact hJ_2 () hr _ _ _ hW (lv_sub hl [0, 1] rfl)
  · replace hr := iN c_1 hr
    refine lv_iload_n hx hb d_H_lightest_4 rfl (lv_at hl 1 rfl) ?_
    refine lv_iconst (v := 1) hx hb d_H_lightest_5 (by decide) ?_
    refine lv_icmp_eq (tgt := 16) hx hb d_H_lightest_6 (by decide) (fun c_8 => ?_) (fun c_8 => ?_)
    · replace hr := ip c_8 hr
      exact hJ_2 () hr _ _ _ hW (lv_sub hl [0, 1] rfl)
    · replace hr := iN c_8 hr
      refine lv_aload_n hx hb d_H_lightest_9 rfl (lv_at hl 0 rfl) ?_
      refine lv_bipush (v := (-2)) hx hb d_H_lightest_10 (by decide) ?_
      obtain ⟨q_9, hc_9, hr⟩ := ob hr
      have ct_9 := C_H_refused l D cI cS a_r0 a_r0_refusals (Value.ref a_r0_now) v_r0_kept v_r0_trial v_r0_hasKept v_r0_steps v_r0_letters v_r0_numbers v_r0_harvest v_r0_fraction r0_refusals (-2) q_9 hc_9
      refine k_goI hA hW [0, 5] rfl ct_9.1 (ws' := (w_H_lightest cI a_r0 a_r0_now a_r0_now_figures a_r0_now_hampers a_r0_now_kinds a_r0_refusals v_r0_kept v_r0_trial v_r0_hasKept v_r0_steps v_r0_letters v_r0_numbers v_r0_harvest v_r0_fraction v_r0_now_weights v_r0_now_goes v_r0_now_things v_r0_now_fields v_r0_now_done r0_now_days r0_now_figures r0_now_hampers r0_now_kinds q_9.2)) rfl (k_runV C hA hW mw_H_refused mv_H_refused (ct_9.2 _) [0, 5] rfl rfl 0 rfl rfl qm_H_65 ⟨Nat.le_of_ble_eq_true rfl, Nat.le_of_ble_eq_true rfl, Nat.zero_le _, Nat.zero_le _⟩ rfl rfl (Nat.le_of_ble_eq_true rfl) hl.1 d_H_lightest_12) (fun H locs hW => ?_)
      obtain rfl := Option.some.inj hr
      rw [hQ]; exact k_iret C hret hW d_H_lightest_15
def w_H_looks (cI : ClassId) (a_r0 : Nat) (a_r0_now : Nat) (a_r0_now_goes : Nat) (a_r0_now_hampers : Nat) (a_r0_refusals : Nat) (v_r0_kept v_r0_trial v_r0_hasKept v_r0_steps v_r0_letters v_r0_numbers v_r0_harvest v_r0_fraction v_r0_now_weights v_r0_now_kinds v_r0_now_figures v_r0_now_fields v_r0_now_done : Value) (r0_now_days : Int32) (r0_now_things : Int32) (r0_now_goes : Nat → Int32) (r0_now_hampers : Nat → Int32) (r0_refusals : Nat → Int32) : va_W := [(a_r0, .inr (0, [.ref a_r0_now, v_r0_kept, v_r0_trial, v_r0_hasKept, v_r0_steps, v_r0_letters, v_r0_numbers, v_r0_harvest, v_r0_fraction, .ref a_r0_refusals])), (a_r0_now, .inr (1, [v_r0_now_weights, v_r0_now_kinds, v_r0_now_figures, .ref a_r0_now_goes, .int r0_now_things, .ref a_r0_now_hampers, .int r0_now_days, v_r0_now_fields, v_r0_now_done])), (a_r0_now_goes, .inl (cI, 8, .inl r0_now_goes)), (a_r0_now_hampers, .inl (cI, 8, .inl r0_now_hampers)), (a_r0_refusals, .inl (cI, 7, .inl r0_refusals))]
def F_H_looks (r0_now_days : Int32) (r0_now_things : Int32) (r0_now_goes : Nat → Int32) (r0_now_hampers : Nat → Int32) (r0_refusals : Nat → Int32) (x1 : Int32) : Option (Int32 × (Nat → Int32)) :=
  ((F_Sta_hasDay r0_now_days x1).bind (fun q_1 => (if q_1 = 0 then ((F_H_refused r0_refusals ((-1) : Int32)).bind (fun q_6 => (some (q_6.1, q_6.2)))) else (ck x1 8 ((F_Sta_couldBe r0_now_goes (r0_now_hampers (Int32.toNatClampNeg x1))).bind (fun q_4 => ((F_Set_fewest r0_now_things r0_now_goes (r0_now_hampers (Int32.toNatClampNeg x1)) q_4).bind (fun q_5 => (some (q_5, r0_refusals))))))))))
set_option maxHeartbeats 4000000 in
set_option maxRecDepth 100000 in
theorem C_H_looks (l : Launch) (D : va_G) (cI cS : ClassId) (a_r0 : Nat) (a_r0_now : Nat) (a_r0_now_goes : Nat) (a_r0_now_hampers : Nat) (a_r0_refusals : Nat) (v_r0_kept v_r0_trial v_r0_hasKept v_r0_steps v_r0_letters v_r0_numbers v_r0_harvest v_r0_fraction v_r0_now_weights v_r0_now_kinds v_r0_now_figures v_r0_now_fields v_r0_now_done : Value) (r0_now_days : Int32) (r0_now_things : Int32) (r0_now_goes : Nat → Int32) (r0_now_hampers : Nat → Int32) (r0_refusals : Nat → Int32) (x1 : Int32) (o : Int32 × (Nat → Int32)) (hr : F_H_looks r0_now_days r0_now_things r0_now_goes r0_now_hampers r0_refusals x1 = some o) : ctI l y_H_looks (Cond.code y_H_looks b_H_looks 3 (some FieldType.int)) (rmd 3) D (kTy cI cS) [.ref a_r0, .int x1] (w_H_looks cI a_r0 a_r0_now a_r0_now_goes a_r0_now_hampers a_r0_refusals v_r0_kept v_r0_trial v_r0_hasKept v_r0_steps v_r0_letters v_r0_numbers v_r0_harvest v_r0_fraction v_r0_now_weights v_r0_now_kinds v_r0_now_figures v_r0_now_fields v_r0_now_done r0_now_days r0_now_things r0_now_goes r0_now_hampers r0_refusals) (w_H_looks cI a_r0 a_r0_now a_r0_now_goes a_r0_now_hampers a_r0_refusals v_r0_kept v_r0_trial v_r0_hasKept v_r0_steps v_r0_letters v_r0_numbers v_r0_harvest v_r0_fraction v_r0_now_weights v_r0_now_kinds v_r0_now_figures v_r0_now_fields v_r0_now_done r0_now_days r0_now_things r0_now_goes r0_now_hampers o.2) o.1 := by
  unfold F_H_looks at hr
  refine ⟨rfl, fun sz => ct_of (w0 := (w_H_looks cI a_r0 a_r0_now a_r0_now_goes a_r0_now_hampers a_r0_refusals v_r0_kept v_r0_trial v_r0_hasKept v_r0_steps v_r0_letters v_r0_numbers v_r0_harvest v_r0_fraction v_r0_now_weights v_r0_now_kinds v_r0_now_figures v_r0_now_fields v_r0_now_done r0_now_days r0_now_things r0_now_goes r0_now_hampers r0_refusals)) (Qc := fun A => qI D (w_H_looks cI a_r0 a_r0_now a_r0_now_goes a_r0_now_hampers a_r0_refusals v_r0_kept v_r0_trial v_r0_hasKept v_r0_steps v_r0_letters v_r0_numbers v_r0_harvest v_r0_fraction v_r0_now_weights v_r0_now_kinds v_r0_now_figures v_r0_now_fields v_r0_now_done r0_now_days r0_now_things r0_now_goes r0_now_hampers o.2) o.1 A) rfl (Nat.le_of_ble_eq_true rfl) ?_ sz⟩
  intro p e s m below meth c A hA C hret ls hl hW
  have C : cx p s m ([.ref a_r0, .int x1] : List Value).toArray meth c b_H_looks 3 R_H D (kTy cI cS) (Cond.code y_H_looks b_H_looks 3 (some FieldType.int)) := C
  obtain ⟨hx, hb, hml, hown, hts, hK, hlk, hN⟩ := id C
  have hl : lv_has ls 3 [(0, .ref a_r0), (1, .int x1)] := hl
  obtain ⟨Q, hQ⟩ : ∃ Q, Q = MQ below (qI D (w_H_looks cI a_r0 a_r0_now a_r0_now_goes a_r0_now_hampers a_r0_refusals v_r0_kept v_r0_trial v_r0_hasKept v_r0_steps v_r0_letters v_r0_numbers v_r0_harvest v_r0_fraction v_r0_now_weights v_r0_now_kinds v_r0_now_figures v_r0_now_fields v_r0_now_done r0_now_days r0_now_things r0_now_goes r0_now_hampers o.2) o.1 A) ([.ref a_r0, .int x1] : List Value).toArray s 0 0 A := ⟨_, rfl⟩
  rw [← hQ]
  refine lv_aload_n hx hb d_H_looks_0 rfl (lv_at hl 0 rfl) ?_
  refine k_get i_H C hW 0 rfl rfl 0 (by decide) qf_H_10 rfl rfl d_H_looks_1 ?_
  refine lv_iload_n hx hb d_H_looks_4 rfl (lv_at hl 1 rfl) ?_
  obtain ⟨q_1, hc_1, hr⟩ := ob hr
  have ct_1 := C_Sta_hasDay l D cI cS a_r0_now v_r0_now_weights v_r0_now_kinds v_r0_now_figures (Value.ref a_r0_now_goes) (Value.int r0_now_things) (Value.ref a_r0_now_hampers) v_r0_now_fields v_r0_now_done r0_now_days x1 q_1 hc_1
  refine k_goIp hA hW [1] rfl rfl (k_runV C hA hW mw_Sta_hasDay mv_Sta_hasDay (ct_1.2 _) [1] rfl rfl 1 rfl rfl qm_H_107 ⟨Nat.le_of_ble_eq_true rfl, Nat.le_of_ble_eq_true rfl, Nat.zero_le _, Nat.zero_le _⟩ rfl rfl (Nat.le_of_ble_eq_true rfl) hl.1 d_H_looks_5) (fun H locs hW => ?_)
  refine lv_if_ne (tgt := 17) hx hb d_H_looks_8 (by decide) (fun c_2 => ?_) (fun c_2 => ?_)
  · replace hr := iN c_2 hr
    refine lv_aload_n hx hb d_H_looks_17 rfl (lv_at hl 0 rfl) ?_
    refine k_get i_H C hW 0 rfl rfl 0 (by decide) qf_H_10 rfl rfl d_H_looks_18 ?_
    refine k_getN i_Sta C hW 1 rfl rfl 5 (by decide) qf_H_110 rfl rfl d_H_looks_21 ?_
    refine lv_iload_n hx hb d_H_looks_24 rfl (lv_at hl 1 rfl) ?_
    obtain ⟨h_3, hr⟩ := ck_some hr
    refine k_iald C hW 3 rfl h_3 d_H_looks_25 ?_
    refine lv_istore_n (lv' := [(2, .int (r0_now_hampers (Int32.toNatClampNeg x1))), (0, .ref a_r0), (1, .int x1)]) hx hb d_H_looks_26 rfl hl (by decide) rfl (fun ls hl => ?_)
    refine lv_aload_n hx hb d_H_looks_27 rfl (lv_at hl 1 rfl) ?_
    refine k_get i_H C hW 0 rfl rfl 0 (by decide) qf_H_10 rfl rfl d_H_looks_28 ?_
    refine lv_iload_n hx hb d_H_looks_31 rfl (lv_at hl 0 rfl) ?_
    refine lv_aload_n hx hb d_H_looks_32 rfl (lv_at hl 1 rfl) ?_
    refine k_get i_H C hW 0 rfl rfl 0 (by decide) qf_H_10 rfl rfl d_H_looks_33 ?_
    refine lv_iload_n hx hb d_H_looks_36 rfl (lv_at hl 0 rfl) ?_
    obtain ⟨q_4, hc_4, hr⟩ := ob hr
    have ct_4 := C_Sta_couldBe l D cI cS a_r0_now a_r0_now_goes v_r0_now_weights v_r0_now_kinds v_r0_now_figures (Value.int r0_now_things) (Value.ref a_r0_now_hampers) (Value.int r0_now_days) v_r0_now_fields v_r0_now_done r0_now_goes (r0_now_hampers (Int32.toNatClampNeg x1)) q_4 hc_4
    refine k_goIp hA hW [1, 2] rfl rfl (k_runV C hA hW mw_Sta_couldBe mv_Sta_couldBe (ct_4.2 _) [1, 2] rfl rfl 1 rfl rfl qm_H_113 ⟨Nat.le_of_ble_eq_true rfl, Nat.le_of_ble_eq_true rfl, Nat.zero_le _, Nat.zero_le _⟩ rfl rfl (Nat.le_of_ble_eq_true rfl) hl.1 d_H_looks_37) (fun H locs hW => ?_)
    obtain ⟨q_5, hc_5, hr⟩ := ob hr
    have ct_5 := C_Set_fewest l D cI cS a_r0_now a_r0_now_goes v_r0_now_weights v_r0_now_kinds v_r0_now_figures (Value.ref a_r0_now_hampers) (Value.int r0_now_days) v_r0_now_fields v_r0_now_done r0_now_things r0_now_goes (r0_now_hampers (Int32.toNatClampNeg x1)) q_4 q_5 hc_5
    refine k_goIp hA hW [1, 2] rfl rfl (k_runS C hA hW mw_Set_fewest ms_Set_fewest (ct_5.2 _) [1, 2] rfl rfl qm_H_228 ⟨Nat.le_of_ble_eq_true rfl, Nat.le_of_ble_eq_true rfl, Nat.zero_le _, Nat.zero_le _⟩ rfl rfl (Nat.le_of_ble_eq_true rfl) hl.1 d_H_looks_40) (fun H locs hW => ?_)
    obtain rfl := Option.some.inj hr
    rw [hQ]; exact k_iret C hret hW d_H_looks_43
  · replace hr := ip c_2 hr
    refine lv_aload_n hx hb d_H_looks_11 rfl (lv_at hl 0 rfl) ?_
    refine lv_iconst (v := (-1)) hx hb d_H_looks_12 (by decide) ?_
    obtain ⟨q_6, hc_6, hr⟩ := ob hr
    have ct_6 := C_H_refused l D cI cS a_r0 a_r0_refusals (Value.ref a_r0_now) v_r0_kept v_r0_trial v_r0_hasKept v_r0_steps v_r0_letters v_r0_numbers v_r0_harvest v_r0_fraction r0_refusals (-1) q_6 hc_6
    refine k_goI hA hW [0, 4] rfl ct_6.1 (ws' := (w_H_looks cI a_r0 a_r0_now a_r0_now_goes a_r0_now_hampers a_r0_refusals v_r0_kept v_r0_trial v_r0_hasKept v_r0_steps v_r0_letters v_r0_numbers v_r0_harvest v_r0_fraction v_r0_now_weights v_r0_now_kinds v_r0_now_figures v_r0_now_fields v_r0_now_done r0_now_days r0_now_things r0_now_goes r0_now_hampers q_6.2)) rfl (k_runV C hA hW mw_H_refused mv_H_refused (ct_6.2 _) [0, 4] rfl rfl 0 rfl rfl qm_H_65 ⟨Nat.le_of_ble_eq_true rfl, Nat.le_of_ble_eq_true rfl, Nat.zero_le _, Nat.zero_le _⟩ rfl rfl (Nat.le_of_ble_eq_true rfl) hl.1 d_H_looks_13) (fun H locs hW => ?_)
    obtain rfl := Option.some.inj hr
    rw [hQ]; exact k_iret C hret hW d_H_looks_16
