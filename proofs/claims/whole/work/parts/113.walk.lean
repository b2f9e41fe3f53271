def w_M_thing (cI : ClassId) (a_r0 : Nat) (a_r0_figures : Nat) (a_r0_kinds : Nat) (a_r0_refusals : Nat) (v_r0_weights v_r0_days v_r0_hampers v_r0_wants0 v_r0_left0 v_r0_done0 v_r0_letters v_r0_letterMany v_r0_at v_r0_isBad v_r0_statements v_r0_placeIn v_r0_letterOf v_r0_told v_r0_kept v_r0_imaged v_r0_hasImage v_r0_place0 v_r0_isTaking v_r0_keptIn v_r0_turns0 v_r0_turnOf v_r0_order0 v_r0_likely0 v_r0_leftThen v_r0_row v_r0_rowMany v_r0_seed : Value) (r0_things : Int32) (r0_thrown : Int32) (r0_turned : Int32) (r0_figures : Nat → Int32) (r0_kinds : Nat → Int32) (r0_refusals : Nat → Int32) : va_W := [(a_r0, .inr (9, [v_r0_weights, .int r0_things, .ref a_r0_kinds, .ref a_r0_figures, v_r0_days, v_r0_hampers, v_r0_wants0, v_r0_left0, v_r0_done0, .int r0_thrown, .ref a_r0_refusals, v_r0_letters, v_r0_letterMany, v_r0_at, v_r0_isBad, v_r0_statements, v_r0_placeIn, v_r0_letterOf, v_r0_told, v_r0_kept, v_r0_imaged, v_r0_hasImage, v_r0_place0, v_r0_isTaking, v_r0_keptIn, v_r0_turns0, v_r0_turnOf, .int r0_turned, v_r0_order0, v_r0_likely0, v_r0_leftThen, v_r0_row, v_r0_rowMany, v_r0_seed])), (a_r0_figures, .inl (cI, 8, .inl r0_figures)), (a_r0_kinds, .inl (cI, 8, .inl r0_kinds)), (a_r0_refusals, .inl (cI, 7, .inl r0_refusals))]
def F_M_thing_J49_5 (r0_things : Int32) (r0_turned : Int32) (r0_figures : Nat → Int32) (r0_kinds : Nat → Int32) (r0_refusals : Nat → Int32) (x1 : Int32) (x2 : Int32) (s0_5 : Int32) : Option (Int32 × (Int32) × (Int32) × (Int32) × (Nat → Int32) × (Nat → Int32) × (Nat → Int32)) :=
  (if (0 : Int32) ≤ s0_5 then ((F_M_thingComes r0_things r0_figures r0_kinds x1 x2).bind (fun q_7 => (some ((q_7.1 - 1), q_7.1, 0, 0, q_7.2.1, q_7.2.2, r0_refusals)))) else ((F_M_refuse r0_refusals s0_5).bind (fun q_8 => (some (q_8.1, r0_things, 0, r0_turned, r0_figures, r0_kinds, q_8.2)))))
def F_M_thing_J48_9 (r0_things : Int32) (r0_turned : Int32) (r0_figures : Nat → Int32) (r0_kinds : Nat → Int32) (r0_refusals : Nat → Int32) (s0_3 : Int32) (x1 : Int32) (x2 : Int32) : Option (Int32 × (Int32) × (Int32) × (Int32) × (Nat → Int32) × (Nat → Int32) × (Nat → Int32)) :=
  (F_M_thing_J49_5 r0_things r0_turned r0_figures r0_kinds r0_refusals x1 x2 s0_3)
def F_M_thing_J29_3 (r0_things : Int32) (r0_turned : Int32) (r0_figures : Nat → Int32) (r0_kinds : Nat → Int32) (r0_refusals : Nat → Int32) (x1 : Int32) (x2 : Int32) (s0_3 : Int32) : Option (Int32 × (Int32) × (Int32) × (Int32) × (Nat → Int32) × (Nat → Int32) × (Nat → Int32)) :=
  (if s0_3 = 0 then (if r0_things = 8 then (F_M_thing_J49_5 r0_things r0_turned r0_figures r0_kinds r0_refusals x1 x2 (-6)) else (F_M_thing_J48_9 r0_things r0_turned r0_figures r0_kinds r0_refusals s0_3 x1 x2)) else (F_M_thing_J48_9 r0_things r0_turned r0_figures r0_kinds r0_refusals s0_3 x1 x2))
def F_M_thing (r0_things : Int32) (r0_turned : Int32) (r0_figures : Nat → Int32) (r0_kinds : Nat → Int32) (r0_refusals : Nat → Int32) (x1 : Int32) (x2 : Int32) : Option (Int32 × (Int32) × (Int32) × (Int32) × (Nat → Int32) × (Nat → Int32) × (Nat → Int32)) :=
  ((F_M_in (Int32.toInt64 x1) (0 : Int64) (5 : Int64)).bind (fun q_1 => (if q_1 = 0 then (F_M_thing_J29_3 r0_things r0_turned r0_figures r0_kinds r0_refusals x1 x2 (-2)) else ((F_M_wrongNumber x2 (0 : Int32) (9 : Int32)).bind (fun q_11 => (F_M_thing_J29_3 r0_things r0_turned r0_figures r0_kinds r0_refusals x1 x2 q_11))))))
set_option maxHeartbeats 4000000 in
set_option maxRecDepth 100000 in
theorem C_M_thing (l : Launch) (D : va_G) (cI cS : ClassId) (a_r0 : Nat) (a_r0_figures : Nat) (a_r0_kinds : Nat) (a_r0_refusals : Nat) (v_r0_weights v_r0_days v_r0_hampers v_r0_wants0 v_r0_left0 v_r0_done0 v_r0_letters v_r0_letterMany v_r0_at v_r0_isBad v_r0_statements v_r0_placeIn v_r0_letterOf v_r0_told v_r0_kept v_r0_imaged v_r0_hasImage v_r0_place0 v_r0_isTaking v_r0_keptIn v_r0_turns0 v_r0_turnOf v_r0_order0 v_r0_likely0 v_r0_leftThen v_r0_row v_r0_rowMany v_r0_seed : Value) (r0_things : Int32) (r0_thrown : Int32) (r0_turned : Int32) (r0_figures : Nat → Int32) (r0_kinds : Nat → Int32) (r0_refusals : Nat → Int32) (x1 : Int32) (x2 : Int32) (o : Int32 × (Int32) × (Int32) × (Int32) × (Nat → Int32) × (Nat → Int32) × (Nat → Int32)) (hr : F_M_thing r0_things r0_turned r0_figures r0_kinds r0_refusals x1 x2 = some o) : ctI l y_M_thing (Cond.code y_M_thing b_M_thing 4 (some FieldType.int)) (rmd 1) D (kTy cI cS) [.ref a_r0, .int x1, .int x2] (w_M_thing cI a_r0 a_r0_figures a_r0_kinds a_r0_refusals v_r0_weights v_r0_days v_r0_hampers v_r0_wants0 v_r0_left0 v_r0_done0 v_r0_letters v_r0_letterMany v_r0_at v_r0_isBad v_r0_statements v_r0_placeIn v_r0_letterOf v_r0_told v_r0_kept v_r0_imaged v_r0_hasImage v_r0_place0 v_r0_isTaking v_r0_keptIn v_r0_turns0 v_r0_turnOf v_r0_order0 v_r0_likely0 v_r0_leftThen v_r0_row v_r0_rowMany v_r0_seed r0_things r0_thrown r0_turned r0_figures r0_kinds r0_refusals) (w_M_thing cI a_r0 a_r0_figures a_r0_kinds a_r0_refusals v_r0_weights v_r0_days v_r0_hampers v_r0_wants0 v_r0_left0 v_r0_done0 v_r0_letters v_r0_letterMany v_r0_at v_r0_isBad v_r0_statements v_r0_placeIn v_r0_letterOf v_r0_told v_r0_kept v_r0_imaged v_r0_hasImage v_r0_place0 v_r0_isTaking v_r0_keptIn v_r0_turns0 v_r0_turnOf v_r0_order0 v_r0_likely0 v_r0_leftThen v_r0_row v_r0_rowMany v_r0_seed o.2.1 o.2.2.1 o.2.2.2.1 o.2.2.2.2.1 o.2.2.2.2.2.1 o.2.2.2.2.2.2) o.1 := by
  unfold F_M_thing at hr
  refine ⟨rfl, fun sz => ct_of (w0 := (w_M_thing cI a_r0 a_r0_figures a_r0_kinds a_r0_refusals v_r0_weights v_r0_days v_r0_hampers v_r0_wants0 v_r0_left0 v_r0_done0 v_r0_letters v_r0_letterMany v_r0_at v_r0_isBad v_r0_statements v_r0_placeIn v_r0_letterOf v_r0_told v_r0_kept v_r0_imaged v_r0_hasImage v_r0_place0 v_r0_isTaking v_r0_keptIn v_r0_turns0 v_r0_turnOf v_r0_order0 v_r0_likely0 v_r0_leftThen v_r0_row v_r0_rowMany v_r0_seed r0_things r0_thrown r0_turned r0_figures r0_kinds r0_refusals)) (Qc := fun A => qI D (w_M_thing cI a_r0 a_r0_figures a_r0_kinds a_r0_refusals v_r0_weights v_r0_days v_r0_hampers v_r0_wants0 v_r0_left0 v_r0_done0 v_r0_letters v_r0_letterMany v_r0_at v_r0_isBad v_r0_statements v_r0_placeIn v_r0_letterOf v_r0_told v_r0_kept v_r0_imaged v_r0_hasImage v_r0_place0 v_r0_isTaking v_r0_keptIn v_r0_turns0 v_r0_turnOf v_r0_order0 v_r0_likely0 v_r0_leftThen v_r0_row v_r0_rowMany v_r0_seed o.2.1 o.2.2.1 o.2.2.2.1 o.2.2.2.2.1 o.2.2.2.2.2.1 o.2.2.2.2.2.2) o.1 A) rfl (Nat.le_of_ble_eq_true rfl) ?_ sz⟩
  intro p e s m below meth c A hA C hret ls hl hW
  have C : cx p s m ([.ref a_r0, .int x1, .int x2] : List Value).toArray meth c b_M_thing 4 R_M D (kTy cI cS) (Cond.code y_M_thing b_M_thing 4 (some FieldType.int)) := C
  obtain ⟨hx, hb, hml, hown, hts, hK, hlk, hN⟩ := id C
  have hl : lv_has ls 4 [(0, .ref a_r0), (1, .int x1), (2, .int x2)] := hl
  obtain ⟨Q, hQ⟩ : ∃ Q, Q = MQ below (qI D (w_M_thing cI a_r0 a_r0_figures a_r0_kinds a_r0_refusals v_r0_weights v_r0_days v_r0_hampers v_r0_wants0 v_r0_left0 v_r0_done0 v_r0_letters v_r0_letterMany v_r0_at v_r0_isBad v_r0_statements v_r0_placeIn v_r0_letterOf v_r0_told v_r0_kept v_r0_imaged v_r0_hasImage v_r0_place0 v_r0_isTaking v_r0_keptIn v_r0_turns0 v_r0_turnOf v_r0_order0 v_r0_likely0 v_r0_leftThen v_r0_row v_r0_rowMany v_r0_seed o.2.1 o.2.2.1 o.2.2.2.1 o.2.2.2.2.1 o.2.2.2.2.2.1 o.2.2.2.2.2.2) o.1 A) ([.ref a_r0, .int x1, .int x2] : List Value).toArray s 0 0 A := ⟨_, rfl⟩
  rw [← hQ]
  refine lv_aload_n hx hb d_M_thing_0 rfl (lv_at hl 0 rfl) ?_
  refine lv_iconst (v := 0) hx hb d_M_thing_1 (by decide) ?_
  refine k_put i_M t_M_ok n_M C hW 0 rfl rfl 9 (by decide) qf_M_67 rfl rfl (ty := .int) rfl rfl rfl (Nat.le_of_ble_eq_true rfl) (ws' := (w_M_thing cI a_r0 a_r0_figures a_r0_kinds a_r0_refusals v_r0_weights v_r0_days v_r0_hampers v_r0_wants0 v_r0_left0 v_r0_done0 v_r0_letters v_r0_letterMany v_r0_at v_r0_isBad v_r0_statements v_r0_placeIn v_r0_letterOf v_r0_told v_r0_kept v_r0_imaged v_r0_hasImage v_r0_place0 v_r0_isTaking v_r0_keptIn v_r0_turns0 v_r0_turnOf v_r0_order0 v_r0_likely0 v_r0_leftThen v_r0_row v_r0_rowMany v_r0_seed r0_things 0 r0_turned r0_figures r0_kinds r0_refusals)) rfl d_M_thing_2 (fun H locs hW => ?_)
  refine lv_iload_n hx hb d_M_thing_5 rfl (lv_at hl 1 rfl) ?_
  refine lv_i2l hx hb d_M_thing_6 rfl ?_
  refine lv_lconst (v := 0) hx hb d_M_thing_7 (by decide) ?_
  refine lv_ldc2 (v := 5) hx hb hown (hts _ (List.mem_cons_of_mem _ (qc_M_206))) d_M_thing_8 ?_
  obtain ⟨q_1, hc_1, hr⟩ := ob hr
  have ct_1 := C_M_in l D cI cS (Int32.toInt64 x1) 0 (5 : Int64) q_1 hc_1
  refine k_goIp hA hW [] rfl rfl (k_runS C hA hW mw_M_in ms_M_in (ct_1.2 _) [] rfl rfl qm_M_74 ⟨Nat.le_of_ble_eq_true rfl, Nat.le_of_ble_eq_true rfl, Nat.zero_le _, Nat.zero_le _⟩ rfl rfl (Nat.le_of_ble_eq_true rfl) hl.1 d_M_thing_11) (fun H locs hW => ?_)
  have hJ_3 : ∀ (s0_3 : Int32), F_M_thing_J29_3 r0_things r0_turned r0_figures r0_kinds r0_refusals x1 x2 s0_3 = some o → ∀ (H : Heap) (locs : List Loc) (ls : Array Slot), wd A s.heap D (w_M_thing cI a_r0 a_r0_figures a_r0_kinds a_r0_refusals v_r0_weights v_r0_days v_r0_hampers v_r0_wants0 v_r0_left0 v_r0_done0 v_r0_letters v_r0_letterMany v_r0_at v_r0_isBad v_r0_statements v_r0_placeIn v_r0_letterOf v_r0_told v_r0_kept v_r0_imaged v_r0_hasImage v_r0_place0 v_r0_isTaking v_r0_keptIn v_r0_turns0 v_r0_turnOf v_r0_order0 v_r0_likely0 v_r0_leftThen v_r0_row v_r0_rowMany v_r0_seed r0_things 0 r0_turned r0_figures r0_kinds r0_refusals) H locs → lv_has ls 4 [(0, .ref a_r0), (1, .int x1), (2, .int x2)] → W p l e (rmd 1) s m ([.ref a_r0, .int x1, .int x2] : List Value).toArray below meth c H locs 0 0 Q (F0 m 29 ls [.int s0_3]) := by
    intro s0_3 hr H locs ls hW hl
    unfold F_M_thing_J29_3 at hr
    refine lv_istore_n (lv' := [(3, .int s0_3), (0, .ref a_r0), (1, .int x1), (2, .int x2)]) hx hb d_M_thing_29 rfl hl (by decide) rfl (fun ls hl => ?_)
    refine lv_iload_n hx hb d_M_thing_30 rfl (lv_at hl 0 rfl) ?_
    have hJ_5 : ∀ (s0_5 : Int32), F_M_thing_J49_5 r0_things r0_turned r0_figures r0_kinds r0_refusals x1 x2 s0_5 = some o → ∀ (H : Heap) (locs : List Loc) (ls : Array Slot), wd A s.heap D (w_M_thing cI a_r0 a_r0_figures a_r0_kinds a_r0_refusals v_r0_weights v_r0_days v_r0_hampers v_r0_wants0 v_r0_left0 v_r0_done0 v_r0_letters v_r0_letterMany v_r0_at v_r0_isBad v_r0_statements v_r0_placeIn v_r0_letterOf v_r0_told v_r0_kept v_r0_imaged v_r0_hasImage v_r0_place0 v_r0_isTaking v_r0_keptIn v_r0_turns0 v_r0_turnOf v_r0_order0 v_r0_likely0 v_r0_leftThen v_r0_row v_r0_rowMany v_r0_seed r0_things 0 r0_turned r0_figures r0_kinds r0_refusals) H locs → lv_has ls 4 [(0, .ref a_r0), (1, .int x1), (2, .int x2)] → W p l e (rmd 1) s m ([.ref a_r0, .int x1, .int x2] : List Value).toArray below meth c H locs 0 0 Q (F0 m 49 ls [.int s0_5]) := by
      intro s0_5 hr H locs ls hW hl
      unfold F_M_thing_J49_5 at hr
      refine lv_istore_n (lv' := [(3, .int s0_5), (0, .ref a_r0), (1, .int x1), (2, .int x2)]) hx hb d_M_thing_49 rfl hl (by decide) rfl (fun ls hl => ?_)
      refine lv_iload_n hx hb d_M_thing_50 rfl (lv_at hl 0 rfl) ?_
      refine lv_if_ge (tgt := 60) hx hb d_M_thing_51 (by decide) (fun c_6 => ?_) (fun c_6 => ?_)
      · replace hr := ip c_6 hr
        refine lv_aload_n hx hb d_M_thing_60 rfl (lv_at hl 1 rfl) ?_
        refine lv_iload_n hx hb d_M_thing_61 rfl (lv_at hl 2 rfl) ?_
        refine lv_iload_n hx hb d_M_thing_62 rfl (lv_at hl 3 rfl) ?_
        obtain ⟨q_7, hc_7, hr⟩ := ob hr
        have ct_7 := C_M_thingComes l D cI cS a_r0 a_r0_figures a_r0_kinds v_r0_weights v_r0_days v_r0_hampers v_r0_wants0 v_r0_left0 v_r0_done0 (Value.int 0) (Value.ref a_r0_refusals) v_r0_letters v_r0_letterMany v_r0_at v_r0_isBad v_r0_statements v_r0_placeIn v_r0_letterOf v_r0_told v_r0_kept v_r0_imaged v_r0_hasImage v_r0_place0 v_r0_isTaking v_r0_keptIn v_r0_turns0 v_r0_turnOf (Value.int r0_turned) v_r0_order0 v_r0_likely0 v_r0_leftThen v_r0_row v_r0_rowMany v_r0_seed r0_things r0_figures r0_kinds x1 x2 q_7 hc_7
        refine k_goV hA hW [0, 1, 2] rfl ct_7.1 (ws' := (w_M_thing cI a_r0 a_r0_figures a_r0_kinds a_r0_refusals v_r0_weights v_r0_days v_r0_hampers v_r0_wants0 v_r0_left0 v_r0_done0 v_r0_letters v_r0_letterMany v_r0_at v_r0_isBad v_r0_statements v_r0_placeIn v_r0_letterOf v_r0_told v_r0_kept v_r0_imaged v_r0_hasImage v_r0_place0 v_r0_isTaking v_r0_keptIn v_r0_turns0 v_r0_turnOf v_r0_order0 v_r0_likely0 v_r0_leftThen v_r0_row v_r0_rowMany v_r0_seed q_7.1 0 r0_turned q_7.2.1 q_7.2.2 r0_refusals)) rfl (k_runV C hA hW mw_M_thingComes mv_M_thingComes (ct_7.2 _) [0, 1, 2] rfl rfl 0 rfl rfl qm_M_143 ⟨Nat.le_of_ble_eq_true rfl, Nat.le_of_ble_eq_true rfl, Nat.zero_le _, Nat.zero_le _⟩ rfl rfl (Nat.le_of_ble_eq_true rfl) hl.1 d_M_thing_63) (fun H locs hW => ?_)
        refine lv_aload_n hx hb d_M_thing_66 rfl (lv_at hl 1 rfl) ?_
        refine lv_iconst (v := 0) hx hb d_M_thing_67 (by decide) ?_
        refine k_put i_M t_M_ok n_M C hW 0 rfl rfl 27 (by decide) qf_M_174 rfl rfl (ty := .int) rfl rfl rfl (Nat.le_of_ble_eq_true rfl) (ws' := (w_M_thing cI a_r0 a_r0_figures a_r0_kinds a_r0_refusals v_r0_weights v_r0_days v_r0_hampers v_r0_wants0 v_r0_left0 v_r0_done0 v_r0_letters v_r0_letterMany v_r0_at v_r0_isBad v_r0_statements v_r0_placeIn v_r0_letterOf v_r0_told v_r0_kept v_r0_imaged v_r0_hasImage v_r0_place0 v_r0_isTaking v_r0_keptIn v_r0_turns0 v_r0_turnOf v_r0_order0 v_r0_likely0 v_r0_leftThen v_r0_row v_r0_rowMany v_r0_seed q_7.1 0 0 q_7.2.1 q_7.2.2 r0_refusals)) rfl d_M_thing_68 (fun H locs hW => ?_)
        refine lv_aload_n hx hb d_M_thing_71 rfl (lv_at hl 1 rfl) ?_
        refine k_get i_M C hW 0 rfl rfl 1 (by decide) qf_M_71 rfl rfl d_M_thing_72 ?_
        refine lv_iconst (v := 1) hx hb d_M_thing_75 (by decide) ?_
        refine lv_isub hx hb d_M_thing_76 ?_
        obtain rfl := Option.some.inj hr
        rw [hQ]; exact k_iret C hret hW d_M_thing_77
      · replace hr := iN c_6 hr
        refine lv_aload_n hx hb d_M_thing_54 rfl (lv_at hl 1 rfl) ?_
        refine lv_iload_n hx hb d_M_thing_55 rfl (lv_at hl 0 rfl) ?_
        obtain ⟨q_8, hc_8, hr⟩ := ob hr
        have ct_8 := C_M_refuse l D cI cS a_r0 a_r0_refusals v_r0_weights (Value.int r0_things) (Value.ref a_r0_kinds) (Value.ref a_r0_figures) v_r0_days v_r0_hampers v_r0_wants0 v_r0_left0 v_r0_done0 (Value.int 0) v_r0_letters v_r0_letterMany v_r0_at v_r0_isBad v_r0_statements v_r0_placeIn v_r0_letterOf v_r0_told v_r0_kept v_r0_imaged v_r0_hasImage v_r0_place0 v_r0_isTaking v_r0_keptIn v_r0_turns0 v_r0_turnOf (Value.int r0_turned) v_r0_order0 v_r0_likely0 v_r0_leftThen v_r0_row v_r0_rowMany v_r0_seed r0_refusals s0_5 q_8 hc_8
        refine k_goI hA hW [0, 3] rfl ct_8.1 (ws' := (w_M_thing cI a_r0 a_r0_figures a_r0_kinds a_r0_refusals v_r0_weights v_r0_days v_r0_hampers v_r0_wants0 v_r0_left0 v_r0_done0 v_r0_letters v_r0_letterMany v_r0_at v_r0_isBad v_r0_statements v_r0_placeIn v_r0_letterOf v_r0_told v_r0_kept v_r0_imaged v_r0_hasImage v_r0_place0 v_r0_isTaking v_r0_keptIn v_r0_turns0 v_r0_turnOf v_r0_order0 v_r0_likely0 v_r0_leftThen v_r0_row v_r0_rowMany v_r0_seed r0_things 0 r0_turned r0_figures r0_kinds q_8.2)) rfl (k_runV C hA hW mw_M_refuse mv_M_refuse (ct_8.2 _) [0, 3] rfl rfl 0 rfl rfl qm_M_108 ⟨Nat.le_of_ble_eq_true rfl, Nat.le_of_ble_eq_true rfl, Nat.zero_le _, Nat.zero_le _⟩ rfl rfl (Nat.le_of_ble_eq_true rfl) hl.1 d_M_thing_56) (fun H locs hW => ?_)
        obtain rfl := Option.some.inj hr
        rw [hQ]; exact k_iret C hret hW d_M_thing_59
    have hJ_9 : ∀ (_ : Unit), F_M_thing_J48_9 r0_things r0_turned r0_figures r0_kinds r0_refusals s0_3 x1 x2 = some o → ∀ (H : Heap) (locs : List Loc) (ls : Array Slot), wd A s.heap D (w_M_thing cI a_r0 a_r0_figures a_r0_kinds a_r0_refusals v_r0_weights v_r0_days v_r0_hampers v_r0_wants0 v_r0_left0 v_r0_done0 v_r0_letters v_r0_letterMany v_r0_at v_r0_isBad v_r0_statements v_r0_placeIn v_r0_letterOf v_r0_told v_r0_kept v_r0_imaged v_r0_hasImage v_r0_place0 v_r0_isTaking v_r0_keptIn v_r0_turns0 v_r0_turnOf v_r0_order0 v_r0_likely0 v_r0_leftThen v_r0_row v_r0_rowMany v_r0_seed r0_things 0 r0_turned r0_figures r0_kinds r0_refusals) H locs → lv_has ls 4 [(0, .ref a_r0), (1, .int x1), (2, .int x2), (3, .int s0_3)] → W p l e (rmd 1) s m ([.ref a_r0, .int x1, .int x2] : List Value).toArray below meth c H locs 0 0 Q (F0 m 48 ls []) := by
      intro _ hr H locs ls hW hl
      unfold F_M_thing_J48_9 at hr
      refine lv_iload_n hx hb d_M_thing_48 rfl (lv_at hl 3 rfl) ?_
      exact hJ_5 s0_3 hr _ _ _ hW (lv_sub hl [0, 1, 2] rfl)
    refine lv_if_ne (tgt := 48) hx hb d_M_thing_31 (by decide) (fun c_4 => ?_) (fun c_4 => ?_)
    · replace hr := iN c_4 hr
      exact hJ_9 () hr _ _ _ hW (lv_sub hl [1, 2, 3, 0] rfl)
    · replace hr := ip c_4 hr
      refine lv_aload_n hx hb d_M_thing_34 rfl (lv_at hl 1 rfl) ?_
      refine k_get i_M C hW 0 rfl rfl 1 (by decide) qf_M_71 rfl rfl d_M_thing_35 ?_
      refine lv_bipush (v := 8) hx hb d_M_thing_38 (by decide) ?_
      refine lv_icmp_ne (tgt := 48) hx hb d_M_thing_40 (by decide) (fun c_10 => ?_) (fun c_10 => ?_)
      · replace hr := iN c_10 hr
        exact hJ_9 () hr _ _ _ hW (lv_sub hl [1, 2, 3, 0] rfl)
      · replace hr := ip c_10 hr
        refine lv_bipush (v := (-6)) hx hb d_M_thing_43 (by decide) ?_
        refine lv_goto (tgt := 49) hx hb d_M_thing_45 (by decide) ?_
        exact hJ_5 (-6) hr _ _ _ hW (lv_sub hl [1, 2, 3] rfl)
  refine lv_if_eq (tgt := 27) hx hb d_M_thing_14 (by decide) (fun c_2 => ?_) (fun c_2 => ?_)
  · replace hr := ip c_2 hr
    refine lv_bipush (v := (-2)) hx hb d_M_thing_27 (by decide) ?_
    exact hJ_3 (-2) hr _ _ _ hW (lv_sub hl [0, 1, 2] rfl)
  · replace hr := iN c_2 hr
    refine lv_iload_n hx hb d_M_thing_17 rfl (lv_at hl 2 rfl) ?_
    refine lv_iconst (v := 0) hx hb d_M_thing_18 (by decide) ?_
    refine lv_bipush (v := 9) hx hb d_M_thing_19 (by decide) ?_
    obtain ⟨q_11, hc_11, hr⟩ := ob hr
    have ct_11 := C_M_wrongNumber l D cI cS x2 0 9 q_11 hc_11
    refine k_goIp hA hW [] rfl rfl (k_runS C hA hW mw_M_wrongNumber ms_M_wrongNumber (ct_11.2 _) [] rfl rfl qm_M_208 ⟨Nat.le_of_ble_eq_true rfl, Nat.le_of_ble_eq_true rfl, Nat.zero_le _, Nat.zero_le _⟩ rfl rfl (Nat.le_of_ble_eq_true rfl) hl.1 d_M_thing_21) (fun H locs hW => ?_)
    refine lv_goto (tgt := 29) hx hb d_M_thing_24 (by decide) ?_
    exact hJ_3 q_11 hr _ _ _ hW (lv_sub hl [0, 1, 2] rfl)
def w_M_thingOf (cI : ClassId) (a_r0 : Nat) (a_r0_figures : Nat) (a_r0_kinds : Nat) (a_r0_refusals : Nat) (v_r0_weights v_r0_days v_r0_hampers v_r0_wants0 v_r0_left0 v_r0_done0 v_r0_letters v_r0_letterMany v_r0_at v_r0_isBad v_r0_statements v_r0_placeIn v_r0_letterOf v_r0_told v_r0_kept v_r0_imaged v_r0_hasImage v_r0_place0 v_r0_isTaking v_r0_keptIn v_r0_turns0 v_r0_turnOf v_r0_turned v_r0_order0 v_r0_likely0 v_r0_leftThen v_r0_row v_r0_rowMany v_r0_seed : Value) (r0_things : Int32) (r0_thrown : Int32) (r0_figures : Nat → Int32) (r0_kinds : Nat → Int32) (r0_refusals : Nat → Int32) : va_W := [(a_r0, .inr (9, [v_r0_weights, .int r0_things, .ref a_r0_kinds, .ref a_r0_figures, v_r0_days, v_r0_hampers, v_r0_wants0, v_r0_left0, v_r0_done0, .int r0_thrown, .ref a_r0_refusals, v_r0_letters, v_r0_letterMany, v_r0_at, v_r0_isBad, v_r0_statements, v_r0_placeIn, v_r0_letterOf, v_r0_told, v_r0_kept, v_r0_imaged, v_r0_hasImage, v_r0_place0, v_r0_isTaking, v_r0_keptIn, v_r0_turns0, v_r0_turnOf, v_r0_turned, v_r0_order0, v_r0_likely0, v_r0_leftThen, v_r0_row, v_r0_rowMany, v_r0_seed])), (a_r0_figures, .inl (cI, 8, .inl r0_figures)), (a_r0_kinds, .inl (cI, 8, .inl r0_kinds)), (a_r0_refusals, .inl (cI, 7, .inl r0_refusals))]
def F_M_thingOf_J25_3 (r0_things : Int32) (r0_refusals : Nat → Int32) (x1 : Int32) : Option (Int32 × (Int32) × (Nat → Int32)) :=
  ((F_M_isThing r0_things x1).bind (fun q_4 => (if q_4 = 0 then ((F_M_refuse r0_refusals ((-1) : Int32)).bind (fun q_6 => (some (q_6.1, 0, q_6.2)))) else ((F_M_refuse r0_refusals ((-2) : Int32)).bind (fun q_7 => (some (q_7.1, 0, q_7.2)))))))
def F_M_thingOf (r0_things : Int32) (r0_figures : Nat → Int32) (r0_kinds : Nat → Int32) (r0_refusals : Nat → Int32) (x1 : Int32) (x2 : Int32) : Option (Int32 × (Int32) × (Nat → Int32)) :=
  ((F_M_isThing r0_things x1).bind (fun q_1 => (if q_1 = 0 then (F_M_thingOf_J25_3 r0_things r0_refusals x1) else ((F_M_in (Int32.toInt64 x2) (0 : Int64) (4 : Int64)).bind (fun q_8 => (if q_8 = 0 then (F_M_thingOf_J25_3 r0_things r0_refusals x1) else (if x2 = 0 then (ck x1 8 (some ((r0_kinds (Int32.toNatClampNeg x1)), 0, r0_refusals))) else (if x2 = 1 then (ck x1 8 (some ((r0_figures (Int32.toNatClampNeg x1)), 0, r0_refusals))) else (if x2 = 2 then ((F_M_heavyOf r0_figures r0_kinds x1).bind (fun q_15 => (some (q_15, 0, r0_refusals)))) else (if x2 = 3 then ((F_M_dearOf r0_figures r0_kinds x1).bind (fun q_17 => (some (q_17, 0, r0_refusals)))) else ((F_M_goesWith r0_figures r0_kinds x1).bind (fun q_18 => (some (q_18, 0, r0_refusals))))))))))))))
set_option maxHeartbeats 4000000 in
set_option maxRecDepth 100000 in
theorem C_M_thingOf (l : Launch) (D : va_G) (cI cS : ClassId) (a_r0 : Nat) (a_r0_figures : Nat) (a_r0_kinds : Nat) (a_r0_refusals : Nat) (v_r0_weights v_r0_days v_r0_hampers v_r0_wants0 v_r0_left0 v_r0_done0 v_r0_letters v_r0_letterMany v_r0_at v_r0_isBad v_r0_statements v_r0_placeIn v_r0_letterOf v_r0_told v_r0_kept v_r0_imaged v_r0_hasImage v_r0_place0 v_r0_isTaking v_r0_keptIn v_r0_turns0 v_r0_turnOf v_r0_turned v_r0_order0 v_r0_likely0 v_r0_leftThen v_r0_row v_r0_rowMany v_r0_seed : Value) (r0_things : Int32) (r0_thrown : Int32) (r0_figures : Nat → Int32) (r0_kinds : Nat → Int32) (r0_refusals : Nat → Int32) (x1 : Int32) (x2 : Int32) (o : Int32 × (Int32) × (Nat → Int32)) (hr : F_M_thingOf r0_things r0_figures r0_kinds r0_refusals x1 x2 = some o) : ctI l y_M_thingOf (Cond.code y_M_thingOf b_M_thingOf 3 (some FieldType.int)) (rmd 2) D (kTy cI cS) [.ref a_r0, .int x1, .int x2] (w_M_thingOf cI a_r0 a_r0_figures a_r0_kinds a_r0_refusals v_r0_weights v_r0_days v_r0_hampers v_r0_wants0 v_r0_left0 v_r0_done0 v_r0_letters v_r0_letterMany v_r0_at v_r0_isBad v_r0_statements v_r0_placeIn v_r0_letterOf v_r0_told v_r0_kept v_r0_imaged v_r0_hasImage v_r0_place0 v_r0_isTaking v_r0_keptIn v_r0_turns0 v_r0_turnOf v_r0_turned v_r0_order0 v_r0_likely0 v_r0_leftThen v_r0_row v_r0_rowMany v_r0_seed r0_things r0_thrown r0_figures r0_kinds r0_refusals) (w_M_thingOf cI a_r0 a_r0_figures a_r0_kinds a_r0_refusals v_r0_weights v_r0_days v_r0_hampers v_r0_wants0 v_r0_left0 v_r0_done0 v_r0_letters v_r0_letterMany v_r0_at v_r0_isBad v_r0_statements v_r0_placeIn v_r0_letterOf v_r0_told v_r0_kept v_r0_imaged v_r0_hasImage v_r0_place0 v_r0_isTaking v_r0_keptIn v_r0_turns0 v_r0_turnOf v_r0_turned v_r0_order0 v_r0_likely0 v_r0_leftThen v_r0_row v_r0_rowMany v_r0_seed r0_things o.2.1 r0_figures r0_kinds o.2.2) o.1 := by
  unfold F_M_thingOf at hr
  refine ⟨rfl, fun sz => ct_of (w0 := (w_M_thingOf cI a_r0 a_r0_figures a_r0_kinds a_r0_refusals v_r0_weights v_r0_days v_r0_hampers v_r0_wants0 v_r0_left0 v_r0_done0 v_r0_letters v_r0_letterMany v_r0_at v_r0_isBad v_r0_statements v_r0_placeIn v_r0_letterOf v_r0_told v_r0_kept v_r0_imaged v_r0_hasImage v_r0_place0 v_r0_isTaking v_r0_keptIn v_r0_turns0 v_r0_turnOf v_r0_turned v_r0_order0 v_r0_likely0 v_r0_leftThen v_r0_row v_r0_rowMany v_r0_seed r0_things r0_thrown r0_figures r0_kinds r0_refusals)) (Qc := fun A => qI D (w_M_thingOf cI a_r0 a_r0_figures a_r0_kinds a_r0_refusals v_r0_weights v_r0_days v_r0_hampers v_r0_wants0 v_r0_left0 v_r0_done0 v_r0_letters v_r0_letterMany v_r0_at v_r0_isBad v_r0_statements v_r0_placeIn v_r0_letterOf v_r0_told v_r0_kept v_r0_imaged v_r0_hasImage v_r0_place0 v_r0_isTaking v_r0_keptIn v_r0_turns0 v_r0_turnOf v_r0_turned v_r0_order0 v_r0_likely0 v_r0_leftThen v_r0_row v_r0_rowMany v_r0_seed r0_things o.2.1 r0_figures r0_kinds o.2.2) o.1 A) rfl (Nat.le_of_ble_eq_true rfl) ?_ sz⟩
  intro p e s m below meth c A hA C hret ls hl hW
  have C : cx p s m ([.ref a_r0, .int x1, .int x2] : List Value).toArray meth c b_M_thingOf 3 R_M D (kTy cI cS) (Cond.code y_M_thingOf b_M_thingOf 3 (some FieldType.int)) := C
  obtain ⟨hx, hb, hml, hown, hts, hK, hlk, hN⟩ := id C
  have hl : lv_has ls 3 [(0, .ref a_r0), (1, .int x1), (2, .int x2)] := hl
  obtain ⟨Q, hQ⟩ : ∃ Q, Q = MQ below (qI D (w_M_thingOf cI a_r0 a_r0_figures a_r0_kinds a_r0_refusals v_r0_weights v_r0_days v_r0_hampers v_r0_wants0 v_r0_left0 v_r0_done0 v_r0_letters v_r0_letterMany v_r0_at v_r0_isBad v_r0_statements v_r0_placeIn v_r0_letterOf v_r0_told v_r0_kept v_r0_imaged v_r0_hasImage v_r0_place0 v_r0_isTaking v_r0_keptIn v_r0_turns0 v_r0_turnOf v_r0_turned v_r0_order0 v_r0_likely0 v_r0_leftThen v_r0_row v_r0_rowMany v_r0_seed r0_things o.2.1 r0_figures r0_kinds o.2.2) o.1 A) ([.ref a_r0, .int x1, .int x2] : List Value).toArray s 0 0 A := ⟨_, rfl⟩
  rw [← hQ]
  refine lv_aload_n hx hb d_M_thingOf_0 rfl (lv_at hl 0 rfl) ?_
  refine lv_iconst (v := 0) hx hb d_M_thingOf_1 (by decide) ?_
  refine k_put i_M t_M_ok n_M C hW 0 rfl rfl 9 (by decide) qf_M_67 rfl rfl (ty := .int) rfl rfl rfl (Nat.le_of_ble_eq_true rfl) (ws' := (w_M_thingOf cI a_r0 a_r0_figures a_r0_kinds a_r0_refusals v_r0_weights v_r0_days v_r0_hampers v_r0_wants0 v_r0_left0 v_r0_done0 v_r0_letters v_r0_letterMany v_r0_at v_r0_isBad v_r0_statements v_r0_placeIn v_r0_letterOf v_r0_told v_r0_kept v_r0_imaged v_r0_hasImage v_r0_place0 v_r0_isTaking v_r0_keptIn v_r0_turns0 v_r0_turnOf v_r0_turned v_r0_order0 v_r0_likely0 v_r0_leftThen v_r0_row v_r0_rowMany v_r0_seed r0_things 0 r0_figures r0_kinds r0_refusals)) rfl d_M_thingOf_2 (fun H locs hW => ?_)
  refine lv_aload_n hx hb d_M_thingOf_5 rfl (lv_at hl 0 rfl) ?_
  refine lv_iload_n hx hb d_M_thingOf_6 rfl (lv_at hl 1 rfl) ?_
  obtain ⟨q_1, hc_1, hr⟩ := ob hr
  have ct_1 := C_M_isThing l D cI cS a_r0 v_r0_weights (Value.ref a_r0_kinds) (Value.ref a_r0_figures) v_r0_days v_r0_hampers v_r0_wants0 v_r0_left0 v_r0_done0 (Value.int 0) (Value.ref a_r0_refusals) v_r0_letters v_r0_letterMany v_r0_at v_r0_isBad v_r0_statements v_r0_placeIn v_r0_letterOf v_r0_told v_r0_kept v_r0_imaged v_r0_hasImage v_r0_place0 v_r0_isTaking v_r0_keptIn v_r0_turns0 v_r0_turnOf v_r0_turned v_r0_order0 v_r0_likely0 v_r0_leftThen v_r0_row v_r0_rowMany v_r0_seed r0_things x1 q_1 hc_1
  refine k_goIp hA hW [0] rfl rfl (k_runV C hA hW mw_M_isThing mv_M_isThing (ct_1.2 _) [0] rfl rfl 0 rfl rfl qm_M_159 ⟨Nat.le_of_ble_eq_true rfl, Nat.le_of_ble_eq_true rfl, Nat.zero_le _, Nat.zero_le _⟩ rfl rfl (Nat.le_of_ble_eq_true rfl) hl.1 d_M_thingOf_7) (fun H locs hW => ?_)
  have hJ_3 : ∀ (_ : Unit), F_M_thingOf_J25_3 r0_things r0_refusals x1 = some o → ∀ (H : Heap) (locs : List Loc) (ls : Array Slot), wd A s.heap D (w_M_thingOf cI a_r0 a_r0_figures a_r0_kinds a_r0_refusals v_r0_weights v_r0_days v_r0_hampers v_r0_wants0 v_r0_left0 v_r0_done0 v_r0_letters v_r0_letterMany v_r0_at v_r0_isBad v_r0_statements v_r0_placeIn v_r0_letterOf v_r0_told v_r0_kept v_r0_imaged v_r0_hasImage v_r0_place0 v_r0_isTaking v_r0_keptIn v_r0_turns0 v_r0_turnOf v_r0_turned v_r0_order0 v_r0_likely0 v_r0_leftThen v_r0_row v_r0_rowMany v_r0_seed r0_things 0 r0_figures r0_kinds r0_refusals) H locs → lv_has ls 3 [(0, .ref a_r0), (1, .int x1)] → W p l e (rmd 2) s m ([.ref a_r0, .int x1, .int x2] : List Value).toArray below meth c H locs 0 0 Q (F0 m 25 ls []) := by
    intro _ hr H locs ls hW hl
    unfold F_M_thingOf_J25_3 at hr
    refine lv_aload_n hx hb d_M_thingOf_25 rfl (lv_at hl 0 rfl) ?_
    refine lv_aload_n hx hb d_M_thingOf_26 rfl (lv_at hl 0 rfl) ?_
    refine lv_iload_n hx hb d_M_thingOf_27 rfl (lv_at hl 1 rfl) ?_
    obtain ⟨q_4, hc_4, hr⟩ := ob hr
    have ct_4 := C_M_isThing l D cI cS a_r0 v_r0_weights (Value.ref a_r0_kinds) (Value.ref a_r0_figures) v_r0_days v_r0_hampers v_r0_wants0 v_r0_left0 v_r0_done0 (Value.int 0) (Value.ref a_r0_refusals) v_r0_letters v_r0_letterMany v_r0_at v_r0_isBad v_r0_statements v_r0_placeIn v_r0_letterOf v_r0_told v_r0_kept v_r0_imaged v_r0_hasImage v_r0_place0 v_r0_isTaking v_r0_keptIn v_r0_turns0 v_r0_turnOf v_r0_turned v_r0_order0 v_r0_likely0 v_r0_leftThen v_r0_row v_r0_rowMany v_r0_seed r0_things x1 q_4 hc_4
    refine k_goIp hA hW [0] rfl rfl (k_runV C hA hW mw_M_isThing mv_M_isThing (ct_4.2 _) [0] rfl rfl 0 rfl rfl qm_M_159 ⟨Nat.le_of_ble_eq_true rfl, Nat.le_of_ble_eq_true rfl, Nat.zero_le _, Nat.zero_le _⟩ rfl rfl (Nat.le_of_ble_eq_true rfl) hl.1 d_M_thingOf_28) (fun H locs hW => ?_)
    refine lv_if_eq (tgt := 39) hx hb d_M_thingOf_31 (by decide) (fun c_5 => ?_) (fun c_5 => ?_)
    · replace hr := ip c_5 hr
      refine lv_iconst (v := (-1)) hx hb d_M_thingOf_39 (by decide) ?_
      obtain ⟨q_6, hc_6, hr⟩ := ob hr
      have ct_6 := C_M_refuse l D cI cS a_r0 a_r0_refusals v_r0_weights (Value.int r0_things) (Value.ref a_r0_kinds) (Value.ref a_r0_figures) v_r0_days v_r0_hampers v_r0_wants0 v_r0_left0 v_r0_done0 (Value.int 0) v_r0_letters v_r0_letterMany v_r0_at v_r0_isBad v_r0_statements v_r0_placeIn v_r0_letterOf v_r0_told v_r0_kept v_r0_imaged v_r0_hasImage v_r0_place0 v_r0_isTaking v_r0_keptIn v_r0_turns0 v_r0_turnOf v_r0_turned v_r0_order0 v_r0_likely0 v_r0_leftThen v_r0_row v_r0_rowMany v_r0_seed r0_refusals (-1) q_6 hc_6
      refine k_goI hA hW [0, 3] rfl ct_6.1 (ws' := (w_M_thingOf cI a_r0 a_r0_figures a_r0_kinds a_r0_refusals v_r0_weights v_r0_days v_r0_hampers v_r0_wants0 v_r0_left0 v_r0_done0 v_r0_letters v_r0_letterMany v_r0_at v_r0_isBad v_r0_statements v_r0_placeIn v_r0_letterOf v_r0_told v_r0_kept v_r0_imaged v_r0_hasImage v_r0_place0 v_r0_isTaking v_r0_keptIn v_r0_turns0 v_r0_turnOf v_r0_turned v_r0_order0 v_r0_likely0 v_r0_leftThen v_r0_row v_r0_rowMany v_r0_seed r0_things 0 r0_figures r0_kinds q_6.2)) rfl (k_runV C hA hW mw_M_refuse mv_M_refuse (ct_6.2 _) [0, 3] rfl rfl 0 rfl rfl qm_M_108 ⟨Nat.le_of_ble_eq_true rfl, Nat.le_of_ble_eq_true rfl, Nat.zero_le _, Nat.zero_le _⟩ rfl rfl (Nat.le_of_ble_eq_true rfl) hl.1 d_M_thingOf_40) (fun H locs hW => ?_)
      obtain rfl := Option.some.inj hr
      rw [hQ]; exact k_iret C hret hW d_M_thingOf_43
    · replace hr := iN c_5 hr
      refine lv_bipush (v := (-2)) hx hb d_M_thingOf_34 (by decide) ?_
      refine lv_goto (tgt := 40) hx hb d_M_thingOf_36 (by decide) ?_
      obtain ⟨q_7, hc_7, hr⟩ := ob hr
      have ct_7 := C_M_refuse l D cI cS a_r0 a_r0_refusals v_r0_weights (Value.int r0_things) (Value.ref a_r0_kinds) (Value.ref a_r0_figures) v_r0_days v_r0_hampers v_r0_wants0 v_r0_left0 v_r0_done0 (Value.int 0) v_r0_letters v_r0_letterMany v_r0_at v_r0_isBad v_r0_statements v_r0_placeIn v_r0_letterOf v_r0_told v_r0_kept v_r0_imaged v_r0_hasImage v_r0_place0 v_r0_isTaking v_r0_keptIn v_r0_turns0 v_r0_turnOf v_r0_turned v_r0_order0 v_r0_likely0 v_r0_leftThen v_r0_row v_r0_rowMany v_r0_seed r0_refusals (-2) q_7 hc_7
      refine k_goI hA hW [0, 3] rfl ct_7.1 (ws' := (w_M_thingOf cI a_r0 a_r0_figures a_r0_kinds a_r0_refusals v_r0_weights v_r0_days v_r0_hampers v_r0_wants0 v_r0_left0 v_r0_done0 v_r0_letters v_r0_letterMany v_r0_at v_r0_isBad v_r0_statements v_r0_placeIn v_r0_letterOf v_r0_told v_r0_kept v_r0_imaged v_r0_hasImage v_r0_place0 v_r0_isTaking v_r0_keptIn v_r0_turns0 v_r0_turnOf v_r0_turned v_r0_order0 v_r0_likely0 v_r0_leftThen v_r0_row v_r0_rowMany v_r0_seed r0_things 0 r0_figures r0_kinds q_7.2)) rfl (k_runV C hA hW mw_M_refuse mv_M_refuse (ct_7.2 _) [0, 3] rfl rfl 0 rfl rfl qm_M_108 ⟨Nat.le_of_ble_eq_true rfl, Nat.le_of_ble_eq_true rfl, Nat.zero_le _, Nat.zero_le _⟩ rfl rfl (Nat.le_of_ble_eq_true rfl) hl.1 d_M_thingOf_40) (fun H locs hW => ?_)
      obtain rfl := Option.some.inj hr
      rw [hQ]; exact k_iret C hret hW d_M_thingOf_43
  refine lv_if_eq (tgt := 25) hx hb d_M_thingOf_10 (by decide) (fun c_2 => ?_) (fun c_2 => ?_)
  · replace hr := ip c_2 hr
    exact hJ_3 () hr _ _ _ hW (lv_sub hl [0, 1] rfl)
  · replace hr := iN c_2 hr
    refine lv_iload_n hx hb d_M_thingOf_13 rfl (lv_at hl 2 rfl) ?_
    refine lv_i2l hx hb d_M_thingOf_14 rfl ?_
    refine lv_lconst (v := 0) hx hb d_M_thingOf_15 (by decide) ?_
    refine lv_ldc2 (v := 4) hx hb hown (hts _ (List.mem_cons_of_mem _ (qc_M_196))) d_M_thingOf_16 ?_
    obtain ⟨q_8, hc_8, hr⟩ := ob hr
    have ct_8 := C_M_in l D cI cS (Int32.toInt64 x2) 0 (4 : Int64) q_8 hc_8
    refine k_goIp hA hW [] rfl rfl (k_runS C hA hW mw_M_in ms_M_in (ct_8.2 _) [] rfl rfl qm_M_74 ⟨Nat.le_of_ble_eq_true rfl, Nat.le_of_ble_eq_true rfl, Nat.zero_le _, Nat.zero_le _⟩ rfl rfl (Nat.le_of_ble_eq_true rfl) hl.1 d_M_thingOf_19) (fun H locs hW => ?_)
    refine lv_if_ne (tgt := 44) hx hb d_M_thingOf_22 (by decide) (fun c_9 => ?_) (fun c_9 => ?_)
    · replace hr := iN c_9 hr
      refine lv_iload_n hx hb d_M_thingOf_44 rfl (lv_at hl 2 rfl) ?_
      by_cases c_10 : x2 = 0
      · replace hr := ip c_10 hr
        refine k_tabIn (tgt := 76) (off := 31) c_10 hx hb d_M_thingOf_45 (by decide) (by decide) (by decide) (by decide) ?_
        refine lv_aload_n hx hb d_M_thingOf_76 rfl (lv_at hl 0 rfl) ?_
        refine k_get i_M C hW 0 rfl rfl 2 (by decide) qf_M_13 rfl rfl d_M_thingOf_77 ?_
        refine lv_iload_n hx hb d_M_thingOf_80 rfl (lv_at hl 1 rfl) ?_
        obtain ⟨h_11, hr⟩ := ck_some hr
        refine k_iald C hW 2 rfl h_11 d_M_thingOf_81 ?_
        obtain rfl := Option.some.inj hr
        rw [hQ]; exact k_iret C hret hW d_M_thingOf_82
      · replace hr := iN c_10 hr
        by_cases c_12 : x2 = 1
        · replace hr := ip c_12 hr
          refine k_tabIn (tgt := 83) (off := 38) c_12 hx hb d_M_thingOf_45 (by decide) (by decide) (by decide) (by decide) ?_
          refine lv_aload_n hx hb d_M_thingOf_83 rfl (lv_at hl 0 rfl) ?_
          refine k_get i_M C hW 0 rfl rfl 3 (by decide) qf_M_16 rfl rfl d_M_thingOf_84 ?_
          refine lv_iload_n hx hb d_M_thingOf_87 rfl (lv_at hl 1 rfl) ?_
          obtain ⟨h_13, hr⟩ := ck_some hr
          refine k_iald C hW 1 rfl h_13 d_M_thingOf_88 ?_
          obtain rfl := Option.some.inj hr
          rw [hQ]; exact k_iret C hret hW d_M_thingOf_89
        · replace hr := iN c_12 hr
          by_cases c_14 : x2 = 2
          · replace hr := ip c_14 hr
            refine k_tabIn (tgt := 90) (off := 45) c_14 hx hb d_M_thingOf_45 (by decide) (by decide) (by decide) (by decide) ?_
            refine lv_aload_n hx hb d_M_thingOf_90 rfl (lv_at hl 0 rfl) ?_
            refine lv_iload_n hx hb d_M_thingOf_91 rfl (lv_at hl 1 rfl) ?_
            obtain ⟨q_15, hc_15, hr⟩ := ob hr
            have ct_15 := C_M_heavyOf l D cI cS a_r0 a_r0_figures a_r0_kinds v_r0_weights (Value.int r0_things) v_r0_days v_r0_hampers v_r0_wants0 v_r0_left0 v_r0_done0 (Value.int 0) (Value.ref a_r0_refusals) v_r0_letters v_r0_letterMany v_r0_at v_r0_isBad v_r0_statements v_r0_placeIn v_r0_letterOf v_r0_told v_r0_kept v_r0_imaged v_r0_hasImage v_r0_place0 v_r0_isTaking v_r0_keptIn v_r0_turns0 v_r0_turnOf v_r0_turned v_r0_order0 v_r0_likely0 v_r0_leftThen v_r0_row v_r0_rowMany v_r0_seed r0_figures r0_kinds x1 q_15 hc_15
            refine k_goIp hA hW [0, 1, 2] rfl rfl (k_runV C hA hW mw_M_heavyOf mv_M_heavyOf (ct_15.2 _) [0, 1, 2] rfl rfl 0 rfl rfl qm_M_89 ⟨Nat.le_of_ble_eq_true rfl, Nat.le_of_ble_eq_true rfl, Nat.zero_le _, Nat.zero_le _⟩ rfl rfl (Nat.le_of_ble_eq_true rfl) hl.1 d_M_thingOf_92) (fun H locs hW => ?_)
            obtain rfl := Option.some.inj hr
            rw [hQ]; exact k_iret C hret hW d_M_thingOf_95
          · replace hr := iN c_14 hr
            by_cases c_16 : x2 = 3
            · replace hr := ip c_16 hr
              refine k_tabIn (tgt := 96) (off := 51) c_16 hx hb d_M_thingOf_45 (by decide) (by decide) (by decide) (by decide) ?_
              refine lv_aload_n hx hb d_M_thingOf_96 rfl (lv_at hl 0 rfl) ?_
              refine lv_iload_n hx hb d_M_thingOf_97 rfl (lv_at hl 1 rfl) ?_
              obtain ⟨q_17, hc_17, hr⟩ := ob hr
              have ct_17 := C_M_dearOf l D cI cS a_r0 a_r0_figures a_r0_kinds v_r0_weights (Value.int r0_things) v_r0_days v_r0_hampers v_r0_wants0 v_r0_left0 v_r0_done0 (Value.int 0) (Value.ref a_r0_refusals) v_r0_letters v_r0_letterMany v_r0_at v_r0_isBad v_r0_statements v_r0_placeIn v_r0_letterOf v_r0_told v_r0_kept v_r0_imaged v_r0_hasImage v_r0_place0 v_r0_isTaking v_r0_keptIn v_r0_turns0 v_r0_turnOf v_r0_turned v_r0_order0 v_r0_likely0 v_r0_leftThen v_r0_row v_r0_rowMany v_r0_seed r0_figures r0_kinds x1 q_17 hc_17
              refine k_goIp hA hW [0, 1, 2] rfl rfl (k_runV C hA hW mw_M_dearOf mv_M_dearOf (ct_17.2 _) [0, 1, 2] rfl rfl 0 rfl rfl qm_M_93 ⟨Nat.le_of_ble_eq_true rfl, Nat.le_of_ble_eq_true rfl, Nat.zero_le _, Nat.zero_le _⟩ rfl rfl (Nat.le_of_ble_eq_true rfl) hl.1 d_M_thingOf_98) (fun H locs hW => ?_)
              obtain rfl := Option.some.inj hr
              rw [hQ]; exact k_iret C hret hW d_M_thingOf_101
            · replace hr := iN c_16 hr
              refine k_tabDef (tgt := 102) [0, 1, 2, 3] (by decide +kernel) (by simp only [List.forall_mem_cons]; exact ⟨c_10, c_12, c_14, c_16, fun _ h => absurd h List.not_mem_nil⟩) hx hb d_M_thingOf_45 (by decide) ?_
              refine lv_aload_n hx hb d_M_thingOf_102 rfl (lv_at hl 0 rfl) ?_
              refine lv_iload_n hx hb d_M_thingOf_103 rfl (lv_at hl 1 rfl) ?_
              obtain ⟨q_18, hc_18, hr⟩ := ob hr
              have ct_18 := C_M_goesWith l D cI cS a_r0 a_r0_figures a_r0_kinds v_r0_weights (Value.int r0_things) v_r0_days v_r0_hampers v_r0_wants0 v_r0_left0 v_r0_done0 (Value.int 0) (Value.ref a_r0_refusals) v_r0_letters v_r0_letterMany v_r0_at v_r0_isBad v_r0_statements v_r0_placeIn v_r0_letterOf v_r0_told v_r0_kept v_r0_imaged v_r0_hasImage v_r0_place0 v_r0_isTaking v_r0_keptIn v_r0_turns0 v_r0_turnOf v_r0_turned v_r0_order0 v_r0_likely0 v_r0_leftThen v_r0_row v_r0_rowMany v_r0_seed r0_figures r0_kinds x1 q_18 hc_18
              refine k_goIp hA hW [0, 1, 2] rfl rfl (k_runV C hA hW mw_M_goesWith mv_M_goesWith (ct_18.2 _) [0, 1, 2] rfl rfl 0 rfl rfl qm_M_96 ⟨Nat.le_of_ble_eq_true rfl, Nat.le_of_ble_eq_true rfl, Nat.zero_le _, Nat.zero_le _⟩ rfl rfl (Nat.le_of_ble_eq_true rfl) hl.1 d_M_thingOf_104) (fun H locs hW => ?_)
              obtain rfl := Option.some.inj hr
              rw [hQ]; exact k_iret C hret hW d_M_thingOf_107
    · replace hr := ip c_9 hr
      exact hJ_3 () hr _ _ _ hW (lv_sub hl [0, 1] rfl)
def w_M_wanted (cI : ClassId) (a_r0 : Nat) (a_r0_figures : Nat) (a_r0_hampers : Nat) (a_r0_kinds : Nat) (a_r0_refusals : Nat) (a_r0_wants0 : Nat) (v_r0_weights v_r0_left0 v_r0_done0 v_r0_letters v_r0_letterMany v_r0_at v_r0_isBad v_r0_statements v_r0_placeIn v_r0_letterOf v_r0_told v_r0_kept v_r0_imaged v_r0_hasImage v_r0_place0 v_r0_isTaking v_r0_keptIn v_r0_turns0 v_r0_turnOf v_r0_turned v_r0_order0 v_r0_likely0 v_r0_leftThen v_r0_row v_r0_rowMany v_r0_seed : Value) (r0_days : Int32) (r0_things : Int32) (r0_thrown : Int32) (r0_figures : Nat → Int32) (r0_hampers : Nat → Int32) (r0_kinds : Nat → Int32) (r0_refusals : Nat → Int32) (r0_wants0 : Nat → Int32) : va_W := [(a_r0, .inr (9, [v_r0_weights, .int r0_things, .ref a_r0_kinds, .ref a_r0_figures, .int r0_days, .ref a_r0_hampers, .ref a_r0_wants0, v_r0_left0, v_r0_done0, .int r0_thrown, .ref a_r0_refusals, v_r0_letters, v_r0_letterMany, v_r0_at, v_r0_isBad, v_r0_statements, v_r0_placeIn, v_r0_letterOf, v_r0_told, v_r0_kept, v_r0_imaged, v_r0_hasImage, v_r0_place0, v_r0_isTaking, v_r0_keptIn, v_r0_turns0, v_r0_turnOf, v_r0_turned, v_r0_order0, v_r0_likely0, v_r0_leftThen, v_r0_row, v_r0_rowMany, v_r0_seed])), (a_r0_figures, .inl (cI, 8, .inl r0_figures)), (a_r0_hampers, .inl (cI, 8, .inl r0_hampers)), (a_r0_kinds, .inl (cI, 8, .inl r0_kinds)), (a_r0_refusals, .inl (cI, 7, .inl r0_refusals)), (a_r0_wants0, .inl (cI, 4, .inl r0_wants0))]
def F_M_wanted_L27 (r0_days : Int32) (r0_things : Int32) (r0_figures : Nat → Int32) (r0_hampers : Nat → Int32) (r0_kinds : Nat → Int32) (r0_wants0 : Nat → Int32) (x1 : Int32) (y2_3 : Int32) (y3_3 : Int32) : Option (((Int32) × (Int32)) ⊕ ((Int32))) :=
  (if r0_days ≤ y3_3 then (some (.inr y2_3)) else (ck y3_3 8 ((F_M_couldBe r0_things r0_figures r0_kinds (r0_hampers (Int32.toNatClampNeg y3_3))).bind (fun q_6 => (ck x1 4 (if (q_6 &&& (r0_wants0 (Int32.toNatClampNeg x1))) = 0 then (some (.inl ((y2_3 ||| ((1 : Int32) <<< ((y3_3 : Int32) &&& 31))), (y3_3 + 1)))) else (some (.inl ((y2_3 ||| 0), (y3_3 + 1))))))))))
def F_M_wanted (r0_days : Int32) (r0_things : Int32) (r0_figures : Nat → Int32) (r0_hampers : Nat → Int32) (r0_kinds : Nat → Int32) (r0_refusals : Nat → Int32) (r0_wants0 : Nat → Int32) (x1 : Int32) : Option (Int32 × (Int32) × (Nat → Int32)) :=
  ((F_M_in (Int32.toInt64 x1) (0 : Int64) (3 : Int64)).bind (fun q_1 => (if q_1 = 0 then ((F_M_refuse r0_refusals ((-1) : Int32)).bind (fun q_9 => (some (q_9.1, 0, q_9.2)))) else ((wh (fun (s : (Int32) × (Int32)) => F_M_wanted_L27 r0_days r0_things r0_figures r0_hampers r0_kinds r0_wants0 x1 s.1 s.2) 400 ((0 : Int32), (0 : Int32))).bind (fun e_3 => (some (e_3, 0, r0_refusals)))))))
set_option maxHeartbeats 4000000 in
set_option maxRecDepth 100000 in
theorem C_M_wanted (l : Launch) (D : va_G) (cI cS : ClassId) (a_r0 : Nat) (a_r0_figures : Nat) (a_r0_hampers : Nat) (a_r0_kinds : Nat) (a_r0_refusals : Nat) (a_r0_wants0 : Nat) (v_r0_weights v_r0_left0 v_r0_done0 v_r0_letters v_r0_letterMany v_r0_at v_r0_isBad v_r0_statements v_r0_placeIn v_r0_letterOf v_r0_told v_r0_kept v_r0_imaged v_r0_hasImage v_r0_place0 v_r0_isTaking v_r0_keptIn v_r0_turns0 v_r0_turnOf v_r0_turned v_r0_order0 v_r0_likely0 v_r0_leftThen v_r0_row v_r0_rowMany v_r0_seed : Value) (r0_days : Int32) (r0_things : Int32) (r0_thrown : Int32) (r0_figures : Nat → Int32) (r0_hampers : Nat → Int32) (r0_kinds : Nat → Int32) (r0_refusals : Nat → Int32) (r0_wants0 : Nat → Int32) (x1 : Int32) (o : Int32 × (Int32) × (Nat → Int32)) (hr : F_M_wanted r0_days r0_things r0_figures r0_hampers r0_kinds r0_refusals r0_wants0 x1 = some o) : ctI l y_M_wanted (Cond.code y_M_wanted b_M_wanted 4 (some FieldType.int)) (rmd 3) D (kTy cI cS) [.ref a_r0, .int x1] (w_M_wanted cI a_r0 a_r0_figures a_r0_hampers a_r0_kinds a_r0_refusals a_r0_wants0 v_r0_weights v_r0_left0 v_r0_done0 v_r0_letters v_r0_letterMany v_r0_at v_r0_isBad v_r0_statements v_r0_placeIn v_r0_letterOf v_r0_told v_r0_kept v_r0_imaged v_r0_hasImage v_r0_place0 v_r0_isTaking v_r0_keptIn v_r0_turns0 v_r0_turnOf v_r0_turned v_r0_order0 v_r0_likely0 v_r0_leftThen v_r0_row v_r0_rowMany v_r0_seed r0_days r0_things r0_thrown r0_figures r0_hampers r0_kinds r0_refusals r0_wants0) (w_M_wanted cI a_r0 a_r0_figures a_r0_hampers a_r0_kinds a_r0_refusals a_r0_wants0 v_r0_weights v_r0_left0 v_r0_done0 v_r0_letters v_r0_letterMany v_r0_at v_r0_isBad v_r0_statements v_r0_placeIn v_r0_letterOf v_r0_told v_r0_kept v_r0_imaged v_r0_hasImage v_r0_place0 v_r0_isTaking v_r0_keptIn v_r0_turns0 v_r0_turnOf v_r0_turned v_r0_order0 v_r0_likely0 v_r0_leftThen v_r0_row v_r0_rowMany v_r0_seed r0_days r0_things o.2.1 r0_figures r0_hampers r0_kinds o.2.2 r0_wants0) o.1 := by
  unfold F_M_wanted at hr
  refine ⟨rfl, fun sz => ct_of (w0 := (w_M_wanted cI a_r0 a_r0_figures a_r0_hampers a_r0_kinds a_r0_refusals a_r0_wants0 v_r0_weights v_r0_left0 v_r0_done0 v_r0_letters v_r0_letterMany v_r0_at v_r0_isBad v_r0_statements v_r0_placeIn v_r0_letterOf v_r0_told v_r0_kept v_r0_imaged v_r0_hasImage v_r0_place0 v_r0_isTaking v_r0_keptIn v_r0_turns0 v_r0_turnOf v_r0_turned v_r0_order0 v_r0_likely0 v_r0_leftThen v_r0_row v_r0_rowMany v_r0_seed r0_days r0_things r0_thrown r0_figures r0_hampers r0_kinds r0_refusals r0_wants0)) (Qc := fun A => qI D (w_M_wanted cI a_r0 a_r0_figures a_r0_hampers a_r0_kinds a_r0_refusals a_r0_wants0 v_r0_weights v_r0_left0 v_r0_done0 v_r0_letters v_r0_letterMany v_r0_at v_r0_isBad v_r0_statements v_r0_placeIn v_r0_letterOf v_r0_told v_r0_kept v_r0_imaged v_r0_hasImage v_r0_place0 v_r0_isTaking v_r0_keptIn v_r0_turns0 v_r0_turnOf v_r0_turned v_r0_order0 v_r0_likely0 v_r0_leftThen v_r0_row v_r0_rowMany v_r0_seed r0_days r0_things o.2.1 r0_figures r0_hampers r0_kinds o.2.2 r0_wants0) o.1 A) rfl (Nat.le_of_ble_eq_true rfl) ?_ sz⟩
  intro p e s m below meth c A hA C hret ls hl hW
  have C : cx p s m ([.ref a_r0, .int x1] : List Value).toArray meth c b_M_wanted 4 R_M D (kTy cI cS) (Cond.code y_M_wanted b_M_wanted 4 (some FieldType.int)) := C
  obtain ⟨hx, hb, hml, hown, hts, hK, hlk, hN⟩ := id C
  have hl : lv_has ls 4 [(0, .ref a_r0), (1, .int x1)] := hl
  obtain ⟨Q, hQ⟩ : ∃ Q, Q = MQ below (qI D (w_M_wanted cI a_r0 a_r0_figures a_r0_hampers a_r0_kinds a_r0_refusals a_r0_wants0 v_r0_weights v_r0_left0 v_r0_done0 v_r0_letters v_r0_letterMany v_r0_at v_r0_isBad v_r0_statements v_r0_placeIn v_r0_letterOf v_r0_told v_r0_kept v_r0_imaged v_r0_hasImage v_r0_place0 v_r0_isTaking v_r0_keptIn v_r0_turns0 v_r0_turnOf v_r0_turned v_r0_order0 v_r0_likely0 v_r0_leftThen v_r0_row v_r0_rowMany v_r0_seed r0_days r0_things o.2.1 r0_figures r0_hampers r0_kinds o.2.2 r0_wants0) o.1 A) ([.ref a_r0, .int x1] : List Value).toArray s 0 0 A := ⟨_, rfl⟩
  rw [← hQ]
  refine lv_aload_n hx hb d_M_wanted_0 rfl (lv_at hl 0 rfl) ?_
  refine lv_iconst (v := 0) hx hb d_M_wanted_1 (by decide) ?_
  refine k_put i_M t_M_ok n_M C hW 0 rfl rfl 9 (by decide) qf_M_67 rfl rfl (ty := .int) rfl rfl rfl (Nat.le_of_ble_eq_true rfl) (ws' := (w_M_wanted cI a_r0 a_r0_figures a_r0_hampers a_r0_kinds a_r0_refusals a_r0_wants0 v_r0_weights v_r0_left0 v_r0_done0 v_r0_letters v_r0_letterMany v_r0_at v_r0_isBad v_r0_statements v_r0_placeIn v_r0_letterOf v_r0_told v_r0_kept v_r0_imaged v_r0_hasImage v_r0_place0 v_r0_isTaking v_r0_keptIn v_r0_turns0 v_r0_turnOf v_r0_turned v_r0_order0 v_r0_likely0 v_r0_leftThen v_r0_row v_r0_rowMany v_r0_seed r0_days r0_things 0 r0_figures r0_hampers r0_kinds r0_refusals r0_wants0)) rfl d_M_wanted_2 (fun H locs hW => ?_)
  refine lv_iload_n hx hb d_M_wanted_5 rfl (lv_at hl 1 rfl) ?_
  refine lv_i2l hx hb d_M_wanted_6 rfl ?_
  refine lv_lconst (v := 0) hx hb d_M_wanted_7 (by decide) ?_
  refine lv_ldc2 (v := 3) hx hb hown (hts _ (List.mem_cons_of_mem _ (qc_M_204))) d_M_wanted_8 ?_
  obtain ⟨q_1, hc_1, hr⟩ := ob hr
  have ct_1 := C_M_in l D cI cS (Int32.toInt64 x1) 0 (3 : Int64) q_1 hc_1
  refine k_goIp hA hW [] rfl rfl (k_runS C hA hW mw_M_in ms_M_in (ct_1.2 _) [] rfl rfl qm_M_74 ⟨Nat.le_of_ble_eq_true rfl, Nat.le_of_ble_eq_true rfl, Nat.zero_le _, Nat.zero_le _⟩ rfl rfl (Nat.le_of_ble_eq_true rfl) hl.1 d_M_wanted_11) (fun H locs hW => ?_)
  refine lv_if_ne (tgt := 23) hx hb d_M_wanted_14 (by decide) (fun c_2 => ?_) (fun c_2 => ?_)
  · replace hr := iN c_2 hr
    refine lv_iconst (v := 0) hx hb d_M_wanted_23 (by decide) ?_
    refine lv_istore_n (lv' := [(2, .int 0), (0, .ref a_r0), (1, .int x1)]) hx hb d_M_wanted_24 rfl hl (by decide) rfl (fun ls hl => ?_)
    refine lv_iconst (v := 0) hx hb d_M_wanted_25 (by decide) ?_
    refine lv_istore_n (lv' := [(3, .int 0), (2, .int 0), (0, .ref a_r0), (1, .int x1)]) hx hb d_M_wanted_26 rfl hl (by decide) rfl (fun ls hl => ?_)
    obtain ⟨ex_3, hw_3, hk_3⟩ := ob hr
    have hx_3 : ∀ (e_3 : (Int32)), e_3 = ex_3 → ∀ (H : Heap) (locs : List Loc) (ls : Array Slot), wd A s.heap D (w_M_wanted cI a_r0 a_r0_figures a_r0_hampers a_r0_kinds a_r0_refusals a_r0_wants0 v_r0_weights v_r0_left0 v_r0_done0 v_r0_letters v_r0_letterMany v_r0_at v_r0_isBad v_r0_statements v_r0_placeIn v_r0_letterOf v_r0_told v_r0_kept v_r0_imaged v_r0_hasImage v_r0_place0 v_r0_isTaking v_r0_keptIn v_r0_turns0 v_r0_turnOf v_r0_turned v_r0_order0 v_r0_likely0 v_r0_leftThen v_r0_row v_r0_rowMany v_r0_seed r0_days r0_things 0 r0_figures r0_hampers r0_kinds r0_refusals r0_wants0) H locs → lv_has ls 4 [(2, .int e_3)] → W p l e (rmd 3) s m ([.ref a_r0, .int x1] : List Value).toArray below meth c H locs 0 0 Q (F0 m 71 ls []) := by
      intro e_3 hE H locs ls hW hl
      subst hE; have hr := hk_3
      refine lv_iload_n hx hb d_M_wanted_71 rfl (lv_at hl 0 rfl) ?_
      obtain rfl := Option.some.inj hr
      rw [hQ]; exact k_iret C hret hW d_M_wanted_72
    have hl_3 : ∀ (k : Nat) (y2_3 : Int32) (y3_3 : Int32), wh (fun (s : (Int32) × (Int32)) => F_M_wanted_L27 r0_days r0_things r0_figures r0_hampers r0_kinds r0_wants0 x1 s.1 s.2) k (y2_3, y3_3) = some ex_3 → ∀ (H : Heap) (locs : List Loc) (ls : Array Slot), wd A s.heap D (w_M_wanted cI a_r0 a_r0_figures a_r0_hampers a_r0_kinds a_r0_refusals a_r0_wants0 v_r0_weights v_r0_left0 v_r0_done0 v_r0_letters v_r0_letterMany v_r0_at v_r0_isBad v_r0_statements v_r0_placeIn v_r0_letterOf v_r0_told v_r0_kept v_r0_imaged v_r0_hasImage v_r0_place0 v_r0_isTaking v_r0_keptIn v_r0_turns0 v_r0_turnOf v_r0_turned v_r0_order0 v_r0_likely0 v_r0_leftThen v_r0_row v_r0_rowMany v_r0_seed r0_days r0_things 0 r0_figures r0_hampers r0_kinds r0_refusals r0_wants0) H locs → lv_has ls 4 [(0, .ref a_r0), (1, .int x1), (2, .int y2_3), (3, .int y3_3)] → W p l e (rmd 3) s m ([.ref a_r0, .int x1] : List Value).toArray below meth c H locs 0 0 Q (F0 m 27 ls []) := by
      intro k
      induction k with
      | zero => intro y2_3 y3_3 hw; exact absurd hw wh_0
      | succ k ih_3 =>
        intro y2_3 y3_3 hw H locs ls hW hl
        obtain ⟨z_3, hr, hz1_3, hz2_3⟩ := wh_s hw
        have hr : F_M_wanted_L27 r0_days r0_things r0_figures r0_hampers r0_kinds r0_wants0 x1 y2_3 y3_3 = some z_3 := hr
        unfold F_M_wanted_L27 at hr
        refine lv_iload_n hx hb d_M_wanted_27 rfl (lv_at hl 3 rfl) ?_
        refine lv_aload_n hx hb d_M_wanted_28 rfl (lv_at hl 0 rfl) ?_
        refine k_get i_M C hW 0 rfl rfl 4 (by decide) qf_M_78 rfl rfl d_M_wanted_29 ?_
        refine lv_icmp_ge (tgt := 71) hx hb d_M_wanted_32 (by decide) (fun c_4 => ?_) (fun c_4 => ?_)
        · replace hr := ip c_4 hr
          exact hx_3 _ (hz2_3 _ (Option.some.inj hr).symm) _ _ _ hW (lv_sub hl [2] rfl)
        · replace hr := iN c_4 hr
          refine lv_iload_n hx hb d_M_wanted_35 rfl (lv_at hl 2 rfl) ?_
          refine lv_aload_n hx hb d_M_wanted_36 rfl (lv_at hl 0 rfl) ?_
          refine lv_aload_n hx hb d_M_wanted_37 rfl (lv_at hl 0 rfl) ?_
          refine k_get i_M C hW 0 rfl rfl 5 (by decide) qf_M_19 rfl rfl d_M_wanted_38 ?_
          refine lv_iload_n hx hb d_M_wanted_41 rfl (lv_at hl 3 rfl) ?_
          obtain ⟨h_5, hr⟩ := ck_some hr
          refine k_iald C hW 2 rfl h_5 d_M_wanted_42 ?_
          obtain ⟨q_6, hc_6, hr⟩ := ob hr
          have ct_6 := C_M_couldBe l D cI cS a_r0 a_r0_figures a_r0_kinds v_r0_weights (Value.int r0_days) (Value.ref a_r0_hampers) (Value.ref a_r0_wants0) v_r0_left0 v_r0_done0 (Value.int 0) (Value.ref a_r0_refusals) v_r0_letters v_r0_letterMany v_r0_at v_r0_isBad v_r0_statements v_r0_placeIn v_r0_letterOf v_r0_told v_r0_kept v_r0_imaged v_r0_hasImage v_r0_place0 v_r0_isTaking v_r0_keptIn v_r0_turns0 v_r0_turnOf v_r0_turned v_r0_order0 v_r0_likely0 v_r0_leftThen v_r0_row v_r0_rowMany v_r0_seed r0_things r0_figures r0_kinds (r0_hampers (Int32.toNatClampNeg y3_3)) q_6 hc_6
          refine k_goIp hA hW [0, 1, 3] rfl rfl (k_runV C hA hW mw_M_couldBe mv_M_couldBe (ct_6.2 _) [0, 1, 3] rfl rfl 0 rfl rfl qm_M_99 ⟨Nat.le_of_ble_eq_true rfl, Nat.le_of_ble_eq_true rfl, Nat.zero_le _, Nat.zero_le _⟩ rfl rfl (Nat.le_of_ble_eq_true rfl) hl.1 d_M_wanted_43) (fun H locs hW => ?_)
          refine lv_aload_n hx hb d_M_wanted_46 rfl (lv_at hl 0 rfl) ?_
          refine k_get i_M C hW 0 rfl rfl 6 (by decide) qf_M_22 rfl rfl d_M_wanted_47 ?_
          refine lv_iload_n hx hb d_M_wanted_50 rfl (lv_at hl 1 rfl) ?_
          obtain ⟨h_7, hr⟩ := ck_some hr
          refine k_iald C hW 5 rfl h_7 d_M_wanted_51 ?_
          refine lv_iand hx hb d_M_wanted_52 ?_
          refine lv_if_ne (tgt := 62) hx hb d_M_wanted_53 (by decide) (fun c_8 => ?_) (fun c_8 => ?_)
          · replace hr := iN c_8 hr
            refine lv_iconst (v := 0) hx hb d_M_wanted_62 (by decide) ?_
            refine lv_ior hx hb d_M_wanted_63 ?_
            refine lv_istore_n (lv' := [(2, .int (y2_3 ||| 0)), (0, .ref a_r0), (1, .int x1), (3, .int y3_3)]) hx hb d_M_wanted_64 rfl hl (by decide) rfl (fun ls hl => ?_)
            refine lv_iinc (v := (y3_3 + 1)) (lv' := [(3, .int (y3_3 + 1)), (2, .int (y2_3 ||| 0)), (0, .ref a_r0), (1, .int x1)]) hx hb d_M_wanted_65 hl (k := 3) rfl rfl (by decide) rfl (fun ls hl => ?_)
            refine lv_goto (tgt := 27) hx hb d_M_wanted_68 (by decide) ?_
            exact ih_3 (y2_3 ||| 0) (y3_3 + 1) (hz1_3 _ (Option.some.inj hr).symm) _ _ _ hW (lv_sub hl [2, 3, 1, 0] rfl)
          · replace hr := ip c_8 hr
            refine lv_iconst (v := 1) hx hb d_M_wanted_56 (by decide) ?_
            refine lv_iload_n hx hb d_M_wanted_57 rfl (lv_at hl 3 rfl) ?_
            refine lv_ishl hx hb d_M_wanted_58 ?_
            refine lv_goto (tgt := 63) hx hb d_M_wanted_59 (by decide) ?_
            refine lv_ior hx hb d_M_wanted_63 ?_
            refine lv_istore_n (lv' := [(2, .int (y2_3 ||| ((1 : Int32) <<< ((y3_3 : Int32) &&& 31)))), (0, .ref a_r0), (1, .int x1), (3, .int y3_3)]) hx hb d_M_wanted_64 rfl hl (by decide) rfl (fun ls hl => ?_)
            refine lv_iinc (v := (y3_3 + 1)) (lv' := [(3, .int (y3_3 + 1)), (2, .int (y2_3 ||| ((1 : Int32) <<< ((y3_3 : Int32) &&& 31)))), (0, .ref a_r0), (1, .int x1)]) hx hb d_M_wanted_65 hl (k := 3) rfl rfl (by decide) rfl (fun ls hl => ?_)
            refine lv_goto (tgt := 27) hx hb d_M_wanted_68 (by decide) ?_
            exact ih_3 (y2_3 ||| ((1 : Int32) <<< ((y3_3 : Int32) &&& 31))) (y3_3 + 1) (hz1_3 _ (Option.some.inj hr).symm) _ _ _ hW (lv_sub hl [2, 3, 1, 0] rfl)
    exact hl_3 _ 0 0 hw_3 _ _ _ hW (lv_sub hl [2, 3, 1, 0] rfl)
  · replace hr := ip c_2 hr
    refine lv_aload_n hx hb d_M_wanted_17 rfl (lv_at hl 0 rfl) ?_
    refine lv_iconst (v := (-1)) hx hb d_M_wanted_18 (by decide) ?_
    obtain ⟨q_9, hc_9, hr⟩ := ob hr
    have ct_9 := C_M_refuse l D cI cS a_r0 a_r0_refusals v_r0_weights (Value.int r0_things) (Value.ref a_r0_kinds) (Value.ref a_r0_figures) (Value.int r0_days) (Value.ref a_r0_hampers) (Value.ref a_r0_wants0) v_r0_left0 v_r0_done0 (Value.int 0) v_r0_letters v_r0_letterMany v_r0_at v_r0_isBad v_r0_statements v_r0_placeIn v_r0_letterOf v_r0_told v_r0_kept v_r0_imaged v_r0_hasImage v_r0_place0 v_r0_isTaking v_r0_keptIn v_r0_turns0 v_r0_turnOf v_r0_turned v_r0_order0 v_r0_likely0 v_r0_leftThen v_r0_row v_r0_rowMany v_r0_seed r0_refusals (-1) q_9 hc_9
    refine k_goI hA hW [0, 4] rfl ct_9.1 (ws' := (w_M_wanted cI a_r0 a_r0_figures a_r0_hampers a_r0_kinds a_r0_refusals a_r0_wants0 v_r0_weights v_r0_left0 v_r0_done0 v_r0_letters v_r0_letterMany v_r0_at v_r0_isBad v_r0_statements v_r0_placeIn v_r0_letterOf v_r0_told v_r0_kept v_r0_imaged v_r0_hasImage v_r0_place0 v_r0_isTaking v_r0_keptIn v_r0_turns0 v_r0_turnOf v_r0_turned v_r0_order0 v_r0_likely0 v_r0_leftThen v_r0_row v_r0_rowMany v_r0_seed r0_days r0_things 0 r0_figures r0_hampers r0_kinds q_9.2 r0_wants0)) rfl (k_runV C hA hW mw_M_refuse mv_M_refuse (ct_9.2 _) [0, 4] rfl rfl 0 rfl rfl qm_M_108 ⟨Nat.le_of_ble_eq_true rfl, Nat.le_of_ble_eq_true rfl, Nat.zero_le _, Nat.zero_le _⟩ rfl rfl (Nat.le_of_ble_eq_true rfl) hl.1 d_M_wanted_19) (fun H locs hW => ?_)
    obtain rfl := Option.some.inj hr
    rw [hQ]; exact k_iret C hret hW d_M_wanted_22
def w_M_wants (cI : ClassId) (a_r0 : Nat) (a_r0_figures : Nat) (a_r0_hampers : Nat) (a_r0_kinds : Nat) (a_r0_left0 : Nat) (a_r0_refusals : Nat) (a_r0_turnOf : Nat) (a_r0_turns0 : Nat) (a_r0_wants0 : Nat) (a_r0_weights : Nat) (v_r0_letters v_r0_letterMany v_r0_at v_r0_isBad v_r0_statements v_r0_placeIn v_r0_letterOf v_r0_told v_r0_kept v_r0_imaged v_r0_hasImage v_r0_order0 v_r0_likely0 v_r0_leftThen v_r0_row v_r0_rowMany v_r0_seed : Value) (kv : Int32 → Value) (r0_days : Int32) (r0_done0 : Int32) (r0_isTaking : Int32) (r0_keptIn : Int32) (r0_place0 : Int32) (r0_things : Int32) (r0_thrown : Int32) (r0_turned : Int32) (r0_figures : Nat → Int32) (r0_hampers : Nat → Int32) (r0_kinds : Nat → Int32) (r0_left0 : Nat → Int32) (r0_refusals : Nat → Int32) (r0_turnOf : Nat → Int32) (r0_turns0 : Nat → Int32) (r0_wants0 : Nat → Int32) (r0_weights : Nat → Int32) : va_W := [(a_r0, .inr (9, [.ref a_r0_weights, .int r0_things, .ref a_r0_kinds, .ref a_r0_figures, .int r0_days, .ref a_r0_hampers, .ref a_r0_wants0, .ref a_r0_left0, .int r0_done0, .int r0_thrown, .ref a_r0_refusals, v_r0_letters, v_r0_letterMany, v_r0_at, v_r0_isBad, v_r0_statements, v_r0_placeIn, v_r0_letterOf, v_r0_told, v_r0_kept, v_r0_imaged, v_r0_hasImage, .int r0_place0, .int r0_isTaking, (kv r0_keptIn), .ref a_r0_turns0, .ref a_r0_turnOf, .int r0_turned, v_r0_order0, v_r0_likely0, v_r0_leftThen, v_r0_row, v_r0_rowMany, v_r0_seed])), (a_r0_figures, .inl (cI, 8, .inl r0_figures)), (a_r0_hampers, .inl (cI, 8, .inl r0_hampers)), (a_r0_kinds, .inl (cI, 8, .inl r0_kinds)), (a_r0_left0, .inl (cI, 4, .inl r0_left0)), (a_r0_refusals, .inl (cI, 7, .inl r0_refusals)), (a_r0_turnOf, .inl (cI, 41, .inl r0_turnOf)), (a_r0_turns0, .inl (cI, 328, .inl r0_turns0)), (a_r0_wants0, .inl (cI, 4, .inl r0_wants0)), (a_r0_weights, .inl (cI, 6, .inl r0_weights))]
def F_M_wants_J57_3 (r0_days : Int32) (r0_done0 : Int32) (r0_isTaking : Int32) (r0_keptIn : Int32) (r0_place0 : Int32) (r0_things : Int32) (r0_turned : Int32) (r0_figures : Nat → Int32) (r0_hampers : Nat → Int32) (r0_kinds : Nat → Int32) (r0_left0 : Nat → Int32) (r0_refusals : Nat → Int32) (r0_turnOf : Nat → Int32) (r0_turns0 : Nat → Int32) (r0_wants0 : Nat → Int32) (r0_weights : Nat → Int32) (x1 : Int32) (x2 : Int32) (x3 : Int32) (y4_3 : Int32) : Option (Int32 × (Int32) × (Int32) × (Int32) × (Int32) × (Int32) × (Int32) × (Int32) × (Int32) × (Nat → Int32) × (Nat → Int32) × (Nat → Int32) × (Nat → Int32) × (Nat → Int32) × (Nat → Int32) × (Nat → Int32) × (Nat → Int32) × (Nat → Int32)) :=
  (if (0 : Int32) ≤ y4_3 then ((F_M_keepTurn r0_days r0_done0 r0_things r0_turned r0_figures r0_hampers r0_kinds r0_left0 r0_turnOf r0_turns0 r0_wants0 r0_weights).bind (fun q_5 => (ck x1 4 (ck x1 4 (ck x1 4 (some ((q_5.2.2.2.2.2.2.2.2.2.2.1 (Int32.toNatClampNeg x1)), q_5.1, q_5.2.1, q_5.2.2.1, q_5.2.2.2.1, q_5.2.2.2.2.1, q_5.2.2.2.2.2.1, 0, q_5.2.2.2.2.2.2.1, q_5.2.2.2.2.2.2.2.1, q_5.2.2.2.2.2.2.2.2.1, q_5.2.2.2.2.2.2.2.2.2.1, (upd q_5.2.2.2.2.2.2.2.2.2.2.1 (Int32.toNatClampNeg x1) x3), r0_refusals, q_5.2.2.2.2.2.2.2.2.2.2.2.1, q_5.2.2.2.2.2.2.2.2.2.2.2.2.1, (upd q_5.2.2.2.2.2.2.2.2.2.2.2.2.2.1 (Int32.toNatClampNeg x1) x2), q_5.2.2.2.2.2.2.2.2.2.2.2.2.2.2))))))) else ((F_M_refuse r0_refusals y4_3).bind (fun q_9 => (some (q_9.1, r0_days, r0_done0, r0_isTaking, r0_keptIn, r0_place0, r0_things, 0, r0_turned, r0_figures, r0_hampers, r0_kinds, r0_left0, q_9.2, r0_turnOf, r0_turns0, r0_wants0, r0_weights)))))
def F_M_wants_J34_11 (r0_days : Int32) (r0_done0 : Int32) (r0_isTaking : Int32) (r0_keptIn : Int32) (r0_place0 : Int32) (r0_things : Int32) (r0_turned : Int32) (r0_figures : Nat → Int32) (r0_hampers : Nat → Int32) (r0_kinds : Nat → Int32) (r0_left0 : Nat → Int32) (r0_refusals : Nat → Int32) (r0_turnOf : Nat → Int32) (r0_turns0 : Nat → Int32) (r0_wants0 : Nat → Int32) (r0_weights : Nat → Int32) (x1 : Int32) (x2 : Int32) (x3 : Int32) : Option (Int32 × (Int32) × (Int32) × (Int32) × (Int32) × (Int32) × (Int32) × (Int32) × (Int32) × (Nat → Int32) × (Nat → Int32) × (Nat → Int32) × (Nat → Int32) × (Nat → Int32) × (Nat → Int32) × (Nat → Int32) × (Nat → Int32) × (Nat → Int32)) :=
  (F_M_wants_J57_3 r0_days r0_done0 r0_isTaking r0_keptIn r0_place0 r0_things r0_turned r0_figures r0_hampers r0_kinds r0_left0 r0_refusals r0_turnOf r0_turns0 r0_wants0 r0_weights x1 x2 x3 (-4))
def F_M_wants_J53_14 (r0_days : Int32) (r0_done0 : Int32) (r0_isTaking : Int32) (r0_keptIn : Int32) (r0_place0 : Int32) (r0_things : Int32) (r0_turned : Int32) (r0_figures : Nat → Int32) (r0_hampers : Nat → Int32) (r0_kinds : Nat → Int32) (r0_left0 : Nat → Int32) (r0_refusals : Nat → Int32) (r0_turnOf : Nat → Int32) (r0_turns0 : Nat → Int32) (r0_wants0 : Nat → Int32) (r0_weights : Nat → Int32) (x1 : Int32) (x2 : Int32) (x3 : Int32) : Option (Int32 × (Int32) × (Int32) × (Int32) × (Int32) × (Int32) × (Int32) × (Int32) × (Int32) × (Nat → Int32) × (Nat → Int32) × (Nat → Int32) × (Nat → Int32) × (Nat → Int32) × (Nat → Int32) × (Nat → Int32) × (Nat → Int32) × (Nat → Int32)) :=
  (F_M_wants_J57_3 r0_days r0_done0 r0_isTaking r0_keptIn r0_place0 r0_things r0_turned r0_figures r0_hampers r0_kinds r0_left0 r0_refusals r0_turnOf r0_turns0 r0_wants0 r0_weights x1 x2 x3 (-6))
def F_M_wants (r0_days : Int32) (r0_done0 : Int32) (r0_isTaking : Int32) (r0_keptIn : Int32) (r0_place0 : Int32) (r0_things : Int32) (r0_turned : Int32) (r0_figures : Nat → Int32) (r0_hampers : Nat → Int32) (r0_kinds : Nat → Int32) (r0_left0 : Nat → Int32) (r0_refusals : Nat → Int32) (r0_turnOf : Nat → Int32) (r0_turns0 : Nat → Int32) (r0_wants0 : Nat → Int32) (r0_weights : Nat → Int32) (x1 : Int32) (x2 : Int32) (x3 : Int32) : Option (Int32 × (Int32) × (Int32) × (Int32) × (Int32) × (Int32) × (Int32) × (Int32) × (Int32) × (Nat → Int32) × (Nat → Int32) × (Nat → Int32) × (Nat → Int32) × (Nat → Int32) × (Nat → Int32) × (Nat → Int32) × (Nat → Int32) × (Nat → Int32)) :=
  ((F_M_in (Int32.toInt64 x1) (0 : Int64) (3 : Int64)).bind (fun q_1 => (if q_1 = 0 then (F_M_wants_J57_3 r0_days r0_done0 r0_isTaking r0_keptIn r0_place0 r0_things r0_turned r0_figures r0_hampers r0_kinds r0_left0 r0_refusals r0_turnOf r0_turns0 r0_wants0 r0_weights x1 x2 x3 (-1)) else (if x2 < 0 then (F_M_wants_J34_11 r0_days r0_done0 r0_isTaking r0_keptIn r0_place0 r0_things r0_turned r0_figures r0_hampers r0_kinds r0_left0 r0_refusals r0_turnOf r0_turns0 r0_wants0 r0_weights x1 x2 x3) else (if (0 : Int32) ≤ x3 then (if (63 : Int32) < x2 then (F_M_wants_J53_14 r0_days r0_done0 r0_isTaking r0_keptIn r0_place0 r0_things r0_turned r0_figures r0_hampers r0_kinds r0_left0 r0_refusals r0_turnOf r0_turns0 r0_wants0 r0_weights x1 x2 x3) else (if x3 ≤ 9 then (F_M_wants_J57_3 r0_days r0_done0 r0_isTaking r0_keptIn r0_place0 r0_things r0_turned r0_figures r0_hampers r0_kinds r0_left0 r0_refusals r0_turnOf r0_turns0 r0_wants0 r0_weights x1 x2 x3 0) else (F_M_wants_J53_14 r0_days r0_done0 r0_isTaking r0_keptIn r0_place0 r0_things r0_turned r0_figures r0_hampers r0_kinds r0_left0 r0_refusals r0_turnOf r0_turns0 r0_wants0 r0_weights x1 x2 x3))) else (F_M_wants_J34_11 r0_days r0_done0 r0_isTaking r0_keptIn r0_place0 r0_things r0_turned r0_figures r0_hampers r0_kinds r0_left0 r0_refusals r0_turnOf r0_turns0 r0_wants0 r0_weights x1 x2 x3))))))
set_option maxHeartbeats 4000000 in
set_option maxRecDepth 100000 in
theorem C_M_wants (l : Launch) (D : va_G) (cI cS : ClassId) (a_r0 : Nat) (a_r0_figures : Nat) (a_r0_hampers : Nat) (a_r0_kinds : Nat) (a_r0_left0 : Nat) (a_r0_refusals : Nat) (a_r0_turnOf : Nat) (a_r0_turns0 : Nat) (a_r0_wants0 : Nat) (a_r0_weights : Nat) (v_r0_letters v_r0_letterMany v_r0_at v_r0_isBad v_r0_statements v_r0_placeIn v_r0_letterOf v_r0_told v_r0_kept v_r0_imaged v_r0_hasImage v_r0_order0 v_r0_likely0 v_r0_leftThen v_r0_row v_r0_rowMany v_r0_seed : Value) (kv : Int32 → Value) (hkv_turnOf : kv 3 = .ref a_r0_turnOf) (r0_days : Int32) (r0_done0 : Int32) (r0_isTaking : Int32) (r0_keptIn : Int32) (r0_place0 : Int32) (r0_things : Int32) (r0_thrown : Int32) (r0_turned : Int32) (r0_figures : Nat → Int32) (r0_hampers : Nat → Int32) (r0_kinds : Nat → Int32) (r0_left0 : Nat → Int32) (r0_refusals : Nat → Int32) (r0_turnOf : Nat → Int32) (r0_turns0 : Nat → Int32) (r0_wants0 : Nat → Int32) (r0_weights : Nat → Int32) (x1 : Int32) (x2 : Int32) (x3 : Int32) (o : Int32 × (Int32) × (Int32) × (Int32) × (Int32) × (Int32) × (Int32) × (Int32) × (Int32) × (Nat → Int32) × (Nat → Int32) × (Nat → Int32) × (Nat → Int32) × (Nat → Int32) × (Nat → Int32) × (Nat → Int32) × (Nat → Int32) × (Nat → Int32)) (hr : F_M_wants r0_days r0_done0 r0_isTaking r0_keptIn r0_place0 r0_things r0_turned r0_figures r0_hampers r0_kinds r0_left0 r0_refusals r0_turnOf r0_turns0 r0_wants0 r0_weights x1 x2 x3 = some o) : ctI l y_M_wants (Cond.code y_M_wants b_M_wants 6 (some FieldType.int)) (rmd 3) D (kTy cI cS) [.ref a_r0, .int x1, .int x2, .int x3] (w_M_wants cI a_r0 a_r0_figures a_r0_hampers a_r0_kinds a_r0_left0 a_r0_refusals a_r0_turnOf a_r0_turns0 a_r0_wants0 a_r0_weights v_r0_letters v_r0_letterMany v_r0_at v_r0_isBad v_r0_statements v_r0_placeIn v_r0_letterOf v_r0_told v_r0_kept v_r0_imaged v_r0_hasImage v_r0_order0 v_r0_likely0 v_r0_leftThen v_r0_row v_r0_rowMany v_r0_seed kv r0_days r0_done0 r0_isTaking r0_keptIn r0_place0 r0_things r0_thrown r0_turned r0_figures r0_hampers r0_kinds r0_left0 r0_refusals r0_turnOf r0_turns0 r0_wants0 r0_weights) (w_M_wants cI a_r0 a_r0_figures a_r0_hampers a_r0_kinds a_r0_left0 a_r0_refusals a_r0_turnOf a_r0_turns0 a_r0_wants0 a_r0_weights v_r0_letters v_r0_letterMany v_r0_at v_r0_isBad v_r0_statements v_r0_placeIn v_r0_letterOf v_r0_told v_r0_kept v_r0_imaged v_r0_hasImage v_r0_order0 v_r0_likely0 v_r0_leftThen v_r0_row v_r0_rowMany v_r0_seed kv o.2.1 o.2.2.1 o.2.2.2.1 o.2.2.2.2.1 o.2.2.2.2.2.1 o.2.2.2.2.2.2.1 o.2.2.2.2.2.2.2.1 o.2.2.2.2.2.2.2.2.1 o.2.2.2.2.2.2.2.2.2.1 o.2.2.2.2.2.2.2.2.2.2.1 o.2.2.2.2.2.2.2.2.2.2.2.1 o.2.2.2.2.2.2.2.2.2.2.2.2.1 o.2.2.2.2.2.2.2.2.2.2.2.2.2.1 o.2.2.2.2.2.2.2.2.2.2.2.2.2.2.1 o.2.2.2.2.2.2.2.2.2.2.2.2.2.2.2.1 o.2.2.2.2.2.2.2.2.2.2.2.2.2.2.2.2.1 o.2.2.2.2.2.2.2.2.2.2.2.2.2.2.2.2.2) o.1 := by
  unfold F_M_wants at hr
  refine ⟨rfl, fun sz => ct_of (w0 := (w_M_wants cI a_r0 a_r0_figures a_r0_hampers a_r0_kinds a_r0_left0 a_r0_refusals a_r0_turnOf a_r0_turns0 a_r0_wants0 a_r0_weights v_r0_letters v_r0_letterMany v_r0_at v_r0_isBad v_r0_statements v_r0_placeIn v_r0_letterOf v_r0_told v_r0_kept v_r0_imaged v_r0_hasImage v_r0_order0 v_r0_likely0 v_r0_leftThen v_r0_row v_r0_rowMany v_r0_seed kv r0_days r0_done0 r0_isTaking r0_keptIn r0_place0 r0_things r0_thrown r0_turned r0_figures r0_hampers r0_kinds r0_left0 r0_refusals r0_turnOf r0_turns0 r0_wants0 r0_weights)) (Qc := fun A => qI D (w_M_wants cI a_r0 a_r0_figures a_r0_hampers a_r0_kinds a_r0_left0 a_r0_refusals a_r0_turnOf a_r0_turns0 a_r0_wants0 a_r0_weights v_r0_letters v_r0_letterMany v_r0_at v_r0_isBad v_r0_statements v_r0_placeIn v_r0_letterOf v_r0_told v_r0_kept v_r0_imaged v_r0_hasImage v_r0_order0 v_r0_likely0 v_r0_leftThen v_r0_row v_r0_rowMany v_r0_seed kv o.2.1 o.2.2.1 o.2.2.2.1 o.2.2.2.2.1 o.2.2.2.2.2.1 o.2.2.2.2.2.2.1 o.2.2.2.2.2.2.2.1 o.2.2.2.2.2.2.2.2.1 o.2.2.2.2.2.2.2.2.2.1 o.2.2.2.2.2.2.2.2.2.2.1 o.2.2.2.2.2.2.2.2.2.2.2.1 o.2.2.2.2.2.2.2.2.2.2.2.2.1 o.2.2.2.2.2.2.2.2.2.2.2.2.2.1 o.2.2.2.2.2.2.2.2.2.2.2.2.2.2.1 o.2.2.2.2.2.2.2.2.2.2.2.2.2.2.2.1 o.2.2.2.2.2.2.2.2.2.2.2.2.2.2.2.2.1 o.2.2.2.2.2.2.2.2.2.2.2.2.2.2.2.2.2) o.1 A) rfl (Nat.le_of_ble_eq_true rfl) ?_ sz⟩
  intro p e s m below meth c A hA C hret ls hl hW
  have C : cx p s m ([.ref a_r0, .int x1, .int x2, .int x3] : List Value).toArray meth c b_M_wants 6 R_M D (kTy cI cS) (Cond.code y_M_wants b_M_wants 6 (some FieldType.int)) := C
  obtain ⟨hx, hb, hml, hown, hts, hK, hlk, hN⟩ := id C
  have hl : lv_has ls 6 [(0, .ref a_r0), (1, .int x1), (2, .int x2), (3, .int x3)] := hl
  obtain ⟨Q, hQ⟩ : ∃ Q, Q = MQ below (qI D (w_M_wants cI a_r0 a_r0_figures a_r0_hampers a_r0_kinds a_r0_left0 a_r0_refusals a_r0_turnOf a_r0_turns0 a_r0_wants0 a_r0_weights v_r0_letters v_r0_letterMany v_r0_at v_r0_isBad v_r0_statements v_r0_placeIn v_r0_letterOf v_r0_told v_r0_kept v_r0_imaged v_r0_hasImage v_r0_order0 v_r0_likely0 v_r0_leftThen v_r0_row v_r0_rowMany v_r0_seed kv o.2.1 o.2.2.1 o.2.2.2.1 o.2.2.2.2.1 o.2.2.2.2.2.1 o.2.2.2.2.2.2.1 o.2.2.2.2.2.2.2.1 o.2.2.2.2.2.2.2.2.1 o.2.2.2.2.2.2.2.2.2.1 o.2.2.2.2.2.2.2.2.2.2.1 o.2.2.2.2.2.2.2.2.2.2.2.1 o.2.2.2.2.2.2.2.2.2.2.2.2.1 o.2.2.2.2.2.2.2.2.2.2.2.2.2.1 o.2.2.2.2.2.2.2.2.2.2.2.2.2.2.1 o.2.2.2.2.2.2.2.2.2.2.2.2.2.2.2.1 o.2.2.2.2.2.2.2.2.2.2.2.2.2.2.2.2.1 o.2.2.2.2.2.2.2.2.2.2.2.2.2.2.2.2.2) o.1 A) ([.ref a_r0, .int x1, .int x2, .int x3] : List Value).toArray s 0 0 A := ⟨_, rfl⟩
  rw [← hQ]
  refine lv_aload_n hx hb d_M_wants_0 rfl (lv_at hl 0 rfl) ?_
  refine lv_iconst (v := 0) hx hb d_M_wants_1 (by decide) ?_
  refine k_put i_M t_M_ok n_M C hW 0 rfl rfl 9 (by decide) qf_M_67 rfl rfl (ty := .int) rfl rfl rfl (Nat.le_of_ble_eq_true rfl) (ws' := (w_M_wants cI a_r0 a_r0_figures a_r0_hampers a_r0_kinds a_r0_left0 a_r0_refusals a_r0_turnOf a_r0_turns0 a_r0_wants0 a_r0_weights v_r0_letters v_r0_letterMany v_r0_at v_r0_isBad v_r0_statements v_r0_placeIn v_r0_letterOf v_r0_told v_r0_kept v_r0_imaged v_r0_hasImage v_r0_order0 v_r0_likely0 v_r0_leftThen v_r0_row v_r0_rowMany v_r0_seed kv r0_days r0_done0 r0_isTaking r0_keptIn r0_place0 r0_things 0 r0_turned r0_figures r0_hampers r0_kinds r0_left0 r0_refusals r0_turnOf r0_turns0 r0_wants0 r0_weights)) rfl d_M_wants_2 (fun H locs hW => ?_)
  refine lv_iconst (v := 0) hx hb d_M_wants_5 (by decide) ?_
  refine lv_istore (lv' := [(4, .int 0), (0, .ref a_r0), (1, .int x1), (2, .int x2), (3, .int x3)]) hx hb d_M_wants_6 hl (by decide) rfl (fun ls hl => ?_)
  refine lv_iload_n hx hb d_M_wants_8 rfl (lv_at hl 2 rfl) ?_
  refine lv_i2l hx hb d_M_wants_9 rfl ?_
  refine lv_lconst (v := 0) hx hb d_M_wants_10 (by decide) ?_
  refine lv_ldc2 (v := 3) hx hb hown (hts _ (List.mem_cons_of_mem _ (qc_M_204))) d_M_wants_11 ?_
  obtain ⟨q_1, hc_1, hr⟩ := ob hr
  have ct_1 := C_M_in l D cI cS (Int32.toInt64 x1) 0 (3 : Int64) q_1 hc_1
  refine k_goIp hA hW [] rfl rfl (k_runS C hA hW mw_M_in ms_M_in (ct_1.2 _) [] rfl rfl qm_M_74 ⟨Nat.le_of_ble_eq_true rfl, Nat.le_of_ble_eq_true rfl, Nat.zero_le _, Nat.zero_le _⟩ rfl rfl (Nat.le_of_ble_eq_true rfl) hl.1 d_M_wants_14) (fun H locs hW => ?_)
  have hJ_3 : ∀ (y4_3 : Int32), F_M_wants_J57_3 r0_days r0_done0 r0_isTaking r0_keptIn r0_place0 r0_things r0_turned r0_figures r0_hampers r0_kinds r0_left0 r0_refusals r0_turnOf r0_turns0 r0_wants0 r0_weights x1 x2 x3 y4_3 = some o → ∀ (H : Heap) (locs : List Loc) (ls : Array Slot), wd A s.heap D (w_M_wants cI a_r0 a_r0_figures a_r0_hampers a_r0_kinds a_r0_left0 a_r0_refusals a_r0_turnOf a_r0_turns0 a_r0_wants0 a_r0_weights v_r0_letters v_r0_letterMany v_r0_at v_r0_isBad v_r0_statements v_r0_placeIn v_r0_letterOf v_r0_told v_r0_kept v_r0_imaged v_r0_hasImage v_r0_order0 v_r0_likely0 v_r0_leftThen v_r0_row v_r0_rowMany v_r0_seed kv r0_days r0_done0 r0_isTaking r0_keptIn r0_place0 r0_things 0 r0_turned r0_figures r0_hampers r0_kinds r0_left0 r0_refusals r0_turnOf r0_turns0 r0_wants0 r0_weights) H locs → lv_has ls 6 [(0, .ref a_r0), (1, .int x1), (2, .int x2), (3, .int x3), (4, .int y4_3)] → W p l e (rmd 3) s m ([.ref a_r0, .int x1, .int x2, .int x3] : List Value).toArray below meth c H locs 0 0 Q (F0 m 57 ls []) := by
    intro y4_3 hr H locs ls hW hl
    unfold F_M_wants_J57_3 at hr
    refine lv_iload hx hb d_M_wants_57 (lv_at hl 4 rfl) ?_
    refine lv_if_ge (tgt := 69) hx hb d_M_wants_59 (by decide) (fun c_4 => ?_) (fun c_4 => ?_)
    · replace hr := ip c_4 hr
      refine lv_aload_n hx hb d_M_wants_69 rfl (lv_at hl 0 rfl) ?_
      obtain ⟨q_5, hc_5, hr⟩ := ob hr
      have ct_5 := C_M_keepTurn l D cI cS a_r0 a_r0_figures a_r0_hampers a_r0_kinds a_r0_left0 a_r0_turnOf a_r0_turns0 a_r0_wants0 a_r0_weights (Value.int 0) (Value.ref a_r0_refusals) v_r0_letters v_r0_letterMany v_r0_at v_r0_isBad v_r0_statements v_r0_placeIn v_r0_letterOf v_r0_told v_r0_kept v_r0_imaged v_r0_hasImage v_r0_order0 v_r0_likely0 v_r0_leftThen v_r0_row v_r0_rowMany v_r0_seed kv hkv_turnOf r0_days r0_done0 r0_isTaking r0_keptIn r0_place0 r0_things r0_turned r0_figures r0_hampers r0_kinds r0_left0 r0_turnOf r0_turns0 r0_wants0 r0_weights q_5 hc_5
      refine k_goV hA hW [0, 1, 2, 3, 4, 6, 7, 8, 9] rfl ct_5.1 (ws' := (w_M_wants cI a_r0 a_r0_figures a_r0_hampers a_r0_kinds a_r0_left0 a_r0_refusals a_r0_turnOf a_r0_turns0 a_r0_wants0 a_r0_weights v_r0_letters v_r0_letterMany v_r0_at v_r0_isBad v_r0_statements v_r0_placeIn v_r0_letterOf v_r0_told v_r0_kept v_r0_imaged v_r0_hasImage v_r0_order0 v_r0_likely0 v_r0_leftThen v_r0_row v_r0_rowMany v_r0_seed kv q_5.1 q_5.2.1 q_5.2.2.1 q_5.2.2.2.1 q_5.2.2.2.2.1 q_5.2.2.2.2.2.1 0 q_5.2.2.2.2.2.2.1 q_5.2.2.2.2.2.2.2.1 q_5.2.2.2.2.2.2.2.2.1 q_5.2.2.2.2.2.2.2.2.2.1 q_5.2.2.2.2.2.2.2.2.2.2.1 r0_refusals q_5.2.2.2.2.2.2.2.2.2.2.2.1 q_5.2.2.2.2.2.2.2.2.2.2.2.2.1 q_5.2.2.2.2.2.2.2.2.2.2.2.2.2.1 q_5.2.2.2.2.2.2.2.2.2.2.2.2.2.2)) rfl (k_runV C hA hW mw_M_keepTurn mv_M_keepTurn (ct_5.2 _) [0, 1, 2, 3, 4, 6, 7, 8, 9] rfl rfl 0 rfl rfl qm_M_212 ⟨Nat.le_of_ble_eq_true rfl, Nat.le_of_ble_eq_true rfl, Nat.zero_le _, Nat.zero_le _⟩ rfl rfl (Nat.le_of_ble_eq_true rfl) hl.1 d_M_wants_70) (fun H locs hW => ?_)
      refine lv_aload_n hx hb d_M_wants_73 rfl (lv_at hl 0 rfl) ?_
      refine k_get i_M C hW 0 rfl rfl 7 (by decide) qf_M_25 rfl rfl d_M_wants_74 ?_
      refine lv_iload_n hx hb d_M_wants_77 rfl (lv_at hl 1 rfl) ?_
      obtain ⟨h_6, hr⟩ := ck_some hr
      refine k_iald C hW 4 rfl h_6 d_M_wants_78 ?_
      refine lv_istore (lv' := [(5, .int (q_5.2.2.2.2.2.2.2.2.2.2.1 (Int32.toNatClampNeg x1))), (0, .ref a_r0), (1, .int x1), (2, .int x2), (3, .int x3), (4, .int y4_3)]) hx hb d_M_wants_79 hl (by decide) rfl (fun ls hl => ?_)
      refine lv_aload_n hx hb d_M_wants_81 rfl (lv_at hl 1 rfl) ?_
      refine k_get i_M C hW 0 rfl rfl 6 (by decide) qf_M_22 rfl rfl d_M_wants_82 ?_
      refine lv_iload_n hx hb d_M_wants_85 rfl (lv_at hl 2 rfl) ?_
      refine lv_iload_n hx hb d_M_wants_86 rfl (lv_at hl 3 rfl) ?_
      obtain ⟨h_7, hr⟩ := ck_some hr
      refine k_iast C hW 8 rfl h_7 (ws' := (w_M_wants cI a_r0 a_r0_figures a_r0_hampers a_r0_kinds a_r0_left0 a_r0_refusals a_r0_turnOf a_r0_turns0 a_r0_wants0 a_r0_weights v_r0_letters v_r0_letterMany v_r0_at v_r0_isBad v_r0_statements v_r0_placeIn v_r0_letterOf v_r0_told v_r0_kept v_r0_imaged v_r0_hasImage v_r0_order0 v_r0_likely0 v_r0_leftThen v_r0_row v_r0_rowMany v_r0_seed kv q_5.1 q_5.2.1 q_5.2.2.1 q_5.2.2.2.1 q_5.2.2.2.2.1 q_5.2.2.2.2.2.1 0 q_5.2.2.2.2.2.2.1 q_5.2.2.2.2.2.2.2.1 q_5.2.2.2.2.2.2.2.2.1 q_5.2.2.2.2.2.2.2.2.2.1 q_5.2.2.2.2.2.2.2.2.2.2.1 r0_refusals q_5.2.2.2.2.2.2.2.2.2.2.2.1 q_5.2.2.2.2.2.2.2.2.2.2.2.2.1 (upd q_5.2.2.2.2.2.2.2.2.2.2.2.2.2.1 (Int32.toNatClampNeg x1) x2) q_5.2.2.2.2.2.2.2.2.2.2.2.2.2.2)) rfl d_M_wants_87 (fun H locs hW => ?_)
      refine lv_aload_n hx hb d_M_wants_88 rfl (lv_at hl 1 rfl) ?_
      refine k_get i_M C hW 0 rfl rfl 7 (by decide) qf_M_25 rfl rfl d_M_wants_89 ?_
      refine lv_iload_n hx hb d_M_wants_92 rfl (lv_at hl 2 rfl) ?_
      refine lv_iload_n hx hb d_M_wants_93 rfl (lv_at hl 4 rfl) ?_
      obtain ⟨h_8, hr⟩ := ck_some hr
      refine k_iast C hW 4 rfl h_8 (ws' := (w_M_wants cI a_r0 a_r0_figures a_r0_hampers a_r0_kinds a_r0_left0 a_r0_refusals a_r0_turnOf a_r0_turns0 a_r0_wants0 a_r0_weights v_r0_letters v_r0_letterMany v_r0_at v_r0_isBad v_r0_statements v_r0_placeIn v_r0_letterOf v_r0_told v_r0_kept v_r0_imaged v_r0_hasImage v_r0_order0 v_r0_likely0 v_r0_leftThen v_r0_row v_r0_rowMany v_r0_seed kv q_5.1 q_5.2.1 q_5.2.2.1 q_5.2.2.2.1 q_5.2.2.2.2.1 q_5.2.2.2.2.2.1 0 q_5.2.2.2.2.2.2.1 q_5.2.2.2.2.2.2.2.1 q_5.2.2.2.2.2.2.2.2.1 q_5.2.2.2.2.2.2.2.2.2.1 (upd q_5.2.2.2.2.2.2.2.2.2.2.1 (Int32.toNatClampNeg x1) x3) r0_refusals q_5.2.2.2.2.2.2.2.2.2.2.2.1 q_5.2.2.2.2.2.2.2.2.2.2.2.2.1 (upd q_5.2.2.2.2.2.2.2.2.2.2.2.2.2.1 (Int32.toNatClampNeg x1) x2) q_5.2.2.2.2.2.2.2.2.2.2.2.2.2.2)) rfl d_M_wants_94 (fun H locs hW => ?_)
      refine lv_iload hx hb d_M_wants_95 (lv_at hl 0 rfl) ?_
      obtain rfl := Option.some.inj hr
      rw [hQ]; exact k_iret C hret hW d_M_wants_97
    · replace hr := iN c_4 hr
      refine lv_aload_n hx hb d_M_wants_62 rfl (lv_at hl 0 rfl) ?_
      refine lv_iload hx hb d_M_wants_63 (lv_at hl 4 rfl) ?_
      obtain ⟨q_9, hc_9, hr⟩ := ob hr
      have ct_9 := C_M_refuse l D cI cS a_r0 a_r0_refusals (Value.ref a_r0_weights) (Value.int r0_things) (Value.ref a_r0_kinds) (Value.ref a_r0_figures) (Value.int r0_days) (Value.ref a_r0_hampers) (Value.ref a_r0_wants0) (Value.ref a_r0_left0) (Value.int r0_done0) (Value.int 0) v_r0_letters v_r0_letterMany v_r0_at v_r0_isBad v_r0_statements v_r0_placeIn v_r0_letterOf v_r0_told v_r0_kept v_r0_imaged v_r0_hasImage (Value.int r0_place0) (Value.int r0_isTaking) (kv r0_keptIn) (Value.ref a_r0_turns0) (Value.ref a_r0_turnOf) (Value.int r0_turned) v_r0_order0 v_r0_likely0 v_r0_leftThen v_r0_row v_r0_rowMany v_r0_seed r0_refusals y4_3 q_9 hc_9
      refine k_goI hA hW [0, 5] rfl ct_9.1 (ws' := (w_M_wants cI a_r0 a_r0_figures a_r0_hampers a_r0_kinds a_r0_left0 a_r0_refusals a_r0_turnOf a_r0_turns0 a_r0_wants0 a_r0_weights v_r0_letters v_r0_letterMany v_r0_at v_r0_isBad v_r0_statements v_r0_placeIn v_r0_letterOf v_r0_told v_r0_kept v_r0_imaged v_r0_hasImage v_r0_order0 v_r0_likely0 v_r0_leftThen v_r0_row v_r0_rowMany v_r0_seed kv r0_days r0_done0 r0_isTaking r0_keptIn r0_place0 r0_things 0 r0_turned r0_figures r0_hampers r0_kinds r0_left0 q_9.2 r0_turnOf r0_turns0 r0_wants0 r0_weights)) rfl (k_runV C hA hW mw_M_refuse mv_M_refuse (ct_9.2 _) [0, 5] rfl rfl 0 rfl rfl qm_M_108 ⟨Nat.le_of_ble_eq_true rfl, Nat.le_of_ble_eq_true rfl, Nat.zero_le _, Nat.zero_le _⟩ rfl rfl (Nat.le_of_ble_eq_true rfl) hl.1 d_M_wants_65) (fun H locs hW => ?_)
      obtain rfl := Option.some.inj hr
      rw [hQ]; exact k_iret C hret hW d_M_wants_68
  refine lv_if_ne (tgt := 26) hx hb d_M_wants_17 (by decide) (fun c_2 => ?_) (fun c_2 => ?_)
  · replace hr := iN c_2 hr
    refine lv_iload_n hx hb d_M_wants_26 rfl (lv_at hl 3 rfl) ?_
    have hJ_11 : ∀ (_ : Unit), F_M_wants_J34_11 r0_days r0_done0 r0_isTaking r0_keptIn r0_place0 r0_things r0_turned r0_figures r0_hampers r0_kinds r0_left0 r0_refusals r0_turnOf r0_turns0 r0_wants0 r0_weights x1 x2 x3 = some o → ∀ (H : Heap) (locs : List Loc) (ls : Array Slot), wd A s.heap D (w_M_wants cI a_r0 a_r0_figures a_r0_hampers a_r0_kinds a_r0_left0 a_r0_refusals a_r0_turnOf a_r0_turns0 a_r0_wants0 a_r0_weights v_r0_letters v_r0_letterMany v_r0_at v_r0_isBad v_r0_statements v_r0_placeIn v_r0_letterOf v_r0_told v_r0_kept v_r0_imaged v_r0_hasImage v_r0_order0 v_r0_likely0 v_r0_leftThen v_r0_row v_r0_rowMany v_r0_seed kv r0_days r0_done0 r0_isTaking r0_keptIn r0_place0 r0_things 0 r0_turned r0_figures r0_hampers r0_kinds r0_left0 r0_refusals r0_turnOf r0_turns0 r0_wants0 r0_weights) H locs → lv_has ls 6 [(0, .ref a_r0), (1, .int x1), (2, .int x2), (3, .int x3)] → W p l e (rmd 3) s m ([.ref a_r0, .int x1, .int x2, .int x3] : List Value).toArray below meth c H locs 0 0 Q (F0 m 34 ls []) := by
      intro _ hr H locs ls hW hl
      unfold F_M_wants_J34_11 at hr
      refine lv_bipush (v := (-4)) hx hb d_M_wants_34 (by decide) ?_
      refine lv_istore (lv' := [(4, .int (-4)), (0, .ref a_r0), (1, .int x1), (2, .int x2), (3, .int x3)]) hx hb d_M_wants_36 hl (by decide) rfl (fun ls hl => ?_)
      refine lv_goto (tgt := 57) hx hb d_M_wants_38 (by decide) ?_
      exact hJ_3 (-4) hr _ _ _ hW (lv_sub hl [1, 2, 3, 4, 0] rfl)
    refine lv_if_lt (tgt := 34) hx hb d_M_wants_27 (by decide) (fun c_10 => ?_) (fun c_10 => ?_)
    · replace hr := ip c_10 hr
      exact hJ_11 () hr _ _ _ hW (lv_sub hl [1, 2, 3, 4] rfl)
    · replace hr := iN c_10 hr
      refine lv_iload_n hx hb d_M_wants_30 rfl (lv_at hl 4 rfl) ?_
      refine lv_if_ge (tgt := 41) hx hb d_M_wants_31 (by decide) (fun c_12 => ?_) (fun c_12 => ?_)
      · replace hr := ip c_12 hr
        refine lv_iload_n hx hb d_M_wants_41 rfl (lv_at hl 3 rfl) ?_
        refine lv_bipush (v := 63) hx hb d_M_wants_42 (by decide) ?_
        have hJ_14 : ∀ (_ : Unit), F_M_wants_J53_14 r0_days r0_done0 r0_isTaking r0_keptIn r0_place0 r0_things r0_turned r0_figures r0_hampers r0_kinds r0_left0 r0_refusals r0_turnOf r0_turns0 r0_wants0 r0_weights x1 x2 x3 = some o → ∀ (H : Heap) (locs : List Loc) (ls : Array Slot), wd A s.heap D (w_M_wants cI a_r0 a_r0_figures a_r0_hampers a_r0_kinds a_r0_left0 a_r0_refusals a_r0_turnOf a_r0_turns0 a_r0_wants0 a_r0_weights v_r0_letters v_r0_letterMany v_r0_at v_r0_isBad v_r0_statements v_r0_placeIn v_r0_letterOf v_r0_told v_r0_kept v_r0_imaged v_r0_hasImage v_r0_order0 v_r0_likely0 v_r0_leftThen v_r0_row v_r0_rowMany v_r0_seed kv r0_days r0_done0 r0_isTaking r0_keptIn r0_place0 r0_things 0 r0_turned r0_figures r0_hampers r0_kinds r0_left0 r0_refusals r0_turnOf r0_turns0 r0_wants0 r0_weights) H locs → lv_has ls 6 [(0, .ref a_r0), (1, .int x1), (2, .int x2), (3, .int x3)] → W p l e (rmd 3) s m ([.ref a_r0, .int x1, .int x2, .int x3] : List Value).toArray below meth c H locs 0 0 Q (F0 m 53 ls []) := by
          intro _ hr H locs ls hW hl
          unfold F_M_wants_J53_14 at hr
          refine lv_bipush (v := (-6)) hx hb d_M_wants_53 (by decide) ?_
          refine lv_istore (lv' := [(4, .int (-6)), (0, .ref a_r0), (1, .int x1), (2, .int x2), (3, .int x3)]) hx hb d_M_wants_55 hl (by decide) rfl (fun ls hl => ?_)
          exact hJ_3 (-6) hr _ _ _ hW (lv_sub hl [1, 2, 3, 4, 0] rfl)
        refine lv_icmp_gt (tgt := 53) hx hb d_M_wants_44 (by decide) (fun c_13 => ?_) (fun c_13 => ?_)
        · replace hr := ip c_13 hr
          exact hJ_14 () hr _ _ _ hW (lv_sub hl [1, 2, 3, 4] rfl)
        · replace hr := iN c_13 hr
          refine lv_iload_n hx hb d_M_wants_47 rfl (lv_at hl 4 rfl) ?_
          refine lv_bipush (v := 9) hx hb d_M_wants_48 (by decide) ?_
          refine lv_icmp_le (tgt := 57) hx hb d_M_wants_50 (by decide) (fun c_15 => ?_) (fun c_15 => ?_)
          · replace hr := ip c_15 hr
            exact hJ_3 0 hr _ _ _ hW (lv_sub hl [1, 2, 3, 4, 0] rfl)
          · replace hr := iN c_15 hr
            exact hJ_14 () hr _ _ _ hW (lv_sub hl [1, 2, 3, 4] rfl)
      · replace hr := iN c_12 hr
        exact hJ_11 () hr _ _ _ hW (lv_sub hl [1, 2, 3, 4] rfl)
  · replace hr := ip c_2 hr
    refine lv_iconst (v := (-1)) hx hb d_M_wants_20 (by decide) ?_
    refine lv_istore (lv' := [(4, .int (-1)), (0, .ref a_r0), (1, .int x1), (2, .int x2), (3, .int x3)]) hx hb d_M_wants_21 hl (by decide) rfl (fun ls hl => ?_)
    refine lv_goto (tgt := 57) hx hb d_M_wants_23 (by decide) ?_
    exact hJ_3 (-1) hr _ _ _ hW (lv_sub hl [1, 2, 3, 4, 0] rfl)
def w_M_weighs (cI : ClassId) (a_r0 : Nat) (a_r0_figures : Nat) (a_r0_hampers : Nat) (a_r0_kinds : Nat) (a_r0_left0 : Nat) (a_r0_refusals : Nat) (a_r0_turnOf : Nat) (a_r0_turns0 : Nat) (a_r0_wants0 : Nat) (a_r0_weights : Nat) (v_r0_letters v_r0_letterMany v_r0_at v_r0_isBad v_r0_statements v_r0_placeIn v_r0_letterOf v_r0_told v_r0_kept v_r0_imaged v_r0_hasImage v_r0_order0 v_r0_likely0 v_r0_leftThen v_r0_row v_r0_rowMany v_r0_seed : Value) (kv : Int32 → Value) (r0_days : Int32) (r0_done0 : Int32) (r0_isTaking : Int32) (r0_keptIn : Int32) (r0_place0 : Int32) (r0_things : Int32) (r0_thrown : Int32) (r0_turned : Int32) (r0_figures : Nat → Int32) (r0_hampers : Nat → Int32) (r0_kinds : Nat → Int32) (r0_left0 : Nat → Int32) (r0_refusals : Nat → Int32) (r0_turnOf : Nat → Int32) (r0_turns0 : Nat → Int32) (r0_wants0 : Nat → Int32) (r0_weights : Nat → Int32) : va_W := [(a_r0, .inr (9, [.ref a_r0_weights, .int r0_things, .ref a_r0_kinds, .ref a_r0_figures, .int r0_days, .ref a_r0_hampers, .ref a_r0_wants0, .ref a_r0_left0, .int r0_done0, .int r0_thrown, .ref a_r0_refusals, v_r0_letters, v_r0_letterMany, v_r0_at, v_r0_isBad, v_r0_statements, v_r0_placeIn, v_r0_letterOf, v_r0_told, v_r0_kept, v_r0_imaged, v_r0_hasImage, .int r0_place0, .int r0_isTaking, (kv r0_keptIn), .ref a_r0_turns0, .ref a_r0_turnOf, .int r0_turned, v_r0_order0, v_r0_likely0, v_r0_leftThen, v_r0_row, v_r0_rowMany, v_r0_seed])), (a_r0_figures, .inl (cI, 8, .inl r0_figures)), (a_r0_hampers, .inl (cI, 8, .inl r0_hampers)), (a_r0_kinds, .inl (cI, 8, .inl r0_kinds)), (a_r0_left0, .inl (cI, 4, .inl r0_left0)), (a_r0_refusals, .inl (cI, 7, .inl r0_refusals)), (a_r0_turnOf, .inl (cI, 41, .inl r0_turnOf)), (a_r0_turns0, .inl (cI, 328, .inl r0_turns0)), (a_r0_wants0, .inl (cI, 4, .inl r0_wants0)), (a_r0_weights, .inl (cI, 6, .inl r0_weights))]
def F_M_weighs_J28_3 (r0_days : Int32) (r0_done0 : Int32) (r0_isTaking : Int32) (r0_keptIn : Int32) (r0_place0 : Int32) (r0_things : Int32) (r0_turned : Int32) (r0_figures : Nat → Int32) (r0_hampers : Nat → Int32) (r0_kinds : Nat → Int32) (r0_left0 : Nat → Int32) (r0_refusals : Nat → Int32) (r0_turnOf : Nat → Int32) (r0_turns0 : Nat → Int32) (r0_wants0 : Nat → Int32) (r0_weights : Nat → Int32) (x1 : Int32) (x2 : Int32) (s0_3 : Int32) : Option (Int32 × (Int32) × (Int32) × (Int32) × (Int32) × (Int32) × (Int32) × (Int32) × (Int32) × (Nat → Int32) × (Nat → Int32) × (Nat → Int32) × (Nat → Int32) × (Nat → Int32) × (Nat → Int32) × (Nat → Int32) × (Nat → Int32) × (Nat → Int32)) :=
  (if (0 : Int32) ≤ s0_3 then ((F_M_keepTurn r0_days r0_done0 r0_things r0_turned r0_figures r0_hampers r0_kinds r0_left0 r0_turnOf r0_turns0 r0_wants0 r0_weights).bind (fun q_5 => (ck x1 6 (ck x1 6 (some ((q_5.2.2.2.2.2.2.2.2.2.2.2.2.2.2 (Int32.toNatClampNeg x1)), q_5.1, q_5.2.1, q_5.2.2.1, q_5.2.2.2.1, q_5.2.2.2.2.1, q_5.2.2.2.2.2.1, 0, q_5.2.2.2.2.2.2.1, q_5.2.2.2.2.2.2.2.1, q_5.2.2.2.2.2.2.2.2.1, q_5.2.2.2.2.2.2.2.2.2.1, q_5.2.2.2.2.2.2.2.2.2.2.1, r0_refusals, q_5.2.2.2.2.2.2.2.2.2.2.2.1, q_5.2.2.2.2.2.2.2.2.2.2.2.2.1, q_5.2.2.2.2.2.2.2.2.2.2.2.2.2.1, (upd q_5.2.2.2.2.2.2.2.2.2.2.2.2.2.2 (Int32.toNatClampNeg x1) x2))))))) else ((F_M_refuse r0_refusals s0_3).bind (fun q_8 => (some (q_8.1, r0_days, r0_done0, r0_isTaking, r0_keptIn, r0_place0, r0_things, 0, r0_turned, r0_figures, r0_hampers, r0_kinds, r0_left0, q_8.2, r0_turnOf, r0_turns0, r0_wants0, r0_weights)))))
def F_M_weighs (r0_days : Int32) (r0_done0 : Int32) (r0_isTaking : Int32) (r0_keptIn : Int32) (r0_place0 : Int32) (r0_things : Int32) (r0_turned : Int32) (r0_figures : Nat → Int32) (r0_hampers : Nat → Int32) (r0_kinds : Nat → Int32) (r0_left0 : Nat → Int32) (r0_refusals : Nat → Int32) (r0_turnOf : Nat → Int32) (r0_turns0 : Nat → Int32) (r0_wants0 : Nat → Int32) (r0_weights : Nat → Int32) (x1 : Int32) (x2 : Int32) : Option (Int32 × (Int32) × (Int32) × (Int32) × (Int32) × (Int32) × (Int32) × (Int32) × (Int32) × (Nat → Int32) × (Nat → Int32) × (Nat → Int32) × (Nat → Int32) × (Nat → Int32) × (Nat → Int32) × (Nat → Int32) × (Nat → Int32) × (Nat → Int32)) :=
  ((F_M_in (Int32.toInt64 x1) (0 : Int64) (5 : Int64)).bind (fun q_1 => (if q_1 = 0 then (F_M_weighs_J28_3 r0_days r0_done0 r0_isTaking r0_keptIn r0_place0 r0_things r0_turned r0_figures r0_hampers r0_kinds r0_left0 r0_refusals r0_turnOf r0_turns0 r0_wants0 r0_weights x1 x2 (-1)) else ((F_M_wrongNumber x2 (0 : Int32) (9 : Int32)).bind (fun q_9 => (F_M_weighs_J28_3 r0_days r0_done0 r0_isTaking r0_keptIn r0_place0 r0_things r0_turned r0_figures r0_hampers r0_kinds r0_left0 r0_refusals r0_turnOf r0_turns0 r0_wants0 r0_weights x1 x2 q_9))))))
set_option maxHeartbeats 4000000 in
set_option maxRecDepth 100000 in
theorem C_M_weighs (l : Launch) (D : va_G) (cI cS : ClassId) (a_r0 : Nat) (a_r0_figures : Nat) (a_r0_hampers : Nat) (a_r0_kinds : Nat) (a_r0_left0 : Nat) (a_r0_refusals : Nat) (a_r0_turnOf : Nat) (a_r0_turns0 : Nat) (a_r0_wants0 : Nat) (a_r0_weights : Nat) (v_r0_letters v_r0_letterMany v_r0_at v_r0_isBad v_r0_statements v_r0_placeIn v_r0_letterOf v_r0_told v_r0_kept v_r0_imaged v_r0_hasImage v_r0_order0 v_r0_likely0 v_r0_leftThen v_r0_row v_r0_rowMany v_r0_seed : Value) (kv : Int32 → Value) (hkv_turnOf : kv 3 = .ref a_r0_turnOf) (r0_days : Int32) (r0_done0 : Int32) (r0_isTaking : Int32) (r0_keptIn : Int32) (r0_place0 : Int32) (r0_things : Int32) (r0_thrown : Int32) (r0_turned : Int32) (r0_figures : Nat → Int32) (r0_hampers : Nat → Int32) (r0_kinds : Nat → Int32) (r0_left0 : Nat → Int32) (r0_refusals : Nat → Int32) (r0_turnOf : Nat → Int32) (r0_turns0 : Nat → Int32) (r0_wants0 : Nat → Int32) (r0_weights : Nat → Int32) (x1 : Int32) (x2 : Int32) (o : Int32 × (Int32) × (Int32) × (Int32) × (Int32) × (Int32) × (Int32) × (Int32) × (Int32) × (Nat → Int32) × (Nat → Int32) × (Nat → Int32) × (Nat → Int32) × (Nat → Int32) × (Nat → Int32) × (Nat → Int32) × (Nat → Int32) × (Nat → Int32)) (hr : F_M_weighs r0_days r0_done0 r0_isTaking r0_keptIn r0_place0 r0_things r0_turned r0_figures r0_hampers r0_kinds r0_left0 r0_refusals r0_turnOf r0_turns0 r0_wants0 r0_weights x1 x2 = some o) : ctI l y_M_weighs (Cond.code y_M_weighs b_M_weighs 5 (some FieldType.int)) (rmd 3) D (kTy cI cS) [.ref a_r0, .int x1, .int x2] (w_M_weighs cI a_r0 a_r0_figures a_r0_hampers a_r0_kinds a_r0_left0 a_r0_refusals a_r0_turnOf a_r0_turns0 a_r0_wants0 a_r0_weights v_r0_letters v_r0_letterMany v_r0_at v_r0_isBad v_r0_statements v_r0_placeIn v_r0_letterOf v_r0_told v_r0_kept v_r0_imaged v_r0_hasImage v_r0_order0 v_r0_likely0 v_r0_leftThen v_r0_row v_r0_rowMany v_r0_seed kv r0_days r0_done0 r0_isTaking r0_keptIn r0_place0 r0_things r0_thrown r0_turned r0_figures r0_hampers r0_kinds r0_left0 r0_refusals r0_turnOf r0_turns0 r0_wants0 r0_weights) (w_M_weighs cI a_r0 a_r0_figures a_r0_hampers a_r0_kinds a_r0_left0 a_r0_refusals a_r0_turnOf a_r0_turns0 a_r0_wants0 a_r0_weights v_r0_letters v_r0_letterMany v_r0_at v_r0_isBad v_r0_statements v_r0_placeIn v_r0_letterOf v_r0_told v_r0_kept v_r0_imaged v_r0_hasImage v_r0_order0 v_r0_likely0 v_r0_leftThen v_r0_row v_r0_rowMany v_r0_seed kv o.2.1 o.2.2.1 o.2.2.2.1 o.2.2.2.2.1 o.2.2.2.2.2.1 o.2.2.2.2.2.2.1 o.2.2.2.2.2.2.2.1 o.2.2.2.2.2.2.2.2.1 o.2.2.2.2.2.2.2.2.2.1 o.2.2.2.2.2.2.2.2.2.2.1 o.2.2.2.2.2.2.2.2.2.2.2.1 o.2.2.2.2.2.2.2.2.2.2.2.2.1 o.2.2.2.2.2.2.2.2.2.2.2.2.2.1 o.2.2.2.2.2.2.2.2.2.2.2.2.2.2.1 o.2.2.2.2.2.2.2.2.2.2.2.2.2.2.2.1 o.2.2.2.2.2.2.2.2.2.2.2.2.2.2.2.2.1 o.2.2.2.2.2.2.2.2.2.2.2.2.2.2.2.2.2) o.1 := by
  unfold F_M_weighs at hr
  refine ⟨rfl, fun sz => ct_of (w0 := (w_M_weighs cI a_r0 a_r0_figures a_r0_hampers a_r0_kinds a_r0_left0 a_r0_refusals a_r0_turnOf a_r0_turns0 a_r0_wants0 a_r0_weights v_r0_letters v_r0_letterMany v_r0_at v_r0_isBad v_r0_statements v_r0_placeIn v_r0_letterOf v_r0_told v_r0_kept v_r0_imaged v_r0_hasImage v_r0_order0 v_r0_likely0 v_r0_leftThen v_r0_row v_r0_rowMany v_r0_seed kv r0_days r0_done0 r0_isTaking r0_keptIn r0_place0 r0_things r0_thrown r0_turned r0_figures r0_hampers r0_kinds r0_left0 r0_refusals r0_turnOf r0_turns0 r0_wants0 r0_weights)) (Qc := fun A => qI D (w_M_weighs cI a_r0 a_r0_figures a_r0_hampers a_r0_kinds a_r0_left0 a_r0_refusals a_r0_turnOf a_r0_turns0 a_r0_wants0 a_r0_weights v_r0_letters v_r0_letterMany v_r0_at v_r0_isBad v_r0_statements v_r0_placeIn v_r0_letterOf v_r0_told v_r0_kept v_r0_imaged v_r0_hasImage v_r0_order0 v_r0_likely0 v_r0_leftThen v_r0_row v_r0_rowMany v_r0_seed kv o.2.1 o.2.2.1 o.2.2.2.1 o.2.2.2.2.1 o.2.2.2.2.2.1 o.2.2.2.2.2.2.1 o.2.2.2.2.2.2.2.1 o.2.2.2.2.2.2.2.2.1 o.2.2.2.2.2.2.2.2.2.1 o.2.2.2.2.2.2.2.2.2.2.1 o.2.2.2.2.2.2.2.2.2.2.2.1 o.2.2.2.2.2.2.2.2.2.2.2.2.1 o.2.2.2.2.2.2.2.2.2.2.2.2.2.1 o.2.2.2.2.2.2.2.2.2.2.2.2.2.2.1 o.2.2.2.2.2.2.2.2.2.2.2.2.2.2.2.1 o.2.2.2.2.2.2.2.2.2.2.2.2.2.2.2.2.1 o.2.2.2.2.2.2.2.2.2.2.2.2.2.2.2.2.2) o.1 A) rfl (Nat.le_of_ble_eq_true rfl) ?_ sz⟩
  intro p e s m below meth c A hA C hret ls hl hW
  have C : cx p s m ([.ref a_r0, .int x1, .int x2] : List Value).toArray meth c b_M_weighs 5 R_M D (kTy cI cS) (Cond.code y_M_weighs b_M_weighs 5 (some FieldType.int)) := C
  obtain ⟨hx, hb, hml, hown, hts, hK, hlk, hN⟩ := id C
  have hl : lv_has ls 5 [(0, .ref a_r0), (1, .int x1), (2, .int x2)] := hl
  obtain ⟨Q, hQ⟩ : ∃ Q, Q = MQ below (qI D (w_M_weighs cI a_r0 a_r0_figures a_r0_hampers a_r0_kinds a_r0_left0 a_r0_refusals a_r0_turnOf a_r0_turns0 a_r0_wants0 a_r0_weights v_r0_letters v_r0_letterMany v_r0_at v_r0_isBad v_r0_statements v_r0_placeIn v_r0_letterOf v_r0_told v_r0_kept v_r0_imaged v_r0_hasImage v_r0_order0 v_r0_likely0 v_r0_leftThen v_r0_row v_r0_rowMany v_r0_seed kv o.2.1 o.2.2.1 o.2.2.2.1 o.2.2.2.2.1 o.2.2.2.2.2.1 o.2.2.2.2.2.2.1 o.2.2.2.2.2.2.2.1 o.2.2.2.2.2.2.2.2.1 o.2.2.2.2.2.2.2.2.2.1 o.2.2.2.2.2.2.2.2.2.2.1 o.2.2.2.2.2.2.2.2.2.2.2.1 o.2.2.2.2.2.2.2.2.2.2.2.2.1 o.2.2.2.2.2.2.2.2.2.2.2.2.2.1 o.2.2.2.2.2.2.2.2.2.2.2.2.2.2.1 o.2.2.2.2.2.2.2.2.2.2.2.2.2.2.2.1 o.2.2.2.2.2.2.2.2.2.2.2.2.2.2.2.2.1 o.2.2.2.2.2.2.2.2.2.2.2.2.2.2.2.2.2) o.1 A) ([.ref a_r0, .int x1, .int x2] : List Value).toArray s 0 0 A := ⟨_, rfl⟩
  rw [← hQ]
  refine lv_aload_n hx hb d_M_weighs_0 rfl (lv_at hl 0 rfl) ?_
  refine lv_iconst (v := 0) hx hb d_M_weighs_1 (by decide) ?_
  refine k_put i_M t_M_ok n_M C hW 0 rfl rfl 9 (by decide) qf_M_67 rfl rfl (ty := .int) rfl rfl rfl (Nat.le_of_ble_eq_true rfl) (ws' := (w_M_weighs cI a_r0 a_r0_figures a_r0_hampers a_r0_kinds a_r0_left0 a_r0_refusals a_r0_turnOf a_r0_turns0 a_r0_wants0 a_r0_weights v_r0_letters v_r0_letterMany v_r0_at v_r0_isBad v_r0_statements v_r0_placeIn v_r0_letterOf v_r0_told v_r0_kept v_r0_imaged v_r0_hasImage v_r0_order0 v_r0_likely0 v_r0_leftThen v_r0_row v_r0_rowMany v_r0_seed kv r0_days r0_done0 r0_isTaking r0_keptIn r0_place0 r0_things 0 r0_turned r0_figures r0_hampers r0_kinds r0_left0 r0_refusals r0_turnOf r0_turns0 r0_wants0 r0_weights)) rfl d_M_weighs_2 (fun H locs hW => ?_)
  refine lv_iload_n hx hb d_M_weighs_5 rfl (lv_at hl 1 rfl) ?_
  refine lv_i2l hx hb d_M_weighs_6 rfl ?_
  refine lv_lconst (v := 0) hx hb d_M_weighs_7 (by decide) ?_
  refine lv_ldc2 (v := 5) hx hb hown (hts _ (List.mem_cons_of_mem _ (qc_M_206))) d_M_weighs_8 ?_
  obtain ⟨q_1, hc_1, hr⟩ := ob hr
  have ct_1 := C_M_in l D cI cS (Int32.toInt64 x1) 0 (5 : Int64) q_1 hc_1
  refine k_goIp hA hW [] rfl rfl (k_runS C hA hW mw_M_in ms_M_in (ct_1.2 _) [] rfl rfl qm_M_74 ⟨Nat.le_of_ble_eq_true rfl, Nat.le_of_ble_eq_true rfl, Nat.zero_le _, Nat.zero_le _⟩ rfl rfl (Nat.le_of_ble_eq_true rfl) hl.1 d_M_weighs_11) (fun H locs hW => ?_)
  have hJ_3 : ∀ (s0_3 : Int32), F_M_weighs_J28_3 r0_days r0_done0 r0_isTaking r0_keptIn r0_place0 r0_things r0_turned r0_figures r0_hampers r0_kinds r0_left0 r0_refusals r0_turnOf r0_turns0 r0_wants0 r0_weights x1 x2 s0_3 = some o → ∀ (H : Heap) (locs : List Loc) (ls : Array Slot), wd A s.heap D (w_M_weighs cI a_r0 a_r0_figures a_r0_hampers a_r0_kinds a_r0_left0 a_r0_refusals a_r0_turnOf a_r0_turns0 a_r0_wants0 a_r0_weights v_r0_letters v_r0_letterMany v_r0_at v_r0_isBad v_r0_statements v_r0_placeIn v_r0_letterOf v_r0_told v_r0_kept v_r0_imaged v_r0_hasImage v_r0_order0 v_r0_likely0 v_r0_leftThen v_r0_row v_r0_rowMany v_r0_seed kv r0_days r0_done0 r0_isTaking r0_keptIn r0_place0 r0_things 0 r0_turned r0_figures r0_hampers r0_kinds r0_left0 r0_refusals r0_turnOf r0_turns0 r0_wants0 r0_weights) H locs → lv_has ls 5 [(0, .ref a_r0), (1, .int x1), (2, .int x2)] → W p l e (rmd 3) s m ([.ref a_r0, .int x1, .int x2] : List Value).toArray below meth c H locs 0 0 Q (F0 m 28 ls [.int s0_3]) := by
    intro s0_3 hr H locs ls hW hl
    unfold F_M_weighs_J28_3 at hr
    refine lv_istore_n (lv' := [(3, .int s0_3), (0, .ref a_r0), (1, .int x1), (2, .int x2)]) hx hb d_M_weighs_28 rfl hl (by decide) rfl (fun ls hl => ?_)
    refine lv_iload_n hx hb d_M_weighs_29 rfl (lv_at hl 0 rfl) ?_
    refine lv_if_ge (tgt := 39) hx hb d_M_weighs_30 (by decide) (fun c_4 => ?_) (fun c_4 => ?_)
    · replace hr := ip c_4 hr
      refine lv_aload_n hx hb d_M_weighs_39 rfl (lv_at hl 1 rfl) ?_
      obtain ⟨q_5, hc_5, hr⟩ := ob hr
      have ct_5 := C_M_keepTurn l D cI cS a_r0 a_r0_figures a_r0_hampers a_r0_kinds a_r0_left0 a_r0_turnOf a_r0_turns0 a_r0_wants0 a_r0_weights (Value.int 0) (Value.ref a_r0_refusals) v_r0_letters v_r0_letterMany v_r0_at v_r0_isBad v_r0_statements v_r0_placeIn v_r0_letterOf v_r0_told v_r0_kept v_r0_imaged v_r0_hasImage v_r0_order0 v_r0_likely0 v_r0_leftThen v_r0_row v_r0_rowMany v_r0_seed kv hkv_turnOf r0_days r0_done0 r0_isTaking r0_keptIn r0_place0 r0_things r0_turned r0_figures r0_hampers r0_kinds r0_left0 r0_turnOf r0_turns0 r0_wants0 r0_weights q_5 hc_5
      refine k_goV hA hW [0, 1, 2, 3, 4, 6, 7, 8, 9] rfl ct_5.1 (ws' := (w_M_weighs cI a_r0 a_r0_figures a_r0_hampers a_r0_kinds a_r0_left0 a_r0_refusals a_r0_turnOf a_r0_turns0 a_r0_wants0 a_r0_weights v_r0_letters v_r0_letterMany v_r0_at v_r0_isBad v_r0_statements v_r0_placeIn v_r0_letterOf v_r0_told v_r0_kept v_r0_imaged v_r0_hasImage v_r0_order0 v_r0_likely0 v_r0_leftThen v_r0_row v_r0_rowMany v_r0_seed kv q_5.1 q_5.2.1 q_5.2.2.1 q_5.2.2.2.1 q_5.2.2.2.2.1 q_5.2.2.2.2.2.1 0 q_5.2.2.2.2.2.2.1 q_5.2.2.2.2.2.2.2.1 q_5.2.2.2.2.2.2.2.2.1 q_5.2.2.2.2.2.2.2.2.2.1 q_5.2.2.2.2.2.2.2.2.2.2.1 r0_refusals q_5.2.2.2.2.2.2.2.2.2.2.2.1 q_5.2.2.2.2.2.2.2.2.2.2.2.2.1 q_5.2.2.2.2.2.2.2.2.2.2.2.2.2.1 q_5.2.2.2.2.2.2.2.2.2.2.2.2.2.2)) rfl (k_runV C hA hW mw_M_keepTurn mv_M_keepTurn (ct_5.2 _) [0, 1, 2, 3, 4, 6, 7, 8, 9] rfl rfl 0 rfl rfl qm_M_212 ⟨Nat.le_of_ble_eq_true rfl, Nat.le_of_ble_eq_true rfl, Nat.zero_le _, Nat.zero_le _⟩ rfl rfl (Nat.le_of_ble_eq_true rfl) hl.1 d_M_weighs_40) (fun H locs hW => ?_)
      refine lv_aload_n hx hb d_M_weighs_43 rfl (lv_at hl 1 rfl) ?_
      refine k_get i_M C hW 0 rfl rfl 0 (by decide) qf_M_7 rfl rfl d_M_weighs_44 ?_
      refine lv_iload_n hx hb d_M_weighs_47 rfl (lv_at hl 2 rfl) ?_
      obtain ⟨h_6, hr⟩ := ck_some hr
      refine k_iald C hW 9 rfl h_6 d_M_weighs_48 ?_
      refine lv_istore (lv' := [(4, .int (q_5.2.2.2.2.2.2.2.2.2.2.2.2.2.2 (Int32.toNatClampNeg x1))), (3, .int s0_3), (0, .ref a_r0), (1, .int x1), (2, .int x2)]) hx hb d_M_weighs_49 hl (by decide) rfl (fun ls hl => ?_)
      refine lv_aload_n hx hb d_M_weighs_51 rfl (lv_at hl 2 rfl) ?_
      refine k_get i_M C hW 0 rfl rfl 0 (by decide) qf_M_7 rfl rfl d_M_weighs_52 ?_
      refine lv_iload_n hx hb d_M_weighs_55 rfl (lv_at hl 3 rfl) ?_
      refine lv_iload_n hx hb d_M_weighs_56 rfl (lv_at hl 4 rfl) ?_
      obtain ⟨h_7, hr⟩ := ck_some hr
      refine k_iast C hW 9 rfl h_7 (ws' := (w_M_weighs cI a_r0 a_r0_figures a_r0_hampers a_r0_kinds a_r0_left0 a_r0_refusals a_r0_turnOf a_r0_turns0 a_r0_wants0 a_r0_weights v_r0_letters v_r0_letterMany v_r0_at v_r0_isBad v_r0_statements v_r0_placeIn v_r0_letterOf v_r0_told v_r0_kept v_r0_imaged v_r0_hasImage v_r0_order0 v_r0_likely0 v_r0_leftThen v_r0_row v_r0_rowMany v_r0_seed kv q_5.1 q_5.2.1 q_5.2.2.1 q_5.2.2.2.1 q_5.2.2.2.2.1 q_5.2.2.2.2.2.1 0 q_5.2.2.2.2.2.2.1 q_5.2.2.2.2.2.2.2.1 q_5.2.2.2.2.2.2.2.2.1 q_5.2.2.2.2.2.2.2.2.2.1 q_5.2.2.2.2.2.2.2.2.2.2.1 r0_refusals q_5.2.2.2.2.2.2.2.2.2.2.2.1 q_5.2.2.2.2.2.2.2.2.2.2.2.2.1 q_5.2.2.2.2.2.2.2.2.2.2.2.2.2.1 (upd q_5.2.2.2.2.2.2.2.2.2.2.2.2.2.2 (Int32.toNatClampNeg x1) x2))) rfl d_M_weighs_57 (fun H locs hW => ?_)
      refine lv_iload hx hb d_M_weighs_58 (lv_at hl 0 rfl) ?_
      obtain rfl := Option.some.inj hr
      rw [hQ]; exact k_iret C hret hW d_M_weighs_60
    · replace hr := iN c_4 hr
      refine lv_aload_n hx hb d_M_weighs_33 rfl (lv_at hl 1 rfl) ?_
      refine lv_iload_n hx hb d_M_weighs_34 rfl (lv_at hl 0 rfl) ?_
      obtain ⟨q_8, hc_8, hr⟩ := ob hr
      have ct_8 := C_M_refuse l D cI cS a_r0 a_r0_refusals (Value.ref a_r0_weights) (Value.int r0_things) (Value.ref a_r0_kinds) (Value.ref a_r0_figures) (Value.int r0_days) (Value.ref a_r0_hampers) (Value.ref a_r0_wants0) (Value.ref a_r0_left0) (Value.int r0_done0) (Value.int 0) v_r0_letters v_r0_letterMany v_r0_at v_r0_isBad v_r0_statements v_r0_placeIn v_r0_letterOf v_r0_told v_r0_kept v_r0_imaged v_r0_hasImage (Value.int r0_place0) (Value.int r0_isTaking) (kv r0_keptIn) (Value.ref a_r0_turns0) (Value.ref a_r0_turnOf) (Value.int r0_turned) v_r0_order0 v_r0_likely0 v_r0_leftThen v_r0_row v_r0_rowMany v_r0_seed r0_refusals s0_3 q_8 hc_8
      refine k_goI hA hW [0, 5] rfl ct_8.1 (ws' := (w_M_weighs cI a_r0 a_r0_figures a_r0_hampers a_r0_kinds a_r0_left0 a_r0_refusals a_r0_turnOf a_r0_turns0 a_r0_wants0 a_r0_weights v_r0_letters v_r0_letterMany v_r0_at v_r0_isBad v_r0_statements v_r0_placeIn v_r0_letterOf v_r0_told v_r0_kept v_r0_imaged v_r0_hasImage v_r0_order0 v_r0_likely0 v_r0_leftThen v_r0_row v_r0_rowMany v_r0_seed kv r0_days r0_done0 r0_isTaking r0_keptIn r0_place0 r0_things 0 r0_turned r0_figures r0_hampers r0_kinds r0_left0 q_8.2 r0_turnOf r0_turns0 r0_wants0 r0_weights)) rfl (k_runV C hA hW mw_M_refuse mv_M_refuse (ct_8.2 _) [0, 5] rfl rfl 0 rfl rfl qm_M_108 ⟨Nat.le_of_ble_eq_true rfl, Nat.le_of_ble_eq_true rfl, Nat.zero_le _, Nat.zero_le _⟩ rfl rfl (Nat.le_of_ble_eq_true rfl) hl.1 d_M_weighs_35) (fun H locs hW => ?_)
      obtain rfl := Option.some.inj hr
      rw [hQ]; exact k_iret C hret hW d_M_weighs_38
  refine lv_if_eq (tgt := 27) hx hb d_M_weighs_14 (by decide) (fun c_2 => ?_) (fun c_2 => ?_)
  · replace hr := ip c_2 hr
    refine lv_iconst (v := (-1)) hx hb d_M_weighs_27 (by decide) ?_
    exact hJ_3 (-1) hr _ _ _ hW (lv_sub hl [0, 1, 2] rfl)
  · replace hr := iN c_2 hr
    refine lv_iload_n hx hb d_M_weighs_17 rfl (lv_at hl 2 rfl) ?_
    refine lv_iconst (v := 0) hx hb d_M_weighs_18 (by decide) ?_
    refine lv_bipush (v := 9) hx hb d_M_weighs_19 (by decide) ?_
    obtain ⟨q_9, hc_9, hr⟩ := ob hr
    have ct_9 := C_M_wrongNumber l D cI cS x2 0 9 q_9 hc_9
    refine k_goIp hA hW [] rfl rfl (k_runS C hA hW mw_M_wrongNumber ms_M_wrongNumber (ct_9.2 _) [] rfl rfl qm_M_208 ⟨Nat.le_of_ble_eq_true rfl, Nat.le_of_ble_eq_true rfl, Nat.zero_le _, Nat.zero_le _⟩ rfl rfl (Nat.le_of_ble_eq_true rfl) hl.1 d_M_weighs_21) (fun H locs hW => ?_)
    refine lv_goto (tgt := 28) hx hb d_M_weighs_24 (by decide) ?_
    exact hJ_3 q_9 hr _ _ _ hW (lv_sub hl [0, 1, 2] rfl)
def w_M_weight (cI : ClassId) (a_r0 : Nat) (a_r0_refusals : Nat) (a_r0_weights : Nat) (v_r0_things v_r0_kinds v_r0_figures v_r0_days v_r0_hampers v_r0_wants0 v_r0_left0 v_r0_done0 v_r0_letters v_r0_letterMany v_r0_at v_r0_isBad v_r0_statements v_r0_placeIn v_r0_letterOf v_r0_told v_r0_kept v_r0_imaged v_r0_hasImage v_r0_place0 v_r0_isTaking v_r0_keptIn v_r0_turns0 v_r0_turnOf v_r0_turned v_r0_order0 v_r0_likely0 v_r0_leftThen v_r0_row v_r0_rowMany v_r0_seed : Value) (r0_thrown : Int32) (r0_refusals : Nat → Int32) (r0_weights : Nat → Int32) : va_W := [(a_r0, .inr (9, [.ref a_r0_weights, v_r0_things, v_r0_kinds, v_r0_figures, v_r0_days, v_r0_hampers, v_r0_wants0, v_r0_left0, v_r0_done0, .int r0_thrown, .ref a_r0_refusals, v_r0_letters, v_r0_letterMany, v_r0_at, v_r0_isBad, v_r0_statements, v_r0_placeIn, v_r0_letterOf, v_r0_told, v_r0_kept, v_r0_imaged, v_r0_hasImage, v_r0_place0, v_r0_isTaking, v_r0_keptIn, v_r0_turns0, v_r0_turnOf, v_r0_turned, v_r0_order0, v_r0_likely0, v_r0_leftThen, v_r0_row, v_r0_rowMany, v_r0_seed])), (a_r0_refusals, .inl (cI, 7, .inl r0_refusals)), (a_r0_weights, .inl (cI, 6, .inl r0_weights))]
def F_M_weight (r0_refusals : Nat → Int32) (r0_weights : Nat → Int32) (x1 : Int32) : Option (Int32 × (Int32) × (Nat → Int32)) :=
  ((F_M_in (Int32.toInt64 x1) (0 : Int64) (5 : Int64)).bind (fun q_1 => (if q_1 = 0 then ((F_M_refuse r0_refusals ((-1) : Int32)).bind (fun q_3 => (some (q_3.1, 0, q_3.2)))) else (ck x1 6 (some ((r0_weights (Int32.toNatClampNeg x1)), 0, r0_refusals))))))
set_option maxHeartbeats 4000000 in
set_option maxRecDepth 100000 in
theorem C_M_weight (l : Launch) (D : va_G) (cI cS : ClassId) (a_r0 : Nat) (a_r0_refusals : Nat) (a_r0_weights : Nat) (v_r0_things v_r0_kinds v_r0_figures v_r0_days v_r0_hampers v_r0_wants0 v_r0_left0 v_r0_done0 v_r0_letters v_r0_letterMany v_r0_at v_r0_isBad v_r0_statements v_r0_placeIn v_r0_letterOf v_r0_told v_r0_kept v_r0_imaged v_r0_hasImage v_r0_place0 v_r0_isTaking v_r0_keptIn v_r0_turns0 v_r0_turnOf v_r0_turned v_r0_order0 v_r0_likely0 v_r0_leftThen v_r0_row v_r0_rowMany v_r0_seed : Value) (r0_thrown : Int32) (r0_refusals : Nat → Int32) (r0_weights : Nat → Int32) (x1 : Int32) (o : Int32 × (Int32) × (Nat → Int32)) (hr : F_M_weight r0_refusals r0_weights x1 = some o) : ctI l y_M_weight (Cond.code y_M_weight b_M_weight 2 (some FieldType.int)) (rmd 1) D (kTy cI cS) [.ref a_r0, .int x1] (w_M_weight cI a_r0 a_r0_refusals a_r0_weights v_r0_things v_r0_kinds v_r0_figures v_r0_days v_r0_hampers v_r0_wants0 v_r0_left0 v_r0_done0 v_r0_letters v_r0_letterMany v_r0_at v_r0_isBad v_r0_statements v_r0_placeIn v_r0_letterOf v_r0_told v_r0_kept v_r0_imaged v_r0_hasImage v_r0_place0 v_r0_isTaking v_r0_keptIn v_r0_turns0 v_r0_turnOf v_r0_turned v_r0_order0 v_r0_likely0 v_r0_leftThen v_r0_row v_r0_rowMany v_r0_seed r0_thrown r0_refusals r0_weights) (w_M_weight cI a_r0 a_r0_refusals a_r0_weights v_r0_things v_r0_kinds v_r0_figures v_r0_days v_r0_hampers v_r0_wants0 v_r0_left0 v_r0_done0 v_r0_letters v_r0_letterMany v_r0_at v_r0_isBad v_r0_statements v_r0_placeIn v_r0_letterOf v_r0_told v_r0_kept v_r0_imaged v_r0_hasImage v_r0_place0 v_r0_isTaking v_r0_keptIn v_r0_turns0 v_r0_turnOf v_r0_turned v_r0_order0 v_r0_likely0 v_r0_leftThen v_r0_row v_r0_rowMany v_r0_seed o.2.1 o.2.2 r0_weights) o.1 := by
  unfold F_M_weight at hr
  refine ⟨rfl, fun sz => ct_of (w0 := (w_M_weight cI a_r0 a_r0_refusals a_r0_weights v_r0_things v_r0_kinds v_r0_figures v_r0_days v_r0_hampers v_r0_wants0 v_r0_left0 v_r0_done0 v_r0_letters v_r0_letterMany v_r0_at v_r0_isBad v_r0_statements v_r0_placeIn v_r0_letterOf v_r0_told v_r0_kept v_r0_imaged v_r0_hasImage v_r0_place0 v_r0_isTaking v_r0_keptIn v_r0_turns0 v_r0_turnOf v_r0_turned v_r0_order0 v_r0_likely0 v_r0_leftThen v_r0_row v_r0_rowMany v_r0_seed r0_thrown r0_refusals r0_weights)) (Qc := fun A => qI D (w_M_weight cI a_r0 a_r0_refusals a_r0_weights v_r0_things v_r0_kinds v_r0_figures v_r0_days v_r0_hampers v_r0_wants0 v_r0_left0 v_r0_done0 v_r0_letters v_r0_letterMany v_r0_at v_r0_isBad v_r0_statements v_r0_placeIn v_r0_letterOf v_r0_told v_r0_kept v_r0_imaged v_r0_hasImage v_r0_place0 v_r0_isTaking v_r0_keptIn v_r0_turns0 v_r0_turnOf v_r0_turned v_r0_order0 v_r0_likely0 v_r0_leftThen v_r0_row v_r0_rowMany v_r0_seed o.2.1 o.2.2 r0_weights) o.1 A) rfl (Nat.le_of_ble_eq_true rfl) ?_ sz⟩
  intro p e s m below meth c A hA C hret ls hl hW
  have C : cx p s m ([.ref a_r0, .int x1] : List Value).toArray meth c b_M_weight 2 R_M D (kTy cI cS) (Cond.code y_M_weight b_M_weight 2 (some FieldType.int)) := C
  obtain ⟨hx, hb, hml, hown, hts, hK, hlk, hN⟩ := id C
  have hl : lv_has ls 2 [(0, .ref a_r0), (1, .int x1)] := hl
  obtain ⟨Q, hQ⟩ : ∃ Q, Q = MQ below (qI D (w_M_weight cI a_r0 a_r0_refusals a_r0_weights v_r0_things v_r0_kinds v_r0_figures v_r0_days v_r0_hampers v_r0_wants0 v_r0_left0 v_r0_done0 v_r0_letters v_r0_letterMany v_r0_at v_r0_isBad v_r0_statements v_r0_placeIn v_r0_letterOf v_r0_told v_r0_kept v_r0_imaged v_r0_hasImage v_r0_place0 v_r0_isTaking v_r0_keptIn v_r0_turns0 v_r0_turnOf v_r0_turned v_r0_order0 v_r0_likely0 v_r0_leftThen v_r0_row v_r0_rowMany v_r0_seed o.2.1 o.2.2 r0_weights) o.1 A) ([.ref a_r0, .int x1] : List Value).toArray s 0 0 A := ⟨_, rfl⟩
  rw [← hQ]
  refine lv_aload_n hx hb d_M_weight_0 rfl (lv_at hl 0 rfl) ?_
  refine lv_iconst (v := 0) hx hb d_M_weight_1 (by decide) ?_
  refine k_put i_M t_M_ok n_M C hW 0 rfl rfl 9 (by decide) qf_M_67 rfl rfl (ty := .int) rfl rfl rfl (Nat.le_of_ble_eq_true rfl) (ws' := (w_M_weight cI a_r0 a_r0_refusals a_r0_weights v_r0_things v_r0_kinds v_r0_figures v_r0_days v_r0_hampers v_r0_wants0 v_r0_left0 v_r0_done0 v_r0_letters v_r0_letterMany v_r0_at v_r0_isBad v_r0_statements v_r0_placeIn v_r0_letterOf v_r0_told v_r0_kept v_r0_imaged v_r0_hasImage v_r0_place0 v_r0_isTaking v_r0_keptIn v_r0_turns0 v_r0_turnOf v_r0_turned v_r0_order0 v_r0_likely0 v_r0_leftThen v_r0_row v_r0_rowMany v_r0_seed 0 r0_refusals r0_weights)) rfl d_M_weight_2 (fun H locs hW => ?_)
  refine lv_iload_n hx hb d_M_weight_5 rfl (lv_at hl 1 rfl) ?_
  refine lv_i2l hx hb d_M_weight_6 rfl ?_
  refine lv_lconst (v := 0) hx hb d_M_weight_7 (by decide) ?_
  refine lv_ldc2 (v := 5) hx hb hown (hts _ (List.mem_cons_of_mem _ (qc_M_206))) d_M_weight_8 ?_
  obtain ⟨q_1, hc_1, hr⟩ := ob hr
  have ct_1 := C_M_in l D cI cS (Int32.toInt64 x1) 0 (5 : Int64) q_1 hc_1
  refine k_goIp hA hW [] rfl rfl (k_runS C hA hW mw_M_in ms_M_in (ct_1.2 _) [] rfl rfl qm_M_74 ⟨Nat.le_of_ble_eq_true rfl, Nat.le_of_ble_eq_true rfl, Nat.zero_le _, Nat.zero_le _⟩ rfl rfl (Nat.le_of_ble_eq_true rfl) hl.1 d_M_weight_11) (fun H locs hW => ?_)
  refine lv_if_eq (tgt := 26) hx hb d_M_weight_14 (by decide) (fun c_2 => ?_) (fun c_2 => ?_)
  · replace hr := ip c_2 hr
    refine lv_aload_n hx hb d_M_weight_26 rfl (lv_at hl 0 rfl) ?_
    refine lv_iconst (v := (-1)) hx hb d_M_weight_27 (by decide) ?_
    obtain ⟨q_3, hc_3, hr⟩ := ob hr
    have ct_3 := C_M_refuse l D cI cS a_r0 a_r0_refusals (Value.ref a_r0_weights) v_r0_things v_r0_kinds v_r0_figures v_r0_days v_r0_hampers v_r0_wants0 v_r0_left0 v_r0_done0 (Value.int 0) v_r0_letters v_r0_letterMany v_r0_at v_r0_isBad v_r0_statements v_r0_placeIn v_r0_letterOf v_r0_told v_r0_kept v_r0_imaged v_r0_hasImage v_r0_place0 v_r0_isTaking v_r0_keptIn v_r0_turns0 v_r0_turnOf v_r0_turned v_r0_order0 v_r0_likely0 v_r0_leftThen v_r0_row v_r0_rowMany v_r0_seed r0_refusals (-1) q_3 hc_3
    refine k_goI hA hW [0, 1] rfl ct_3.1 (ws' := (w_M_weight cI a_r0 a_r0_refusals a_r0_weights v_r0_things v_r0_kinds v_r0_figures v_r0_days v_r0_hampers v_r0_wants0 v_r0_left0 v_r0_done0 v_r0_letters v_r0_letterMany v_r0_at v_r0_isBad v_r0_statements v_r0_placeIn v_r0_letterOf v_r0_told v_r0_kept v_r0_imaged v_r0_hasImage v_r0_place0 v_r0_isTaking v_r0_keptIn v_r0_turns0 v_r0_turnOf v_r0_turned v_r0_order0 v_r0_likely0 v_r0_leftThen v_r0_row v_r0_rowMany v_r0_seed 0 q_3.2 r0_weights)) rfl (k_runV C hA hW mw_M_refuse mv_M_refuse (ct_3.2 _) [0, 1] rfl rfl 0 rfl rfl qm_M_108 ⟨Nat.le_of_ble_eq_true rfl, Nat.le_of_ble_eq_true rfl, Nat.zero_le _, Nat.zero_le _⟩ rfl rfl (Nat.le_of_ble_eq_true rfl) hl.1 d_M_weight_28) (fun H locs hW => ?_)
    obtain rfl := Option.some.inj hr
    rw [hQ]; exact k_iret C hret hW d_M_weight_31
  · replace hr := iN c_2 hr
    refine lv_aload_n hx hb d_M_weight_17 rfl (lv_at hl 0 rfl) ?_
    refine k_get i_M C hW 0 rfl rfl 0 (by decide) qf_M_7 rfl rfl d_M_weight_18 ?_
    refine lv_iload_n hx hb d_M_weight_21 rfl (lv_at hl 1 rfl) ?_
    obtain ⟨h_4, hr⟩ := ck_some hr
    refine k_iald C hW 2 rfl h_4 d_M_weight_22 ?_
    refine lv_goto (tgt := 31) hx hb d_M_weight_23 (by decide) ?_
    obtain rfl := Option.some.inj hr
    rw [hQ]; exact k_iret C hret hW d_M_weight_31
def w_M_whatKind (cI : ClassId) (a_r0 : Nat) (a_r0_figures : Nat) (a_r0_kinds : Nat) (a_r0_refusals : Nat) (a_r0_row : Nat) (v_r0_weights v_r0_days v_r0_hampers v_r0_wants0 v_r0_left0 v_r0_done0 v_r0_letters v_r0_letterMany v_r0_at v_r0_isBad v_r0_statements v_r0_placeIn v_r0_letterOf v_r0_told v_r0_kept v_r0_imaged v_r0_hasImage v_r0_place0 v_r0_isTaking v_r0_keptIn v_r0_turns0 v_r0_turnOf v_r0_turned v_r0_order0 v_r0_likely0 v_r0_leftThen v_r0_seed : Value) (r0_rowMany : Int32) (r0_things : Int32) (r0_thrown : Int32) (r0_figures : Nat → Int32) (r0_kinds : Nat → Int32) (r0_refusals : Nat → Int32) (r0_row : Nat → Int32) : va_W := [(a_r0, .inr (9, [v_r0_weights, .int r0_things, .ref a_r0_kinds, .ref a_r0_figures, v_r0_days, v_r0_hampers, v_r0_wants0, v_r0_left0, v_r0_done0, .int r0_thrown, .ref a_r0_refusals, v_r0_letters, v_r0_letterMany, v_r0_at, v_r0_isBad, v_r0_statements, v_r0_placeIn, v_r0_letterOf, v_r0_told, v_r0_kept, v_r0_imaged, v_r0_hasImage, v_r0_place0, v_r0_isTaking, v_r0_keptIn, v_r0_turns0, v_r0_turnOf, v_r0_turned, v_r0_order0, v_r0_likely0, v_r0_leftThen, .ref a_r0_row, .int r0_rowMany, v_r0_seed])), (a_r0_figures, .inl (cI, 8, .inl r0_figures)), (a_r0_kinds, .inl (cI, 8, .inl r0_kinds)), (a_r0_refusals, .inl (cI, 7, .inl r0_refusals)), (a_r0_row, .inl (cI, 12, .inl r0_row))]
def F_M_whatKind_L43 (r0_rowMany : Int32) (r0_row : Nat → Int32) (y4_7 : Int32) (y5_7 : Int32) : Option (((Int32) × (Int32)) ⊕ ((Int32))) :=
  (if r0_rowMany ≤ y5_7 then (some (.inr y4_7)) else (if y4_7 = 0 then (some (.inl (0, (y5_7 + 1)))) else (ck y5_7 12 (if (2 : Int32) < (r0_row (Int32.toNatClampNeg y5_7)) then (some (.inl (0, (y5_7 + 1)))) else (some (.inl (1, (y5_7 + 1))))))))
def F_M_whatKind_J163_22 (r0_rowMany : Int32) (r0_row : Nat → Int32) (y5_15 : Int32) (y6_15 : Int32) (s2_20 : Int32) (s3_22 : Int32) : Option (((Int32) × (Int32)) ⊕ ((Int32))) :=
  ((F_M_isRow r0_rowMany r0_row s2_20 s3_22).bind (fun q_23 => (if q_23 = 0 then (some (.inl ((y5_15 ||| 0), (y6_15 + 1)))) else (some (.inl ((y5_15 ||| ((1 : Int32) <<< ((y6_15 : Int32) &&& 31))), (y6_15 + 1)))))))
def F_M_whatKind_J147_20 (r0_rowMany : Int32) (r0_figures : Nat → Int32) (r0_row : Nat → Int32) (y5_15 : Int32) (y6_15 : Int32) (x1 : Int32) (x2 : Int32) (s2_20 : Int32) : Option (((Int32) × (Int32)) ⊕ ((Int32))) :=
  (if x2 = 1 then (F_M_whatKind_J163_22 r0_rowMany r0_row y5_15 y6_15 s2_20 y6_15) else (ck x1 8 (F_M_whatKind_J163_22 r0_rowMany r0_row y5_15 y6_15 s2_20 (r0_figures (Int32.toNatClampNeg x1)))))
def F_M_whatKind_J126_17 (r0_rowMany : Int32) (r0_figures : Nat → Int32) (r0_kinds : Nat → Int32) (r0_row : Nat → Int32) (y5_15 : Int32) (y6_15 : Int32) (x1 : Int32) (x2 : Int32) (s1_17 : Int32) : Option (((Int32) × (Int32)) ⊕ ((Int32))) :=
  (if s1_17 ≤ y6_15 then (some (.inr y5_15)) else (if x2 = 0 then (F_M_whatKind_J147_20 r0_rowMany r0_figures r0_row y5_15 y6_15 x1 x2 y6_15) else (ck x1 8 (F_M_whatKind_J147_20 r0_rowMany r0_figures r0_row y5_15 y6_15 x1 x2 (r0_kinds (Int32.toNatClampNeg x1))))))
def F_M_whatKind_L113 (r0_rowMany : Int32) (r0_figures : Nat → Int32) (r0_kinds : Nat → Int32) (r0_row : Nat → Int32) (x1 : Int32) (x2 : Int32) (y5_15 : Int32) (y6_15 : Int32) : Option (((Int32) × (Int32)) ⊕ ((Int32))) :=
  (if x2 = 0 then (F_M_whatKind_J126_17 r0_rowMany r0_figures r0_kinds r0_row y5_15 y6_15 x1 x2 6) else (F_M_whatKind_J126_17 r0_rowMany r0_figures r0_kinds r0_row y5_15 y6_15 x1 x2 10))
def F_M_whatKind_J96_13 (r0_rowMany : Int32) (r0_figures : Nat → Int32) (r0_kinds : Nat → Int32) (r0_refusals : Nat → Int32) (r0_row : Nat → Int32) (x1 : Int32) (x2 : Int32) (s0_13 : Int32) : Option (Int32 × (Int32) × (Nat → Int32)) :=
  (if (0 : Int32) ≤ s0_13 then ((wh (fun (s : (Int32) × (Int32)) => F_M_whatKind_L113 r0_rowMany r0_figures r0_kinds r0_row x1 x2 s.1 s.2) 400 ((0 : Int32), (0 : Int32))).bind (fun e_15 => (some (e_15, 0, r0_refusals)))) else ((F_M_refuse r0_refusals s0_13).bind (fun q_27 => (some (q_27.1, 0, q_27.2)))))
def F_M_whatKind_J95_28 (r0_rowMany : Int32) (r0_figures : Nat → Int32) (r0_kinds : Nat → Int32) (r0_refusals : Nat → Int32) (r0_row : Nat → Int32) (q_4 : Int32) (x1 : Int32) (x2 : Int32) : Option (Int32 × (Int32) × (Nat → Int32)) :=
  (F_M_whatKind_J96_13 r0_rowMany r0_figures r0_kinds r0_refusals r0_row x1 x2 q_4)
def F_M_whatKind_J38_6 (r0_rowMany : Int32) (r0_figures : Nat → Int32) (r0_kinds : Nat → Int32) (r0_refusals : Nat → Int32) (r0_row : Nat → Int32) (q_4 : Int32) (x1 : Int32) (x2 : Int32) (s0_6 : Int32) : Option (Int32 × (Int32) × (Nat → Int32)) :=
  ((wh (fun (s : (Int32) × (Int32)) => F_M_whatKind_L43 r0_rowMany r0_row s.1 s.2) 400 (s0_6, (0 : Int32))).bind (fun e_7 => (if q_4 = 0 then (if e_7 = 0 then (F_M_whatKind_J96_13 r0_rowMany r0_figures r0_kinds r0_refusals r0_row x1 x2 (-3)) else (F_M_whatKind_J95_28 r0_rowMany r0_figures r0_kinds r0_refusals r0_row q_4 x1 x2)) else (F_M_whatKind_J95_28 r0_rowMany r0_figures r0_kinds r0_refusals r0_row q_4 x1 x2))))
def F_M_whatKind_J18_3 (r0_rowMany : Int32) (r0_figures : Nat → Int32) (r0_kinds : Nat → Int32) (r0_refusals : Nat → Int32) (r0_row : Nat → Int32) (x1 : Int32) (x2 : Int32) (s0_3 : Int32) : Option (Int32 × (Int32) × (Nat → Int32)) :=
  ((F_M_wrongBit s0_3 x2 (1 : Int32)).bind (fun q_4 => (if (6 : Int32) < r0_rowMany then (F_M_whatKind_J38_6 r0_rowMany r0_figures r0_kinds r0_refusals r0_row q_4 x1 x2 0) else (F_M_whatKind_J38_6 r0_rowMany r0_figures r0_kinds r0_refusals r0_row q_4 x1 x2 1))))
def F_M_whatKind (r0_rowMany : Int32) (r0_things : Int32) (r0_figures : Nat → Int32) (r0_kinds : Nat → Int32) (r0_refusals : Nat → Int32) (r0_row : Nat → Int32) (x1 : Int32) (x2 : Int32) : Option (Int32 × (Int32) × (Nat → Int32)) :=
  ((F_M_isThing r0_things x1).bind (fun q_1 => (if q_1 = 0 then (F_M_whatKind_J18_3 r0_rowMany r0_figures r0_kinds r0_refusals r0_row x1 x2 (-1)) else (F_M_whatKind_J18_3 r0_rowMany r0_figures r0_kinds r0_refusals r0_row x1 x2 0))))
set_option maxHeartbeats 4000000 in
set_option maxRecDepth 100000 in
theorem C_M_whatKind (l : Launch) (D : va_G) (cI cS : ClassId) (a_r0 : Nat) (a_r0_figures : Nat) (a_r0_kinds : Nat) (a_r0_refusals : Nat) (a_r0_row : Nat) (v_r0_weights v_r0_days v_r0_hampers v_r0_wants0 v_r0_left0 v_r0_done0 v_r0_letters v_r0_letterMany v_r0_at v_r0_isBad v_r0_statements v_r0_placeIn v_r0_letterOf v_r0_told v_r0_kept v_r0_imaged v_r0_hasImage v_r0_place0 v_r0_isTaking v_r0_keptIn v_r0_turns0 v_r0_turnOf v_r0_turned v_r0_order0 v_r0_likely0 v_r0_leftThen v_r0_seed : Value) (r0_rowMany : Int32) (r0_things : Int32) (r0_thrown : Int32) (r0_figures : Nat → Int32) (r0_kinds : Nat → Int32) (r0_refusals : Nat → Int32) (r0_row : Nat → Int32) (x1 : Int32) (x2 : Int32) (o : Int32 × (Int32) × (Nat → Int32)) (hr : F_M_whatKind r0_rowMany r0_things r0_figures r0_kinds r0_refusals r0_row x1 x2 = some o) : ctI l y_M_whatKind (Cond.code y_M_whatKind b_M_whatKind 7 (some FieldType.int)) (rmd 2) D (kTy cI cS) [.ref a_r0, .int x1, .int x2] (w_M_whatKind cI a_r0 a_r0_figures a_r0_kinds a_r0_refusals a_r0_row v_r0_weights v_r0_days v_r0_hampers v_r0_wants0 v_r0_left0 v_r0_done0 v_r0_letters v_r0_letterMany v_r0_at v_r0_isBad v_r0_statements v_r0_placeIn v_r0_letterOf v_r0_told v_r0_kept v_r0_imaged v_r0_hasImage v_r0_place0 v_r0_isTaking v_r0_keptIn v_r0_turns0 v_r0_turnOf v_r0_turned v_r0_order0 v_r0_likely0 v_r0_leftThen v_r0_seed r0_rowMany r0_things r0_thrown r0_figures r0_kinds r0_refusals r0_row) (w_M_whatKind cI a_r0 a_r0_figures a_r0_kinds a_r0_refusals a_r0_row v_r0_weights v_r0_days v_r0_hampers v_r0_wants0 v_r0_left0 v_r0_done0 v_r0_letters v_r0_letterMany v_r0_at v_r0_isBad v_r0_statements v_r0_placeIn v_r0_letterOf v_r0_told v_r0_kept v_r0_imaged v_r0_hasImage v_r0_place0 v_r0_isTaking v_r0_keptIn v_r0_turns0 v_r0_turnOf v_r0_turned v_r0_order0 v_r0_likely0 v_r0_leftThen v_r0_seed r0_rowMany r0_things o.2.1 r0_figures r0_kinds o.2.2 r0_row) o.1 := by
  unfold F_M_whatKind at hr
  refine ⟨rfl, fun sz => ct_of (w0 := (w_M_whatKind cI a_r0 a_r0_figures a_r0_kinds a_r0_refusals a_r0_row v_r0_weights v_r0_days v_r0_hampers v_r0_wants0 v_r0_left0 v_r0_done0 v_r0_letters v_r0_letterMany v_r0_at v_r0_isBad v_r0_statements v_r0_placeIn v_r0_letterOf v_r0_told v_r0_kept v_r0_imaged v_r0_hasImage v_r0_place0 v_r0_isTaking v_r0_keptIn v_r0_turns0 v_r0_turnOf v_r0_turned v_r0_order0 v_r0_likely0 v_r0_leftThen v_r0_seed r0_rowMany r0_things r0_thrown r0_figures r0_kinds r0_refusals r0_row)) (Qc := fun A => qI D (w_M_whatKind cI a_r0 a_r0_figures a_r0_kinds a_r0_refusals a_r0_row v_r0_weights v_r0_days v_r0_hampers v_r0_wants0 v_r0_left0 v_r0_done0 v_r0_letters v_r0_letterMany v_r0_at v_r0_isBad v_r0_statements v_r0_placeIn v_r0_letterOf v_r0_told v_r0_kept v_r0_imaged v_r0_hasImage v_r0_place0 v_r0_isTaking v_r0_keptIn v_r0_turns0 v_r0_turnOf v_r0_turned v_r0_order0 v_r0_likely0 v_r0_leftThen v_r0_seed r0_rowMany r0_things o.2.1 r0_figures r0_kinds o.2.2 r0_row) o.1 A) rfl (Nat.le_of_ble_eq_true rfl) ?_ sz⟩
  intro p e s m below meth c A hA C hret ls hl hW
  have C : cx p s m ([.ref a_r0, .int x1, .int x2] : List Value).toArray meth c b_M_whatKind 7 R_M D (kTy cI cS) (Cond.code y_M_whatKind b_M_whatKind 7 (some FieldType.int)) := C
  obtain ⟨hx, hb, hml, hown, hts, hK, hlk, hN⟩ := id C
  have hl : lv_has ls 7 [(0, .ref a_r0), (1, .int x1), (2, .int x2)] := hl
  obtain ⟨Q, hQ⟩ : ∃ Q, Q = MQ below (qI D (w_M_whatKind cI a_r0 a_r0_figures a_r0_kinds a_r0_refusals a_r0_row v_r0_weights v_r0_days v_r0_hampers v_r0_wants0 v_r0_left0 v_r0_done0 v_r0_letters v_r0_letterMany v_r0_at v_r0_isBad v_r0_statements v_r0_placeIn v_r0_letterOf v_r0_told v_r0_kept v_r0_imaged v_r0_hasImage v_r0_place0 v_r0_isTaking v_r0_keptIn v_r0_turns0 v_r0_turnOf v_r0_turned v_r0_order0 v_r0_likely0 v_r0_leftThen v_r0_seed r0_rowMany r0_things o.2.1 r0_figures r0_kinds o.2.2 r0_row) o.1 A) ([.ref a_r0, .int x1, .int x2] : List Value).toArray s 0 0 A := ⟨_, rfl⟩
  rw [← hQ]
  refine lv_aload_n hx hb d_M_whatKind_0 rfl (lv_at hl 0 rfl) ?_
  refine lv_iconst (v := 0) hx hb d_M_whatKind_1 (by decide) ?_
  refine k_put i_M t_M_ok n_M C hW 0 rfl rfl 9 (by decide) qf_M_67 rfl rfl (ty := .int) rfl rfl rfl (Nat.le_of_ble_eq_true rfl) (ws' := (w_M_whatKind cI a_r0 a_r0_figures a_r0_kinds a_r0_refusals a_r0_row v_r0_weights v_r0_days v_r0_hampers v_r0_wants0 v_r0_left0 v_r0_done0 v_r0_letters v_r0_letterMany v_r0_at v_r0_isBad v_r0_statements v_r0_placeIn v_r0_letterOf v_r0_told v_r0_kept v_r0_imaged v_r0_hasImage v_r0_place0 v_r0_isTaking v_r0_keptIn v_r0_turns0 v_r0_turnOf v_r0_turned v_r0_order0 v_r0_likely0 v_r0_leftThen v_r0_seed r0_rowMany r0_things 0 r0_figures r0_kinds r0_refusals r0_row)) rfl d_M_whatKind_2 (fun H locs hW => ?_)
  refine lv_aload_n hx hb d_M_whatKind_5 rfl (lv_at hl 0 rfl) ?_
  refine lv_iload_n hx hb d_M_whatKind_6 rfl (lv_at hl 1 rfl) ?_
  obtain ⟨q_1, hc_1, hr⟩ := ob hr
  have ct_1 := C_M_isThing l D cI cS a_r0 v_r0_weights (Value.ref a_r0_kinds) (Value.ref a_r0_figures) v_r0_days v_r0_hampers v_r0_wants0 v_r0_left0 v_r0_done0 (Value.int 0) (Value.ref a_r0_refusals) v_r0_letters v_r0_letterMany v_r0_at v_r0_isBad v_r0_statements v_r0_placeIn v_r0_letterOf v_r0_told v_r0_kept v_r0_imaged v_r0_hasImage v_r0_place0 v_r0_isTaking v_r0_keptIn v_r0_turns0 v_r0_turnOf v_r0_turned v_r0_order0 v_r0_likely0 v_r0_leftThen (Value.ref a_r0_row) (Value.int r0_rowMany) v_r0_seed r0_things x1 q_1 hc_1
  refine k_goIp hA hW [0] rfl rfl (k_runV C hA hW mw_M_isThing mv_M_isThing (ct_1.2 _) [0] rfl rfl 0 rfl rfl qm_M_159 ⟨Nat.le_of_ble_eq_true rfl, Nat.le_of_ble_eq_true rfl, Nat.zero_le _, Nat.zero_le _⟩ rfl rfl (Nat.le_of_ble_eq_true rfl) hl.1 d_M_whatKind_7) (fun H locs hW => ?_)
  have hJ_3 : ∀ (s0_3 : Int32), F_M_whatKind_J18_3 r0_rowMany r0_figures r0_kinds r0_refusals r0_row x1 x2 s0_3 = some o → ∀ (H : Heap) (locs : List Loc) (ls : Array Slot), wd A s.heap D (w_M_whatKind cI a_r0 a_r0_figures a_r0_kinds a_r0_refusals a_r0_row v_r0_weights v_r0_days v_r0_hampers v_r0_wants0 v_r0_left0 v_r0_done0 v_r0_letters v_r0_letterMany v_r0_at v_r0_isBad v_r0_statements v_r0_placeIn v_r0_letterOf v_r0_told v_r0_kept v_r0_imaged v_r0_hasImage v_r0_place0 v_r0_isTaking v_r0_keptIn v_r0_turns0 v_r0_turnOf v_r0_turned v_r0_order0 v_r0_likely0 v_r0_leftThen v_r0_seed r0_rowMany r0_things 0 r0_figures r0_kinds r0_refusals r0_row) H locs → lv_has ls 7 [(0, .ref a_r0), (1, .int x1), (2, .int x2)] → W p l e (rmd 2) s m ([.ref a_r0, .int x1, .int x2] : List Value).toArray below meth c H locs 0 0 Q (F0 m 18 ls [.int s0_3]) := by
    intro s0_3 hr H locs ls hW hl
    unfold F_M_whatKind_J18_3 at hr
    refine lv_iload_n hx hb d_M_whatKind_18 rfl (lv_at hl 2 rfl) ?_
    refine lv_iconst (v := 1) hx hb d_M_whatKind_19 (by decide) ?_
    obtain ⟨q_4, hc_4, hr⟩ := ob hr
    have ct_4 := C_M_wrongBit l D cI cS s0_3 x2 1 q_4 hc_4
    refine k_goIp hA hW [] rfl rfl (k_runS C hA hW mw_M_wrongBit ms_M_wrongBit (ct_4.2 _) [] rfl rfl qm_M_219 ⟨Nat.le_of_ble_eq_true rfl, Nat.le_of_ble_eq_true rfl, Nat.zero_le _, Nat.zero_le _⟩ rfl rfl (Nat.le_of_ble_eq_true rfl) hl.1 d_M_whatKind_20) (fun H locs hW => ?_)
    refine lv_istore_n (lv' := [(3, .int q_4), (0, .ref a_r0), (1, .int x1), (2, .int x2)]) hx hb d_M_whatKind_23 rfl hl (by decide) rfl (fun ls hl => ?_)
    refine lv_aload_n hx hb d_M_whatKind_24 rfl (lv_at hl 1 rfl) ?_
    refine k_get i_M C hW 0 rfl rfl 32 (by decide) qf_M_252 rfl rfl d_M_whatKind_25 ?_
    refine lv_bipush (v := 6) hx hb d_M_whatKind_28 (by decide) ?_
    have hJ_6 : ∀ (s0_6 : Int32), F_M_whatKind_J38_6 r0_rowMany r0_figures r0_kinds r0_refusals r0_row q_4 x1 x2 s0_6 = some o → ∀ (H : Heap) (locs : List Loc) (ls : Array Slot), wd A s.heap D (w_M_whatKind cI a_r0 a_r0_figures a_r0_kinds a_r0_refusals a_r0_row v_r0_weights v_r0_days v_r0_hampers v_r0_wants0 v_r0_left0 v_r0_done0 v_r0_letters v_r0_letterMany v_r0_at v_r0_isBad v_r0_statements v_r0_placeIn v_r0_letterOf v_r0_told v_r0_kept v_r0_imaged v_r0_hasImage v_r0_place0 v_r0_isTaking v_r0_keptIn v_r0_turns0 v_r0_turnOf v_r0_turned v_r0_order0 v_r0_likely0 v_r0_leftThen v_r0_seed r0_rowMany r0_things 0 r0_figures r0_kinds r0_refusals r0_row) H locs → lv_has ls 7 [(0, .ref a_r0), (1, .int x1), (2, .int x2), (3, .int q_4)] → W p l e (rmd 2) s m ([.ref a_r0, .int x1, .int x2] : List Value).toArray below meth c H locs 0 0 Q (F0 m 38 ls [.int s0_6]) := by
      intro s0_6 hr H locs ls hW hl
      unfold F_M_whatKind_J38_6 at hr
      refine lv_istore (lv' := [(4, .int s0_6), (0, .ref a_r0), (1, .int x1), (2, .int x2), (3, .int q_4)]) hx hb d_M_whatKind_38 hl (by decide) rfl (fun ls hl => ?_)
      refine lv_iconst (v := 0) hx hb d_M_whatKind_40 (by decide) ?_
      refine lv_istore (lv' := [(5, .int 0), (4, .int s0_6), (0, .ref a_r0), (1, .int x1), (2, .int x2), (3, .int q_4)]) hx hb d_M_whatKind_41 hl (by decide) rfl (fun ls hl => ?_)
      obtain ⟨ex_7, hw_7, hk_7⟩ := ob hr
      have hx_7 : ∀ (e_7 : (Int32)), e_7 = ex_7 → ∀ (H : Heap) (locs : List Loc) (ls : Array Slot), wd A s.heap D (w_M_whatKind cI a_r0 a_r0_figures a_r0_kinds a_r0_refusals a_r0_row v_r0_weights v_r0_days v_r0_hampers v_r0_wants0 v_r0_left0 v_r0_done0 v_r0_letters v_r0_letterMany v_r0_at v_r0_isBad v_r0_statements v_r0_placeIn v_r0_letterOf v_r0_told v_r0_kept v_r0_imaged v_r0_hasImage v_r0_place0 v_r0_isTaking v_r0_keptIn v_r0_turns0 v_r0_turnOf v_r0_turned v_r0_order0 v_r0_likely0 v_r0_leftThen v_r0_seed r0_rowMany r0_things 0 r0_figures r0_kinds r0_refusals r0_row) H locs → lv_has ls 7 [(0, .ref a_r0), (1, .int x1), (2, .int x2), (3, .int q_4), (4, .int e_7)] → W p l e (rmd 2) s m ([.ref a_r0, .int x1, .int x2] : List Value).toArray below meth c H locs 0 0 Q (F0 m 81 ls []) := by
        intro e_7 hE H locs ls hW hl
        subst hE; have hr := hk_7
        refine lv_iload_n hx hb d_M_whatKind_81 rfl (lv_at hl 3 rfl) ?_
        have hJ_13 : ∀ (s0_13 : Int32), F_M_whatKind_J96_13 r0_rowMany r0_figures r0_kinds r0_refusals r0_row x1 x2 s0_13 = some o → ∀ (H : Heap) (locs : List Loc) (ls : Array Slot), wd A s.heap D (w_M_whatKind cI a_r0 a_r0_figures a_r0_kinds a_r0_refusals a_r0_row v_r0_weights v_r0_days v_r0_hampers v_r0_wants0 v_r0_left0 v_r0_done0 v_r0_letters v_r0_letterMany v_r0_at v_r0_isBad v_r0_statements v_r0_placeIn v_r0_letterOf v_r0_told v_r0_kept v_r0_imaged v_r0_hasImage v_r0_place0 v_r0_isTaking v_r0_keptIn v_r0_turns0 v_r0_turnOf v_r0_turned v_r0_order0 v_r0_likely0 v_r0_leftThen v_r0_seed r0_rowMany r0_things 0 r0_figures r0_kinds r0_refusals r0_row) H locs → lv_has ls 7 [(0, .ref a_r0), (1, .int x1), (2, .int x2)] → W p l e (rmd 2) s m ([.ref a_r0, .int x1, .int x2] : List Value).toArray below meth c H locs 0 0 Q (F0 m 96 ls [.int s0_13]) := by
          intro s0_13 hr H locs ls hW hl
          unfold F_M_whatKind_J96_13 at hr
          refine lv_istore_n (lv' := [(3, .int s0_13), (0, .ref a_r0), (1, .int x1), (2, .int x2)]) hx hb d_M_whatKind_96 rfl hl (by decide) rfl (fun ls hl => ?_)
          refine lv_iload_n hx hb d_M_whatKind_97 rfl (lv_at hl 0 rfl) ?_
          refine lv_if_ge (tgt := 107) hx hb d_M_whatKind_98 (by decide) (fun c_14 => ?_) (fun c_14 => ?_)
          · replace hr := ip c_14 hr
            refine lv_iconst (v := 0) hx hb d_M_whatKind_107 (by decide) ?_
            refine lv_istore (lv' := [(5, .int 0), (3, .int s0_13), (0, .ref a_r0), (1, .int x1), (2, .int x2)]) hx hb d_M_whatKind_108 hl (by decide) rfl (fun ls hl => ?_)
            refine lv_iconst (v := 0) hx hb d_M_whatKind_110 (by decide) ?_
            refine lv_istore (lv' := [(6, .int 0), (5, .int 0), (3, .int s0_13), (0, .ref a_r0), (1, .int x1), (2, .int x2)]) hx hb d_M_whatKind_111 hl (by decide) rfl (fun ls hl => ?_)
            obtain ⟨ex_15, hw_15, hk_15⟩ := ob hr
            have hx_15 : ∀ (e_15 : (Int32)), e_15 = ex_15 → ∀ (H : Heap) (locs : List Loc) (ls : Array Slot), wd A s.heap D (w_M_whatKind cI a_r0 a_r0_figures a_r0_kinds a_r0_refusals a_r0_row v_r0_weights v_r0_days v_r0_hampers v_r0_wants0 v_r0_left0 v_r0_done0 v_r0_letters v_r0_letterMany v_r0_at v_r0_isBad v_r0_statements v_r0_placeIn v_r0_letterOf v_r0_told v_r0_kept v_r0_imaged v_r0_hasImage v_r0_place0 v_r0_isTaking v_r0_keptIn v_r0_turns0 v_r0_turnOf v_r0_turned v_r0_order0 v_r0_likely0 v_r0_leftThen v_r0_seed r0_rowMany r0_things 0 r0_figures r0_kinds r0_refusals r0_row) H locs → lv_has ls 7 [(5, .int e_15)] → W p l e (rmd 2) s m ([.ref a_r0, .int x1, .int x2] : List Value).toArray below meth c H locs 0 0 Q (F0 m 186 ls []) := by
              intro e_15 hE H locs ls hW hl
              subst hE; have hr := hk_15
              refine lv_iload hx hb d_M_whatKind_186 (lv_at hl 0 rfl) ?_
              obtain rfl := Option.some.inj hr
              rw [hQ]; exact k_iret C hret hW d_M_whatKind_188
            have hl_15 : ∀ (k : Nat) (y5_15 : Int32) (y6_15 : Int32), wh (fun (s : (Int32) × (Int32)) => F_M_whatKind_L113 r0_rowMany r0_figures r0_kinds r0_row x1 x2 s.1 s.2) k (y5_15, y6_15) = some ex_15 → ∀ (H : Heap) (locs : List Loc) (ls : Array Slot), wd A s.heap D (w_M_whatKind cI a_r0 a_r0_figures a_r0_kinds a_r0_refusals a_r0_row v_r0_weights v_r0_days v_r0_hampers v_r0_wants0 v_r0_left0 v_r0_done0 v_r0_letters v_r0_letterMany v_r0_at v_r0_isBad v_r0_statements v_r0_placeIn v_r0_letterOf v_r0_told v_r0_kept v_r0_imaged v_r0_hasImage v_r0_place0 v_r0_isTaking v_r0_keptIn v_r0_turns0 v_r0_turnOf v_r0_turned v_r0_order0 v_r0_likely0 v_r0_leftThen v_r0_seed r0_rowMany r0_things 0 r0_figures r0_kinds r0_refusals r0_row) H locs → lv_has ls 7 [(0, .ref a_r0), (1, .int x1), (2, .int x2), (5, .int y5_15), (6, .int y6_15)] → W p l e (rmd 2) s m ([.ref a_r0, .int x1, .int x2] : List Value).toArray below meth c H locs 0 0 Q (F0 m 113 ls []) := by
              intro k
              induction k with
              | zero => intro y5_15 y6_15 hw; exact absurd hw wh_0
              | succ k ih_15 =>
                intro y5_15 y6_15 hw H locs ls hW hl
                obtain ⟨z_15, hr, hz1_15, hz2_15⟩ := wh_s hw
                have hr : F_M_whatKind_L113 r0_rowMany r0_figures r0_kinds r0_row x1 x2 y5_15 y6_15 = some z_15 := hr
                unfold F_M_whatKind_L113 at hr
                refine lv_iload hx hb d_M_whatKind_113 (lv_at hl 4 rfl) ?_
                refine lv_iload_n hx hb d_M_whatKind_115 rfl (lv_at hl 2 rfl) ?_
                have hJ_17 : ∀ (s1_17 : Int32), F_M_whatKind_J126_17 r0_rowMany r0_figures r0_kinds r0_row y5_15 y6_15 x1 x2 s1_17 = some z_15 → ∀ (H : Heap) (locs : List Loc) (ls : Array Slot), wd A s.heap D (w_M_whatKind cI a_r0 a_r0_figures a_r0_kinds a_r0_refusals a_r0_row v_r0_weights v_r0_days v_r0_hampers v_r0_wants0 v_r0_left0 v_r0_done0 v_r0_letters v_r0_letterMany v_r0_at v_r0_isBad v_r0_statements v_r0_placeIn v_r0_letterOf v_r0_told v_r0_kept v_r0_imaged v_r0_hasImage v_r0_place0 v_r0_isTaking v_r0_keptIn v_r0_turns0 v_r0_turnOf v_r0_turned v_r0_order0 v_r0_likely0 v_r0_leftThen v_r0_seed r0_rowMany r0_things 0 r0_figures r0_kinds r0_refusals r0_row) H locs → lv_has ls 7 [(0, .ref a_r0), (1, .int x1), (2, .int x2), (5, .int y5_15), (6, .int y6_15)] → W p l e (rmd 2) s m ([.ref a_r0, .int x1, .int x2] : List Value).toArray below meth c H locs 0 0 Q (F0 m 126 ls [.int s1_17, .int y6_15]) := by
                  intro s1_17 hr H locs ls hW hl
                  unfold F_M_whatKind_J126_17 at hr
                  refine lv_icmp_ge (tgt := 186) hx hb d_M_whatKind_126 (by decide) (fun c_18 => ?_) (fun c_18 => ?_)
                  · replace hr := ip c_18 hr
                    exact hx_15 _ (hz2_15 _ (Option.some.inj hr).symm) _ _ _ hW (lv_sub hl [3] rfl)
                  · replace hr := iN c_18 hr
                    refine lv_iload hx hb d_M_whatKind_129 (lv_at hl 3 rfl) ?_
                    refine lv_aload_n hx hb d_M_whatKind_131 rfl (lv_at hl 0 rfl) ?_
                    refine lv_iload_n hx hb d_M_whatKind_132 rfl (lv_at hl 2 rfl) ?_
                    have hJ_20 : ∀ (s2_20 : Int32), F_M_whatKind_J147_20 r0_rowMany r0_figures r0_row y5_15 y6_15 x1 x2 s2_20 = some z_15 → ∀ (H : Heap) (locs : List Loc) (ls : Array Slot), wd A s.heap D (w_M_whatKind cI a_r0 a_r0_figures a_r0_kinds a_r0_refusals a_r0_row v_r0_weights v_r0_days v_r0_hampers v_r0_wants0 v_r0_left0 v_r0_done0 v_r0_letters v_r0_letterMany v_r0_at v_r0_isBad v_r0_statements v_r0_placeIn v_r0_letterOf v_r0_told v_r0_kept v_r0_imaged v_r0_hasImage v_r0_place0 v_r0_isTaking v_r0_keptIn v_r0_turns0 v_r0_turnOf v_r0_turned v_r0_order0 v_r0_likely0 v_r0_leftThen v_r0_seed r0_rowMany r0_things 0 r0_figures r0_kinds r0_refusals r0_row) H locs → lv_has ls 7 [(0, .ref a_r0), (1, .int x1), (2, .int x2), (6, .int y6_15)] → W p l e (rmd 2) s m ([.ref a_r0, .int x1, .int x2] : List Value).toArray below meth c H locs 0 0 Q (F0 m 147 ls [.int s2_20, .ref a_r0, .int y5_15]) := by
                      intro s2_20 hr H locs ls hW hl
                      unfold F_M_whatKind_J147_20 at hr
                      refine lv_iload_n hx hb d_M_whatKind_147 rfl (lv_at hl 2 rfl) ?_
                      refine lv_iconst (v := 1) hx hb d_M_whatKind_148 (by decide) ?_
                      have hJ_22 : ∀ (s3_22 : Int32), F_M_whatKind_J163_22 r0_rowMany r0_row y5_15 y6_15 s2_20 s3_22 = some z_15 → ∀ (H : Heap) (locs : List Loc) (ls : Array Slot), wd A s.heap D (w_M_whatKind cI a_r0 a_r0_figures a_r0_kinds a_r0_refusals a_r0_row v_r0_weights v_r0_days v_r0_hampers v_r0_wants0 v_r0_left0 v_r0_done0 v_r0_letters v_r0_letterMany v_r0_at v_r0_isBad v_r0_statements v_r0_placeIn v_r0_letterOf v_r0_told v_r0_kept v_r0_imaged v_r0_hasImage v_r0_place0 v_r0_isTaking v_r0_keptIn v_r0_turns0 v_r0_turnOf v_r0_turned v_r0_order0 v_r0_likely0 v_r0_leftThen v_r0_seed r0_rowMany r0_things 0 r0_figures r0_kinds r0_refusals r0_row) H locs → lv_has ls 7 [(0, .ref a_r0), (1, .int x1), (2, .int x2), (6, .int y6_15)] → W p l e (rmd 2) s m ([.ref a_r0, .int x1, .int x2] : List Value).toArray below meth c H locs 0 0 Q (F0 m 163 ls [.int s3_22, .int s2_20, .ref a_r0, .int y5_15]) := by
                        intro s3_22 hr H locs ls hW hl
                        unfold F_M_whatKind_J163_22 at hr
                        obtain ⟨q_23, hc_23, hr⟩ := ob hr
                        have ct_23 := C_M_isRow l D cI cS a_r0 a_r0_row v_r0_weights (Value.int r0_things) (Value.ref a_r0_kinds) (Value.ref a_r0_figures) v_r0_days v_r0_hampers v_r0_wants0 v_r0_left0 v_r0_done0 (Value.int 0) (Value.ref a_r0_refusals) v_r0_letters v_r0_letterMany v_r0_at v_r0_isBad v_r0_statements v_r0_placeIn v_r0_letterOf v_r0_told v_r0_kept v_r0_imaged v_r0_hasImage v_r0_place0 v_r0_isTaking v_r0_keptIn v_r0_turns0 v_r0_turnOf v_r0_turned v_r0_order0 v_r0_likely0 v_r0_leftThen v_r0_seed r0_rowMany r0_row s2_20 s3_22 q_23 hc_23
                        refine k_goIp hA hW [0, 4] rfl rfl (k_runV C hA hW mw_M_isRow mv_M_isRow (ct_23.2 _) [0, 4] rfl rfl 0 rfl rfl qm_M_255 ⟨Nat.le_of_ble_eq_true rfl, Nat.le_of_ble_eq_true rfl, Nat.zero_le _, Nat.zero_le _⟩ rfl rfl (Nat.le_of_ble_eq_true rfl) hl.1 d_M_whatKind_163) (fun H locs hW => ?_)
                        refine lv_if_eq (tgt := 176) hx hb d_M_whatKind_166 (by decide) (fun c_24 => ?_) (fun c_24 => ?_)
                        · replace hr := ip c_24 hr
                          refine lv_iconst (v := 0) hx hb d_M_whatKind_176 (by decide) ?_
                          refine lv_ior hx hb d_M_whatKind_177 ?_
                          refine lv_istore (lv' := [(5, .int (y5_15 ||| 0)), (0, .ref a_r0), (1, .int x1), (2, .int x2), (6, .int y6_15)]) hx hb d_M_whatKind_178 hl (by decide) rfl (fun ls hl => ?_)
                          refine lv_iinc (v := (y6_15 + 1)) (lv' := [(6, .int (y6_15 + 1)), (5, .int (y5_15 ||| 0)), (0, .ref a_r0), (1, .int x1), (2, .int x2)]) hx hb d_M_whatKind_180 hl (k := 4) rfl rfl (by decide) rfl (fun ls hl => ?_)
                          refine lv_goto (tgt := 113) hx hb d_M_whatKind_183 (by decide) ?_
                          exact ih_15 (y5_15 ||| 0) (y6_15 + 1) (hz1_15 _ (Option.some.inj hr).symm) _ _ _ hW (lv_sub hl [2, 3, 4, 1, 0] rfl)
                        · replace hr := iN c_24 hr
                          refine lv_iconst (v := 1) hx hb d_M_whatKind_169 (by decide) ?_
                          refine lv_iload hx hb d_M_whatKind_170 (lv_at hl 3 rfl) ?_
                          refine lv_ishl hx hb d_M_whatKind_172 ?_
                          refine lv_goto (tgt := 177) hx hb d_M_whatKind_173 (by decide) ?_
                          refine lv_ior hx hb d_M_whatKind_177 ?_
                          refine lv_istore (lv' := [(5, .int (y5_15 ||| ((1 : Int32) <<< ((y6_15 : Int32) &&& 31)))), (0, .ref a_r0), (1, .int x1), (2, .int x2), (6, .int y6_15)]) hx hb d_M_whatKind_178 hl (by decide) rfl (fun ls hl => ?_)
                          refine lv_iinc (v := (y6_15 + 1)) (lv' := [(6, .int (y6_15 + 1)), (5, .int (y5_15 ||| ((1 : Int32) <<< ((y6_15 : Int32) &&& 31)))), (0, .ref a_r0), (1, .int x1), (2, .int x2)]) hx hb d_M_whatKind_180 hl (k := 4) rfl rfl (by decide) rfl (fun ls hl => ?_)
                          refine lv_goto (tgt := 113) hx hb d_M_whatKind_183 (by decide) ?_
                          exact ih_15 (y5_15 ||| ((1 : Int32) <<< ((y6_15 : Int32) &&& 31))) (y6_15 + 1) (hz1_15 _ (Option.some.inj hr).symm) _ _ _ hW (lv_sub hl [2, 3, 4, 1, 0] rfl)
                      refine lv_icmp_ne (tgt := 157) hx hb d_M_whatKind_149 (by decide) (fun c_21 => ?_) (fun c_21 => ?_)
                      · replace hr := iN c_21 hr
                        refine lv_aload_n hx hb d_M_whatKind_157 rfl (lv_at hl 0 rfl) ?_
                        refine k_get i_M C hW 0 rfl rfl 3 (by decide) qf_M_16 rfl rfl d_M_whatKind_158 ?_
                        refine lv_iload_n hx hb d_M_whatKind_161 rfl (lv_at hl 1 rfl) ?_
                        obtain ⟨h_25, hr⟩ := ck_some hr
                        refine k_iald C hW 1 rfl h_25 d_M_whatKind_162 ?_
                        exact hJ_22 (r0_figures (Int32.toNatClampNeg x1)) hr _ _ _ hW (lv_sub hl [0, 1, 2, 3] rfl)
                      · replace hr := ip c_21 hr
                        refine lv_iload hx hb d_M_whatKind_152 (lv_at hl 3 rfl) ?_
                        refine lv_goto (tgt := 163) hx hb d_M_whatKind_154 (by decide) ?_
                        exact hJ_22 y6_15 hr _ _ _ hW (lv_sub hl [0, 1, 2, 3] rfl)
                    refine lv_if_ne (tgt := 141) hx hb d_M_whatKind_133 (by decide) (fun c_19 => ?_) (fun c_19 => ?_)
                    · replace hr := iN c_19 hr
                      refine lv_aload_n hx hb d_M_whatKind_141 rfl (lv_at hl 0 rfl) ?_
                      refine k_get i_M C hW 0 rfl rfl 2 (by decide) qf_M_13 rfl rfl d_M_whatKind_142 ?_
                      refine lv_iload_n hx hb d_M_whatKind_145 rfl (lv_at hl 1 rfl) ?_
                      obtain ⟨h_26, hr⟩ := ck_some hr
                      refine k_iald C hW 2 rfl h_26 d_M_whatKind_146 ?_
                      exact hJ_20 (r0_kinds (Int32.toNatClampNeg x1)) hr _ _ _ hW (lv_sub hl [0, 1, 2, 4] rfl)
                    · replace hr := ip c_19 hr
                      refine lv_iload hx hb d_M_whatKind_136 (lv_at hl 4 rfl) ?_
                      refine lv_goto (tgt := 147) hx hb d_M_whatKind_138 (by decide) ?_
                      exact hJ_20 y6_15 hr _ _ _ hW (lv_sub hl [0, 1, 2, 4] rfl)
                refine lv_if_ne (tgt := 124) hx hb d_M_whatKind_116 (by decide) (fun c_16 => ?_) (fun c_16 => ?_)
                · replace hr := iN c_16 hr
                  refine lv_bipush (v := 10) hx hb d_M_whatKind_124 (by decide) ?_
                  exact hJ_17 10 hr _ _ _ hW (lv_sub hl [0, 1, 2, 3, 4] rfl)
                · replace hr := ip c_16 hr
                  refine lv_bipush (v := 6) hx hb d_M_whatKind_119 (by decide) ?_
                  refine lv_goto (tgt := 126) hx hb d_M_whatKind_121 (by decide) ?_
                  exact hJ_17 6 hr _ _ _ hW (lv_sub hl [0, 1, 2, 3, 4] rfl)
            exact hl_15 _ 0 0 hw_15 _ _ _ hW (lv_sub hl [3, 4, 5, 1, 0] rfl)
          · replace hr := iN c_14 hr
            refine lv_aload_n hx hb d_M_whatKind_101 rfl (lv_at hl 1 rfl) ?_
            refine lv_iload_n hx hb d_M_whatKind_102 rfl (lv_at hl 0 rfl) ?_
            obtain ⟨q_27, hc_27, hr⟩ := ob hr
            have ct_27 := C_M_refuse l D cI cS a_r0 a_r0_refusals v_r0_weights (Value.int r0_things) (Value.ref a_r0_kinds) (Value.ref a_r0_figures) v_r0_days v_r0_hampers v_r0_wants0 v_r0_left0 v_r0_done0 (Value.int 0) v_r0_letters v_r0_letterMany v_r0_at v_r0_isBad v_r0_statements v_r0_placeIn v_r0_letterOf v_r0_told v_r0_kept v_r0_imaged v_r0_hasImage v_r0_place0 v_r0_isTaking v_r0_keptIn v_r0_turns0 v_r0_turnOf v_r0_turned v_r0_order0 v_r0_likely0 v_r0_leftThen (Value.ref a_r0_row) (Value.int r0_rowMany) v_r0_seed r0_refusals s0_13 q_27 hc_27
            refine k_goI hA hW [0, 3] rfl ct_27.1 (ws' := (w_M_whatKind cI a_r0 a_r0_figures a_r0_kinds a_r0_refusals a_r0_row v_r0_weights v_r0_days v_r0_hampers v_r0_wants0 v_r0_left0 v_r0_done0 v_r0_letters v_r0_letterMany v_r0_at v_r0_isBad v_r0_statements v_r0_placeIn v_r0_letterOf v_r0_told v_r0_kept v_r0_imaged v_r0_hasImage v_r0_place0 v_r0_isTaking v_r0_keptIn v_r0_turns0 v_r0_turnOf v_r0_turned v_r0_order0 v_r0_likely0 v_r0_leftThen v_r0_seed r0_rowMany r0_things 0 r0_figures r0_kinds q_27.2 r0_row)) rfl (k_runV C hA hW mw_M_refuse mv_M_refuse (ct_27.2 _) [0, 3] rfl rfl 0 rfl rfl qm_M_108 ⟨Nat.le_of_ble_eq_true rfl, Nat.le_of_ble_eq_true rfl, Nat.zero_le _, Nat.zero_le _⟩ rfl rfl (Nat.le_of_ble_eq_true rfl) hl.1 d_M_whatKind_103) (fun H locs hW => ?_)
            obtain rfl := Option.some.inj hr
            rw [hQ]; exact k_iret C hret hW d_M_whatKind_106
        have hJ_28 : ∀ (_ : Unit), F_M_whatKind_J95_28 r0_rowMany r0_figures r0_kinds r0_refusals r0_row q_4 x1 x2 = some o → ∀ (H : Heap) (locs : List Loc) (ls : Array Slot), wd A s.heap D (w_M_whatKind cI a_r0 a_r0_figures a_r0_kinds a_r0_refusals a_r0_row v_r0_weights v_r0_days v_r0_hampers v_r0_wants0 v_r0_left0 v_r0_done0 v_r0_letters v_r0_letterMany v_r0_at v_r0_isBad v_r0_statements v_r0_placeIn v_r0_letterOf v_r0_told v_r0_kept v_r0_imaged v_r0_hasImage v_r0_place0 v_r0_isTaking v_r0_keptIn v_r0_turns0 v_r0_turnOf v_r0_turned v_r0_order0 v_r0_likely0 v_r0_leftThen v_r0_seed r0_rowMany r0_things 0 r0_figures r0_kinds r0_refusals r0_row) H locs → lv_has ls 7 [(0, .ref a_r0), (1, .int x1), (2, .int x2), (3, .int q_4)] → W p l e (rmd 2) s m ([.ref a_r0, .int x1, .int x2] : List Value).toArray below meth c H locs 0 0 Q (F0 m 95 ls []) := by
          intro _ hr H locs ls hW hl
          unfold F_M_whatKind_J95_28 at hr
          refine lv_iload_n hx hb d_M_whatKind_95 rfl (lv_at hl 3 rfl) ?_
          exact hJ_13 q_4 hr _ _ _ hW (lv_sub hl [0, 1, 2] rfl)
        refine lv_if_ne (tgt := 95) hx hb d_M_whatKind_82 (by decide) (fun c_12 => ?_) (fun c_12 => ?_)
        · replace hr := iN c_12 hr
          exact hJ_28 () hr _ _ _ hW (lv_sub hl [0, 1, 2, 3] rfl)
        · replace hr := ip c_12 hr
          refine lv_iload hx hb d_M_whatKind_85 (lv_at hl 4 rfl) ?_
          refine lv_if_ne (tgt := 95) hx hb d_M_whatKind_87 (by decide) (fun c_29 => ?_) (fun c_29 => ?_)
          · replace hr := iN c_29 hr
            exact hJ_28 () hr _ _ _ hW (lv_sub hl [0, 1, 2, 3] rfl)
          · replace hr := ip c_29 hr
            refine lv_bipush (v := (-3)) hx hb d_M_whatKind_90 (by decide) ?_
            refine lv_goto (tgt := 96) hx hb d_M_whatKind_92 (by decide) ?_
            exact hJ_13 (-3) hr _ _ _ hW (lv_sub hl [0, 1, 2] rfl)
      have hl_7 : ∀ (k : Nat) (y4_7 : Int32) (y5_7 : Int32), wh (fun (s : (Int32) × (Int32)) => F_M_whatKind_L43 r0_rowMany r0_row s.1 s.2) k (y4_7, y5_7) = some ex_7 → ∀ (H : Heap) (locs : List Loc) (ls : Array Slot), wd A s.heap D (w_M_whatKind cI a_r0 a_r0_figures a_r0_kinds a_r0_refusals a_r0_row v_r0_weights v_r0_days v_r0_hampers v_r0_wants0 v_r0_left0 v_r0_done0 v_r0_letters v_r0_letterMany v_r0_at v_r0_isBad v_r0_statements v_r0_placeIn v_r0_letterOf v_r0_told v_r0_kept v_r0_imaged v_r0_hasImage v_r0_place0 v_r0_isTaking v_r0_keptIn v_r0_turns0 v_r0_turnOf v_r0_turned v_r0_order0 v_r0_likely0 v_r0_leftThen v_r0_seed r0_rowMany r0_things 0 r0_figures r0_kinds r0_refusals r0_row) H locs → lv_has ls 7 [(0, .ref a_r0), (1, .int x1), (2, .int x2), (3, .int q_4), (4, .int y4_7), (5, .int y5_7)] → W p l e (rmd 2) s m ([.ref a_r0, .int x1, .int x2] : List Value).toArray below meth c H locs 0 0 Q (F0 m 43 ls []) := by
        intro k
        induction k with
        | zero => intro y4_7 y5_7 hw; exact absurd hw wh_0
        | succ k ih_7 =>
          intro y4_7 y5_7 hw H locs ls hW hl
          obtain ⟨z_7, hr, hz1_7, hz2_7⟩ := wh_s hw
          have hr : F_M_whatKind_L43 r0_rowMany r0_row y4_7 y5_7 = some z_7 := hr
          unfold F_M_whatKind_L43 at hr
          refine lv_iload hx hb d_M_whatKind_43 (lv_at hl 5 rfl) ?_
          refine lv_aload_n hx hb d_M_whatKind_45 rfl (lv_at hl 0 rfl) ?_
          refine k_get i_M C hW 0 rfl rfl 32 (by decide) qf_M_252 rfl rfl d_M_whatKind_46 ?_
          refine lv_icmp_ge (tgt := 81) hx hb d_M_whatKind_49 (by decide) (fun c_8 => ?_) (fun c_8 => ?_)
          · replace hr := ip c_8 hr
            exact hx_7 _ (hz2_7 _ (Option.some.inj hr).symm) _ _ _ hW (lv_sub hl [0, 1, 2, 3, 4] rfl)
          · replace hr := iN c_8 hr
            refine lv_iload hx hb d_M_whatKind_52 (lv_at hl 4 rfl) ?_
            refine lv_if_eq (tgt := 72) hx hb d_M_whatKind_54 (by decide) (fun c_9 => ?_) (fun c_9 => ?_)
            · replace hr := ip c_9 hr
              refine lv_iconst (v := 0) hx hb d_M_whatKind_72 (by decide) ?_
              refine lv_istore (lv' := [(4, .int 0), (0, .ref a_r0), (1, .int x1), (2, .int x2), (3, .int q_4), (5, .int y5_7)]) hx hb d_M_whatKind_73 hl (by decide) rfl (fun ls hl => ?_)
              refine lv_iinc (v := (y5_7 + 1)) (lv' := [(5, .int (y5_7 + 1)), (4, .int 0), (0, .ref a_r0), (1, .int x1), (2, .int x2), (3, .int q_4)]) hx hb d_M_whatKind_75 hl (k := 5) rfl rfl (by decide) rfl (fun ls hl => ?_)
              refine lv_goto (tgt := 43) hx hb d_M_whatKind_78 (by decide) ?_
              exact ih_7 0 (y5_7 + 1) (hz1_7 _ (Option.some.inj hr).symm) _ _ _ hW (lv_sub hl [2, 3, 4, 5, 1, 0] rfl)
            · replace hr := iN c_9 hr
              refine lv_aload_n hx hb d_M_whatKind_57 rfl (lv_at hl 0 rfl) ?_
              refine k_get i_M C hW 0 rfl rfl 31 (by decide) qf_M_64 rfl rfl d_M_whatKind_58 ?_
              refine lv_iload hx hb d_M_whatKind_61 (lv_at hl 5 rfl) ?_
              obtain ⟨h_10, hr⟩ := ck_some hr
              refine k_iald C hW 4 rfl h_10 d_M_whatKind_63 ?_
              refine lv_iconst (v := 2) hx hb d_M_whatKind_64 (by decide) ?_
              refine lv_icmp_gt (tgt := 72) hx hb d_M_whatKind_65 (by decide) (fun c_11 => ?_) (fun c_11 => ?_)
              · replace hr := ip c_11 hr
                refine lv_iconst (v := 0) hx hb d_M_whatKind_72 (by decide) ?_
                refine lv_istore (lv' := [(4, .int 0), (0, .ref a_r0), (1, .int x1), (2, .int x2), (3, .int q_4), (5, .int y5_7)]) hx hb d_M_whatKind_73 hl (by decide) rfl (fun ls hl => ?_)
                refine lv_iinc (v := (y5_7 + 1)) (lv' := [(5, .int (y5_7 + 1)), (4, .int 0), (0, .ref a_r0), (1, .int x1), (2, .int x2), (3, .int q_4)]) hx hb d_M_whatKind_75 hl (k := 5) rfl rfl (by decide) rfl (fun ls hl => ?_)
                refine lv_goto (tgt := 43) hx hb d_M_whatKind_78 (by decide) ?_
                exact ih_7 0 (y5_7 + 1) (hz1_7 _ (Option.some.inj hr).symm) _ _ _ hW (lv_sub hl [2, 3, 4, 5, 1, 0] rfl)
              · replace hr := iN c_11 hr
                refine lv_iconst (v := 1) hx hb d_M_whatKind_68 (by decide) ?_
                refine lv_goto (tgt := 73) hx hb d_M_whatKind_69 (by decide) ?_
                refine lv_istore (lv' := [(4, .int 1), (0, .ref a_r0), (1, .int x1), (2, .int x2), (3, .int q_4), (5, .int y5_7)]) hx hb d_M_whatKind_73 hl (by decide) rfl (fun ls hl => ?_)
                refine lv_iinc (v := (y5_7 + 1)) (lv' := [(5, .int (y5_7 + 1)), (4, .int 1), (0, .ref a_r0), (1, .int x1), (2, .int x2), (3, .int q_4)]) hx hb d_M_whatKind_75 hl (k := 5) rfl rfl (by decide) rfl (fun ls hl => ?_)
                refine lv_goto (tgt := 43) hx hb d_M_whatKind_78 (by decide) ?_
                exact ih_7 1 (y5_7 + 1) (hz1_7 _ (Option.some.inj hr).symm) _ _ _ hW (lv_sub hl [2, 3, 4, 5, 1, 0] rfl)
      exact hl_7 _ s0_6 0 hw_7 _ _ _ hW (lv_sub hl [2, 3, 4, 5, 1, 0] rfl)
    refine lv_icmp_gt (tgt := 37) hx hb d_M_whatKind_30 (by decide) (fun c_5 => ?_) (fun c_5 => ?_)
    · replace hr := ip c_5 hr
      refine lv_iconst (v := 0) hx hb d_M_whatKind_37 (by decide) ?_
      exact hJ_6 0 hr _ _ _ hW (lv_sub hl [1, 2, 3, 0] rfl)
    · replace hr := iN c_5 hr
      refine lv_iconst (v := 1) hx hb d_M_whatKind_33 (by decide) ?_
      refine lv_goto (tgt := 38) hx hb d_M_whatKind_34 (by decide) ?_
      exact hJ_6 1 hr _ _ _ hW (lv_sub hl [1, 2, 3, 0] rfl)
  refine lv_if_eq (tgt := 17) hx hb d_M_whatKind_10 (by decide) (fun c_2 => ?_) (fun c_2 => ?_)
  · replace hr := ip c_2 hr
    refine lv_iconst (v := (-1)) hx hb d_M_whatKind_17 (by decide) ?_
    exact hJ_3 (-1) hr _ _ _ hW (lv_sub hl [0, 1, 2] rfl)
  · replace hr := iN c_2 hr
    refine lv_iconst (v := 0) hx hb d_M_whatKind_13 (by decide) ?_
    refine lv_goto (tgt := 18) hx hb d_M_whatKind_14 (by decide) ?_
    exact hJ_3 0 hr _ _ _ hW (lv_sub hl [0, 1, 2] rfl)
def w_M_worth (cI : ClassId) (a_r0 : Nat) (a_r0_figures : Nat) (a_r0_hampers : Nat) (a_r0_kinds : Nat) (a_r0_refusals : Nat) (a_r0_weights : Nat) (v_r0_wants0 v_r0_left0 v_r0_done0 v_r0_letters v_r0_letterMany v_r0_at v_r0_isBad v_r0_statements v_r0_placeIn v_r0_letterOf v_r0_told v_r0_kept v_r0_imaged v_r0_hasImage v_r0_place0 v_r0_isTaking v_r0_keptIn v_r0_turns0 v_r0_turnOf v_r0_turned v_r0_order0 v_r0_likely0 v_r0_leftThen v_r0_row v_r0_rowMany v_r0_seed : Value) (r0_days : Int32) (r0_things : Int32) (r0_thrown : Int32) (r0_figures : Nat → Int32) (r0_hampers : Nat → Int32) (r0_kinds : Nat → Int32) (r0_refusals : Nat → Int32) (r0_weights : Nat → Int32) : va_W := [(a_r0, .inr (9, [.ref a_r0_weights, .int r0_things, .ref a_r0_kinds, .ref a_r0_figures, .int r0_days, .ref a_r0_hampers, v_r0_wants0, v_r0_left0, v_r0_done0, .int r0_thrown, .ref a_r0_refusals, v_r0_letters, v_r0_letterMany, v_r0_at, v_r0_isBad, v_r0_statements, v_r0_placeIn, v_r0_letterOf, v_r0_told, v_r0_kept, v_r0_imaged, v_r0_hasImage, v_r0_place0, v_r0_isTaking, v_r0_keptIn, v_r0_turns0, v_r0_turnOf, v_r0_turned, v_r0_order0, v_r0_likely0, v_r0_leftThen, v_r0_row, v_r0_rowMany, v_r0_seed])), (a_r0_figures, .inl (cI, 8, .inl r0_figures)), (a_r0_hampers, .inl (cI, 8, .inl r0_hampers)), (a_r0_kinds, .inl (cI, 8, .inl r0_kinds)), (a_r0_refusals, .inl (cI, 7, .inl r0_refusals)), (a_r0_weights, .inl (cI, 6, .inl r0_weights))]
def F_M_worth_J18_3 (r0_things : Int32) (r0_figures : Nat → Int32) (r0_hampers : Nat → Int32) (r0_kinds : Nat → Int32) (r0_refusals : Nat → Int32) (r0_weights : Nat → Int32) (x1 : Int32) (x2 : Int32) (s0_3 : Int32) : Option (Int64 × (Int32) × (Nat → Int32)) :=
  ((F_M_wrongBit s0_3 x2 (1 : Int32)).bind (fun q_4 => (if (0 : Int32) ≤ q_4 then (ck x1 8 ((F_M_couldBe r0_things r0_figures r0_kinds (r0_hampers (Int32.toNatClampNeg x1))).bind (fun q_7 => ((F_M_likeliest r0_weights q_7).bind (fun q_8 => (if (0 : Int32) ≤ q_8 then ((F_M_likeliest r0_weights (63 : Int32)).bind (fun q_10 => (ck q_10 6 (ck q_8 6 ((F_M_weightOf r0_weights (63 : Int32)).bind (fun q_13 => ((F_M_weightOf r0_weights q_7).bind (fun q_14 => ((F_M_weightOf r0_weights q_7).bind (fun q_15 => ((F_M_weightOf r0_weights (63 : Int32)).bind (fun q_16 => (if (0 : Int32) < (lg_cmp (((Int32.toInt64 (r0_weights (Int32.toNatClampNeg q_8))) * (Int32.toInt64 q_13)) - ((Int32.toInt64 (r0_weights (Int32.toNatClampNeg q_10))) * (Int32.toInt64 q_14))) 0) then ((F_M_partOf (((Int32.toInt64 (r0_weights (Int32.toNatClampNeg q_8))) * (Int32.toInt64 q_13)) - ((Int32.toInt64 (r0_weights (Int32.toNatClampNeg q_10))) * (Int32.toInt64 q_14))) ((Int32.toInt64 q_15) * (Int32.toInt64 q_16)) x2).bind (fun q_18 => (some (q_18, 0, r0_refusals)))) else (some ((Int32.toInt64 x2), 0, r0_refusals))))))))))))))) else (some ((Int32.toInt64 x2), 0, r0_refusals)))))))) else ((F_M_refuse r0_refusals q_4).bind (fun q_19 => (some ((((4000000000000000000 : Int64) : Int64) - (Int32.toInt64 q_19.1)), 0, q_19.2)))))))
def F_M_worth (r0_days : Int32) (r0_things : Int32) (r0_figures : Nat → Int32) (r0_hampers : Nat → Int32) (r0_kinds : Nat → Int32) (r0_refusals : Nat → Int32) (r0_weights : Nat → Int32) (x1 : Int32) (x2 : Int32) : Option (Int64 × (Int32) × (Nat → Int32)) :=
  ((F_M_isDay r0_days x1).bind (fun q_1 => (if q_1 = 0 then (F_M_worth_J18_3 r0_things r0_figures r0_hampers r0_kinds r0_refusals r0_weights x1 x2 (-1)) else (F_M_worth_J18_3 r0_things r0_figures r0_hampers r0_kinds r0_refusals r0_weights x1 x2 0))))
set_option maxHeartbeats 4000000 in
set_option maxRecDepth 100000 in
theorem C_M_worth (l : Launch) (D : va_G) (cI cS : ClassId) (a_r0 : Nat) (a_r0_figures : Nat) (a_r0_hampers : Nat) (a_r0_kinds : Nat) (a_r0_refusals : Nat) (a_r0_weights : Nat) (v_r0_wants0 v_r0_left0 v_r0_done0 v_r0_letters v_r0_letterMany v_r0_at v_r0_isBad v_r0_statements v_r0_placeIn v_r0_letterOf v_r0_told v_r0_kept v_r0_imaged v_r0_hasImage v_r0_place0 v_r0_isTaking v_r0_keptIn v_r0_turns0 v_r0_turnOf v_r0_turned v_r0_order0 v_r0_likely0 v_r0_leftThen v_r0_row v_r0_rowMany v_r0_seed : Value) (r0_days : Int32) (r0_things : Int32) (r0_thrown : Int32) (r0_figures : Nat → Int32) (r0_hampers : Nat → Int32) (r0_kinds : Nat → Int32) (r0_refusals : Nat → Int32) (r0_weights : Nat → Int32) (x1 : Int32) (x2 : Int32) (o : Int64 × (Int32) × (Nat → Int32)) (hr : F_M_worth r0_days r0_things r0_figures r0_hampers r0_kinds r0_refusals r0_weights x1 x2 = some o) : ctL l y_M_worth (Cond.code y_M_worth b_M_worth 11 (some FieldType.long)) (rmd 3) D (kTy cI cS) [.ref a_r0, .int x1, .int x2] (w_M_worth cI a_r0 a_r0_figures a_r0_hampers a_r0_kinds a_r0_refusals a_r0_weights v_r0_wants0 v_r0_left0 v_r0_done0 v_r0_letters v_r0_letterMany v_r0_at v_r0_isBad v_r0_statements v_r0_placeIn v_r0_letterOf v_r0_told v_r0_kept v_r0_imaged v_r0_hasImage v_r0_place0 v_r0_isTaking v_r0_keptIn v_r0_turns0 v_r0_turnOf v_r0_turned v_r0_order0 v_r0_likely0 v_r0_leftThen v_r0_row v_r0_rowMany v_r0_seed r0_days r0_things r0_thrown r0_figures r0_hampers r0_kinds r0_refusals r0_weights) (w_M_worth cI a_r0 a_r0_figures a_r0_hampers a_r0_kinds a_r0_refusals a_r0_weights v_r0_wants0 v_r0_left0 v_r0_done0 v_r0_letters v_r0_letterMany v_r0_at v_r0_isBad v_r0_statements v_r0_placeIn v_r0_letterOf v_r0_told v_r0_kept v_r0_imaged v_r0_hasImage v_r0_place0 v_r0_isTaking v_r0_keptIn v_r0_turns0 v_r0_turnOf v_r0_turned v_r0_order0 v_r0_likely0 v_r0_leftThen v_r0_row v_r0_rowMany v_r0_seed r0_days r0_things o.2.1 r0_figures r0_hampers r0_kinds o.2.2 r0_weights) o.1 := by
  unfold F_M_worth at hr
  refine ⟨rfl, fun sz => ct_of (w0 := (w_M_worth cI a_r0 a_r0_figures a_r0_hampers a_r0_kinds a_r0_refusals a_r0_weights v_r0_wants0 v_r0_left0 v_r0_done0 v_r0_letters v_r0_letterMany v_r0_at v_r0_isBad v_r0_statements v_r0_placeIn v_r0_letterOf v_r0_told v_r0_kept v_r0_imaged v_r0_hasImage v_r0_place0 v_r0_isTaking v_r0_keptIn v_r0_turns0 v_r0_turnOf v_r0_turned v_r0_order0 v_r0_likely0 v_r0_leftThen v_r0_row v_r0_rowMany v_r0_seed r0_days r0_things r0_thrown r0_figures r0_hampers r0_kinds r0_refusals r0_weights)) (Qc := fun A => qL D (w_M_worth cI a_r0 a_r0_figures a_r0_hampers a_r0_kinds a_r0_refusals a_r0_weights v_r0_wants0 v_r0_left0 v_r0_done0 v_r0_letters v_r0_letterMany v_r0_at v_r0_isBad v_r0_statements v_r0_placeIn v_r0_letterOf v_r0_told v_r0_kept v_r0_imaged v_r0_hasImage v_r0_place0 v_r0_isTaking v_r0_keptIn v_r0_turns0 v_r0_turnOf v_r0_turned v_r0_order0 v_r0_likely0 v_r0_leftThen v_r0_row v_r0_rowMany v_r0_seed r0_days r0_things o.2.1 r0_figures r0_hampers r0_kinds o.2.2 r0_weights) o.1 A) rfl (Nat.le_of_ble_eq_true rfl) ?_ sz⟩
  intro p e s m below meth c A hA C hret ls hl hW
  have C : cx p s m ([.ref a_r0, .int x1, .int x2] : List Value).toArray meth c b_M_worth 11 R_M D (kTy cI cS) (Cond.code y_M_worth b_M_worth 11 (some FieldType.long)) := C
  obtain ⟨hx, hb, hml, hown, hts, hK, hlk, hN⟩ := id C
  have hl : lv_has ls 11 [(0, .ref a_r0), (1, .int x1), (2, .int x2)] := hl
  obtain ⟨Q, hQ⟩ : ∃ Q, Q = MQ below (qL D (w_M_worth cI a_r0 a_r0_figures a_r0_hampers a_r0_kinds a_r0_refusals a_r0_weights v_r0_wants0 v_r0_left0 v_r0_done0 v_r0_letters v_r0_letterMany v_r0_at v_r0_isBad v_r0_statements v_r0_placeIn v_r0_letterOf v_r0_told v_r0_kept v_r0_imaged v_r0_hasImage v_r0_place0 v_r0_isTaking v_r0_keptIn v_r0_turns0 v_r0_turnOf v_r0_turned v_r0_order0 v_r0_likely0 v_r0_leftThen v_r0_row v_r0_rowMany v_r0_seed r0_days r0_things o.2.1 r0_figures r0_hampers r0_kinds o.2.2 r0_weights) o.1 A) ([.ref a_r0, .int x1, .int x2] : List Value).toArray s 0 0 A := ⟨_, rfl⟩
  rw [← hQ]
  refine lv_aload_n hx hb d_M_worth_0 rfl (lv_at hl 0 rfl) ?_
  refine lv_iconst (v := 0) hx hb d_M_worth_1 (by decide) ?_
  refine k_put i_M t_M_ok n_M C hW 0 rfl rfl 9 (by decide) qf_M_67 rfl rfl (ty := .int) rfl rfl rfl (Nat.le_of_ble_eq_true rfl) (ws' := (w_M_worth cI a_r0 a_r0_figures a_r0_hampers a_r0_kinds a_r0_refusals a_r0_weights v_r0_wants0 v_r0_left0 v_r0_done0 v_r0_letters v_r0_letterMany v_r0_at v_r0_isBad v_r0_statements v_r0_placeIn v_r0_letterOf v_r0_told v_r0_kept v_r0_imaged v_r0_hasImage v_r0_place0 v_r0_isTaking v_r0_keptIn v_r0_turns0 v_r0_turnOf v_r0_turned v_r0_order0 v_r0_likely0 v_r0_leftThen v_r0_row v_r0_rowMany v_r0_seed r0_days r0_things 0 r0_figures r0_hampers r0_kinds r0_refusals r0_weights)) rfl d_M_worth_2 (fun H locs hW => ?_)
  refine lv_aload_n hx hb d_M_worth_5 rfl (lv_at hl 0 rfl) ?_
  refine lv_iload_n hx hb d_M_worth_6 rfl (lv_at hl 1 rfl) ?_
  obtain ⟨q_1, hc_1, hr⟩ := ob hr
  have ct_1 := C_M_isDay l D cI cS a_r0 (Value.ref a_r0_weights) (Value.int r0_things) (Value.ref a_r0_kinds) (Value.ref a_r0_figures) (Value.ref a_r0_hampers) v_r0_wants0 v_r0_left0 v_r0_done0 (Value.int 0) (Value.ref a_r0_refusals) v_r0_letters v_r0_letterMany v_r0_at v_r0_isBad v_r0_statements v_r0_placeIn v_r0_letterOf v_r0_told v_r0_kept v_r0_imaged v_r0_hasImage v_r0_place0 v_r0_isTaking v_r0_keptIn v_r0_turns0 v_r0_turnOf v_r0_turned v_r0_order0 v_r0_likely0 v_r0_leftThen v_r0_row v_r0_rowMany v_r0_seed r0_days x1 q_1 hc_1
  refine k_goIp hA hW [0] rfl rfl (k_runV C hA hW mw_M_isDay mv_M_isDay (ct_1.2 _) [0] rfl rfl 0 rfl rfl qm_M_150 ⟨Nat.le_of_ble_eq_true rfl, Nat.le_of_ble_eq_true rfl, Nat.zero_le _, Nat.zero_le _⟩ rfl rfl (Nat.le_of_ble_eq_true rfl) hl.1 d_M_worth_7) (fun H locs hW => ?_)
  have hJ_3 : ∀ (s0_3 : Int32), F_M_worth_J18_3 r0_things r0_figures r0_hampers r0_kinds r0_refusals r0_weights x1 x2 s0_3 = some o → ∀ (H : Heap) (locs : List Loc) (ls : Array Slot), wd A s.heap D (w_M_worth cI a_r0 a_r0_figures a_r0_hampers a_r0_kinds a_r0_refusals a_r0_weights v_r0_wants0 v_r0_left0 v_r0_done0 v_r0_letters v_r0_letterMany v_r0_at v_r0_isBad v_r0_statements v_r0_placeIn v_r0_letterOf v_r0_told v_r0_kept v_r0_imaged v_r0_hasImage v_r0_place0 v_r0_isTaking v_r0_keptIn v_r0_turns0 v_r0_turnOf v_r0_turned v_r0_order0 v_r0_likely0 v_r0_leftThen v_r0_row v_r0_rowMany v_r0_seed r0_days r0_things 0 r0_figures r0_hampers r0_kinds r0_refusals r0_weights) H locs → lv_has ls 11 [(0, .ref a_r0), (1, .int x1), (2, .int x2)] → W p l e (rmd 3) s m ([.ref a_r0, .int x1, .int x2] : List Value).toArray below meth c H locs 0 0 Q (F0 m 18 ls [.int s0_3]) := by
    intro s0_3 hr H locs ls hW hl
    unfold F_M_worth_J18_3 at hr
    refine lv_iload_n hx hb d_M_worth_18 rfl (lv_at hl 2 rfl) ?_
    refine lv_iconst (v := 1) hx hb d_M_worth_19 (by decide) ?_
    obtain ⟨q_4, hc_4, hr⟩ := ob hr
    have ct_4 := C_M_wrongBit l D cI cS s0_3 x2 1 q_4 hc_4
    refine k_goIp hA hW [] rfl rfl (k_runS C hA hW mw_M_wrongBit ms_M_wrongBit (ct_4.2 _) [] rfl rfl qm_M_219 ⟨Nat.le_of_ble_eq_true rfl, Nat.le_of_ble_eq_true rfl, Nat.zero_le _, Nat.zero_le _⟩ rfl rfl (Nat.le_of_ble_eq_true rfl) hl.1 d_M_worth_20) (fun H locs hW => ?_)
    refine lv_istore_n (lv' := [(3, .int q_4), (0, .ref a_r0), (1, .int x1), (2, .int x2)]) hx hb d_M_worth_23 rfl hl (by decide) rfl (fun ls hl => ?_)
    refine lv_iload_n hx hb d_M_worth_24 rfl (lv_at hl 0 rfl) ?_
    refine lv_if_ge (tgt := 39) hx hb d_M_worth_25 (by decide) (fun c_5 => ?_) (fun c_5 => ?_)
    · replace hr := ip c_5 hr
      refine lv_aload_n hx hb d_M_worth_39 rfl (lv_at hl 1 rfl) ?_
      refine lv_aload_n hx hb d_M_worth_40 rfl (lv_at hl 1 rfl) ?_
      refine k_get i_M C hW 0 rfl rfl 5 (by decide) qf_M_19 rfl rfl d_M_worth_41 ?_
      refine lv_iload_n hx hb d_M_worth_44 rfl (lv_at hl 2 rfl) ?_
      obtain ⟨h_6, hr⟩ := ck_some hr
      refine k_iald C hW 2 rfl h_6 d_M_worth_45 ?_
      obtain ⟨q_7, hc_7, hr⟩ := ob hr
      have ct_7 := C_M_couldBe l D cI cS a_r0 a_r0_figures a_r0_kinds (Value.ref a_r0_weights) (Value.int r0_days) (Value.ref a_r0_hampers) v_r0_wants0 v_r0_left0 v_r0_done0 (Value.int 0) (Value.ref a_r0_refusals) v_r0_letters v_r0_letterMany v_r0_at v_r0_isBad v_r0_statements v_r0_placeIn v_r0_letterOf v_r0_told v_r0_kept v_r0_imaged v_r0_hasImage v_r0_place0 v_r0_isTaking v_r0_keptIn v_r0_turns0 v_r0_turnOf v_r0_turned v_r0_order0 v_r0_likely0 v_r0_leftThen v_r0_row v_r0_rowMany v_r0_seed r0_things r0_figures r0_kinds (r0_hampers (Int32.toNatClampNeg x1)) q_7 hc_7
      refine k_goIp hA hW [0, 1, 3] rfl rfl (k_runV C hA hW mw_M_couldBe mv_M_couldBe (ct_7.2 _) [0, 1, 3] rfl rfl 0 rfl rfl qm_M_99 ⟨Nat.le_of_ble_eq_true rfl, Nat.le_of_ble_eq_true rfl, Nat.zero_le _, Nat.zero_le _⟩ rfl rfl (Nat.le_of_ble_eq_true rfl) hl.1 d_M_worth_46) (fun H locs hW => ?_)
      refine lv_istore (lv' := [(4, .int q_7), (3, .int q_4), (0, .ref a_r0), (1, .int x1), (2, .int x2)]) hx hb d_M_worth_49 hl (by decide) rfl (fun ls hl => ?_)
      refine lv_aload_n hx hb d_M_worth_51 rfl (lv_at hl 2 rfl) ?_
      refine lv_iload hx hb d_M_worth_52 (lv_at hl 0 rfl) ?_
      obtain ⟨q_8, hc_8, hr⟩ := ob hr
      have ct_8 := C_M_likeliest l D cI cS a_r0 a_r0_weights (Value.int r0_things) (Value.ref a_r0_kinds) (Value.ref a_r0_figures) (Value.int r0_days) (Value.ref a_r0_hampers) v_r0_wants0 v_r0_left0 v_r0_done0 (Value.int 0) (Value.ref a_r0_refusals) v_r0_letters v_r0_letterMany v_r0_at v_r0_isBad v_r0_statements v_r0_placeIn v_r0_letterOf v_r0_told v_r0_kept v_r0_imaged v_r0_hasImage v_r0_place0 v_r0_isTaking v_r0_keptIn v_r0_turns0 v_r0_turnOf v_r0_turned v_r0_order0 v_r0_likely0 v_r0_leftThen v_r0_row v_r0_rowMany v_r0_seed r0_weights q_7 q_8 hc_8
      refine k_goIp hA hW [0, 5] rfl rfl (k_runV C hA hW mw_M_likeliest mv_M_likeliest (ct_8.2 _) [0, 5] rfl rfl 0 rfl rfl qm_M_102 ⟨Nat.le_of_ble_eq_true rfl, Nat.le_of_ble_eq_true rfl, Nat.zero_le _, Nat.zero_le _⟩ rfl rfl (Nat.le_of_ble_eq_true rfl) hl.1 d_M_worth_54) (fun H locs hW => ?_)
      refine lv_istore (lv' := [(5, .int q_8), (4, .int q_7), (3, .int q_4), (0, .ref a_r0), (1, .int x1), (2, .int x2)]) hx hb d_M_worth_57 hl (by decide) rfl (fun ls hl => ?_)
      refine lv_iload hx hb d_M_worth_59 (lv_at hl 0 rfl) ?_
      refine lv_if_ge (tgt := 67) hx hb d_M_worth_61 (by decide) (fun c_9 => ?_) (fun c_9 => ?_)
      · replace hr := ip c_9 hr
        refine lv_aload_n hx hb d_M_worth_67 rfl (lv_at hl 3 rfl) ?_
        refine k_get i_M C hW 0 rfl rfl 0 (by decide) qf_M_7 rfl rfl d_M_worth_68 ?_
        refine lv_aload_n hx hb d_M_worth_71 rfl (lv_at hl 3 rfl) ?_
        refine lv_bipush (v := 63) hx hb d_M_worth_72 (by decide) ?_
        obtain ⟨q_10, hc_10, hr⟩ := ob hr
        have ct_10 := C_M_likeliest l D cI cS a_r0 a_r0_weights (Value.int r0_things) (Value.ref a_r0_kinds) (Value.ref a_r0_figures) (Value.int r0_days) (Value.ref a_r0_hampers) v_r0_wants0 v_r0_left0 v_r0_done0 (Value.int 0) (Value.ref a_r0_refusals) v_r0_letters v_r0_letterMany v_r0_at v_r0_isBad v_r0_statements v_r0_placeIn v_r0_letterOf v_r0_told v_r0_kept v_r0_imaged v_r0_hasImage v_r0_place0 v_r0_isTaking v_r0_keptIn v_r0_turns0 v_r0_turnOf v_r0_turned v_r0_order0 v_r0_likely0 v_r0_leftThen v_r0_row v_r0_rowMany v_r0_seed r0_weights 63 q_10 hc_10
        refine k_goIp hA hW [0, 5] rfl rfl (k_runV C hA hW mw_M_likeliest mv_M_likeliest (ct_10.2 _) [0, 5] rfl rfl 0 rfl rfl qm_M_102 ⟨Nat.le_of_ble_eq_true rfl, Nat.le_of_ble_eq_true rfl, Nat.zero_le _, Nat.zero_le _⟩ rfl rfl (Nat.le_of_ble_eq_true rfl) hl.1 d_M_worth_74) (fun H locs hW => ?_)
        obtain ⟨h_11, hr⟩ := ck_some hr
        refine k_iald C hW 5 rfl h_11 d_M_worth_77 ?_
        refine lv_istore (lv' := [(6, .int (r0_weights (Int32.toNatClampNeg q_10))), (5, .int q_8), (4, .int q_7), (3, .int q_4), (0, .ref a_r0), (1, .int x1), (2, .int x2)]) hx hb d_M_worth_78 hl (by decide) rfl (fun ls hl => ?_)
        refine lv_aload_n hx hb d_M_worth_80 rfl (lv_at hl 4 rfl) ?_
        refine k_get i_M C hW 0 rfl rfl 0 (by decide) qf_M_7 rfl rfl d_M_worth_81 ?_
        refine lv_iload hx hb d_M_worth_84 (lv_at hl 1 rfl) ?_
        obtain ⟨h_12, hr⟩ := ck_some hr
        refine k_iald C hW 5 rfl h_12 d_M_worth_86 ?_
        refine lv_i2l hx hb d_M_worth_87 rfl ?_
        refine lv_aload_n hx hb d_M_worth_88 rfl (lv_at hl 4 rfl) ?_
        refine lv_bipush (v := 63) hx hb d_M_worth_89 (by decide) ?_
        obtain ⟨q_13, hc_13, hr⟩ := ob hr
        have ct_13 := C_M_weightOf l D cI cS a_r0 a_r0_weights (Value.int r0_things) (Value.ref a_r0_kinds) (Value.ref a_r0_figures) (Value.int r0_days) (Value.ref a_r0_hampers) v_r0_wants0 v_r0_left0 v_r0_done0 (Value.int 0) (Value.ref a_r0_refusals) v_r0_letters v_r0_letterMany v_r0_at v_r0_isBad v_r0_statements v_r0_placeIn v_r0_letterOf v_r0_told v_r0_kept v_r0_imaged v_r0_hasImage v_r0_place0 v_r0_isTaking v_r0_keptIn v_r0_turns0 v_r0_turnOf v_r0_turned v_r0_order0 v_r0_likely0 v_r0_leftThen v_r0_row v_r0_rowMany v_r0_seed r0_weights 63 q_13 hc_13
        refine k_goIp hA hW [0, 5] rfl rfl (k_runV C hA hW mw_M_weightOf mv_M_weightOf (ct_13.2 _) [0, 5] rfl rfl 0 rfl rfl qm_M_224 ⟨Nat.le_of_ble_eq_true rfl, Nat.le_of_ble_eq_true rfl, Nat.zero_le _, Nat.zero_le _⟩ rfl rfl (Nat.le_of_ble_eq_true rfl) hl.1 d_M_worth_91) (fun H locs hW => ?_)
        refine lv_i2l hx hb d_M_worth_94 rfl ?_
        refine lv_lmul hx hb d_M_worth_95 ?_
        refine lv_iload hx hb d_M_worth_96 (lv_at hl 0 rfl) ?_
        refine lv_i2l hx hb d_M_worth_98 rfl ?_
        refine lv_aload_n hx hb d_M_worth_99 rfl (lv_at hl 4 rfl) ?_
        refine lv_iload hx hb d_M_worth_100 (lv_at hl 2 rfl) ?_
        obtain ⟨q_14, hc_14, hr⟩ := ob hr
        have ct_14 := C_M_weightOf l D cI cS a_r0 a_r0_weights (Value.int r0_things) (Value.ref a_r0_kinds) (Value.ref a_r0_figures) (Value.int r0_days) (Value.ref a_r0_hampers) v_r0_wants0 v_r0_left0 v_r0_done0 (Value.int 0) (Value.ref a_r0_refusals) v_r0_letters v_r0_letterMany v_r0_at v_r0_isBad v_r0_statements v_r0_placeIn v_r0_letterOf v_r0_told v_r0_kept v_r0_imaged v_r0_hasImage v_r0_place0 v_r0_isTaking v_r0_keptIn v_r0_turns0 v_r0_turnOf v_r0_turned v_r0_order0 v_r0_likely0 v_r0_leftThen v_r0_row v_r0_rowMany v_r0_seed r0_weights q_7 q_14 hc_14
        refine k_goIp hA hW [0, 5] rfl rfl (k_runV C hA hW mw_M_weightOf mv_M_weightOf (ct_14.2 _) [0, 5] rfl rfl 0 rfl rfl qm_M_224 ⟨Nat.le_of_ble_eq_true rfl, Nat.le_of_ble_eq_true rfl, Nat.zero_le _, Nat.zero_le _⟩ rfl rfl (Nat.le_of_ble_eq_true rfl) hl.1 d_M_worth_102) (fun H locs hW => ?_)
        refine lv_i2l hx hb d_M_worth_105 rfl ?_
        refine lv_lmul hx hb d_M_worth_106 ?_
        refine lv_lsub hx hb d_M_worth_107 ?_
        refine lv_lstore (lv' := [(7, .long (((Int32.toInt64 (r0_weights (Int32.toNatClampNeg q_8))) * (Int32.toInt64 q_13)) - ((Int32.toInt64 (r0_weights (Int32.toNatClampNeg q_10))) * (Int32.toInt64 q_14)))), (6, .int (r0_weights (Int32.toNatClampNeg q_10))), (5, .int q_8), (4, .int q_7), (3, .int q_4), (0, .ref a_r0), (1, .int x1), (2, .int x2)]) hx hb d_M_worth_108 hl (by decide) rfl (fun ls hl => ?_)
        refine lv_aload_n hx hb d_M_worth_110 rfl (lv_at hl 5 rfl) ?_
        refine lv_iload hx hb d_M_worth_111 (lv_at hl 3 rfl) ?_
        obtain ⟨q_15, hc_15, hr⟩ := ob hr
        have ct_15 := C_M_weightOf l D cI cS a_r0 a_r0_weights (Value.int r0_things) (Value.ref a_r0_kinds) (Value.ref a_r0_figures) (Value.int r0_days) (Value.ref a_r0_hampers) v_r0_wants0 v_r0_left0 v_r0_done0 (Value.int 0) (Value.ref a_r0_refusals) v_r0_letters v_r0_letterMany v_r0_at v_r0_isBad v_r0_statements v_r0_placeIn v_r0_letterOf v_r0_told v_r0_kept v_r0_imaged v_r0_hasImage v_r0_place0 v_r0_isTaking v_r0_keptIn v_r0_turns0 v_r0_turnOf v_r0_turned v_r0_order0 v_r0_likely0 v_r0_leftThen v_r0_row v_r0_rowMany v_r0_seed r0_weights q_7 q_15 hc_15
        refine k_goIp hA hW [0, 5] rfl rfl (k_runV C hA hW mw_M_weightOf mv_M_weightOf (ct_15.2 _) [0, 5] rfl rfl 0 rfl rfl qm_M_224 ⟨Nat.le_of_ble_eq_true rfl, Nat.le_of_ble_eq_true rfl, Nat.zero_le _, Nat.zero_le _⟩ rfl rfl (Nat.le_of_ble_eq_true rfl) hl.1 d_M_worth_113) (fun H locs hW => ?_)
        refine lv_i2l hx hb d_M_worth_116 rfl ?_
        refine lv_aload_n hx hb d_M_worth_117 rfl (lv_at hl 5 rfl) ?_
        refine lv_bipush (v := 63) hx hb d_M_worth_118 (by decide) ?_
        obtain ⟨q_16, hc_16, hr⟩ := ob hr
        have ct_16 := C_M_weightOf l D cI cS a_r0 a_r0_weights (Value.int r0_things) (Value.ref a_r0_kinds) (Value.ref a_r0_figures) (Value.int r0_days) (Value.ref a_r0_hampers) v_r0_wants0 v_r0_left0 v_r0_done0 (Value.int 0) (Value.ref a_r0_refusals) v_r0_letters v_r0_letterMany v_r0_at v_r0_isBad v_r0_statements v_r0_placeIn v_r0_letterOf v_r0_told v_r0_kept v_r0_imaged v_r0_hasImage v_r0_place0 v_r0_isTaking v_r0_keptIn v_r0_turns0 v_r0_turnOf v_r0_turned v_r0_order0 v_r0_likely0 v_r0_leftThen v_r0_row v_r0_rowMany v_r0_seed r0_weights 63 q_16 hc_16
        refine k_goIp hA hW [0, 5] rfl rfl (k_runV C hA hW mw_M_weightOf mv_M_weightOf (ct_16.2 _) [0, 5] rfl rfl 0 rfl rfl qm_M_224 ⟨Nat.le_of_ble_eq_true rfl, Nat.le_of_ble_eq_true rfl, Nat.zero_le _, Nat.zero_le _⟩ rfl rfl (Nat.le_of_ble_eq_true rfl) hl.1 d_M_worth_120) (fun H locs hW => ?_)
        refine lv_i2l hx hb d_M_worth_123 rfl ?_
        refine lv_lmul hx hb d_M_worth_124 ?_
        refine lv_lstore (lv' := [(9, .long ((Int32.toInt64 q_15) * (Int32.toInt64 q_16))), (7, .long (((Int32.toInt64 (r0_weights (Int32.toNatClampNeg q_8))) * (Int32.toInt64 q_13)) - ((Int32.toInt64 (r0_weights (Int32.toNatClampNeg q_10))) * (Int32.toInt64 q_14)))), (6, .int (r0_weights (Int32.toNatClampNeg q_10))), (5, .int q_8), (4, .int q_7), (3, .int q_4), (0, .ref a_r0), (1, .int x1), (2, .int x2)]) hx hb d_M_worth_125 hl (by decide) rfl (fun ls hl => ?_)
        refine lv_lload hx hb d_M_worth_127 (lv_at hl 1 rfl) ?_
        refine lv_lconst (v := 0) hx hb d_M_worth_129 (by decide) ?_
        refine W.lcmp hx hb d_M_worth_130 ?_
        refine lv_if_gt (tgt := 139) hx hb d_M_worth_131 (by decide) (fun c_17 => ?_) (fun c_17 => ?_)
        · replace hr := ip c_17 hr
          refine lv_lload hx hb d_M_worth_139 (lv_at hl 1 rfl) ?_
          refine lv_lload hx hb d_M_worth_141 (lv_at hl 0 rfl) ?_
          refine lv_iload_n hx hb d_M_worth_143 rfl (lv_at hl 8 rfl) ?_
          obtain ⟨q_18, hc_18, hr⟩ := ob hr
          have ct_18 := C_M_partOf l D cI cS (((Int32.toInt64 (r0_weights (Int32.toNatClampNeg q_8))) * (Int32.toInt64 q_13)) - ((Int32.toInt64 (r0_weights (Int32.toNatClampNeg q_10))) * (Int32.toInt64 q_14))) ((Int32.toInt64 q_15) * (Int32.toInt64 q_16)) x2 q_18 hc_18
          refine k_goLp hA hW [] rfl rfl (k_runS C hA hW mw_M_partOf ms_M_partOf (ct_18.2 _) [] rfl rfl qm_M_227 ⟨Nat.le_of_ble_eq_true rfl, Nat.le_of_ble_eq_true rfl, Nat.zero_le _, Nat.zero_le _⟩ rfl rfl (Nat.le_of_ble_eq_true rfl) hl.1 d_M_worth_144) (fun H locs hW => ?_)
          obtain rfl := Option.some.inj hr
          rw [hQ]; exact k_lret C hret hW d_M_worth_147
        · replace hr := iN c_17 hr
          refine lv_iload_n hx hb d_M_worth_134 rfl (lv_at hl 8 rfl) ?_
          refine lv_i2l hx hb d_M_worth_135 rfl ?_
          refine lv_goto (tgt := 147) hx hb d_M_worth_136 (by decide) ?_
          obtain rfl := Option.some.inj hr
          rw [hQ]; exact k_lret C hret hW d_M_worth_147
      · replace hr := iN c_9 hr
        refine lv_iload_n hx hb d_M_worth_64 rfl (lv_at hl 5 rfl) ?_
        refine lv_i2l hx hb d_M_worth_65 rfl ?_
        obtain rfl := Option.some.inj hr
        rw [hQ]; exact k_lret C hret hW d_M_worth_66
    · replace hr := iN c_5 hr
      refine lv_ldc2 (v := 4000000000000000000) hx hb hown (hts _ (List.mem_cons_of_mem _ (qc_M_222))) d_M_worth_28 ?_
      refine lv_aload_n hx hb d_M_worth_31 rfl (lv_at hl 1 rfl) ?_
      refine lv_iload_n hx hb d_M_worth_32 rfl (lv_at hl 0 rfl) ?_
      obtain ⟨q_19, hc_19, hr⟩ := ob hr
      have ct_19 := C_M_refuse l D cI cS a_r0 a_r0_refusals (Value.ref a_r0_weights) (Value.int r0_things) (Value.ref a_r0_kinds) (Value.ref a_r0_figures) (Value.int r0_days) (Value.ref a_r0_hampers) v_r0_wants0 v_r0_left0 v_r0_done0 (Value.int 0) v_r0_letters v_r0_letterMany v_r0_at v_r0_isBad v_r0_statements v_r0_placeIn v_r0_letterOf v_r0_told v_r0_kept v_r0_imaged v_r0_hasImage v_r0_place0 v_r0_isTaking v_r0_keptIn v_r0_turns0 v_r0_turnOf v_r0_turned v_r0_order0 v_r0_likely0 v_r0_leftThen v_r0_row v_r0_rowMany v_r0_seed r0_refusals q_4 q_19 hc_19
      refine k_goI hA hW [0, 4] rfl ct_19.1 (ws' := (w_M_worth cI a_r0 a_r0_figures a_r0_hampers a_r0_kinds a_r0_refusals a_r0_weights v_r0_wants0 v_r0_left0 v_r0_done0 v_r0_letters v_r0_letterMany v_r0_at v_r0_isBad v_r0_statements v_r0_placeIn v_r0_letterOf v_r0_told v_r0_kept v_r0_imaged v_r0_hasImage v_r0_place0 v_r0_isTaking v_r0_keptIn v_r0_turns0 v_r0_turnOf v_r0_turned v_r0_order0 v_r0_likely0 v_r0_leftThen v_r0_row v_r0_rowMany v_r0_seed r0_days r0_things 0 r0_figures r0_hampers r0_kinds q_19.2 r0_weights)) rfl (k_runV C hA hW mw_M_refuse mv_M_refuse (ct_19.2 _) [0, 4] rfl rfl 0 rfl rfl qm_M_108 ⟨Nat.le_of_ble_eq_true rfl, Nat.le_of_ble_eq_true rfl, Nat.zero_le _, Nat.zero_le _⟩ rfl rfl (Nat.le_of_ble_eq_true rfl) hl.1 d_M_worth_33) (fun H locs hW => ?_)
      refine lv_i2l hx hb d_M_worth_36 rfl ?_
      refine lv_lsub hx hb d_M_worth_37 ?_
      obtain rfl := Option.some.inj hr
      rw [hQ]; exact k_lret C hret hW d_M_worth_38
  refine lv_if_eq (tgt := 17) hx hb d_M_worth_10 (by decide) (fun c_2 => ?_) (fun c_2 => ?_)
  · replace hr := ip c_2 hr
    refine lv_iconst (v := (-1)) hx hb d_M_worth_17 (by decide) ?_
    exact hJ_3 (-1) hr _ _ _ hW (lv_sub hl [0, 1, 2] rfl)
  · replace hr := iN c_2 hr
    refine lv_iconst (v := 0) hx hb d_M_worth_13 (by decide) ?_
    refine lv_goto (tgt := 18) hx hb d_M_worth_14 (by decide) ?_
    exact hJ_3 0 hr _ _ _ hW (lv_sub hl [0, 1, 2] rfl)
def w_M_wrong (cI : ClassId) (a_r0 : Nat) (a_r0_figures : Nat) (a_r0_hampers : Nat) (a_r0_kept : Nat) (a_r0_kinds : Nat) (a_r0_left0 : Nat) (a_r0_refusals : Nat) (a_r0_wants0 : Nat) (a_r0_weights : Nat) (v_r0_letters v_r0_letterMany v_r0_at v_r0_isBad v_r0_statements v_r0_placeIn v_r0_letterOf v_r0_told v_r0_imaged v_r0_hasImage v_r0_turns0 v_r0_turnOf v_r0_turned v_r0_order0 v_r0_likely0 v_r0_leftThen v_r0_row v_r0_rowMany v_r0_seed : Value) (kv : Int32 → Value) (r0_days : Int32) (r0_done0 : Int32) (r0_isTaking : Int32) (r0_keptIn : Int32) (r0_place0 : Int32) (r0_things : Int32) (r0_thrown : Int32) (r0_figures : Nat → Int32) (r0_hampers : Nat → Int32) (r0_kept : Nat → Int32) (r0_kinds : Nat → Int32) (r0_left0 : Nat → Int32) (r0_refusals : Nat → Int32) (r0_wants0 : Nat → Int32) (r0_weights : Nat → Int32) : va_W := [(a_r0, .inr (9, [.ref a_r0_weights, .int r0_things, .ref a_r0_kinds, .ref a_r0_figures, .int r0_days, .ref a_r0_hampers, .ref a_r0_wants0, .ref a_r0_left0, .int r0_done0, .int r0_thrown, .ref a_r0_refusals, v_r0_letters, v_r0_letterMany, v_r0_at, v_r0_isBad, v_r0_statements, v_r0_placeIn, v_r0_letterOf, v_r0_told, .ref a_r0_kept, v_r0_imaged, v_r0_hasImage, .int r0_place0, .int r0_isTaking, (kv r0_keptIn), v_r0_turns0, v_r0_turnOf, v_r0_turned, v_r0_order0, v_r0_likely0, v_r0_leftThen, v_r0_row, v_r0_rowMany, v_r0_seed])), (a_r0_figures, .inl (cI, 8, .inl r0_figures)), (a_r0_hampers, .inl (cI, 8, .inl r0_hampers)), (a_r0_kept, .inl (cI, 41, .inl r0_kept)), (a_r0_kinds, .inl (cI, 8, .inl r0_kinds)), (a_r0_left0, .inl (cI, 4, .inl r0_left0)), (a_r0_refusals, .inl (cI, 7, .inl r0_refusals)), (a_r0_wants0, .inl (cI, 4, .inl r0_wants0)), (a_r0_weights, .inl (cI, 6, .inl r0_weights))]
def F_M_wrong_L82 (x1 : Int32) (x2 : Int32) (y7_5 : Int64) (y9_5 : Int32) : Option (((Int64) × (Int32)) ⊕ ((Int64))) :=
  (if x1 ≤ y9_5 then (some (.inr y7_5)) else (some (.inl ((y7_5 * (Int32.toInt64 x2)), (y9_5 + 1)))))
def F_M_wrong_J172_17 (r0_wants0_8 : Nat → Int32) (r0_done0_10 : Int32) (r0_left0_10 : Nat → Int32) (y10_10 : Int64) (y12_10 : Int32) (s1_14 : Int64) (s1_17 : Int32) : Option (((Int64) × (Int32) × (Int32) × (Nat → Int32)) ⊕ ((Int64) × (Int32) × (Nat → Int32))) :=
  ((F_M_spendWith r0_done0_10 r0_left0_10 r0_wants0_8 s1_17).bind (fun q_18 => (some (.inl ((y10_10 * s1_14), (y12_10 + 1), q_18.2.1, q_18.2.2)))))
def F_M_wrong_J148_14 (r0_figures_8 : Nat → Int32) (r0_hampers_8 : Nat → Int32) (r0_kinds_8 : Nat → Int32) (r0_things_8 : Int32) (r0_wants0_8 : Nat → Int32) (r0_weights_8 : Nat → Int32) (y9_8 : Int32) (r0_done0_10 : Int32) (r0_left0_10 : Nat → Int32) (y10_10 : Int64) (y12_10 : Int32) (s1_14 : Int64) : Option (((Int64) × (Int32) × (Int32) × (Nat → Int32)) ⊕ ((Int64) × (Int32) × (Nat → Int32))) :=
  ((F_M_hasBit y9_8 y12_10).bind (fun q_15 => (if q_15 = 0 then ((F_M_likelyOn r0_things_8 r0_figures_8 r0_hampers_8 r0_kinds_8 r0_weights_8 y12_10).bind (fun q_19 => (F_M_wrong_J172_17 r0_wants0_8 r0_done0_10 r0_left0_10 y10_10 y12_10 s1_14 q_19))) else (F_M_wrong_J172_17 r0_wants0_8 r0_done0_10 r0_left0_10 y10_10 y12_10 s1_14 1))))
def F_M_wrong_L122 (r0_figures_8 : Nat → Int32) (r0_hampers_8 : Nat → Int32) (r0_kinds_8 : Nat → Int32) (r0_things_8 : Int32) (r0_wants0_8 : Nat → Int32) (r0_weights_8 : Nat → Int32) (y9_8 : Int32) (x1 : Int32) (x2 : Int32) (y10_10 : Int64) (y12_10 : Int32) (r0_done0_10 : Int32) (r0_left0_10 : Nat → Int32) : Option (((Int64) × (Int32) × (Int32) × (Nat → Int32)) ⊕ ((Int64) × (Int32) × (Nat → Int32))) :=
  (if x1 ≤ y12_10 then (some (.inr (y10_10, r0_done0_10, r0_left0_10))) else ((F_M_hasBit y9_8 y12_10).bind (fun q_12 => (if q_12 = 0 then (F_M_wrong_J148_14 r0_figures_8 r0_hampers_8 r0_kinds_8 r0_things_8 r0_wants0_8 r0_weights_8 y9_8 r0_done0_10 r0_left0_10 y10_10 y12_10 (Int32.toInt64 (x2 - 1))) else (F_M_wrong_J148_14 r0_figures_8 r0_hampers_8 r0_kinds_8 r0_things_8 r0_wants0_8 r0_weights_8 y9_8 r0_done0_10 r0_left0_10 y10_10 y12_10 1)))))
def F_M_wrong_J197_22 (r0_days_8 : Int32) (r0_figures_8 : Nat → Int32) (r0_hampers_8 : Nat → Int32) (r0_kept_8 : Nat → Int32) (r0_kinds_8 : Nat → Int32) (r0_things_8 : Int32) (r0_wants0_8 : Nat → Int32) (r0_weights_8 : Nat → Int32) (y5_8 : Int64) (y9_8 : Int32) (e_10 : (Int64) × (Int32) × (Nat → Int32)) (s1_22 : Int64) : Option (((Int64) × (Int32) × (Int32) × (Int32) × (Int32) × (Int32) × (Int32) × (Int32) × (Nat → Int32) × (Nat → Int32) × (Nat → Int32) × (Nat → Int32) × (Nat → Int32) × (Nat → Int32) × (Nat → Int32)) ⊕ ((Int64) × (Int32) × (Int32) × (Int32) × (Int32) × (Int32) × (Int32) × (Nat → Int32) × (Nat → Int32) × (Nat → Int32) × (Nat → Int32) × (Nat → Int32) × (Nat → Int32) × (Nat → Int32))) :=
  ((F_M_again r0_days_8 e_10.2.1 r0_things_8 r0_figures_8 r0_hampers_8 r0_kept_8 r0_kinds_8 e_10.2.2 r0_wants0_8 r0_weights_8).bind (fun q_23 => (some (.inl ((y5_8 + s1_22), (y9_8 + 1), q_23.1, q_23.2.1, q_23.2.2.1, q_23.2.2.2.1, q_23.2.2.2.2.1, q_23.2.2.2.2.2.1, q_23.2.2.2.2.2.2.1, q_23.2.2.2.2.2.2.2.1, q_23.2.2.2.2.2.2.2.2.1, q_23.2.2.2.2.2.2.2.2.2.1, q_23.2.2.2.2.2.2.2.2.2.2.1, q_23.2.2.2.2.2.2.2.2.2.2.2.1, q_23.2.2.2.2.2.2.2.2.2.2.2.2)))))
def F_M_wrong_L108 (x1 : Int32) (x2 : Int32) (y5_8 : Int64) (y9_8 : Int32) (r0_days_8 : Int32) (r0_done0_8 : Int32) (r0_isTaking_8 : Int32) (r0_keptIn_8 : Int32) (r0_place0_8 : Int32) (r0_things_8 : Int32) (r0_figures_8 : Nat → Int32) (r0_hampers_8 : Nat → Int32) (r0_kept_8 : Nat → Int32) (r0_kinds_8 : Nat → Int32) (r0_left0_8 : Nat → Int32) (r0_wants0_8 : Nat → Int32) (r0_weights_8 : Nat → Int32) : Option (((Int64) × (Int32) × (Int32) × (Int32) × (Int32) × (Int32) × (Int32) × (Int32) × (Nat → Int32) × (Nat → Int32) × (Nat → Int32) × (Nat → Int32) × (Nat → Int32) × (Nat → Int32) × (Nat → Int32)) ⊕ ((Int64) × (Int32) × (Int32) × (Int32) × (Int32) × (Int32) × (Int32) × (Nat → Int32) × (Nat → Int32) × (Nat → Int32) × (Nat → Int32) × (Nat → Int32) × (Nat → Int32) × (Nat → Int32))) :=
  (if ((1 : Int32) <<< ((x1 : Int32) &&& 31)) ≤ y9_8 then (some (.inr (y5_8, r0_days_8, r0_done0_8, r0_isTaking_8, r0_keptIn_8, r0_place0_8, r0_things_8, r0_figures_8, r0_hampers_8, r0_kept_8, r0_kinds_8, r0_left0_8, r0_wants0_8, r0_weights_8))) else ((wh (fun (s : (Int64) × (Int32) × (Int32) × (Nat → Int32)) => F_M_wrong_L122 r0_figures_8 r0_hampers_8 r0_kinds_8 r0_things_8 r0_wants0_8 r0_weights_8 y9_8 x1 x2 s.1 s.2.1 s.2.2.1 s.2.2.2) 400 ((1 : Int64), (0 : Int32), r0_done0_8, r0_left0_8)).bind (fun e_10 => ((F_M_allLeft e_10.2.2).bind (fun q_20 => (if q_20 = 0 then (F_M_wrong_J197_22 r0_days_8 r0_figures_8 r0_hampers_8 r0_kept_8 r0_kinds_8 r0_things_8 r0_wants0_8 r0_weights_8 y5_8 y9_8 e_10 e_10.1) else (F_M_wrong_J197_22 r0_days_8 r0_figures_8 r0_hampers_8 r0_kept_8 r0_kinds_8 r0_things_8 r0_wants0_8 r0_weights_8 y5_8 y9_8 e_10 0)))))))
def F_M_wrong_J45_2 (r0_days : Int32) (r0_done0 : Int32) (r0_isTaking : Int32) (r0_keptIn : Int32) (r0_place0 : Int32) (r0_things : Int32) (r0_figures : Nat → Int32) (r0_hampers : Nat → Int32) (r0_kept : Nat → Int32) (r0_kinds : Nat → Int32) (r0_left0 : Nat → Int32) (r0_refusals : Nat → Int32) (r0_wants0 : Nat → Int32) (r0_weights : Nat → Int32) (x1 : Int32) (x2 : Int32) (x3 : Int32) (s0_2 : Int32) : Option (Int64 × (Int32) × (Int32) × (Int32) × (Int32) × (Int32) × (Int32) × (Int32) × (Nat → Int32) × (Nat → Int32) × (Nat → Int32) × (Nat → Int32) × (Nat → Int32) × (Nat → Int32) × (Nat → Int32) × (Nat → Int32)) :=
  ((F_M_wrongBit s0_2 x3 (1 : Int32)).bind (fun q_3 => (if (0 : Int32) ≤ q_3 then ((wh (fun (s : (Int64) × (Int32)) => F_M_wrong_L82 x1 x2 s.1 s.2) 400 ((1 : Int64), (0 : Int32))).bind (fun e_5 => ((F_M_think r0_days r0_done0 r0_things r0_figures r0_hampers r0_kept r0_kinds r0_left0 r0_wants0 r0_weights).bind (fun q_7 => ((wh (fun (s : (Int64) × (Int32) × (Int32) × (Int32) × (Int32) × (Int32) × (Int32) × (Int32) × (Nat → Int32) × (Nat → Int32) × (Nat → Int32) × (Nat → Int32) × (Nat → Int32) × (Nat → Int32) × (Nat → Int32)) => F_M_wrong_L108 x1 x2 s.1 s.2.1 s.2.2.1 s.2.2.2.1 s.2.2.2.2.1 s.2.2.2.2.2.1 s.2.2.2.2.2.2.1 s.2.2.2.2.2.2.2.1 s.2.2.2.2.2.2.2.2.1 s.2.2.2.2.2.2.2.2.2.1 s.2.2.2.2.2.2.2.2.2.2.1 s.2.2.2.2.2.2.2.2.2.2.2.1 s.2.2.2.2.2.2.2.2.2.2.2.2.1 s.2.2.2.2.2.2.2.2.2.2.2.2.2.1 s.2.2.2.2.2.2.2.2.2.2.2.2.2.2) 400 ((0 : Int64), (0 : Int32), q_7.1, q_7.2.1, q_7.2.2.1, q_7.2.2.2.1, q_7.2.2.2.2.1, q_7.2.2.2.2.2.1, q_7.2.2.2.2.2.2.1, q_7.2.2.2.2.2.2.2.1, q_7.2.2.2.2.2.2.2.2.1, q_7.2.2.2.2.2.2.2.2.2.1, q_7.2.2.2.2.2.2.2.2.2.2.1, q_7.2.2.2.2.2.2.2.2.2.2.2.1, q_7.2.2.2.2.2.2.2.2.2.2.2.2)).bind (fun e_8 => ((F_M_partOf e_8.1 e_5 x3).bind (fun q_24 => (some (q_24, e_8.2.1, e_8.2.2.1, e_8.2.2.2.1, e_8.2.2.2.2.1, e_8.2.2.2.2.2.1, e_8.2.2.2.2.2.2.1, 0, e_8.2.2.2.2.2.2.2.1, e_8.2.2.2.2.2.2.2.2.1, e_8.2.2.2.2.2.2.2.2.2.1, e_8.2.2.2.2.2.2.2.2.2.2.1, e_8.2.2.2.2.2.2.2.2.2.2.2.1, r0_refusals, e_8.2.2.2.2.2.2.2.2.2.2.2.2.1, e_8.2.2.2.2.2.2.2.2.2.2.2.2.2)))))))))) else ((F_M_refuse r0_refusals q_3).bind (fun q_25 => (some ((((4000000000000000000 : Int64) : Int64) - (Int32.toInt64 q_25.1)), r0_days, r0_done0, r0_isTaking, r0_keptIn, r0_place0, r0_things, 0, r0_figures, r0_hampers, r0_kept, r0_kinds, r0_left0, q_25.2, r0_wants0, r0_weights)))))))
def F_M_wrong_J14_26 (r0_days : Int32) (r0_done0 : Int32) (r0_isTaking : Int32) (r0_keptIn : Int32) (r0_place0 : Int32) (r0_things : Int32) (r0_figures : Nat → Int32) (r0_hampers : Nat → Int32) (r0_kept : Nat → Int32) (r0_kinds : Nat → Int32) (r0_left0 : Nat → Int32) (r0_refusals : Nat → Int32) (r0_wants0 : Nat → Int32) (r0_weights : Nat → Int32) (x1 : Int32) (x2 : Int32) (x3 : Int32) : Option (Int64 × (Int32) × (Int32) × (Int32) × (Int32) × (Int32) × (Int32) × (Int32) × (Nat → Int32) × (Nat → Int32) × (Nat → Int32) × (Nat → Int32) × (Nat → Int32) × (Nat → Int32) × (Nat → Int32) × (Nat → Int32)) :=
  (F_M_wrong_J45_2 r0_days r0_done0 r0_isTaking r0_keptIn r0_place0 r0_things r0_figures r0_hampers r0_kept r0_kinds r0_left0 r0_refusals r0_wants0 r0_weights x1 x2 x3 (-4))
def F_M_wrong_J39_29 (r0_days : Int32) (r0_done0 : Int32) (r0_isTaking : Int32) (r0_keptIn : Int32) (r0_place0 : Int32) (r0_things : Int32) (r0_figures : Nat → Int32) (r0_hampers : Nat → Int32) (r0_kept : Nat → Int32) (r0_kinds : Nat → Int32) (r0_left0 : Nat → Int32) (r0_refusals : Nat → Int32) (r0_wants0 : Nat → Int32) (r0_weights : Nat → Int32) (x1 : Int32) (x2 : Int32) (x3 : Int32) : Option (Int64 × (Int32) × (Int32) × (Int32) × (Int32) × (Int32) × (Int32) × (Int32) × (Nat → Int32) × (Nat → Int32) × (Nat → Int32) × (Nat → Int32) × (Nat → Int32) × (Nat → Int32) × (Nat → Int32) × (Nat → Int32)) :=
  (F_M_wrong_J45_2 r0_days r0_done0 r0_isTaking r0_keptIn r0_place0 r0_things r0_figures r0_hampers r0_kept r0_kinds r0_left0 r0_refusals r0_wants0 r0_weights x1 x2 x3 (-6))
def F_M_wrong (r0_days : Int32) (r0_done0 : Int32) (r0_isTaking : Int32) (r0_keptIn : Int32) (r0_place0 : Int32) (r0_things : Int32) (r0_figures : Nat → Int32) (r0_hampers : Nat → Int32) (r0_kept : Nat → Int32) (r0_kinds : Nat → Int32) (r0_left0 : Nat → Int32) (r0_refusals : Nat → Int32) (r0_wants0 : Nat → Int32) (r0_weights : Nat → Int32) (x1 : Int32) (x2 : Int32) (x3 : Int32) : Option (Int64 × (Int32) × (Int32) × (Int32) × (Int32) × (Int32) × (Int32) × (Int32) × (Nat → Int32) × (Nat → Int32) × (Nat → Int32) × (Nat → Int32) × (Nat → Int32) × (Nat → Int32) × (Nat → Int32) × (Nat → Int32)) :=
  (if x1 < 0 then (F_M_wrong_J14_26 r0_days r0_done0 r0_isTaking r0_keptIn r0_place0 r0_things r0_figures r0_hampers r0_kept r0_kinds r0_left0 r0_refusals r0_wants0 r0_weights x1 x2 x3) else (if (2 : Int32) ≤ x2 then (if (8 : Int32) < x1 then (F_M_wrong_J39_29 r0_days r0_done0 r0_isTaking r0_keptIn r0_place0 r0_things r0_figures r0_hampers r0_kept r0_kinds r0_left0 r0_refusals r0_wants0 r0_weights x1 x2 x3) else (if r0_days < x1 then (F_M_wrong_J39_29 r0_days r0_done0 r0_isTaking r0_keptIn r0_place0 r0_things r0_figures r0_hampers r0_kept r0_kinds r0_left0 r0_refusals r0_wants0 r0_weights x1 x2 x3) else (if x2 ≤ 20 then (F_M_wrong_J45_2 r0_days r0_done0 r0_isTaking r0_keptIn r0_place0 r0_things r0_figures r0_hampers r0_kept r0_kinds r0_left0 r0_refusals r0_wants0 r0_weights x1 x2 x3 0) else (F_M_wrong_J39_29 r0_days r0_done0 r0_isTaking r0_keptIn r0_place0 r0_things r0_figures r0_hampers r0_kept r0_kinds r0_left0 r0_refusals r0_wants0 r0_weights x1 x2 x3)))) else (F_M_wrong_J14_26 r0_days r0_done0 r0_isTaking r0_keptIn r0_place0 r0_things r0_figures r0_hampers r0_kept r0_kinds r0_left0 r0_refusals r0_wants0 r0_weights x1 x2 x3)))
set_option maxHeartbeats 4000000 in
set_option maxRecDepth 100000 in
theorem C_M_wrong (l : Launch) (D : va_G) (cI cS : ClassId) (a_r0 : Nat) (a_r0_figures : Nat) (a_r0_hampers : Nat) (a_r0_kept : Nat) (a_r0_kinds : Nat) (a_r0_left0 : Nat) (a_r0_refusals : Nat) (a_r0_wants0 : Nat) (a_r0_weights : Nat) (v_r0_letters v_r0_letterMany v_r0_at v_r0_isBad v_r0_statements v_r0_placeIn v_r0_letterOf v_r0_told v_r0_imaged v_r0_hasImage v_r0_turns0 v_r0_turnOf v_r0_turned v_r0_order0 v_r0_likely0 v_r0_leftThen v_r0_row v_r0_rowMany v_r0_seed : Value) (kv : Int32 → Value) (hkv_kept : kv 1 = .ref a_r0_kept) (r0_days : Int32) (r0_done0 : Int32) (r0_isTaking : Int32) (r0_keptIn : Int32) (r0_place0 : Int32) (r0_things : Int32) (r0_thrown : Int32) (r0_figures : Nat → Int32) (r0_hampers : Nat → Int32) (r0_kept : Nat → Int32) (r0_kinds : Nat → Int32) (r0_left0 : Nat → Int32) (r0_refusals : Nat → Int32) (r0_wants0 : Nat → Int32) (r0_weights : Nat → Int32) (x1 : Int32) (x2 : Int32) (x3 : Int32) (o : Int64 × (Int32) × (Int32) × (Int32) × (Int32) × (Int32) × (Int32) × (Int32) × (Nat → Int32) × (Nat → Int32) × (Nat → Int32) × (Nat → Int32) × (Nat → Int32) × (Nat → Int32) × (Nat → Int32) × (Nat → Int32)) (hr : F_M_wrong r0_days r0_done0 r0_isTaking r0_keptIn r0_place0 r0_things r0_figures r0_hampers r0_kept r0_kinds r0_left0 r0_refusals r0_wants0 r0_weights x1 x2 x3 = some o) : ctL l y_M_wrong (Cond.code y_M_wrong b_M_wrong 13 (some FieldType.long)) (rmd 4) D (kTy cI cS) [.ref a_r0, .int x1, .int x2, .int x3] (w_M_wrong cI a_r0 a_r0_figures a_r0_hampers a_r0_kept a_r0_kinds a_r0_left0 a_r0_refusals a_r0_wants0 a_r0_weights v_r0_letters v_r0_letterMany v_r0_at v_r0_isBad v_r0_statements v_r0_placeIn v_r0_letterOf v_r0_told v_r0_imaged v_r0_hasImage v_r0_turns0 v_r0_turnOf v_r0_turned v_r0_order0 v_r0_likely0 v_r0_leftThen v_r0_row v_r0_rowMany v_r0_seed kv r0_days r0_done0 r0_isTaking r0_keptIn r0_place0 r0_things r0_thrown r0_figures r0_hampers r0_kept r0_kinds r0_left0 r0_refusals r0_wants0 r0_weights) (w_M_wrong cI a_r0 a_r0_figures a_r0_hampers a_r0_kept a_r0_kinds a_r0_left0 a_r0_refusals a_r0_wants0 a_r0_weights v_r0_letters v_r0_letterMany v_r0_at v_r0_isBad v_r0_statements v_r0_placeIn v_r0_letterOf v_r0_told v_r0_imaged v_r0_hasImage v_r0_turns0 v_r0_turnOf v_r0_turned v_r0_order0 v_r0_likely0 v_r0_leftThen v_r0_row v_r0_rowMany v_r0_seed kv o.2.1 o.2.2.1 o.2.2.2.1 o.2.2.2.2.1 o.2.2.2.2.2.1 o.2.2.2.2.2.2.1 o.2.2.2.2.2.2.2.1 o.2.2.2.2.2.2.2.2.1 o.2.2.2.2.2.2.2.2.2.1 o.2.2.2.2.2.2.2.2.2.2.1 o.2.2.2.2.2.2.2.2.2.2.2.1 o.2.2.2.2.2.2.2.2.2.2.2.2.1 o.2.2.2.2.2.2.2.2.2.2.2.2.2.1 o.2.2.2.2.2.2.2.2.2.2.2.2.2.2.1 o.2.2.2.2.2.2.2.2.2.2.2.2.2.2.2) o.1 := by
  unfold F_M_wrong at hr
  refine ⟨rfl, fun sz => ct_of (w0 := (w_M_wrong cI a_r0 a_r0_figures a_r0_hampers a_r0_kept a_r0_kinds a_r0_left0 a_r0_refusals a_r0_wants0 a_r0_weights v_r0_letters v_r0_letterMany v_r0_at v_r0_isBad v_r0_statements v_r0_placeIn v_r0_letterOf v_r0_told v_r0_imaged v_r0_hasImage v_r0_turns0 v_r0_turnOf v_r0_turned v_r0_order0 v_r0_likely0 v_r0_leftThen v_r0_row v_r0_rowMany v_r0_seed kv r0_days r0_done0 r0_isTaking r0_keptIn r0_place0 r0_things r0_thrown r0_figures r0_hampers r0_kept r0_kinds r0_left0 r0_refusals r0_wants0 r0_weights)) (Qc := fun A => qL D (w_M_wrong cI a_r0 a_r0_figures a_r0_hampers a_r0_kept a_r0_kinds a_r0_left0 a_r0_refusals a_r0_wants0 a_r0_weights v_r0_letters v_r0_letterMany v_r0_at v_r0_isBad v_r0_statements v_r0_placeIn v_r0_letterOf v_r0_told v_r0_imaged v_r0_hasImage v_r0_turns0 v_r0_turnOf v_r0_turned v_r0_order0 v_r0_likely0 v_r0_leftThen v_r0_row v_r0_rowMany v_r0_seed kv o.2.1 o.2.2.1 o.2.2.2.1 o.2.2.2.2.1 o.2.2.2.2.2.1 o.2.2.2.2.2.2.1 o.2.2.2.2.2.2.2.1 o.2.2.2.2.2.2.2.2.1 o.2.2.2.2.2.2.2.2.2.1 o.2.2.2.2.2.2.2.2.2.2.1 o.2.2.2.2.2.2.2.2.2.2.2.1 o.2.2.2.2.2.2.2.2.2.2.2.2.1 o.2.2.2.2.2.2.2.2.2.2.2.2.2.1 o.2.2.2.2.2.2.2.2.2.2.2.2.2.2.1 o.2.2.2.2.2.2.2.2.2.2.2.2.2.2.2) o.1 A) rfl (Nat.le_of_ble_eq_true rfl) ?_ sz⟩
  intro p e s m below meth c A hA C hret ls hl hW
  have C : cx p s m ([.ref a_r0, .int x1, .int x2, .int x3] : List Value).toArray meth c b_M_wrong 13 R_M D (kTy cI cS) (Cond.code y_M_wrong b_M_wrong 13 (some FieldType.long)) := C
  obtain ⟨hx, hb, hml, hown, hts, hK, hlk, hN⟩ := id C
  have hl : lv_has ls 13 [(0, .ref a_r0), (1, .int x1), (2, .int x2), (3, .int x3)] := hl
  obtain ⟨Q, hQ⟩ : ∃ Q, Q = MQ below (qL D (w_M_wrong cI a_r0 a_r0_figures a_r0_hampers a_r0_kept a_r0_kinds a_r0_left0 a_r0_refusals a_r0_wants0 a_r0_weights v_r0_letters v_r0_letterMany v_r0_at v_r0_isBad v_r0_statements v_r0_placeIn v_r0_letterOf v_r0_told v_r0_imaged v_r0_hasImage v_r0_turns0 v_r0_turnOf v_r0_turned v_r0_order0 v_r0_likely0 v_r0_leftThen v_r0_row v_r0_rowMany v_r0_seed kv o.2.1 o.2.2.1 o.2.2.2.1 o.2.2.2.2.1 o.2.2.2.2.2.1 o.2.2.2.2.2.2.1 o.2.2.2.2.2.2.2.1 o.2.2.2.2.2.2.2.2.1 o.2.2.2.2.2.2.2.2.2.1 o.2.2.2.2.2.2.2.2.2.2.1 o.2.2.2.2.2.2.2.2.2.2.2.1 o.2.2.2.2.2.2.2.2.2.2.2.2.1 o.2.2.2.2.2.2.2.2.2.2.2.2.2.1 o.2.2.2.2.2.2.2.2.2.2.2.2.2.2.1 o.2.2.2.2.2.2.2.2.2.2.2.2.2.2.2) o.1 A) ([.ref a_r0, .int x1, .int x2, .int x3] : List Value).toArray s 0 0 A := ⟨_, rfl⟩
  rw [← hQ]
  refine lv_aload_n hx hb d_M_wrong_0 rfl (lv_at hl 0 rfl) ?_
  refine lv_iconst (v := 0) hx hb d_M_wrong_1 (by decide) ?_
  refine k_put i_M t_M_ok n_M C hW 0 rfl rfl 9 (by decide) qf_M_67 rfl rfl (ty := .int) rfl rfl rfl (Nat.le_of_ble_eq_true rfl) (ws' := (w_M_wrong cI a_r0 a_r0_figures a_r0_hampers a_r0_kept a_r0_kinds a_r0_left0 a_r0_refusals a_r0_wants0 a_r0_weights v_r0_letters v_r0_letterMany v_r0_at v_r0_isBad v_r0_statements v_r0_placeIn v_r0_letterOf v_r0_told v_r0_imaged v_r0_hasImage v_r0_turns0 v_r0_turnOf v_r0_turned v_r0_order0 v_r0_likely0 v_r0_leftThen v_r0_row v_r0_rowMany v_r0_seed kv r0_days r0_done0 r0_isTaking r0_keptIn r0_place0 r0_things 0 r0_figures r0_hampers r0_kept r0_kinds r0_left0 r0_refusals r0_wants0 r0_weights)) rfl d_M_wrong_2 (fun H locs hW => ?_)
  refine lv_iload_n hx hb d_M_wrong_5 rfl (lv_at hl 1 rfl) ?_
  have hJ_2 : ∀ (s0_2 : Int32), F_M_wrong_J45_2 r0_days r0_done0 r0_isTaking r0_keptIn r0_place0 r0_things r0_figures r0_hampers r0_kept r0_kinds r0_left0 r0_refusals r0_wants0 r0_weights x1 x2 x3 s0_2 = some o → ∀ (H : Heap) (locs : List Loc) (ls : Array Slot), wd A s.heap D (w_M_wrong cI a_r0 a_r0_figures a_r0_hampers a_r0_kept a_r0_kinds a_r0_left0 a_r0_refusals a_r0_wants0 a_r0_weights v_r0_letters v_r0_letterMany v_r0_at v_r0_isBad v_r0_statements v_r0_placeIn v_r0_letterOf v_r0_told v_r0_imaged v_r0_hasImage v_r0_turns0 v_r0_turnOf v_r0_turned v_r0_order0 v_r0_likely0 v_r0_leftThen v_r0_row v_r0_rowMany v_r0_seed kv r0_days r0_done0 r0_isTaking r0_keptIn r0_place0 r0_things 0 r0_figures r0_hampers r0_kept r0_kinds r0_left0 r0_refusals r0_wants0 r0_weights) H locs → lv_has ls 13 [(0, .ref a_r0), (1, .int x1), (2, .int x2), (3, .int x3)] → W p l e (rmd 4) s m ([.ref a_r0, .int x1, .int x2, .int x3] : List Value).toArray below meth c H locs 0 0 Q (F0 m 45 ls [.int s0_2]) := by
    intro s0_2 hr H locs ls hW hl
    unfold F_M_wrong_J45_2 at hr
    refine lv_istore (lv' := [(4, .int s0_2), (0, .ref a_r0), (1, .int x1), (2, .int x2), (3, .int x3)]) hx hb d_M_wrong_45 hl (by decide) rfl (fun ls hl => ?_)
    refine lv_iload hx hb d_M_wrong_47 (lv_at hl 0 rfl) ?_
    refine lv_iload_n hx hb d_M_wrong_49 rfl (lv_at hl 4 rfl) ?_
    refine lv_iconst (v := 1) hx hb d_M_wrong_50 (by decide) ?_
    obtain ⟨q_3, hc_3, hr⟩ := ob hr
    have ct_3 := C_M_wrongBit l D cI cS s0_2 x3 1 q_3 hc_3
    refine k_goIp hA hW [] rfl rfl (k_runS C hA hW mw_M_wrongBit ms_M_wrongBit (ct_3.2 _) [] rfl rfl qm_M_219 ⟨Nat.le_of_ble_eq_true rfl, Nat.le_of_ble_eq_true rfl, Nat.zero_le _, Nat.zero_le _⟩ rfl rfl (Nat.le_of_ble_eq_true rfl) hl.1 d_M_wrong_51) (fun H locs hW => ?_)
    refine lv_istore (lv' := [(4, .int q_3), (0, .ref a_r0), (1, .int x1), (2, .int x2), (3, .int x3)]) hx hb d_M_wrong_54 hl (by decide) rfl (fun ls hl => ?_)
    refine lv_iload hx hb d_M_wrong_56 (lv_at hl 0 rfl) ?_
    refine lv_if_ge (tgt := 73) hx hb d_M_wrong_58 (by decide) (fun c_4 => ?_) (fun c_4 => ?_)
    · replace hr := ip c_4 hr
      refine lv_lconst (v := 0) hx hb d_M_wrong_73 (by decide) ?_
      refine lv_lstore (lv' := [(5, .long 0), (4, .int q_3), (0, .ref a_r0), (1, .int x1), (2, .int x2), (3, .int x3)]) hx hb d_M_wrong_74 hl (by decide) rfl (fun ls hl => ?_)
      refine lv_lconst (v := 1) hx hb d_M_wrong_76 (by decide) ?_
      refine lv_lstore (lv' := [(7, .long 1), (5, .long 0), (4, .int q_3), (0, .ref a_r0), (1, .int x1), (2, .int x2), (3, .int x3)]) hx hb d_M_wrong_77 hl (by decide) rfl (fun ls hl => ?_)
      refine lv_iconst (v := 0) hx hb d_M_wrong_79 (by decide) ?_
      refine lv_istore (lv' := [(9, .int 0), (7, .long 1), (5, .long 0), (4, .int q_3), (0, .ref a_r0), (1, .int x1), (2, .int x2), (3, .int x3)]) hx hb d_M_wrong_80 hl (by decide) rfl (fun ls hl => ?_)
      obtain ⟨ex_5, hw_5, hk_5⟩ := ob hr
      have hx_5 : ∀ (e_5 : (Int64)), e_5 = ex_5 → ∀ (H : Heap) (locs : List Loc) (ls : Array Slot), wd A s.heap D (w_M_wrong cI a_r0 a_r0_figures a_r0_hampers a_r0_kept a_r0_kinds a_r0_left0 a_r0_refusals a_r0_wants0 a_r0_weights v_r0_letters v_r0_letterMany v_r0_at v_r0_isBad v_r0_statements v_r0_placeIn v_r0_letterOf v_r0_told v_r0_imaged v_r0_hasImage v_r0_turns0 v_r0_turnOf v_r0_turned v_r0_order0 v_r0_likely0 v_r0_leftThen v_r0_row v_r0_rowMany v_r0_seed kv r0_days r0_done0 r0_isTaking r0_keptIn r0_place0 r0_things 0 r0_figures r0_hampers r0_kept r0_kinds r0_left0 r0_refusals r0_wants0 r0_weights) H locs → lv_has ls 13 [(5, .long 0), (0, .ref a_r0), (1, .int x1), (2, .int x2), (3, .int x3), (7, .long e_5)] → W p l e (rmd 4) s m ([.ref a_r0, .int x1, .int x2, .int x3] : List Value).toArray below meth c H locs 0 0 Q (F0 m 101 ls []) := by
        intro e_5 hE H locs ls hW hl
        subst hE; have hr := hk_5
        refine lv_aload_n hx hb d_M_wrong_101 rfl (lv_at hl 1 rfl) ?_
        obtain ⟨q_7, hc_7, hr⟩ := ob hr
        have ct_7 := C_M_think l D cI cS a_r0 a_r0_figures a_r0_hampers a_r0_kept a_r0_kinds a_r0_left0 a_r0_wants0 a_r0_weights (Value.int 0) (Value.ref a_r0_refusals) v_r0_letters v_r0_letterMany v_r0_at v_r0_isBad v_r0_statements v_r0_placeIn v_r0_letterOf v_r0_told v_r0_imaged v_r0_hasImage v_r0_turns0 v_r0_turnOf v_r0_turned v_r0_order0 v_r0_likely0 v_r0_leftThen v_r0_row v_r0_rowMany v_r0_seed kv hkv_kept r0_days r0_done0 r0_isTaking r0_keptIn r0_place0 r0_things r0_figures r0_hampers r0_kept r0_kinds r0_left0 r0_wants0 r0_weights q_7 hc_7
        refine k_goV hA hW [0, 1, 2, 3, 4, 5, 7, 8] rfl ct_7.1 (ws' := (w_M_wrong cI a_r0 a_r0_figures a_r0_hampers a_r0_kept a_r0_kinds a_r0_left0 a_r0_refusals a_r0_wants0 a_r0_weights v_r0_letters v_r0_letterMany v_r0_at v_r0_isBad v_r0_statements v_r0_placeIn v_r0_letterOf v_r0_told v_r0_imaged v_r0_hasImage v_r0_turns0 v_r0_turnOf v_r0_turned v_r0_order0 v_r0_likely0 v_r0_leftThen v_r0_row v_r0_rowMany v_r0_seed kv q_7.1 q_7.2.1 q_7.2.2.1 q_7.2.2.2.1 q_7.2.2.2.2.1 q_7.2.2.2.2.2.1 0 q_7.2.2.2.2.2.2.1 q_7.2.2.2.2.2.2.2.1 q_7.2.2.2.2.2.2.2.2.1 q_7.2.2.2.2.2.2.2.2.2.1 q_7.2.2.2.2.2.2.2.2.2.2.1 r0_refusals q_7.2.2.2.2.2.2.2.2.2.2.2.1 q_7.2.2.2.2.2.2.2.2.2.2.2.2)) rfl (k_runV C hA hW mw_M_think mv_M_think (ct_7.2 _) [0, 1, 2, 3, 4, 5, 7, 8] rfl rfl 0 rfl rfl qm_M_165 ⟨Nat.le_of_ble_eq_true rfl, Nat.le_of_ble_eq_true rfl, Nat.zero_le _, Nat.zero_le _⟩ rfl rfl (Nat.le_of_ble_eq_true rfl) hl.1 d_M_wrong_102) (fun H locs hW => ?_)
        refine lv_iconst (v := 0) hx hb d_M_wrong_105 (by decide) ?_
        refine lv_istore (lv' := [(9, .int 0), (5, .long 0), (0, .ref a_r0), (1, .int x1), (2, .int x2), (3, .int x3), (7, .long e_5)]) hx hb d_M_wrong_106 hl (by decide) rfl (fun ls hl => ?_)
        obtain ⟨ex_8, hw_8, hk_8⟩ := ob hr
        have hx_8 : ∀ (e_8 : (Int64) × (Int32) × (Int32) × (Int32) × (Int32) × (Int32) × (Int32) × (Nat → Int32) × (Nat → Int32) × (Nat → Int32) × (Nat → Int32) × (Nat → Int32) × (Nat → Int32) × (Nat → Int32)), e_8 = ex_8 → ∀ (H : Heap) (locs : List Loc) (ls : Array Slot), wd A s.heap D (w_M_wrong cI a_r0 a_r0_figures a_r0_hampers a_r0_kept a_r0_kinds a_r0_left0 a_r0_refusals a_r0_wants0 a_r0_weights v_r0_letters v_r0_letterMany v_r0_at v_r0_isBad v_r0_statements v_r0_placeIn v_r0_letterOf v_r0_told v_r0_imaged v_r0_hasImage v_r0_turns0 v_r0_turnOf v_r0_turned v_r0_order0 v_r0_likely0 v_r0_leftThen v_r0_row v_r0_rowMany v_r0_seed kv e_8.2.1 e_8.2.2.1 e_8.2.2.2.1 e_8.2.2.2.2.1 e_8.2.2.2.2.2.1 e_8.2.2.2.2.2.2.1 0 e_8.2.2.2.2.2.2.2.1 e_8.2.2.2.2.2.2.2.2.1 e_8.2.2.2.2.2.2.2.2.2.1 e_8.2.2.2.2.2.2.2.2.2.2.1 e_8.2.2.2.2.2.2.2.2.2.2.2.1 r0_refusals e_8.2.2.2.2.2.2.2.2.2.2.2.2.1 e_8.2.2.2.2.2.2.2.2.2.2.2.2.2) H locs → lv_has ls 13 [(3, .int x3), (7, .long e_5), (5, .long e_8.1)] → W p l e (rmd 4) s m ([.ref a_r0, .int x1, .int x2, .int x3] : List Value).toArray below meth c H locs 0 0 Q (F0 m 210 ls []) := by
          intro e_8 hE H locs ls hW hl
          subst hE; have hr := hk_8
          refine lv_lload hx hb d_M_wrong_210 (lv_at hl 2 rfl) ?_
          refine lv_lload hx hb d_M_wrong_212 (lv_at hl 1 rfl) ?_
          refine lv_iload_n hx hb d_M_wrong_214 rfl (lv_at hl 0 rfl) ?_
          obtain ⟨q_24, hc_24, hr⟩ := ob hr
          have ct_24 := C_M_partOf l D cI cS e_8.1 e_5 x3 q_24 hc_24
          refine k_goLp hA hW [] rfl rfl (k_runS C hA hW mw_M_partOf ms_M_partOf (ct_24.2 _) [] rfl rfl qm_M_227 ⟨Nat.le_of_ble_eq_true rfl, Nat.le_of_ble_eq_true rfl, Nat.zero_le _, Nat.zero_le _⟩ rfl rfl (Nat.le_of_ble_eq_true rfl) hl.1 d_M_wrong_215) (fun H locs hW => ?_)
          obtain rfl := Option.some.inj hr
          rw [hQ]; exact k_lret C hret hW d_M_wrong_218
        have hl_8 : ∀ (k : Nat) (y5_8 : Int64) (y9_8 : Int32) (r0_days_8 : Int32) (r0_done0_8 : Int32) (r0_isTaking_8 : Int32) (r0_keptIn_8 : Int32) (r0_place0_8 : Int32) (r0_things_8 : Int32) (r0_figures_8 : Nat → Int32) (r0_hampers_8 : Nat → Int32) (r0_kept_8 : Nat → Int32) (r0_kinds_8 : Nat → Int32) (r0_left0_8 : Nat → Int32) (r0_wants0_8 : Nat → Int32) (r0_weights_8 : Nat → Int32), wh (fun (s : (Int64) × (Int32) × (Int32) × (Int32) × (Int32) × (Int32) × (Int32) × (Int32) × (Nat → Int32) × (Nat → Int32) × (Nat → Int32) × (Nat → Int32) × (Nat → Int32) × (Nat → Int32) × (Nat → Int32)) => F_M_wrong_L108 x1 x2 s.1 s.2.1 s.2.2.1 s.2.2.2.1 s.2.2.2.2.1 s.2.2.2.2.2.1 s.2.2.2.2.2.2.1 s.2.2.2.2.2.2.2.1 s.2.2.2.2.2.2.2.2.1 s.2.2.2.2.2.2.2.2.2.1 s.2.2.2.2.2.2.2.2.2.2.1 s.2.2.2.2.2.2.2.2.2.2.2.1 s.2.2.2.2.2.2.2.2.2.2.2.2.1 s.2.2.2.2.2.2.2.2.2.2.2.2.2.1 s.2.2.2.2.2.2.2.2.2.2.2.2.2.2) k (y5_8, y9_8, r0_days_8, r0_done0_8, r0_isTaking_8, r0_keptIn_8, r0_place0_8, r0_things_8, r0_figures_8, r0_hampers_8, r0_kept_8, r0_kinds_8, r0_left0_8, r0_wants0_8, r0_weights_8) = some ex_8 → ∀ (H : Heap) (locs : List Loc) (ls : Array Slot), wd A s.heap D (w_M_wrong cI a_r0 a_r0_figures a_r0_hampers a_r0_kept a_r0_kinds a_r0_left0 a_r0_refusals a_r0_wants0 a_r0_weights v_r0_letters v_r0_letterMany v_r0_at v_r0_isBad v_r0_statements v_r0_placeIn v_r0_letterOf v_r0_told v_r0_imaged v_r0_hasImage v_r0_turns0 v_r0_turnOf v_r0_turned v_r0_order0 v_r0_likely0 v_r0_leftThen v_r0_row v_r0_rowMany v_r0_seed kv r0_days_8 r0_done0_8 r0_isTaking_8 r0_keptIn_8 r0_place0_8 r0_things_8 0 r0_figures_8 r0_hampers_8 r0_kept_8 r0_kinds_8 r0_left0_8 r0_refusals r0_wants0_8 r0_weights_8) H locs → lv_has ls 13 [(0, .ref a_r0), (1, .int x1), (2, .int x2), (3, .int x3), (7, .long e_5), (5, .long y5_8), (9, .int y9_8)] → W p l e (rmd 4) s m ([.ref a_r0, .int x1, .int x2, .int x3] : List Value).toArray below meth c H locs 0 0 Q (F0 m 108 ls []) := by
          intro k
          induction k with
          | zero => intro y5_8 y9_8 r0_days_8 r0_done0_8 r0_isTaking_8 r0_keptIn_8 r0_place0_8 r0_things_8 r0_figures_8 r0_hampers_8 r0_kept_8 r0_kinds_8 r0_left0_8 r0_wants0_8 r0_weights_8 hw; exact absurd hw wh_0
          | succ k ih_8 =>
            intro y5_8 y9_8 r0_days_8 r0_done0_8 r0_isTaking_8 r0_keptIn_8 r0_place0_8 r0_things_8 r0_figures_8 r0_hampers_8 r0_kept_8 r0_kinds_8 r0_left0_8 r0_wants0_8 r0_weights_8 hw H locs ls hW hl
            obtain ⟨z_8, hr, hz1_8, hz2_8⟩ := wh_s hw
            have hr : F_M_wrong_L108 x1 x2 y5_8 y9_8 r0_days_8 r0_done0_8 r0_isTaking_8 r0_keptIn_8 r0_place0_8 r0_things_8 r0_figures_8 r0_hampers_8 r0_kept_8 r0_kinds_8 r0_left0_8 r0_wants0_8 r0_weights_8 = some z_8 := hr
            unfold F_M_wrong_L108 at hr
            refine lv_iload hx hb d_M_wrong_108 (lv_at hl 6 rfl) ?_
            refine lv_iconst (v := 1) hx hb d_M_wrong_110 (by decide) ?_
            refine lv_iload_n hx hb d_M_wrong_111 rfl (lv_at hl 1 rfl) ?_
            refine lv_ishl hx hb d_M_wrong_112 ?_
            refine lv_icmp_ge (tgt := 210) hx hb d_M_wrong_113 (by decide) (fun c_9 => ?_) (fun c_9 => ?_)
            · replace hr := ip c_9 hr
              exact hx_8 _ (hz2_8 _ (Option.some.inj hr).symm) _ _ _ hW (lv_sub hl [3, 4, 5] rfl)
            · replace hr := iN c_9 hr
              refine lv_lconst (v := 1) hx hb d_M_wrong_116 (by decide) ?_
              refine lv_lstore (lv' := [(10, .long 1), (0, .ref a_r0), (1, .int x1), (2, .int x2), (3, .int x3), (7, .long e_5), (5, .long y5_8), (9, .int y9_8)]) hx hb d_M_wrong_117 hl (by decide) rfl (fun ls hl => ?_)
              refine lv_iconst (v := 0) hx hb d_M_wrong_119 (by decide) ?_
              refine lv_istore (lv' := [(12, .int 0), (10, .long 1), (0, .ref a_r0), (1, .int x1), (2, .int x2), (3, .int x3), (7, .long e_5), (5, .long y5_8), (9, .int y9_8)]) hx hb d_M_wrong_120 hl (by decide) rfl (fun ls hl => ?_)
              obtain ⟨ex_10, hw_10, hk_10⟩ := ob hr
              have hx_10 : ∀ (e_10 : (Int64) × (Int32) × (Nat → Int32)), e_10 = ex_10 → ∀ (H : Heap) (locs : List Loc) (ls : Array Slot), wd A s.heap D (w_M_wrong cI a_r0 a_r0_figures a_r0_hampers a_r0_kept a_r0_kinds a_r0_left0 a_r0_refusals a_r0_wants0 a_r0_weights v_r0_letters v_r0_letterMany v_r0_at v_r0_isBad v_r0_statements v_r0_placeIn v_r0_letterOf v_r0_told v_r0_imaged v_r0_hasImage v_r0_turns0 v_r0_turnOf v_r0_turned v_r0_order0 v_r0_likely0 v_r0_leftThen v_r0_row v_r0_rowMany v_r0_seed kv r0_days_8 e_10.2.1 r0_isTaking_8 r0_keptIn_8 r0_place0_8 r0_things_8 0 r0_figures_8 r0_hampers_8 r0_kept_8 r0_kinds_8 e_10.2.2 r0_refusals r0_wants0_8 r0_weights_8) H locs → lv_has ls 13 [(0, .ref a_r0), (1, .int x1), (2, .int x2), (3, .int x3), (7, .long e_5), (5, .long y5_8), (9, .int y9_8), (10, .long e_10.1)] → W p l e (rmd 4) s m ([.ref a_r0, .int x1, .int x2, .int x3] : List Value).toArray below meth c H locs 0 0 Q (F0 m 182 ls []) := by
                intro e_10 hE H locs ls hW hl
                subst hE; have hr := hk_10
                refine lv_lload hx hb d_M_wrong_182 (lv_at hl 5 rfl) ?_
                refine lv_aload_n hx hb d_M_wrong_184 rfl (lv_at hl 0 rfl) ?_
                obtain ⟨q_20, hc_20, hr⟩ := ob hr
                have ct_20 := C_M_allLeft l D cI cS a_r0 a_r0_left0 (Value.ref a_r0_weights) (Value.int r0_things_8) (Value.ref a_r0_kinds) (Value.ref a_r0_figures) (Value.int r0_days_8) (Value.ref a_r0_hampers) (Value.ref a_r0_wants0) (Value.int e_10.2.1) (Value.int 0) (Value.ref a_r0_refusals) v_r0_letters v_r0_letterMany v_r0_at v_r0_isBad v_r0_statements v_r0_placeIn v_r0_letterOf v_r0_told (Value.ref a_r0_kept) v_r0_imaged v_r0_hasImage (Value.int r0_place0_8) (Value.int r0_isTaking_8) (kv r0_keptIn_8) v_r0_turns0 v_r0_turnOf v_r0_turned v_r0_order0 v_r0_likely0 v_r0_leftThen v_r0_row v_r0_rowMany v_r0_seed e_10.2.2 q_20 hc_20
                refine k_goIp hA hW [0, 5] rfl rfl (k_runV C hA hW mw_M_allLeft mv_M_allLeft (ct_20.2 _) [0, 5] rfl rfl 0 rfl rfl qm_M_234 ⟨Nat.le_of_ble_eq_true rfl, Nat.le_of_ble_eq_true rfl, Nat.zero_le _, Nat.zero_le _⟩ rfl rfl (Nat.le_of_ble_eq_true rfl) hl.1 d_M_wrong_185) (fun H locs hW => ?_)
                have hJ_22 : ∀ (s1_22 : Int64), F_M_wrong_J197_22 r0_days_8 r0_figures_8 r0_hampers_8 r0_kept_8 r0_kinds_8 r0_things_8 r0_wants0_8 r0_weights_8 y5_8 y9_8 e_10 s1_22 = some z_8 → ∀ (H : Heap) (locs : List Loc) (ls : Array Slot), wd A s.heap D (w_M_wrong cI a_r0 a_r0_figures a_r0_hampers a_r0_kept a_r0_kinds a_r0_left0 a_r0_refusals a_r0_wants0 a_r0_weights v_r0_letters v_r0_letterMany v_r0_at v_r0_isBad v_r0_statements v_r0_placeIn v_r0_letterOf v_r0_told v_r0_imaged v_r0_hasImage v_r0_turns0 v_r0_turnOf v_r0_turned v_r0_order0 v_r0_likely0 v_r0_leftThen v_r0_row v_r0_rowMany v_r0_seed kv r0_days_8 e_10.2.1 r0_isTaking_8 r0_keptIn_8 r0_place0_8 r0_things_8 0 r0_figures_8 r0_hampers_8 r0_kept_8 r0_kinds_8 e_10.2.2 r0_refusals r0_wants0_8 r0_weights_8) H locs → lv_has ls 13 [(0, .ref a_r0), (1, .int x1), (2, .int x2), (3, .int x3), (7, .long e_5), (9, .int y9_8)] → W p l e (rmd 4) s m ([.ref a_r0, .int x1, .int x2, .int x3] : List Value).toArray below meth c H locs 0 0 Q (F0 m 197 ls [.long s1_22, .long y5_8]) := by
                  intro s1_22 hr H locs ls hW hl
                  unfold F_M_wrong_J197_22 at hr
                  refine lv_ladd hx hb d_M_wrong_197 ?_
                  refine lv_lstore (lv' := [(5, .long (y5_8 + s1_22)), (0, .ref a_r0), (1, .int x1), (2, .int x2), (3, .int x3), (7, .long e_5), (9, .int y9_8)]) hx hb d_M_wrong_198 hl (by decide) rfl (fun ls hl => ?_)
                  refine lv_aload_n hx hb d_M_wrong_200 rfl (lv_at hl 1 rfl) ?_
                  obtain ⟨q_23, hc_23, hr⟩ := ob hr
                  have ct_23 := C_M_again l D cI cS a_r0 a_r0_figures a_r0_hampers a_r0_kept a_r0_kinds a_r0_left0 a_r0_wants0 a_r0_weights (Value.int 0) (Value.ref a_r0_refusals) v_r0_letters v_r0_letterMany v_r0_at v_r0_isBad v_r0_statements v_r0_placeIn v_r0_letterOf v_r0_told v_r0_imaged v_r0_hasImage v_r0_turns0 v_r0_turnOf v_r0_turned v_r0_order0 v_r0_likely0 v_r0_leftThen v_r0_row v_r0_rowMany v_r0_seed kv hkv_kept r0_days_8 e_10.2.1 r0_isTaking_8 r0_keptIn_8 r0_place0_8 r0_things_8 r0_figures_8 r0_hampers_8 r0_kept_8 r0_kinds_8 e_10.2.2 r0_wants0_8 r0_weights_8 q_23 hc_23
                  refine k_goV hA hW [0, 1, 2, 3, 4, 5, 7, 8] rfl ct_23.1 (ws' := (w_M_wrong cI a_r0 a_r0_figures a_r0_hampers a_r0_kept a_r0_kinds a_r0_left0 a_r0_refusals a_r0_wants0 a_r0_weights v_r0_letters v_r0_letterMany v_r0_at v_r0_isBad v_r0_statements v_r0_placeIn v_r0_letterOf v_r0_told v_r0_imaged v_r0_hasImage v_r0_turns0 v_r0_turnOf v_r0_turned v_r0_order0 v_r0_likely0 v_r0_leftThen v_r0_row v_r0_rowMany v_r0_seed kv q_23.1 q_23.2.1 q_23.2.2.1 q_23.2.2.2.1 q_23.2.2.2.2.1 q_23.2.2.2.2.2.1 0 q_23.2.2.2.2.2.2.1 q_23.2.2.2.2.2.2.2.1 q_23.2.2.2.2.2.2.2.2.1 q_23.2.2.2.2.2.2.2.2.2.1 q_23.2.2.2.2.2.2.2.2.2.2.1 r0_refusals q_23.2.2.2.2.2.2.2.2.2.2.2.1 q_23.2.2.2.2.2.2.2.2.2.2.2.2)) rfl (k_runV C hA hW mw_M_again mv_M_again (ct_23.2 _) [0, 1, 2, 3, 4, 5, 7, 8] rfl rfl 0 rfl rfl qm_M_171 ⟨Nat.le_of_ble_eq_true rfl, Nat.le_of_ble_eq_true rfl, Nat.zero_le _, Nat.zero_le _⟩ rfl rfl (Nat.le_of_ble_eq_true rfl) hl.1 d_M_wrong_201) (fun H locs hW => ?_)
                  refine lv_iinc (v := (y9_8 + 1)) (lv' := [(9, .int (y9_8 + 1)), (5, .long (y5_8 + s1_22)), (0, .ref a_r0), (1, .int x1), (2, .int x2), (3, .int x3), (7, .long e_5)]) hx hb d_M_wrong_204 hl (k := 6) rfl rfl (by decide) rfl (fun ls hl => ?_)
                  refine lv_goto (tgt := 108) hx hb d_M_wrong_207 (by decide) ?_
                  exact ih_8 (y5_8 + s1_22) (y9_8 + 1) q_23.1 q_23.2.1 q_23.2.2.1 q_23.2.2.2.1 q_23.2.2.2.2.1 q_23.2.2.2.2.2.1 q_23.2.2.2.2.2.2.1 q_23.2.2.2.2.2.2.2.1 q_23.2.2.2.2.2.2.2.2.1 q_23.2.2.2.2.2.2.2.2.2.1 q_23.2.2.2.2.2.2.2.2.2.2.1 q_23.2.2.2.2.2.2.2.2.2.2.2.1 q_23.2.2.2.2.2.2.2.2.2.2.2.2 (hz1_8 _ (Option.some.inj hr).symm) _ _ _ hW (lv_sub hl [2, 3, 4, 5, 6, 1, 0] rfl)
                refine lv_if_ne (tgt := 196) hx hb d_M_wrong_188 (by decide) (fun c_21 => ?_) (fun c_21 => ?_)
                · replace hr := iN c_21 hr
                  refine lv_lconst (v := 0) hx hb d_M_wrong_196 (by decide) ?_
                  exact hJ_22 0 hr _ _ _ hW (lv_sub hl [0, 1, 2, 3, 4, 6] rfl)
                · replace hr := ip c_21 hr
                  refine lv_lload hx hb d_M_wrong_191 (lv_at hl 7 rfl) ?_
                  refine lv_goto (tgt := 197) hx hb d_M_wrong_193 (by decide) ?_
                  exact hJ_22 e_10.1 hr _ _ _ hW (lv_sub hl [0, 1, 2, 3, 4, 6] rfl)
              have hl_10 : ∀ (k : Nat) (y10_10 : Int64) (y12_10 : Int32) (r0_done0_10 : Int32) (r0_left0_10 : Nat → Int32), wh (fun (s : (Int64) × (Int32) × (Int32) × (Nat → Int32)) => F_M_wrong_L122 r0_figures_8 r0_hampers_8 r0_kinds_8 r0_things_8 r0_wants0_8 r0_weights_8 y9_8 x1 x2 s.1 s.2.1 s.2.2.1 s.2.2.2) k (y10_10, y12_10, r0_done0_10, r0_left0_10) = some ex_10 → ∀ (H : Heap) (locs : List Loc) (ls : Array Slot), wd A s.heap D (w_M_wrong cI a_r0 a_r0_figures a_r0_hampers a_r0_kept a_r0_kinds a_r0_left0 a_r0_refusals a_r0_wants0 a_r0_weights v_r0_letters v_r0_letterMany v_r0_at v_r0_isBad v_r0_statements v_r0_placeIn v_r0_letterOf v_r0_told v_r0_imaged v_r0_hasImage v_r0_turns0 v_r0_turnOf v_r0_turned v_r0_order0 v_r0_likely0 v_r0_leftThen v_r0_row v_r0_rowMany v_r0_seed kv r0_days_8 r0_done0_10 r0_isTaking_8 r0_keptIn_8 r0_place0_8 r0_things_8 0 r0_figures_8 r0_hampers_8 r0_kept_8 r0_kinds_8 r0_left0_10 r0_refusals r0_wants0_8 r0_weights_8) H locs → lv_has ls 13 [(0, .ref a_r0), (1, .int x1), (2, .int x2), (3, .int x3), (7, .long e_5), (5, .long y5_8), (9, .int y9_8), (10, .long y10_10), (12, .int y12_10)] → W p l e (rmd 4) s m ([.ref a_r0, .int x1, .int x2, .int x3] : List Value).toArray below meth c H locs 0 0 Q (F0 m 122 ls []) := by
                intro k
                induction k with
                | zero => intro y10_10 y12_10 r0_done0_10 r0_left0_10 hw; exact absurd hw wh_0
                | succ k ih_10 =>
                  intro y10_10 y12_10 r0_done0_10 r0_left0_10 hw H locs ls hW hl
                  obtain ⟨z_10, hr, hz1_10, hz2_10⟩ := wh_s hw
                  have hr : F_M_wrong_L122 r0_figures_8 r0_hampers_8 r0_kinds_8 r0_things_8 r0_wants0_8 r0_weights_8 y9_8 x1 x2 y10_10 y12_10 r0_done0_10 r0_left0_10 = some z_10 := hr
                  unfold F_M_wrong_L122 at hr
                  refine lv_iload hx hb d_M_wrong_122 (lv_at hl 8 rfl) ?_
                  refine lv_iload_n hx hb d_M_wrong_124 rfl (lv_at hl 1 rfl) ?_
                  refine lv_icmp_ge (tgt := 182) hx hb d_M_wrong_125 (by decide) (fun c_11 => ?_) (fun c_11 => ?_)
                  · replace hr := ip c_11 hr
                    exact hx_10 _ (hz2_10 _ (Option.some.inj hr).symm) _ _ _ hW (lv_sub hl [0, 1, 2, 3, 4, 5, 6, 7] rfl)
                  · replace hr := iN c_11 hr
                    refine lv_lload hx hb d_M_wrong_128 (lv_at hl 7 rfl) ?_
                    refine lv_iload hx hb d_M_wrong_130 (lv_at hl 6 rfl) ?_
                    refine lv_iload hx hb d_M_wrong_132 (lv_at hl 8 rfl) ?_
                    obtain ⟨q_12, hc_12, hr⟩ := ob hr
                    have ct_12 := C_M_hasBit l D cI cS y9_8 y12_10 q_12 hc_12
                    refine k_goIp hA hW [] rfl rfl (k_runS C hA hW mw_M_hasBit ms_M_hasBit (ct_12.2 _) [] rfl rfl qm_M_85 ⟨Nat.le_of_ble_eq_true rfl, Nat.le_of_ble_eq_true rfl, Nat.zero_le _, Nat.zero_le _⟩ rfl rfl (Nat.le_of_ble_eq_true rfl) hl.1 d_M_wrong_134) (fun H locs hW => ?_)
                    have hJ_14 : ∀ (s1_14 : Int64), F_M_wrong_J148_14 r0_figures_8 r0_hampers_8 r0_kinds_8 r0_things_8 r0_wants0_8 r0_weights_8 y9_8 r0_done0_10 r0_left0_10 y10_10 y12_10 s1_14 = some z_10 → ∀ (H : Heap) (locs : List Loc) (ls : Array Slot), wd A s.heap D (w_M_wrong cI a_r0 a_r0_figures a_r0_hampers a_r0_kept a_r0_kinds a_r0_left0 a_r0_refusals a_r0_wants0 a_r0_weights v_r0_letters v_r0_letterMany v_r0_at v_r0_isBad v_r0_statements v_r0_placeIn v_r0_letterOf v_r0_told v_r0_imaged v_r0_hasImage v_r0_turns0 v_r0_turnOf v_r0_turned v_r0_order0 v_r0_likely0 v_r0_leftThen v_r0_row v_r0_rowMany v_r0_seed kv r0_days_8 r0_done0_10 r0_isTaking_8 r0_keptIn_8 r0_place0_8 r0_things_8 0 r0_figures_8 r0_hampers_8 r0_kept_8 r0_kinds_8 r0_left0_10 r0_refusals r0_wants0_8 r0_weights_8) H locs → lv_has ls 13 [(0, .ref a_r0), (1, .int x1), (2, .int x2), (3, .int x3), (5, .long y5_8), (7, .long e_5), (9, .int y9_8), (12, .int y12_10)] → W p l e (rmd 4) s m ([.ref a_r0, .int x1, .int x2, .int x3] : List Value).toArray below meth c H locs 0 0 Q (F0 m 148 ls [.long s1_14, .long y10_10]) := by
                      intro s1_14 hr H locs ls hW hl
                      unfold F_M_wrong_J148_14 at hr
                      refine lv_lmul hx hb d_M_wrong_148 ?_
                      refine lv_lstore (lv' := [(10, .long (y10_10 * s1_14)), (0, .ref a_r0), (1, .int x1), (2, .int x2), (3, .int x3), (5, .long y5_8), (7, .long e_5), (9, .int y9_8), (12, .int y12_10)]) hx hb d_M_wrong_149 hl (by decide) rfl (fun ls hl => ?_)
                      refine lv_aload_n hx hb d_M_wrong_151 rfl (lv_at hl 1 rfl) ?_
                      refine lv_iload hx hb d_M_wrong_152 (lv_at hl 7 rfl) ?_
                      refine lv_iload hx hb d_M_wrong_154 (lv_at hl 8 rfl) ?_
                      obtain ⟨q_15, hc_15, hr⟩ := ob hr
                      have ct_15 := C_M_hasBit l D cI cS y9_8 y12_10 q_15 hc_15
                      refine k_goIp hA hW [] rfl rfl (k_runS C hA hW mw_M_hasBit ms_M_hasBit (ct_15.2 _) [] rfl rfl qm_M_85 ⟨Nat.le_of_ble_eq_true rfl, Nat.le_of_ble_eq_true rfl, Nat.zero_le _, Nat.zero_le _⟩ rfl rfl (Nat.le_of_ble_eq_true rfl) hl.1 d_M_wrong_156) (fun H locs hW => ?_)
                      have hJ_17 : ∀ (s1_17 : Int32), F_M_wrong_J172_17 r0_wants0_8 r0_done0_10 r0_left0_10 y10_10 y12_10 s1_14 s1_17 = some z_10 → ∀ (H : Heap) (locs : List Loc) (ls : Array Slot), wd A s.heap D (w_M_wrong cI a_r0 a_r0_figures a_r0_hampers a_r0_kept a_r0_kinds a_r0_left0 a_r0_refusals a_r0_wants0 a_r0_weights v_r0_letters v_r0_letterMany v_r0_at v_r0_isBad v_r0_statements v_r0_placeIn v_r0_letterOf v_r0_told v_r0_imaged v_r0_hasImage v_r0_turns0 v_r0_turnOf v_r0_turned v_r0_order0 v_r0_likely0 v_r0_leftThen v_r0_row v_r0_rowMany v_r0_seed kv r0_days_8 r0_done0_10 r0_isTaking_8 r0_keptIn_8 r0_place0_8 r0_things_8 0 r0_figures_8 r0_hampers_8 r0_kept_8 r0_kinds_8 r0_left0_10 r0_refusals r0_wants0_8 r0_weights_8) H locs → lv_has ls 13 [(0, .ref a_r0), (1, .int x1), (2, .int x2), (3, .int x3), (5, .long y5_8), (7, .long e_5), (9, .int y9_8), (10, .long (y10_10 * s1_14)), (12, .int y12_10)] → W p l e (rmd 4) s m ([.ref a_r0, .int x1, .int x2, .int x3] : List Value).toArray below meth c H locs 0 0 Q (F0 m 172 ls [.int s1_17, .ref a_r0]) := by
                        intro s1_17 hr H locs ls hW hl
                        unfold F_M_wrong_J172_17 at hr
                        obtain ⟨q_18, hc_18, hr⟩ := ob hr
                        have ct_18 := C_M_spendWith l D cI cS a_r0 a_r0_left0 a_r0_wants0 (Value.ref a_r0_weights) (Value.int r0_things_8) (Value.ref a_r0_kinds) (Value.ref a_r0_figures) (Value.int r0_days_8) (Value.ref a_r0_hampers) (Value.int 0) (Value.ref a_r0_refusals) v_r0_letters v_r0_letterMany v_r0_at v_r0_isBad v_r0_statements v_r0_placeIn v_r0_letterOf v_r0_told (Value.ref a_r0_kept) v_r0_imaged v_r0_hasImage (Value.int r0_place0_8) (Value.int r0_isTaking_8) (kv r0_keptIn_8) v_r0_turns0 v_r0_turnOf v_r0_turned v_r0_order0 v_r0_likely0 v_r0_leftThen v_r0_row v_r0_rowMany v_r0_seed r0_done0_10 r0_left0_10 r0_wants0_8 s1_17 q_18 hc_18
                        refine k_goI hA hW [0, 5, 7] rfl ct_18.1 (ws' := (w_M_wrong cI a_r0 a_r0_figures a_r0_hampers a_r0_kept a_r0_kinds a_r0_left0 a_r0_refusals a_r0_wants0 a_r0_weights v_r0_letters v_r0_letterMany v_r0_at v_r0_isBad v_r0_statements v_r0_placeIn v_r0_letterOf v_r0_told v_r0_imaged v_r0_hasImage v_r0_turns0 v_r0_turnOf v_r0_turned v_r0_order0 v_r0_likely0 v_r0_leftThen v_r0_row v_r0_rowMany v_r0_seed kv r0_days_8 q_18.2.1 r0_isTaking_8 r0_keptIn_8 r0_place0_8 r0_things_8 0 r0_figures_8 r0_hampers_8 r0_kept_8 r0_kinds_8 q_18.2.2 r0_refusals r0_wants0_8 r0_weights_8)) rfl (k_runV C hA hW mw_M_spendWith mv_M_spendWith (ct_18.2 _) [0, 5, 7] rfl rfl 0 rfl rfl qm_M_156 ⟨Nat.le_of_ble_eq_true rfl, Nat.le_of_ble_eq_true rfl, Nat.zero_le _, Nat.zero_le _⟩ rfl rfl (Nat.le_of_ble_eq_true rfl) hl.1 d_M_wrong_172) (fun H locs hW => ?_)
                        refine lv_pop hx hb d_M_wrong_175 rfl ?_
                        refine lv_iinc (v := (y12_10 + 1)) (lv' := [(12, .int (y12_10 + 1)), (0, .ref a_r0), (1, .int x1), (2, .int x2), (3, .int x3), (5, .long y5_8), (7, .long e_5), (9, .int y9_8), (10, .long (y10_10 * s1_14))]) hx hb d_M_wrong_176 hl (k := 8) rfl rfl (by decide) rfl (fun ls hl => ?_)
                        refine lv_goto (tgt := 122) hx hb d_M_wrong_179 (by decide) ?_
                        exact ih_10 (y10_10 * s1_14) (y12_10 + 1) q_18.2.1 q_18.2.2 (hz1_10 _ (Option.some.inj hr).symm) _ _ _ hW (lv_sub hl [1, 2, 3, 4, 6, 5, 7, 8, 0] rfl)
                      refine lv_if_eq (tgt := 166) hx hb d_M_wrong_159 (by decide) (fun c_16 => ?_) (fun c_16 => ?_)
                      · replace hr := ip c_16 hr
                        refine lv_aload_n hx hb d_M_wrong_166 rfl (lv_at hl 1 rfl) ?_
                        refine lv_iload hx hb d_M_wrong_167 (lv_at hl 8 rfl) ?_
                        obtain ⟨q_19, hc_19, hr⟩ := ob hr
                        have ct_19 := C_M_likelyOn l D cI cS a_r0 a_r0_figures a_r0_hampers a_r0_kinds a_r0_weights (Value.int r0_days_8) (Value.ref a_r0_wants0) (Value.ref a_r0_left0) (Value.int r0_done0_10) (Value.int 0) (Value.ref a_r0_refusals) v_r0_letters v_r0_letterMany v_r0_at v_r0_isBad v_r0_statements v_r0_placeIn v_r0_letterOf v_r0_told (Value.ref a_r0_kept) v_r0_imaged v_r0_hasImage (Value.int r0_place0_8) (Value.int r0_isTaking_8) (kv r0_keptIn_8) v_r0_turns0 v_r0_turnOf v_r0_turned v_r0_order0 v_r0_likely0 v_r0_leftThen v_r0_row v_r0_rowMany v_r0_seed r0_things_8 r0_figures_8 r0_hampers_8 r0_kinds_8 r0_weights_8 y12_10 q_19 hc_19
                        refine k_goIp hA hW [0, 1, 2, 4, 8] rfl rfl (k_runV C hA hW mw_M_likelyOn mv_M_likelyOn (ct_19.2 _) [0, 1, 2, 4, 8] rfl rfl 0 rfl rfl qm_M_153 ⟨Nat.le_of_ble_eq_true rfl, Nat.le_of_ble_eq_true rfl, Nat.zero_le _, Nat.zero_le _⟩ rfl rfl (Nat.le_of_ble_eq_true rfl) hl.1 d_M_wrong_169) (fun H locs hW => ?_)
                        exact hJ_17 q_19 hr _ _ _ hW (lv_sub hl [1, 2, 3, 4, 5, 6, 7, 0, 8] rfl)
                      · replace hr := iN c_16 hr
                        refine lv_iconst (v := 1) hx hb d_M_wrong_162 (by decide) ?_
                        refine lv_goto (tgt := 172) hx hb d_M_wrong_163 (by decide) ?_
                        exact hJ_17 1 hr _ _ _ hW (lv_sub hl [1, 2, 3, 4, 5, 6, 7, 0, 8] rfl)
                    refine lv_if_eq (tgt := 144) hx hb d_M_wrong_137 (by decide) (fun c_13 => ?_) (fun c_13 => ?_)
                    · replace hr := ip c_13 hr
                      refine lv_iload_n hx hb d_M_wrong_144 rfl (lv_at hl 2 rfl) ?_
                      refine lv_iconst (v := 1) hx hb d_M_wrong_145 (by decide) ?_
                      refine lv_isub hx hb d_M_wrong_146 ?_
                      refine lv_i2l hx hb d_M_wrong_147 rfl ?_
                      exact hJ_14 (Int32.toInt64 (x2 - 1)) hr _ _ _ hW (lv_sub hl [0, 1, 2, 3, 5, 4, 6, 8] rfl)
                    · replace hr := iN c_13 hr
                      refine lv_lconst (v := 1) hx hb d_M_wrong_140 (by decide) ?_
                      refine lv_goto (tgt := 148) hx hb d_M_wrong_141 (by decide) ?_
                      exact hJ_14 1 hr _ _ _ hW (lv_sub hl [0, 1, 2, 3, 5, 4, 6, 8] rfl)
              exact hl_10 _ 1 0 r0_done0_8 r0_left0_8 hw_10 _ _ _ hW (lv_sub hl [2, 3, 4, 5, 6, 7, 8, 1, 0] rfl)
        exact hl_8 _ 0 0 q_7.1 q_7.2.1 q_7.2.2.1 q_7.2.2.2.1 q_7.2.2.2.2.1 q_7.2.2.2.2.2.1 q_7.2.2.2.2.2.2.1 q_7.2.2.2.2.2.2.2.1 q_7.2.2.2.2.2.2.2.2.1 q_7.2.2.2.2.2.2.2.2.2.1 q_7.2.2.2.2.2.2.2.2.2.2.1 q_7.2.2.2.2.2.2.2.2.2.2.2.1 q_7.2.2.2.2.2.2.2.2.2.2.2.2 hw_8 _ _ _ hW (lv_sub hl [2, 3, 4, 5, 6, 1, 0] rfl)
      have hl_5 : ∀ (k : Nat) (y7_5 : Int64) (y9_5 : Int32), wh (fun (s : (Int64) × (Int32)) => F_M_wrong_L82 x1 x2 s.1 s.2) k (y7_5, y9_5) = some ex_5 → ∀ (H : Heap) (locs : List Loc) (ls : Array Slot), wd A s.heap D (w_M_wrong cI a_r0 a_r0_figures a_r0_hampers a_r0_kept a_r0_kinds a_r0_left0 a_r0_refusals a_r0_wants0 a_r0_weights v_r0_letters v_r0_letterMany v_r0_at v_r0_isBad v_r0_statements v_r0_placeIn v_r0_letterOf v_r0_told v_r0_imaged v_r0_hasImage v_r0_turns0 v_r0_turnOf v_r0_turned v_r0_order0 v_r0_likely0 v_r0_leftThen v_r0_row v_r0_rowMany v_r0_seed kv r0_days r0_done0 r0_isTaking r0_keptIn r0_place0 r0_things 0 r0_figures r0_hampers r0_kept r0_kinds r0_left0 r0_refusals r0_wants0 r0_weights) H locs → lv_has ls 13 [(5, .long 0), (0, .ref a_r0), (1, .int x1), (2, .int x2), (3, .int x3), (7, .long y7_5), (9, .int y9_5)] → W p l e (rmd 4) s m ([.ref a_r0, .int x1, .int x2, .int x3] : List Value).toArray below meth c H locs 0 0 Q (F0 m 82 ls []) := by
        intro k
        induction k with
        | zero => intro y7_5 y9_5 hw; exact absurd hw wh_0
        | succ k ih_5 =>
          intro y7_5 y9_5 hw H locs ls hW hl
          obtain ⟨z_5, hr, hz1_5, hz2_5⟩ := wh_s hw
          have hr : F_M_wrong_L82 x1 x2 y7_5 y9_5 = some z_5 := hr
          unfold F_M_wrong_L82 at hr
          refine lv_iload hx hb d_M_wrong_82 (lv_at hl 6 rfl) ?_
          refine lv_iload_n hx hb d_M_wrong_84 rfl (lv_at hl 2 rfl) ?_
          refine lv_icmp_ge (tgt := 101) hx hb d_M_wrong_85 (by decide) (fun c_6 => ?_) (fun c_6 => ?_)
          · replace hr := ip c_6 hr
            exact hx_5 _ (hz2_5 _ (Option.some.inj hr).symm) _ _ _ hW (lv_sub hl [0, 1, 2, 3, 4, 5] rfl)
          · replace hr := iN c_6 hr
            refine lv_lload hx hb d_M_wrong_88 (lv_at hl 5 rfl) ?_
            refine lv_iload_n hx hb d_M_wrong_90 rfl (lv_at hl 3 rfl) ?_
            refine lv_i2l hx hb d_M_wrong_91 rfl ?_
            refine lv_lmul hx hb d_M_wrong_92 ?_
            refine lv_lstore (lv' := [(7, .long (y7_5 * (Int32.toInt64 x2))), (5, .long 0), (0, .ref a_r0), (1, .int x1), (2, .int x2), (3, .int x3), (9, .int y9_5)]) hx hb d_M_wrong_93 hl (by decide) rfl (fun ls hl => ?_)
            refine lv_iinc (v := (y9_5 + 1)) (lv' := [(9, .int (y9_5 + 1)), (7, .long (y7_5 * (Int32.toInt64 x2))), (5, .long 0), (0, .ref a_r0), (1, .int x1), (2, .int x2), (3, .int x3)]) hx hb d_M_wrong_95 hl (k := 6) rfl rfl (by decide) rfl (fun ls hl => ?_)
            refine lv_goto (tgt := 82) hx hb d_M_wrong_98 (by decide) ?_
            exact ih_5 (y7_5 * (Int32.toInt64 x2)) (y9_5 + 1) (hz1_5 _ (Option.some.inj hr).symm) _ _ _ hW (lv_sub hl [2, 3, 4, 5, 6, 1, 0] rfl)
      exact hl_5 _ 1 0 hw_5 _ _ _ hW (lv_sub hl [2, 4, 5, 6, 7, 1, 0] rfl)
    · replace hr := iN c_4 hr
      refine lv_ldc2 (v := 4000000000000000000) hx hb hown (hts _ (List.mem_cons_of_mem _ (qc_M_222))) d_M_wrong_61 ?_
      refine lv_aload_n hx hb d_M_wrong_64 rfl (lv_at hl 1 rfl) ?_
      refine lv_iload hx hb d_M_wrong_65 (lv_at hl 0 rfl) ?_
      obtain ⟨q_25, hc_25, hr⟩ := ob hr
      have ct_25 := C_M_refuse l D cI cS a_r0 a_r0_refusals (Value.ref a_r0_weights) (Value.int r0_things) (Value.ref a_r0_kinds) (Value.ref a_r0_figures) (Value.int r0_days) (Value.ref a_r0_hampers) (Value.ref a_r0_wants0) (Value.ref a_r0_left0) (Value.int r0_done0) (Value.int 0) v_r0_letters v_r0_letterMany v_r0_at v_r0_isBad v_r0_statements v_r0_placeIn v_r0_letterOf v_r0_told (Value.ref a_r0_kept) v_r0_imaged v_r0_hasImage (Value.int r0_place0) (Value.int r0_isTaking) (kv r0_keptIn) v_r0_turns0 v_r0_turnOf v_r0_turned v_r0_order0 v_r0_likely0 v_r0_leftThen v_r0_row v_r0_rowMany v_r0_seed r0_refusals q_3 q_25 hc_25
      refine k_goI hA hW [0, 6] rfl ct_25.1 (ws' := (w_M_wrong cI a_r0 a_r0_figures a_r0_hampers a_r0_kept a_r0_kinds a_r0_left0 a_r0_refusals a_r0_wants0 a_r0_weights v_r0_letters v_r0_letterMany v_r0_at v_r0_isBad v_r0_statements v_r0_placeIn v_r0_letterOf v_r0_told v_r0_imaged v_r0_hasImage v_r0_turns0 v_r0_turnOf v_r0_turned v_r0_order0 v_r0_likely0 v_r0_leftThen v_r0_row v_r0_rowMany v_r0_seed kv r0_days r0_done0 r0_isTaking r0_keptIn r0_place0 r0_things 0 r0_figures r0_hampers r0_kept r0_kinds r0_left0 q_25.2 r0_wants0 r0_weights)) rfl (k_runV C hA hW mw_M_refuse mv_M_refuse (ct_25.2 _) [0, 6] rfl rfl 0 rfl rfl qm_M_108 ⟨Nat.le_of_ble_eq_true rfl, Nat.le_of_ble_eq_true rfl, Nat.zero_le _, Nat.zero_le _⟩ rfl rfl (Nat.le_of_ble_eq_true rfl) hl.1 d_M_wrong_67) (fun H locs hW => ?_)
      refine lv_i2l hx hb d_M_wrong_70 rfl ?_
      refine lv_lsub hx hb d_M_wrong_71 ?_
      obtain rfl := Option.some.inj hr
      rw [hQ]; exact k_lret C hret hW d_M_wrong_72
  have hJ_26 : ∀ (_ : Unit), F_M_wrong_J14_26 r0_days r0_done0 r0_isTaking r0_keptIn r0_place0 r0_things r0_figures r0_hampers r0_kept r0_kinds r0_left0 r0_refusals r0_wants0 r0_weights x1 x2 x3 = some o → ∀ (H : Heap) (locs : List Loc) (ls : Array Slot), wd A s.heap D (w_M_wrong cI a_r0 a_r0_figures a_r0_hampers a_r0_kept a_r0_kinds a_r0_left0 a_r0_refusals a_r0_wants0 a_r0_weights v_r0_letters v_r0_letterMany v_r0_at v_r0_isBad v_r0_statements v_r0_placeIn v_r0_letterOf v_r0_told v_r0_imaged v_r0_hasImage v_r0_turns0 v_r0_turnOf v_r0_turned v_r0_order0 v_r0_likely0 v_r0_leftThen v_r0_row v_r0_rowMany v_r0_seed kv r0_days r0_done0 r0_isTaking r0_keptIn r0_place0 r0_things 0 r0_figures r0_hampers r0_kept r0_kinds r0_left0 r0_refusals r0_wants0 r0_weights) H locs → lv_has ls 13 [(0, .ref a_r0), (1, .int x1), (2, .int x2), (3, .int x3)] → W p l e (rmd 4) s m ([.ref a_r0, .int x1, .int x2, .int x3] : List Value).toArray below meth c H locs 0 0 Q (F0 m 14 ls []) := by
    intro _ hr H locs ls hW hl
    unfold F_M_wrong_J14_26 at hr
    refine lv_bipush (v := (-4)) hx hb d_M_wrong_14 (by decide) ?_
    refine lv_goto (tgt := 45) hx hb d_M_wrong_16 (by decide) ?_
    exact hJ_2 (-4) hr _ _ _ hW (lv_sub hl [0, 1, 2, 3] rfl)
  refine lv_if_lt (tgt := 14) hx hb d_M_wrong_6 (by decide) (fun c_1 => ?_) (fun c_1 => ?_)
  · replace hr := ip c_1 hr
    exact hJ_26 () hr _ _ _ hW (lv_sub hl [0, 1, 2, 3] rfl)
  · replace hr := iN c_1 hr
    refine lv_iload_n hx hb d_M_wrong_9 rfl (lv_at hl 2 rfl) ?_
    refine lv_iconst (v := 2) hx hb d_M_wrong_10 (by decide) ?_
    refine lv_icmp_ge (tgt := 19) hx hb d_M_wrong_11 (by decide) (fun c_27 => ?_) (fun c_27 => ?_)
    · replace hr := ip c_27 hr
      refine lv_iload_n hx hb d_M_wrong_19 rfl (lv_at hl 1 rfl) ?_
      refine lv_bipush (v := 8) hx hb d_M_wrong_20 (by decide) ?_
      have hJ_29 : ∀ (_ : Unit), F_M_wrong_J39_29 r0_days r0_done0 r0_isTaking r0_keptIn r0_place0 r0_things r0_figures r0_hampers r0_kept r0_kinds r0_left0 r0_refusals r0_wants0 r0_weights x1 x2 x3 = some o → ∀ (H : Heap) (locs : List Loc) (ls : Array Slot), wd A s.heap D (w_M_wrong cI a_r0 a_r0_figures a_r0_hampers a_r0_kept a_r0_kinds a_r0_left0 a_r0_refusals a_r0_wants0 a_r0_weights v_r0_letters v_r0_letterMany v_r0_at v_r0_isBad v_r0_statements v_r0_placeIn v_r0_letterOf v_r0_told v_r0_imaged v_r0_hasImage v_r0_turns0 v_r0_turnOf v_r0_turned v_r0_order0 v_r0_likely0 v_r0_leftThen v_r0_row v_r0_rowMany v_r0_seed kv r0_days r0_done0 r0_isTaking r0_keptIn r0_place0 r0_things 0 r0_figures r0_hampers r0_kept r0_kinds r0_left0 r0_refusals r0_wants0 r0_weights) H locs → lv_has ls 13 [(0, .ref a_r0), (1, .int x1), (2, .int x2), (3, .int x3)] → W p l e (rmd 4) s m ([.ref a_r0, .int x1, .int x2, .int x3] : List Value).toArray below meth c H locs 0 0 Q (F0 m 39 ls []) := by
        intro _ hr H locs ls hW hl
        unfold F_M_wrong_J39_29 at hr
        refine lv_bipush (v := (-6)) hx hb d_M_wrong_39 (by decide) ?_
        refine lv_goto (tgt := 45) hx hb d_M_wrong_41 (by decide) ?_
        exact hJ_2 (-6) hr _ _ _ hW (lv_sub hl [0, 1, 2, 3] rfl)
      refine lv_icmp_gt (tgt := 39) hx hb d_M_wrong_22 (by decide) (fun c_28 => ?_) (fun c_28 => ?_)
      · replace hr := ip c_28 hr
        exact hJ_29 () hr _ _ _ hW (lv_sub hl [0, 1, 2, 3] rfl)
      · replace hr := iN c_28 hr
        refine lv_iload_n hx hb d_M_wrong_25 rfl (lv_at hl 1 rfl) ?_
        refine lv_aload_n hx hb d_M_wrong_26 rfl (lv_at hl 0 rfl) ?_
        refine k_get i_M C hW 0 rfl rfl 4 (by decide) qf_M_78 rfl rfl d_M_wrong_27 ?_
        refine lv_icmp_gt (tgt := 39) hx hb d_M_wrong_30 (by decide) (fun c_30 => ?_) (fun c_30 => ?_)
        · replace hr := ip c_30 hr
          exact hJ_29 () hr _ _ _ hW (lv_sub hl [0, 1, 2, 3] rfl)
        · replace hr := iN c_30 hr
          refine lv_iload_n hx hb d_M_wrong_33 rfl (lv_at hl 2 rfl) ?_
          refine lv_bipush (v := 20) hx hb d_M_wrong_34 (by decide) ?_
          refine lv_icmp_le (tgt := 44) hx hb d_M_wrong_36 (by decide) (fun c_31 => ?_) (fun c_31 => ?_)
          · replace hr := ip c_31 hr
            refine lv_iconst (v := 0) hx hb d_M_wrong_44 (by decide) ?_
            exact hJ_2 0 hr _ _ _ hW (lv_sub hl [0, 1, 2, 3] rfl)
          · replace hr := iN c_31 hr
            exact hJ_29 () hr _ _ _ hW (lv_sub hl [0, 1, 2, 3] rfl)
    · replace hr := iN c_27 hr
      exact hJ_26 () hr _ _ _ hW (lv_sub hl [0, 1, 2, 3] rfl)
