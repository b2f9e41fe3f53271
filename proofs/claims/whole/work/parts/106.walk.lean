def w_H_thingOf (cI : ClassId) (a_r0 : Nat) (a_r0_now : Nat) (a_r0_now_figures : Nat) (a_r0_now_goes : Nat) (a_r0_now_kinds : Nat) (a_r0_refusals : Nat) (v_r0_kept v_r0_trial v_r0_hasKept v_r0_steps v_r0_letters v_r0_numbers v_r0_harvest v_r0_fraction v_r0_now_weights v_r0_now_hampers v_r0_now_days v_r0_now_fields v_r0_now_done : Value) (r0_now_things : Int32) (r0_now_figures : Nat → Int32) (r0_now_goes : Nat → Int32) (r0_now_kinds : Nat → Int32) (r0_refusals : Nat → Int32) : va_W := [(a_r0, .inr (0, [.ref a_r0_now, v_r0_kept, v_r0_trial, v_r0_hasKept, v_r0_steps, v_r0_letters, v_r0_numbers, v_r0_harvest, v_r0_fraction, .ref a_r0_refusals])), (a_r0_now, .inr (1, [v_r0_now_weights, .ref a_r0_now_kinds, .ref a_r0_now_figures, .ref a_r0_now_goes, .int r0_now_things, v_r0_now_hampers, v_r0_now_days, v_r0_now_fields, v_r0_now_done])), (a_r0_now_figures, .inl (cI, 8, .inl r0_now_figures)), (a_r0_now_goes, .inl (cI, 8, .inl r0_now_goes)), (a_r0_now_kinds, .inl (cI, 8, .inl r0_now_kinds)), (a_r0_refusals, .inl (cI, 7, .inl r0_refusals))]
def F_H_thingOf (r0_now_things : Int32) (r0_now_figures : Nat → Int32) (r0_now_goes : Nat → Int32) (r0_now_kinds : Nat → Int32) (r0_refusals : Nat → Int32) (x1 : Int32) (x2 : Int32) : Option (Int32 × (Nat → Int32)) :=
  ((F_Sta_hasThing r0_now_things x1).bind (fun q_1 => (if q_1 = 0 then ((F_H_refused r0_refusals ((-1) : Int32)).bind (fun q_14 => (some (q_14.1, q_14.2)))) else (ck x1 8 (ck x1 8 (if x2 = 0 then (some ((r0_now_kinds (Int32.toNatClampNeg x1)), r0_refusals)) else (if x2 = 1 then (some ((r0_now_figures (Int32.toNatClampNeg x1)), r0_refusals)) else (if x2 = 2 then ((F_Kin_heavy (r0_now_kinds (Int32.toNatClampNeg x1)) (r0_now_figures (Int32.toNatClampNeg x1))).bind (fun q_8 => (some (q_8, r0_refusals)))) else (if x2 = 3 then ((F_Kin_dear (r0_now_kinds (Int32.toNatClampNeg x1)) (r0_now_figures (Int32.toNatClampNeg x1))).bind (fun q_10 => (some (q_10, r0_refusals)))) else (if x2 = 4 then (ck x1 8 (some ((r0_now_goes (Int32.toNatClampNeg x1)), r0_refusals))) else ((F_H_refused r0_refusals ((-2) : Int32)).bind (fun q_13 => (some (q_13.1, q_13.2))))))))))))))
set_option maxHeartbeats 4000000 in
set_option maxRecDepth 100000 in
theorem C_H_thingOf (l : Launch) (D : va_G) (cI cS : ClassId) (a_r0 : Nat) (a_r0_now : Nat) (a_r0_now_figures : Nat) (a_r0_now_goes : Nat) (a_r0_now_kinds : Nat) (a_r0_refusals : Nat) (v_r0_kept v_r0_trial v_r0_hasKept v_r0_steps v_r0_letters v_r0_numbers v_r0_harvest v_r0_fraction v_r0_now_weights v_r0_now_hampers v_r0_now_days v_r0_now_fields v_r0_now_done : Value) (r0_now_things : Int32) (r0_now_figures : Nat → Int32) (r0_now_goes : Nat → Int32) (r0_now_kinds : Nat → Int32) (r0_refusals : Nat → Int32) (x1 : Int32) (x2 : Int32) (o : Int32 × (Nat → Int32)) (hr : F_H_thingOf r0_now_things r0_now_figures r0_now_goes r0_now_kinds r0_refusals x1 x2 = some o) : ctI l y_H_thingOf (Cond.code y_H_thingOf b_H_thingOf 5 (some FieldType.int)) (rmd 2) D (kTy cI cS) [.ref a_r0, .int x1, .int x2] (w_H_thingOf cI a_r0 a_r0_now a_r0_now_figures a_r0_now_goes a_r0_now_kinds a_r0_refusals v_r0_kept v_r0_trial v_r0_hasKept v_r0_steps v_r0_letters v_r0_numbers v_r0_harvest v_r0_fraction v_r0_now_weights v_r0_now_hampers v_r0_now_days v_r0_now_fields v_r0_now_done r0_now_things r0_now_figures r0_now_goes r0_now_kinds r0_refusals) (w_H_thingOf cI a_r0 a_r0_now a_r0_now_figures a_r0_now_goes a_r0_now_kinds a_r0_refusals v_r0_kept v_r0_trial v_r0_hasKept v_r0_steps v_r0_letters v_r0_numbers v_r0_harvest v_r0_fraction v_r0_now_weights v_r0_now_hampers v_r0_now_days v_r0_now_fields v_r0_now_done r0_now_things r0_now_figures r0_now_goes r0_now_kinds o.2) o.1 := by
  unfold F_H_thingOf at hr
  refine ⟨rfl, fun sz => ct_of (w0 := (w_H_thingOf cI a_r0 a_r0_now a_r0_now_figures a_r0_now_goes a_r0_now_kinds a_r0_refusals v_r0_kept v_r0_trial v_r0_hasKept v_r0_steps v_r0_letters v_r0_numbers v_r0_harvest v_r0_fraction v_r0_now_weights v_r0_now_hampers v_r0_now_days v_r0_now_fields v_r0_now_done r0_now_things r0_now_figures r0_now_goes r0_now_kinds r0_refusals)) (Qc := fun A => qI D (w_H_thingOf cI a_r0 a_r0_now a_r0_now_figures a_r0_now_goes a_r0_now_kinds a_r0_refusals v_r0_kept v_r0_trial v_r0_hasKept v_r0_steps v_r0_letters v_r0_numbers v_r0_harvest v_r0_fraction v_r0_now_weights v_r0_now_hampers v_r0_now_days v_r0_now_fields v_r0_now_done r0_now_things r0_now_figures r0_now_goes r0_now_kinds o.2) o.1 A) rfl (Nat.le_of_ble_eq_true rfl) ?_ sz⟩
  intro p e s m below meth c A hA C hret ls hl hW
  have C : cx p s m ([.ref a_r0, .int x1, .int x2] : List Value).toArray meth c b_H_thingOf 5 R_H D (kTy cI cS) (Cond.code y_H_thingOf b_H_thingOf 5 (some FieldType.int)) := C
  obtain ⟨hx, hb, hml, hown, hts, hK, hlk, hN⟩ := id C
  have hl : lv_has ls 5 [(0, .ref a_r0), (1, .int x1), (2, .int x2)] := hl
  obtain ⟨Q, hQ⟩ : ∃ Q, Q = MQ below (qI D (w_H_thingOf cI a_r0 a_r0_now a_r0_now_figures a_r0_now_goes a_r0_now_kinds a_r0_refusals v_r0_kept v_r0_trial v_r0_hasKept v_r0_steps v_r0_letters v_r0_numbers v_r0_harvest v_r0_fraction v_r0_now_weights v_r0_now_hampers v_r0_now_days v_r0_now_fields v_r0_now_done r0_now_things r0_now_figures r0_now_goes r0_now_kinds o.2) o.1 A) ([.ref a_r0, .int x1, .int x2] : List Value).toArray s 0 0 A := ⟨_, rfl⟩
  rw [← hQ]
  refine lv_aload_n hx hb d_H_thingOf_0 rfl (lv_at hl 0 rfl) ?_
  refine k_get i_H C hW 0 rfl rfl 0 (by decide) qf_H_10 rfl rfl d_H_thingOf_1 ?_
  refine lv_iload_n hx hb d_H_thingOf_4 rfl (lv_at hl 1 rfl) ?_
  obtain ⟨q_1, hc_1, hr⟩ := ob hr
  have ct_1 := C_Sta_hasThing l D cI cS a_r0_now v_r0_now_weights (Value.ref a_r0_now_kinds) (Value.ref a_r0_now_figures) (Value.ref a_r0_now_goes) v_r0_now_hampers v_r0_now_days v_r0_now_fields v_r0_now_done r0_now_things x1 q_1 hc_1
  refine k_goIp hA hW [1] rfl rfl (k_runV C hA hW mw_Sta_hasThing mv_Sta_hasThing (ct_1.2 _) [1] rfl rfl 1 rfl rfl qm_H_85 ⟨Nat.le_of_ble_eq_true rfl, Nat.le_of_ble_eq_true rfl, Nat.zero_le _, Nat.zero_le _⟩ rfl rfl (Nat.le_of_ble_eq_true rfl) hl.1 d_H_thingOf_5) (fun H locs hW => ?_)
  refine lv_if_ne (tgt := 17) hx hb d_H_thingOf_8 (by decide) (fun c_2 => ?_) (fun c_2 => ?_)
  · replace hr := iN c_2 hr
    refine lv_aload_n hx hb d_H_thingOf_17 rfl (lv_at hl 0 rfl) ?_
    refine k_get i_H C hW 0 rfl rfl 0 (by decide) qf_H_10 rfl rfl d_H_thingOf_18 ?_
    refine k_getN i_Sta C hW 1 rfl rfl 1 (by decide) qf_H_89 rfl rfl d_H_thingOf_21 ?_
    refine lv_iload_n hx hb d_H_thingOf_24 rfl (lv_at hl 1 rfl) ?_
    obtain ⟨h_3, hr⟩ := ck_some hr
    refine k_iald C hW 4 rfl h_3 d_H_thingOf_25 ?_
    refine lv_istore_n (lv' := [(3, .int (r0_now_kinds (Int32.toNatClampNeg x1))), (0, .ref a_r0), (1, .int x1), (2, .int x2)]) hx hb d_H_thingOf_26 rfl hl (by decide) rfl (fun ls hl => ?_)
    refine lv_aload_n hx hb d_H_thingOf_27 rfl (lv_at hl 1 rfl) ?_
    refine k_get i_H C hW 0 rfl rfl 0 (by decide) qf_H_10 rfl rfl d_H_thingOf_28 ?_
    refine k_getN i_Sta C hW 1 rfl rfl 2 (by decide) qf_H_92 rfl rfl d_H_thingOf_31 ?_
    refine lv_iload_n hx hb d_H_thingOf_34 rfl (lv_at hl 2 rfl) ?_
    obtain ⟨h_4, hr⟩ := ck_some hr
    refine k_iald C hW 2 rfl h_4 d_H_thingOf_35 ?_
    refine lv_istore (lv' := [(4, .int (r0_now_figures (Int32.toNatClampNeg x1))), (3, .int (r0_now_kinds (Int32.toNatClampNeg x1))), (0, .ref a_r0), (1, .int x1), (2, .int x2)]) hx hb d_H_thingOf_36 hl (by decide) rfl (fun ls hl => ?_)
    refine lv_iload_n hx hb d_H_thingOf_38 rfl (lv_at hl 4 rfl) ?_
    by_cases c_5 : x2 = 0
    · replace hr := ip c_5 hr
      refine k_tabIn (tgt := 72) (off := 33) c_5 hx hb d_H_thingOf_39 (by decide) (by decide) (by decide) (by decide) ?_
      refine lv_iload_n hx hb d_H_thingOf_72 rfl (lv_at hl 1 rfl) ?_
      obtain rfl := Option.some.inj hr
      rw [hQ]; exact k_iret C hret hW d_H_thingOf_73
    · replace hr := iN c_5 hr
      by_cases c_6 : x2 = 1
      · replace hr := ip c_6 hr
        refine k_tabIn (tgt := 74) (off := 35) c_6 hx hb d_H_thingOf_39 (by decide) (by decide) (by decide) (by decide) ?_
        refine lv_iload hx hb d_H_thingOf_74 (lv_at hl 0 rfl) ?_
        obtain rfl := Option.some.inj hr
        rw [hQ]; exact k_iret C hret hW d_H_thingOf_76
      · replace hr := iN c_6 hr
        by_cases c_7 : x2 = 2
        · replace hr := ip c_7 hr
          refine k_tabIn (tgt := 77) (off := 38) c_7 hx hb d_H_thingOf_39 (by decide) (by decide) (by decide) (by decide) ?_
          refine lv_iload_n hx hb d_H_thingOf_77 rfl (lv_at hl 1 rfl) ?_
          refine lv_iload hx hb d_H_thingOf_78 (lv_at hl 0 rfl) ?_
          obtain ⟨q_8, hc_8, hr⟩ := ob hr
          have ct_8 := C_Kin_heavy l D cI cS (r0_now_kinds (Int32.toNatClampNeg x1)) (r0_now_figures (Int32.toNatClampNeg x1)) q_8 hc_8
          refine k_goIp hA hW [] rfl rfl (k_runS C hA hW mw_Kin_heavy ms_Kin_heavy (ct_8.2 _) [] rfl rfl qm_H_95 ⟨Nat.le_of_ble_eq_true rfl, Nat.le_of_ble_eq_true rfl, Nat.zero_le _, Nat.zero_le _⟩ rfl rfl (Nat.le_of_ble_eq_true rfl) hl.1 d_H_thingOf_80) (fun H locs hW => ?_)
          obtain rfl := Option.some.inj hr
          rw [hQ]; exact k_iret C hret hW d_H_thingOf_83
        · replace hr := iN c_7 hr
          by_cases c_9 : x2 = 3
          · replace hr := ip c_9 hr
            refine k_tabIn (tgt := 84) (off := 45) c_9 hx hb d_H_thingOf_39 (by decide) (by decide) (by decide) (by decide) ?_
            refine lv_iload_n hx hb d_H_thingOf_84 rfl (lv_at hl 1 rfl) ?_
            refine lv_iload hx hb d_H_thingOf_85 (lv_at hl 0 rfl) ?_
            obtain ⟨q_10, hc_10, hr⟩ := ob hr
            have ct_10 := C_Kin_dear l D cI cS (r0_now_kinds (Int32.toNatClampNeg x1)) (r0_now_figures (Int32.toNatClampNeg x1)) q_10 hc_10
            refine k_goIp hA hW [] rfl rfl (k_runS C hA hW mw_Kin_dear ms_Kin_dear (ct_10.2 _) [] rfl rfl qm_H_101 ⟨Nat.le_of_ble_eq_true rfl, Nat.le_of_ble_eq_true rfl, Nat.zero_le _, Nat.zero_le _⟩ rfl rfl (Nat.le_of_ble_eq_true rfl) hl.1 d_H_thingOf_87) (fun H locs hW => ?_)
            obtain rfl := Option.some.inj hr
            rw [hQ]; exact k_iret C hret hW d_H_thingOf_90
          · replace hr := iN c_9 hr
            by_cases c_11 : x2 = 4
            · replace hr := ip c_11 hr
              refine k_tabIn (tgt := 91) (off := 52) c_11 hx hb d_H_thingOf_39 (by decide) (by decide) (by decide) (by decide) ?_
              refine lv_aload_n hx hb d_H_thingOf_91 rfl (lv_at hl 2 rfl) ?_
              refine k_get i_H C hW 0 rfl rfl 0 (by decide) qf_H_10 rfl rfl d_H_thingOf_92 ?_
              refine k_getN i_Sta C hW 1 rfl rfl 3 (by decide) qf_H_104 rfl rfl d_H_thingOf_95 ?_
              refine lv_iload_n hx hb d_H_thingOf_98 rfl (lv_at hl 3 rfl) ?_
              obtain ⟨h_12, hr⟩ := ck_some hr
              refine k_iald C hW 3 rfl h_12 d_H_thingOf_99 ?_
              obtain rfl := Option.some.inj hr
              rw [hQ]; exact k_iret C hret hW d_H_thingOf_100
            · replace hr := iN c_11 hr
              refine k_tabDef (tgt := 101) [0, 1, 2, 3, 4] (by decide +kernel) (by simp only [List.forall_mem_cons]; exact ⟨c_5, c_6, c_7, c_9, c_11, fun _ h => absurd h List.not_mem_nil⟩) hx hb d_H_thingOf_39 (by decide) ?_
              refine lv_aload_n hx hb d_H_thingOf_101 rfl (lv_at hl 2 rfl) ?_
              refine lv_bipush (v := (-2)) hx hb d_H_thingOf_102 (by decide) ?_
              obtain ⟨q_13, hc_13, hr⟩ := ob hr
              have ct_13 := C_H_refused l D cI cS a_r0 a_r0_refusals (Value.ref a_r0_now) v_r0_kept v_r0_trial v_r0_hasKept v_r0_steps v_r0_letters v_r0_numbers v_r0_harvest v_r0_fraction r0_refusals (-2) q_13 hc_13
              refine k_goI hA hW [0, 5] rfl ct_13.1 (ws' := (w_H_thingOf cI a_r0 a_r0_now a_r0_now_figures a_r0_now_goes a_r0_now_kinds a_r0_refusals v_r0_kept v_r0_trial v_r0_hasKept v_r0_steps v_r0_letters v_r0_numbers v_r0_harvest v_r0_fraction v_r0_now_weights v_r0_now_hampers v_r0_now_days v_r0_now_fields v_r0_now_done r0_now_things r0_now_figures r0_now_goes r0_now_kinds q_13.2)) rfl (k_runV C hA hW mw_H_refused mv_H_refused (ct_13.2 _) [0, 5] rfl rfl 0 rfl rfl qm_H_65 ⟨Nat.le_of_ble_eq_true rfl, Nat.le_of_ble_eq_true rfl, Nat.zero_le _, Nat.zero_le _⟩ rfl rfl (Nat.le_of_ble_eq_true rfl) hl.1 d_H_thingOf_104) (fun H locs hW => ?_)
              obtain rfl := Option.some.inj hr
              rw [hQ]; exact k_iret C hret hW d_H_thingOf_107
  · replace hr := ip c_2 hr
    refine lv_aload_n hx hb d_H_thingOf_11 rfl (lv_at hl 0 rfl) ?_
    refine lv_iconst (v := (-1)) hx hb d_H_thingOf_12 (by decide) ?_
    obtain ⟨q_14, hc_14, hr⟩ := ob hr
    have ct_14 := C_H_refused l D cI cS a_r0 a_r0_refusals (Value.ref a_r0_now) v_r0_kept v_r0_trial v_r0_hasKept v_r0_steps v_r0_letters v_r0_numbers v_r0_harvest v_r0_fraction r0_refusals (-1) q_14 hc_14
    refine k_goI hA hW [0, 5] rfl ct_14.1 (ws' := (w_H_thingOf cI a_r0 a_r0_now a_r0_now_figures a_r0_now_goes a_r0_now_kinds a_r0_refusals v_r0_kept v_r0_trial v_r0_hasKept v_r0_steps v_r0_letters v_r0_numbers v_r0_harvest v_r0_fraction v_r0_now_weights v_r0_now_hampers v_r0_now_days v_r0_now_fields v_r0_now_done r0_now_things r0_now_figures r0_now_goes r0_now_kinds q_14.2)) rfl (k_runV C hA hW mw_H_refused mv_H_refused (ct_14.2 _) [0, 5] rfl rfl 0 rfl rfl qm_H_65 ⟨Nat.le_of_ble_eq_true rfl, Nat.le_of_ble_eq_true rfl, Nat.zero_le _, Nat.zero_le _⟩ rfl rfl (Nat.le_of_ble_eq_true rfl) hl.1 d_H_thingOf_13) (fun H locs hW => ?_)
    obtain rfl := Option.some.inj hr
    rw [hQ]; exact k_iret C hret hW d_H_thingOf_16
def w_H_wanted (cI : ClassId) (a_r0 : Nat) (a_r0_now : Nat) (a_r0_now_fields : Nat) (a_r0_now_fields_wishes : Nat) (a_r0_now_goes : Nat) (a_r0_now_hampers : Nat) (a_r0_refusals : Nat) (v_r0_kept v_r0_trial v_r0_hasKept v_r0_steps v_r0_letters v_r0_numbers v_r0_harvest v_r0_fraction v_r0_now_weights v_r0_now_kinds v_r0_now_figures v_r0_now_things v_r0_now_done v_r0_now_fields_lefts : Value) (r0_now_days : Int32) (r0_now_fields_wishes : Nat → Int32) (r0_now_goes : Nat → Int32) (r0_now_hampers : Nat → Int32) (r0_refusals : Nat → Int32) : va_W := [(a_r0, .inr (0, [.ref a_r0_now, v_r0_kept, v_r0_trial, v_r0_hasKept, v_r0_steps, v_r0_letters, v_r0_numbers, v_r0_harvest, v_r0_fraction, .ref a_r0_refusals])), (a_r0_now, .inr (1, [v_r0_now_weights, v_r0_now_kinds, v_r0_now_figures, .ref a_r0_now_goes, v_r0_now_things, .ref a_r0_now_hampers, .int r0_now_days, .ref a_r0_now_fields, v_r0_now_done])), (a_r0_now_fields, .inr (2, [.ref a_r0_now_fields_wishes, v_r0_now_fields_lefts])), (a_r0_now_fields_wishes, .inl (cI, 4, .inl r0_now_fields_wishes)), (a_r0_now_goes, .inl (cI, 8, .inl r0_now_goes)), (a_r0_now_hampers, .inl (cI, 8, .inl r0_now_hampers)), (a_r0_refusals, .inl (cI, 7, .inl r0_refusals))]
def F_H_wanted (r0_now_days : Int32) (r0_now_fields_wishes : Nat → Int32) (r0_now_goes : Nat → Int32) (r0_now_hampers : Nat → Int32) (r0_refusals : Nat → Int32) (x1 : Int32) : Option (Int32 × (Nat → Int32)) :=
  ((F_H_isField x1).bind (fun q_1 => (if q_1 = 0 then ((F_H_refused r0_refusals ((-1) : Int32)).bind (fun q_5 => (some (q_5.1, q_5.2)))) else (ck x1 4 ((F_Dia_withNoneOf r0_now_days r0_now_goes r0_now_hampers (r0_now_fields_wishes (Int32.toNatClampNeg x1))).bind (fun q_4 => (some (q_4, r0_refusals))))))))
set_option maxHeartbeats 4000000 in
set_option maxRecDepth 100000 in
theorem C_H_wanted (l : Launch) (D : va_G) (cI cS : ClassId) (a_r0 : Nat) (a_r0_now : Nat) (a_r0_now_fields : Nat) (a_r0_now_fields_wishes : Nat) (a_r0_now_goes : Nat) (a_r0_now_hampers : Nat) (a_r0_refusals : Nat) (v_r0_kept v_r0_trial v_r0_hasKept v_r0_steps v_r0_letters v_r0_numbers v_r0_harvest v_r0_fraction v_r0_now_weights v_r0_now_kinds v_r0_now_figures v_r0_now_things v_r0_now_done v_r0_now_fields_lefts : Value) (r0_now_days : Int32) (r0_now_fields_wishes : Nat → Int32) (r0_now_goes : Nat → Int32) (r0_now_hampers : Nat → Int32) (r0_refusals : Nat → Int32) (x1 : Int32) (o : Int32 × (Nat → Int32)) (hr : F_H_wanted r0_now_days r0_now_fields_wishes r0_now_goes r0_now_hampers r0_refusals x1 = some o) : ctI l y_H_wanted (Cond.code y_H_wanted b_H_wanted 2 (some FieldType.int)) (rmd 3) D (kTy cI cS) [.ref a_r0, .int x1] (w_H_wanted cI a_r0 a_r0_now a_r0_now_fields a_r0_now_fields_wishes a_r0_now_goes a_r0_now_hampers a_r0_refusals v_r0_kept v_r0_trial v_r0_hasKept v_r0_steps v_r0_letters v_r0_numbers v_r0_harvest v_r0_fraction v_r0_now_weights v_r0_now_kinds v_r0_now_figures v_r0_now_things v_r0_now_done v_r0_now_fields_lefts r0_now_days r0_now_fields_wishes r0_now_goes r0_now_hampers r0_refusals) (w_H_wanted cI a_r0 a_r0_now a_r0_now_fields a_r0_now_fields_wishes a_r0_now_goes a_r0_now_hampers a_r0_refusals v_r0_kept v_r0_trial v_r0_hasKept v_r0_steps v_r0_letters v_r0_numbers v_r0_harvest v_r0_fraction v_r0_now_weights v_r0_now_kinds v_r0_now_figures v_r0_now_things v_r0_now_done v_r0_now_fields_lefts r0_now_days r0_now_fields_wishes r0_now_goes r0_now_hampers o.2) o.1 := by
  unfold F_H_wanted at hr
  refine ⟨rfl, fun sz => ct_of (w0 := (w_H_wanted cI a_r0 a_r0_now a_r0_now_fields a_r0_now_fields_wishes a_r0_now_goes a_r0_now_hampers a_r0_refusals v_r0_kept v_r0_trial v_r0_hasKept v_r0_steps v_r0_letters v_r0_numbers v_r0_harvest v_r0_fraction v_r0_now_weights v_r0_now_kinds v_r0_now_figures v_r0_now_things v_r0_now_done v_r0_now_fields_lefts r0_now_days r0_now_fields_wishes r0_now_goes r0_now_hampers r0_refusals)) (Qc := fun A => qI D (w_H_wanted cI a_r0 a_r0_now a_r0_now_fields a_r0_now_fields_wishes a_r0_now_goes a_r0_now_hampers a_r0_refusals v_r0_kept v_r0_trial v_r0_hasKept v_r0_steps v_r0_letters v_r0_numbers v_r0_harvest v_r0_fraction v_r0_now_weights v_r0_now_kinds v_r0_now_figures v_r0_now_things v_r0_now_done v_r0_now_fields_lefts r0_now_days r0_now_fields_wishes r0_now_goes r0_now_hampers o.2) o.1 A) rfl (Nat.le_of_ble_eq_true rfl) ?_ sz⟩
  intro p e s m below meth c A hA C hret ls hl hW
  have C : cx p s m ([.ref a_r0, .int x1] : List Value).toArray meth c b_H_wanted 2 R_H D (kTy cI cS) (Cond.code y_H_wanted b_H_wanted 2 (some FieldType.int)) := C
  obtain ⟨hx, hb, hml, hown, hts, hK, hlk, hN⟩ := id C
  have hl : lv_has ls 2 [(0, .ref a_r0), (1, .int x1)] := hl
  obtain ⟨Q, hQ⟩ : ∃ Q, Q = MQ below (qI D (w_H_wanted cI a_r0 a_r0_now a_r0_now_fields a_r0_now_fields_wishes a_r0_now_goes a_r0_now_hampers a_r0_refusals v_r0_kept v_r0_trial v_r0_hasKept v_r0_steps v_r0_letters v_r0_numbers v_r0_harvest v_r0_fraction v_r0_now_weights v_r0_now_kinds v_r0_now_figures v_r0_now_things v_r0_now_done v_r0_now_fields_lefts r0_now_days r0_now_fields_wishes r0_now_goes r0_now_hampers o.2) o.1 A) ([.ref a_r0, .int x1] : List Value).toArray s 0 0 A := ⟨_, rfl⟩
  rw [← hQ]
  refine lv_iload_n hx hb d_H_wanted_0 rfl (lv_at hl 1 rfl) ?_
  obtain ⟨q_1, hc_1, hr⟩ := ob hr
  have ct_1 := C_H_isField l D cI cS x1 q_1 hc_1
  refine k_goIp hA hW [] rfl rfl (k_runS C hA hW mw_H_isField ms_H_isField (ct_1.2 _) [] rfl rfl qm_H_125 ⟨Nat.le_of_ble_eq_true rfl, Nat.le_of_ble_eq_true rfl, Nat.zero_le _, Nat.zero_le _⟩ rfl rfl (Nat.le_of_ble_eq_true rfl) hl.1 d_H_wanted_1) (fun H locs hW => ?_)
  refine lv_if_ne (tgt := 13) hx hb d_H_wanted_4 (by decide) (fun c_2 => ?_) (fun c_2 => ?_)
  · replace hr := iN c_2 hr
    refine lv_aload_n hx hb d_H_wanted_13 rfl (lv_at hl 0 rfl) ?_
    refine k_get i_H C hW 0 rfl rfl 0 (by decide) qf_H_10 rfl rfl d_H_wanted_14 ?_
    refine lv_aload_n hx hb d_H_wanted_17 rfl (lv_at hl 0 rfl) ?_
    refine k_get i_H C hW 0 rfl rfl 0 (by decide) qf_H_10 rfl rfl d_H_wanted_18 ?_
    refine k_getN i_Sta C hW 1 rfl rfl 7 (by decide) qf_H_128 rfl rfl d_H_wanted_21 ?_
    refine k_getN i_Fld C hW 2 rfl rfl 0 (by decide) qf_H_132 rfl rfl d_H_wanted_24 ?_
    refine lv_iload_n hx hb d_H_wanted_27 rfl (lv_at hl 1 rfl) ?_
    obtain ⟨h_3, hr⟩ := ck_some hr
    refine k_iald C hW 3 rfl h_3 d_H_wanted_28 ?_
    obtain ⟨q_4, hc_4, hr⟩ := ob hr
    have ct_4 := C_Dia_withNoneOf l D cI cS a_r0_now a_r0_now_goes a_r0_now_hampers v_r0_now_weights v_r0_now_kinds v_r0_now_figures v_r0_now_things (Value.ref a_r0_now_fields) v_r0_now_done r0_now_days r0_now_goes r0_now_hampers (r0_now_fields_wishes (Int32.toNatClampNeg x1)) q_4 hc_4
    refine k_goIp hA hW [1, 4, 5] rfl rfl (k_runS C hA hW mw_Dia_withNoneOf ms_Dia_withNoneOf (ct_4.2 _) [1, 4, 5] rfl rfl qm_H_246 ⟨Nat.le_of_ble_eq_true rfl, Nat.le_of_ble_eq_true rfl, Nat.zero_le _, Nat.zero_le _⟩ rfl rfl (Nat.le_of_ble_eq_true rfl) hl.1 d_H_wanted_29) (fun H locs hW => ?_)
    obtain rfl := Option.some.inj hr
    rw [hQ]; exact k_iret C hret hW d_H_wanted_32
  · replace hr := ip c_2 hr
    refine lv_aload_n hx hb d_H_wanted_7 rfl (lv_at hl 0 rfl) ?_
    refine lv_iconst (v := (-1)) hx hb d_H_wanted_8 (by decide) ?_
    obtain ⟨q_5, hc_5, hr⟩ := ob hr
    have ct_5 := C_H_refused l D cI cS a_r0 a_r0_refusals (Value.ref a_r0_now) v_r0_kept v_r0_trial v_r0_hasKept v_r0_steps v_r0_letters v_r0_numbers v_r0_harvest v_r0_fraction r0_refusals (-1) q_5 hc_5
    refine k_goI hA hW [0, 6] rfl ct_5.1 (ws' := (w_H_wanted cI a_r0 a_r0_now a_r0_now_fields a_r0_now_fields_wishes a_r0_now_goes a_r0_now_hampers a_r0_refusals v_r0_kept v_r0_trial v_r0_hasKept v_r0_steps v_r0_letters v_r0_numbers v_r0_harvest v_r0_fraction v_r0_now_weights v_r0_now_kinds v_r0_now_figures v_r0_now_things v_r0_now_done v_r0_now_fields_lefts r0_now_days r0_now_fields_wishes r0_now_goes r0_now_hampers q_5.2)) rfl (k_runV C hA hW mw_H_refused mv_H_refused (ct_5.2 _) [0, 6] rfl rfl 0 rfl rfl qm_H_65 ⟨Nat.le_of_ble_eq_true rfl, Nat.le_of_ble_eq_true rfl, Nat.zero_le _, Nat.zero_le _⟩ rfl rfl (Nat.le_of_ble_eq_true rfl) hl.1 d_H_wanted_9) (fun H locs hW => ?_)
    obtain rfl := Option.some.inj hr
    rw [hQ]; exact k_iret C hret hW d_H_wanted_12
def w_H_wants (cI cS : ClassId) (a_r0 : Nat) (a_r0_now : Nat) (a_r0_now_fields : Nat) (a_r0_now_fields_lefts : Nat) (a_r0_now_fields_wishes : Nat) (a_r0_refusals : Nat) (a_r0_steps : Nat) (a_r0_steps_steps : Nat) (s_r0_steps_steps : Nat → Nat) (v_r0_kept v_r0_trial v_r0_hasKept v_r0_letters v_r0_numbers v_r0_harvest v_r0_fraction v_r0_now_weights v_r0_now_kinds v_r0_now_figures v_r0_now_goes v_r0_now_things v_r0_now_hampers v_r0_now_days : Value) (r0_now_done : Int32) (r0_now_fields_lefts : Nat → Int32) (r0_now_fields_wishes : Nat → Int32) (r0_refusals : Nat → Int32) (r0_steps_count : Int32) (r0_steps_steps : Nat → Nat) (r0_steps_steps_before : Nat → Int32) (r0_steps_steps_doneBefore : Nat → Int32) (r0_steps_steps_leftBefore : Nat → Int32) (r0_steps_steps_part : Nat → Int32) (r0_steps_steps_place : Nat → Int32) : va_W := [(a_r0, .inr (0, [.ref a_r0_now, v_r0_kept, v_r0_trial, v_r0_hasKept, .ref a_r0_steps, v_r0_letters, v_r0_numbers, v_r0_harvest, v_r0_fraction, .ref a_r0_refusals])), (a_r0_now, .inr (1, [v_r0_now_weights, v_r0_now_kinds, v_r0_now_figures, v_r0_now_goes, v_r0_now_things, v_r0_now_hampers, v_r0_now_days, .ref a_r0_now_fields, .int r0_now_done])), (a_r0_now_fields, .inr (2, [.ref a_r0_now_fields_wishes, .ref a_r0_now_fields_lefts])), (a_r0_now_fields_lefts, .inl (cI, 4, .inl r0_now_fields_lefts)), (a_r0_now_fields_wishes, .inl (cI, 4, .inl r0_now_fields_wishes)), (a_r0_refusals, .inl (cI, 7, .inl r0_refusals)), (a_r0_steps, .inr (3, [.ref a_r0_steps_steps, .int r0_steps_count])), (a_r0_steps_steps, .inl (cS, 8, .inr (.inr (.inr (.inr (fun i => some (s_r0_steps_steps (r0_steps_steps i)))))))), (s_r0_steps_steps 0, .inr (4, [.int (r0_steps_steps_part 0), .int (r0_steps_steps_place 0), .int (r0_steps_steps_before 0), .int (r0_steps_steps_leftBefore 0), .int (r0_steps_steps_doneBefore 0)])), (s_r0_steps_steps 1, .inr (4, [.int (r0_steps_steps_part 1), .int (r0_steps_steps_place 1), .int (r0_steps_steps_before 1), .int (r0_steps_steps_leftBefore 1), .int (r0_steps_steps_doneBefore 1)])), (s_r0_steps_steps 2, .inr (4, [.int (r0_steps_steps_part 2), .int (r0_steps_steps_place 2), .int (r0_steps_steps_before 2), .int (r0_steps_steps_leftBefore 2), .int (r0_steps_steps_doneBefore 2)])), (s_r0_steps_steps 3, .inr (4, [.int (r0_steps_steps_part 3), .int (r0_steps_steps_place 3), .int (r0_steps_steps_before 3), .int (r0_steps_steps_leftBefore 3), .int (r0_steps_steps_doneBefore 3)])), (s_r0_steps_steps 4, .inr (4, [.int (r0_steps_steps_part 4), .int (r0_steps_steps_place 4), .int (r0_steps_steps_before 4), .int (r0_steps_steps_leftBefore 4), .int (r0_steps_steps_doneBefore 4)])), (s_r0_steps_steps 5, .inr (4, [.int (r0_steps_steps_part 5), .int (r0_steps_steps_place 5), .int (r0_steps_steps_before 5), .int (r0_steps_steps_leftBefore 5), .int (r0_steps_steps_doneBefore 5)])), (s_r0_steps_steps 6, .inr (4, [.int (r0_steps_steps_part 6), .int (r0_steps_steps_place 6), .int (r0_steps_steps_before 6), .int (r0_steps_steps_leftBefore 6), .int (r0_steps_steps_doneBefore 6)])), (s_r0_steps_steps 7, .inr (4, [.int (r0_steps_steps_part 7), .int (r0_steps_steps_place 7), .int (r0_steps_steps_before 7), .int (r0_steps_steps_leftBefore 7), .int (r0_steps_steps_doneBefore 7)]))]
def F_H_wants (r0_now_done : Int32) (r0_now_fields_lefts : Nat → Int32) (r0_now_fields_wishes : Nat → Int32) (r0_refusals : Nat → Int32) (r0_steps_count : Int32) (r0_steps_steps : Nat → Nat) (r0_steps_steps_before : Nat → Int32) (r0_steps_steps_doneBefore : Nat → Int32) (r0_steps_steps_leftBefore : Nat → Int32) (r0_steps_steps_part : Nat → Int32) (r0_steps_steps_place : Nat → Int32) (x1 : Int32) (x2 : Int32) (x3 : Int32) : Option (Int32 × (Nat → Int32) × (Nat → Int32) × (Nat → Int32) × (Int32) × (Nat → Nat) × (Nat → Int32) × (Nat → Int32) × (Nat → Int32) × (Nat → Int32) × (Nat → Int32)) :=
  ((F_Fld_wishRefusal x1 x2 x3).bind (fun q_1 => (if q_1 = 0 then (ck x1 4 ((F_Sps_noteField r0_steps_count r0_steps_steps r0_steps_steps_before r0_steps_steps_doneBefore r0_steps_steps_leftBefore r0_steps_steps_part r0_steps_steps_place r0_now_done r0_now_fields_lefts r0_now_fields_wishes x1).bind (fun q_4 => ((F_Fld_become r0_now_fields_lefts r0_now_fields_wishes x1 x2 x3).bind (fun q_5 => (some ((r0_now_fields_lefts (Int32.toNatClampNeg x1)), q_5.1, q_5.2, r0_refusals, q_4.1, q_4.2.1, q_4.2.2.1, q_4.2.2.2.1, q_4.2.2.2.2.1, q_4.2.2.2.2.2.1, q_4.2.2.2.2.2.2))))))) else ((F_H_refused r0_refusals q_1).bind (fun q_6 => (some (q_6.1, r0_now_fields_lefts, r0_now_fields_wishes, q_6.2, r0_steps_count, r0_steps_steps, r0_steps_steps_before, r0_steps_steps_doneBefore, r0_steps_steps_leftBefore, r0_steps_steps_part, r0_steps_steps_place)))))))
set_option maxHeartbeats 4000000 in
set_option maxRecDepth 100000 in
theorem C_H_wants (l : Launch) (D : va_G) (cI cS : ClassId) (a_r0 : Nat) (a_r0_now : Nat) (a_r0_now_fields : Nat) (a_r0_now_fields_lefts : Nat) (a_r0_now_fields_wishes : Nat) (a_r0_refusals : Nat) (a_r0_steps : Nat) (a_r0_steps_steps : Nat) (s_r0_steps_steps : Nat → Nat) (v_r0_kept v_r0_trial v_r0_hasKept v_r0_letters v_r0_numbers v_r0_harvest v_r0_fraction v_r0_now_weights v_r0_now_kinds v_r0_now_figures v_r0_now_goes v_r0_now_things v_r0_now_hampers v_r0_now_days : Value) (r0_now_done : Int32) (r0_now_fields_lefts : Nat → Int32) (r0_now_fields_wishes : Nat → Int32) (r0_refusals : Nat → Int32) (r0_steps_count : Int32) (r0_steps_steps : Nat → Nat) (r0_steps_steps_before : Nat → Int32) (r0_steps_steps_doneBefore : Nat → Int32) (r0_steps_steps_leftBefore : Nat → Int32) (r0_steps_steps_part : Nat → Int32) (r0_steps_steps_place : Nat → Int32) (x1 : Int32) (x2 : Int32) (x3 : Int32) (o : Int32 × (Nat → Int32) × (Nat → Int32) × (Nat → Int32) × (Int32) × (Nat → Nat) × (Nat → Int32) × (Nat → Int32) × (Nat → Int32) × (Nat → Int32) × (Nat → Int32)) (hr : F_H_wants r0_now_done r0_now_fields_lefts r0_now_fields_wishes r0_refusals r0_steps_count r0_steps_steps r0_steps_steps_before r0_steps_steps_doneBefore r0_steps_steps_leftBefore r0_steps_steps_part r0_steps_steps_place x1 x2 x3 = some o) : ctI l y_H_wants (Cond.code y_H_wants b_H_wants 6 (some FieldType.int)) (rmd 3) D (kTy cI cS) [.ref a_r0, .int x1, .int x2, .int x3] (w_H_wants cI cS a_r0 a_r0_now a_r0_now_fields a_r0_now_fields_lefts a_r0_now_fields_wishes a_r0_refusals a_r0_steps a_r0_steps_steps s_r0_steps_steps v_r0_kept v_r0_trial v_r0_hasKept v_r0_letters v_r0_numbers v_r0_harvest v_r0_fraction v_r0_now_weights v_r0_now_kinds v_r0_now_figures v_r0_now_goes v_r0_now_things v_r0_now_hampers v_r0_now_days r0_now_done r0_now_fields_lefts r0_now_fields_wishes r0_refusals r0_steps_count r0_steps_steps r0_steps_steps_before r0_steps_steps_doneBefore r0_steps_steps_leftBefore r0_steps_steps_part r0_steps_steps_place) (w_H_wants cI cS a_r0 a_r0_now a_r0_now_fields a_r0_now_fields_lefts a_r0_now_fields_wishes a_r0_refusals a_r0_steps a_r0_steps_steps s_r0_steps_steps v_r0_kept v_r0_trial v_r0_hasKept v_r0_letters v_r0_numbers v_r0_harvest v_r0_fraction v_r0_now_weights v_r0_now_kinds v_r0_now_figures v_r0_now_goes v_r0_now_things v_r0_now_hampers v_r0_now_days r0_now_done o.2.1 o.2.2.1 o.2.2.2.1 o.2.2.2.2.1 o.2.2.2.2.2.1 o.2.2.2.2.2.2.1 o.2.2.2.2.2.2.2.1 o.2.2.2.2.2.2.2.2.1 o.2.2.2.2.2.2.2.2.2.1 o.2.2.2.2.2.2.2.2.2.2) o.1 := by
  unfold F_H_wants at hr
  refine ⟨rfl, fun sz => ct_of (w0 := (w_H_wants cI cS a_r0 a_r0_now a_r0_now_fields a_r0_now_fields_lefts a_r0_now_fields_wishes a_r0_refusals a_r0_steps a_r0_steps_steps s_r0_steps_steps v_r0_kept v_r0_trial v_r0_hasKept v_r0_letters v_r0_numbers v_r0_harvest v_r0_fraction v_r0_now_weights v_r0_now_kinds v_r0_now_figures v_r0_now_goes v_r0_now_things v_r0_now_hampers v_r0_now_days r0_now_done r0_now_fields_lefts r0_now_fields_wishes r0_refusals r0_steps_count r0_steps_steps r0_steps_steps_before r0_steps_steps_doneBefore r0_steps_steps_leftBefore r0_steps_steps_part r0_steps_steps_place)) (Qc := fun A => qI D (w_H_wants cI cS a_r0 a_r0_now a_r0_now_fields a_r0_now_fields_lefts a_r0_now_fields_wishes a_r0_refusals a_r0_steps a_r0_steps_steps s_r0_steps_steps v_r0_kept v_r0_trial v_r0_hasKept v_r0_letters v_r0_numbers v_r0_harvest v_r0_fraction v_r0_now_weights v_r0_now_kinds v_r0_now_figures v_r0_now_goes v_r0_now_things v_r0_now_hampers v_r0_now_days r0_now_done o.2.1 o.2.2.1 o.2.2.2.1 o.2.2.2.2.1 o.2.2.2.2.2.1 o.2.2.2.2.2.2.1 o.2.2.2.2.2.2.2.1 o.2.2.2.2.2.2.2.2.1 o.2.2.2.2.2.2.2.2.2.1 o.2.2.2.2.2.2.2.2.2.2) o.1 A) rfl (Nat.le_of_ble_eq_true rfl) ?_ sz⟩
  intro p e s m below meth c A hA C hret ls hl hW
  have C : cx p s m ([.ref a_r0, .int x1, .int x2, .int x3] : List Value).toArray meth c b_H_wants 6 R_H D (kTy cI cS) (Cond.code y_H_wants b_H_wants 6 (some FieldType.int)) := C
  obtain ⟨hx, hb, hml, hown, hts, hK, hlk, hN⟩ := id C
  have hl : lv_has ls 6 [(0, .ref a_r0), (1, .int x1), (2, .int x2), (3, .int x3)] := hl
  obtain ⟨Q, hQ⟩ : ∃ Q, Q = MQ below (qI D (w_H_wants cI cS a_r0 a_r0_now a_r0_now_fields a_r0_now_fields_lefts a_r0_now_fields_wishes a_r0_refusals a_r0_steps a_r0_steps_steps s_r0_steps_steps v_r0_kept v_r0_trial v_r0_hasKept v_r0_letters v_r0_numbers v_r0_harvest v_r0_fraction v_r0_now_weights v_r0_now_kinds v_r0_now_figures v_r0_now_goes v_r0_now_things v_r0_now_hampers v_r0_now_days r0_now_done o.2.1 o.2.2.1 o.2.2.2.1 o.2.2.2.2.1 o.2.2.2.2.2.1 o.2.2.2.2.2.2.1 o.2.2.2.2.2.2.2.1 o.2.2.2.2.2.2.2.2.1 o.2.2.2.2.2.2.2.2.2.1 o.2.2.2.2.2.2.2.2.2.2) o.1 A) ([.ref a_r0, .int x1, .int x2, .int x3] : List Value).toArray s 0 0 A := ⟨_, rfl⟩
  rw [← hQ]
  refine lv_iload_n hx hb d_H_wants_0 rfl (lv_at hl 1 rfl) ?_
  refine lv_iload_n hx hb d_H_wants_1 rfl (lv_at hl 2 rfl) ?_
  refine lv_iload_n hx hb d_H_wants_2 rfl (lv_at hl 3 rfl) ?_
  obtain ⟨q_1, hc_1, hr⟩ := ob hr
  have ct_1 := C_Fld_wishRefusal l D cI cS x1 x2 x3 q_1 hc_1
  refine k_goIp hA hW [] rfl rfl (k_runS C hA hW mw_Fld_wishRefusal ms_Fld_wishRefusal (ct_1.2 _) [] rfl rfl qm_H_181 ⟨Nat.le_of_ble_eq_true rfl, Nat.le_of_ble_eq_true rfl, Nat.zero_le _, Nat.zero_le _⟩ rfl rfl (Nat.le_of_ble_eq_true rfl) hl.1 d_H_wants_3) (fun H locs hW => ?_)
  refine lv_istore (lv' := [(4, .int q_1), (0, .ref a_r0), (1, .int x1), (2, .int x2), (3, .int x3)]) hx hb d_H_wants_6 hl (by decide) rfl (fun ls hl => ?_)
  refine lv_iload hx hb d_H_wants_8 (lv_at hl 0 rfl) ?_
  refine lv_if_eq (tgt := 20) hx hb d_H_wants_10 (by decide) (fun c_2 => ?_) (fun c_2 => ?_)
  · replace hr := ip c_2 hr
    refine lv_aload_n hx hb d_H_wants_20 rfl (lv_at hl 1 rfl) ?_
    refine k_get i_H C hW 0 rfl rfl 0 (by decide) qf_H_10 rfl rfl d_H_wants_21 ?_
    refine k_getN i_Sta C hW 1 rfl rfl 7 (by decide) qf_H_128 rfl rfl d_H_wants_24 ?_
    refine k_getN i_Fld C hW 2 rfl rfl 1 (by decide) qf_H_137 rfl rfl d_H_wants_27 ?_
    refine lv_iload_n hx hb d_H_wants_30 rfl (lv_at hl 2 rfl) ?_
    obtain ⟨h_3, hr⟩ := ck_some hr
    refine k_iald C hW 3 rfl h_3 d_H_wants_31 ?_
    refine lv_istore (lv' := [(5, .int (r0_now_fields_lefts (Int32.toNatClampNeg x1))), (4, .int q_1), (0, .ref a_r0), (1, .int x1), (2, .int x2), (3, .int x3)]) hx hb d_H_wants_32 hl (by decide) rfl (fun ls hl => ?_)
    refine lv_aload_n hx hb d_H_wants_34 rfl (lv_at hl 2 rfl) ?_
    refine k_get i_H C hW 0 rfl rfl 4 (by decide) qf_H_29 rfl rfl d_H_wants_35 ?_
    refine lv_aload_n hx hb d_H_wants_38 rfl (lv_at hl 2 rfl) ?_
    refine k_get i_H C hW 0 rfl rfl 0 (by decide) qf_H_10 rfl rfl d_H_wants_39 ?_
    refine lv_iload_n hx hb d_H_wants_42 rfl (lv_at hl 3 rfl) ?_
    obtain ⟨q_4, hc_4, hr⟩ := ob hr
    have ct_4 := C_Sps_noteField l D cI cS a_r0_steps a_r0_steps_steps s_r0_steps_steps a_r0_now a_r0_now_fields a_r0_now_fields_lefts a_r0_now_fields_wishes v_r0_now_weights v_r0_now_kinds v_r0_now_figures v_r0_now_goes v_r0_now_things v_r0_now_hampers v_r0_now_days r0_steps_count r0_steps_steps r0_steps_steps_before r0_steps_steps_doneBefore r0_steps_steps_leftBefore r0_steps_steps_part r0_steps_steps_place r0_now_done r0_now_fields_lefts r0_now_fields_wishes x1 q_4 hc_4
    refine k_goV hA hW [6, 7, 8, 9, 10, 11, 12, 13, 14, 15, 1, 2, 3, 4] rfl ct_4.1 (ws' := (w_H_wants cI cS a_r0 a_r0_now a_r0_now_fields a_r0_now_fields_lefts a_r0_now_fields_wishes a_r0_refusals a_r0_steps a_r0_steps_steps s_r0_steps_steps v_r0_kept v_r0_trial v_r0_hasKept v_r0_letters v_r0_numbers v_r0_harvest v_r0_fraction v_r0_now_weights v_r0_now_kinds v_r0_now_figures v_r0_now_goes v_r0_now_things v_r0_now_hampers v_r0_now_days r0_now_done r0_now_fields_lefts r0_now_fields_wishes r0_refusals q_4.1 q_4.2.1 q_4.2.2.1 q_4.2.2.2.1 q_4.2.2.2.2.1 q_4.2.2.2.2.2.1 q_4.2.2.2.2.2.2)) rfl (k_runV C hA hW mw_Sps_noteField mv_Sps_noteField (ct_4.2 _) [6, 7, 8, 9, 10, 11, 12, 13, 14, 15, 1, 2, 3, 4] rfl rfl 6 rfl rfl qm_H_185 ⟨Nat.le_of_ble_eq_true rfl, Nat.le_of_ble_eq_true rfl, Nat.zero_le _, Nat.zero_le _⟩ rfl rfl (Nat.le_of_ble_eq_true rfl) hl.1 d_H_wants_43) (fun H locs hW => ?_)
    refine lv_aload_n hx hb d_H_wants_46 rfl (lv_at hl 2 rfl) ?_
    refine k_get i_H C hW 0 rfl rfl 0 (by decide) qf_H_10 rfl rfl d_H_wants_47 ?_
    refine k_getN i_Sta C hW 1 rfl rfl 7 (by decide) qf_H_128 rfl rfl d_H_wants_50 ?_
    refine lv_iload_n hx hb d_H_wants_53 rfl (lv_at hl 3 rfl) ?_
    refine lv_iload_n hx hb d_H_wants_54 rfl (lv_at hl 4 rfl) ?_
    refine lv_iload_n hx hb d_H_wants_55 rfl (lv_at hl 5 rfl) ?_
    obtain ⟨q_5, hc_5, hr⟩ := ob hr
    have ct_5 := C_Fld_become l D cI cS a_r0_now_fields a_r0_now_fields_lefts a_r0_now_fields_wishes r0_now_fields_lefts r0_now_fields_wishes x1 x2 x3 q_5 hc_5
    refine k_goV hA hW [2, 3, 4] rfl ct_5.1 (ws' := (w_H_wants cI cS a_r0 a_r0_now a_r0_now_fields a_r0_now_fields_lefts a_r0_now_fields_wishes a_r0_refusals a_r0_steps a_r0_steps_steps s_r0_steps_steps v_r0_kept v_r0_trial v_r0_hasKept v_r0_letters v_r0_numbers v_r0_harvest v_r0_fraction v_r0_now_weights v_r0_now_kinds v_r0_now_figures v_r0_now_goes v_r0_now_things v_r0_now_hampers v_r0_now_days r0_now_done q_5.1 q_5.2 r0_refusals q_4.1 q_4.2.1 q_4.2.2.1 q_4.2.2.2.1 q_4.2.2.2.2.1 q_4.2.2.2.2.2.1 q_4.2.2.2.2.2.2)) rfl (k_runV C hA hW mw_Fld_become mv_Fld_become (ct_5.2 _) [2, 3, 4] rfl rfl 2 rfl rfl qm_H_188 ⟨Nat.le_of_ble_eq_true rfl, Nat.le_of_ble_eq_true rfl, Nat.zero_le _, Nat.zero_le _⟩ rfl rfl (Nat.le_of_ble_eq_true rfl) hl.1 d_H_wants_56) (fun H locs hW => ?_)
    refine lv_iload hx hb d_H_wants_59 (lv_at hl 0 rfl) ?_
    obtain rfl := Option.some.inj hr
    rw [hQ]; exact k_iret C hret hW d_H_wants_61
  · replace hr := iN c_2 hr
    refine lv_aload_n hx hb d_H_wants_13 rfl (lv_at hl 1 rfl) ?_
    refine lv_iload hx hb d_H_wants_14 (lv_at hl 0 rfl) ?_
    obtain ⟨q_6, hc_6, hr⟩ := ob hr
    have ct_6 := C_H_refused l D cI cS a_r0 a_r0_refusals (Value.ref a_r0_now) v_r0_kept v_r0_trial v_r0_hasKept (Value.ref a_r0_steps) v_r0_letters v_r0_numbers v_r0_harvest v_r0_fraction r0_refusals q_1 q_6 hc_6
    refine k_goI hA hW [0, 5] rfl ct_6.1 (ws' := (w_H_wants cI cS a_r0 a_r0_now a_r0_now_fields a_r0_now_fields_lefts a_r0_now_fields_wishes a_r0_refusals a_r0_steps a_r0_steps_steps s_r0_steps_steps v_r0_kept v_r0_trial v_r0_hasKept v_r0_letters v_r0_numbers v_r0_harvest v_r0_fraction v_r0_now_weights v_r0_now_kinds v_r0_now_figures v_r0_now_goes v_r0_now_things v_r0_now_hampers v_r0_now_days r0_now_done r0_now_fields_lefts r0_now_fields_wishes q_6.2 r0_steps_count r0_steps_steps r0_steps_steps_before r0_steps_steps_doneBefore r0_steps_steps_leftBefore r0_steps_steps_part r0_steps_steps_place)) rfl (k_runV C hA hW mw_H_refused mv_H_refused (ct_6.2 _) [0, 5] rfl rfl 0 rfl rfl qm_H_65 ⟨Nat.le_of_ble_eq_true rfl, Nat.le_of_ble_eq_true rfl, Nat.zero_le _, Nat.zero_le _⟩ rfl rfl (Nat.le_of_ble_eq_true rfl) hl.1 d_H_wants_16) (fun H locs hW => ?_)
    obtain rfl := Option.some.inj hr
    rw [hQ]; exact k_iret C hret hW d_H_wants_19
def w_H_weighs (cI cS : ClassId) (a_r0 : Nat) (a_r0_now : Nat) (a_r0_now_weights : Nat) (a_r0_refusals : Nat) (a_r0_steps : Nat) (a_r0_steps_steps : Nat) (s_r0_steps_steps : Nat → Nat) (v_r0_kept v_r0_trial v_r0_hasKept v_r0_letters v_r0_numbers v_r0_harvest v_r0_fraction v_r0_now_kinds v_r0_now_figures v_r0_now_goes v_r0_now_things v_r0_now_hampers v_r0_now_days v_r0_now_fields : Value) (r0_now_done : Int32) (r0_now_weights : Nat → Int32) (r0_refusals : Nat → Int32) (r0_steps_count : Int32) (r0_steps_steps : Nat → Nat) (r0_steps_steps_before : Nat → Int32) (r0_steps_steps_doneBefore : Nat → Int32) (r0_steps_steps_leftBefore : Nat → Int32) (r0_steps_steps_part : Nat → Int32) (r0_steps_steps_place : Nat → Int32) : va_W := [(a_r0, .inr (0, [.ref a_r0_now, v_r0_kept, v_r0_trial, v_r0_hasKept, .ref a_r0_steps, v_r0_letters, v_r0_numbers, v_r0_harvest, v_r0_fraction, .ref a_r0_refusals])), (a_r0_now, .inr (1, [.ref a_r0_now_weights, v_r0_now_kinds, v_r0_now_figures, v_r0_now_goes, v_r0_now_things, v_r0_now_hampers, v_r0_now_days, v_r0_now_fields, .int r0_now_done])), (a_r0_now_weights, .inl (cI, 6, .inl r0_now_weights)), (a_r0_refusals, .inl (cI, 7, .inl r0_refusals)), (a_r0_steps, .inr (3, [.ref a_r0_steps_steps, .int r0_steps_count])), (a_r0_steps_steps, .inl (cS, 8, .inr (.inr (.inr (.inr (fun i => some (s_r0_steps_steps (r0_steps_steps i)))))))), (s_r0_steps_steps 0, .inr (4, [.int (r0_steps_steps_part 0), .int (r0_steps_steps_place 0), .int (r0_steps_steps_before 0), .int (r0_steps_steps_leftBefore 0), .int (r0_steps_steps_doneBefore 0)])), (s_r0_steps_steps 1, .inr (4, [.int (r0_steps_steps_part 1), .int (r0_steps_steps_place 1), .int (r0_steps_steps_before 1), .int (r0_steps_steps_leftBefore 1), .int (r0_steps_steps_doneBefore 1)])), (s_r0_steps_steps 2, .inr (4, [.int (r0_steps_steps_part 2), .int (r0_steps_steps_place 2), .int (r0_steps_steps_before 2), .int (r0_steps_steps_leftBefore 2), .int (r0_steps_steps_doneBefore 2)])), (s_r0_steps_steps 3, .inr (4, [.int (r0_steps_steps_part 3), .int (r0_steps_steps_place 3), .int (r0_steps_steps_before 3), .int (r0_steps_steps_leftBefore 3), .int (r0_steps_steps_doneBefore 3)])), (s_r0_steps_steps 4, .inr (4, [.int (r0_steps_steps_part 4), .int (r0_steps_steps_place 4), .int (r0_steps_steps_before 4), .int (r0_steps_steps_leftBefore 4), .int (r0_steps_steps_doneBefore 4)])), (s_r0_steps_steps 5, .inr (4, [.int (r0_steps_steps_part 5), .int (r0_steps_steps_place 5), .int (r0_steps_steps_before 5), .int (r0_steps_steps_leftBefore 5), .int (r0_steps_steps_doneBefore 5)])), (s_r0_steps_steps 6, .inr (4, [.int (r0_steps_steps_part 6), .int (r0_steps_steps_place 6), .int (r0_steps_steps_before 6), .int (r0_steps_steps_leftBefore 6), .int (r0_steps_steps_doneBefore 6)])), (s_r0_steps_steps 7, .inr (4, [.int (r0_steps_steps_part 7), .int (r0_steps_steps_place 7), .int (r0_steps_steps_before 7), .int (r0_steps_steps_leftBefore 7), .int (r0_steps_steps_doneBefore 7)]))]
def F_H_weighs (r0_now_done : Int32) (r0_now_weights : Nat → Int32) (r0_refusals : Nat → Int32) (r0_steps_count : Int32) (r0_steps_steps : Nat → Nat) (r0_steps_steps_before : Nat → Int32) (r0_steps_steps_doneBefore : Nat → Int32) (r0_steps_steps_part : Nat → Int32) (r0_steps_steps_place : Nat → Int32) (x1 : Int32) (x2 : Int32) : Option (Int32 × (Nat → Int32) × (Nat → Int32) × (Int32) × (Nat → Nat) × (Nat → Int32) × (Nat → Int32) × (Nat → Int32) × (Nat → Int32)) :=
  ((F_Sta_weightRefusal x1 x2).bind (fun q_1 => (if q_1 = 0 then ((F_Sta_weightOf r0_now_weights x1).bind (fun q_3 => ((F_Sps_noteWeight r0_steps_count r0_steps_steps r0_steps_steps_before r0_steps_steps_doneBefore r0_steps_steps_part r0_steps_steps_place r0_now_done r0_now_weights x1).bind (fun q_4 => ((F_Sta_reweigh r0_now_weights x1 x2).bind (fun q_5 => (some (q_3, q_5, r0_refusals, q_4.1, q_4.2.1, q_4.2.2.1, q_4.2.2.2.1, q_4.2.2.2.2.1, q_4.2.2.2.2.2)))))))) else ((F_H_refused r0_refusals q_1).bind (fun q_6 => (some (q_6.1, r0_now_weights, q_6.2, r0_steps_count, r0_steps_steps, r0_steps_steps_before, r0_steps_steps_doneBefore, r0_steps_steps_part, r0_steps_steps_place)))))))
set_option maxHeartbeats 4000000 in
set_option maxRecDepth 100000 in
theorem C_H_weighs (l : Launch) (D : va_G) (cI cS : ClassId) (a_r0 : Nat) (a_r0_now : Nat) (a_r0_now_weights : Nat) (a_r0_refusals : Nat) (a_r0_steps : Nat) (a_r0_steps_steps : Nat) (s_r0_steps_steps : Nat → Nat) (v_r0_kept v_r0_trial v_r0_hasKept v_r0_letters v_r0_numbers v_r0_harvest v_r0_fraction v_r0_now_kinds v_r0_now_figures v_r0_now_goes v_r0_now_things v_r0_now_hampers v_r0_now_days v_r0_now_fields : Value) (r0_now_done : Int32) (r0_now_weights : Nat → Int32) (r0_refusals : Nat → Int32) (r0_steps_count : Int32) (r0_steps_steps : Nat → Nat) (r0_steps_steps_before : Nat → Int32) (r0_steps_steps_doneBefore : Nat → Int32) (r0_steps_steps_leftBefore : Nat → Int32) (r0_steps_steps_part : Nat → Int32) (r0_steps_steps_place : Nat → Int32) (x1 : Int32) (x2 : Int32) (o : Int32 × (Nat → Int32) × (Nat → Int32) × (Int32) × (Nat → Nat) × (Nat → Int32) × (Nat → Int32) × (Nat → Int32) × (Nat → Int32)) (hr : F_H_weighs r0_now_done r0_now_weights r0_refusals r0_steps_count r0_steps_steps r0_steps_steps_before r0_steps_steps_doneBefore r0_steps_steps_part r0_steps_steps_place x1 x2 = some o) : ctI l y_H_weighs (Cond.code y_H_weighs b_H_weighs 5 (some FieldType.int)) (rmd 3) D (kTy cI cS) [.ref a_r0, .int x1, .int x2] (w_H_weighs cI cS a_r0 a_r0_now a_r0_now_weights a_r0_refusals a_r0_steps a_r0_steps_steps s_r0_steps_steps v_r0_kept v_r0_trial v_r0_hasKept v_r0_letters v_r0_numbers v_r0_harvest v_r0_fraction v_r0_now_kinds v_r0_now_figures v_r0_now_goes v_r0_now_things v_r0_now_hampers v_r0_now_days v_r0_now_fields r0_now_done r0_now_weights r0_refusals r0_steps_count r0_steps_steps r0_steps_steps_before r0_steps_steps_doneBefore r0_steps_steps_leftBefore r0_steps_steps_part r0_steps_steps_place) (w_H_weighs cI cS a_r0 a_r0_now a_r0_now_weights a_r0_refusals a_r0_steps a_r0_steps_steps s_r0_steps_steps v_r0_kept v_r0_trial v_r0_hasKept v_r0_letters v_r0_numbers v_r0_harvest v_r0_fraction v_r0_now_kinds v_r0_now_figures v_r0_now_goes v_r0_now_things v_r0_now_hampers v_r0_now_days v_r0_now_fields r0_now_done o.2.1 o.2.2.1 o.2.2.2.1 o.2.2.2.2.1 o.2.2.2.2.2.1 o.2.2.2.2.2.2.1 r0_steps_steps_leftBefore o.2.2.2.2.2.2.2.1 o.2.2.2.2.2.2.2.2) o.1 := by
  unfold F_H_weighs at hr
  refine ⟨rfl, fun sz => ct_of (w0 := (w_H_weighs cI cS a_r0 a_r0_now a_r0_now_weights a_r0_refusals a_r0_steps a_r0_steps_steps s_r0_steps_steps v_r0_kept v_r0_trial v_r0_hasKept v_r0_letters v_r0_numbers v_r0_harvest v_r0_fraction v_r0_now_kinds v_r0_now_figures v_r0_now_goes v_r0_now_things v_r0_now_hampers v_r0_now_days v_r0_now_fields r0_now_done r0_now_weights r0_refusals r0_steps_count r0_steps_steps r0_steps_steps_before r0_steps_steps_doneBefore r0_steps_steps_leftBefore r0_steps_steps_part r0_steps_steps_place)) (Qc := fun A => qI D (w_H_weighs cI cS a_r0 a_r0_now a_r0_now_weights a_r0_refusals a_r0_steps a_r0_steps_steps s_r0_steps_steps v_r0_kept v_r0_trial v_r0_hasKept v_r0_letters v_r0_numbers v_r0_harvest v_r0_fraction v_r0_now_kinds v_r0_now_figures v_r0_now_goes v_r0_now_things v_r0_now_hampers v_r0_now_days v_r0_now_fields r0_now_done o.2.1 o.2.2.1 o.2.2.2.1 o.2.2.2.2.1 o.2.2.2.2.2.1 o.2.2.2.2.2.2.1 r0_steps_steps_leftBefore o.2.2.2.2.2.2.2.1 o.2.2.2.2.2.2.2.2) o.1 A) rfl (Nat.le_of_ble_eq_true rfl) ?_ sz⟩
  intro p e s m below meth c A hA C hret ls hl hW
  have C : cx p s m ([.ref a_r0, .int x1, .int x2] : List Value).toArray meth c b_H_weighs 5 R_H D (kTy cI cS) (Cond.code y_H_weighs b_H_weighs 5 (some FieldType.int)) := C
  obtain ⟨hx, hb, hml, hown, hts, hK, hlk, hN⟩ := id C
  have hl : lv_has ls 5 [(0, .ref a_r0), (1, .int x1), (2, .int x2)] := hl
  obtain ⟨Q, hQ⟩ : ∃ Q, Q = MQ below (qI D (w_H_weighs cI cS a_r0 a_r0_now a_r0_now_weights a_r0_refusals a_r0_steps a_r0_steps_steps s_r0_steps_steps v_r0_kept v_r0_trial v_r0_hasKept v_r0_letters v_r0_numbers v_r0_harvest v_r0_fraction v_r0_now_kinds v_r0_now_figures v_r0_now_goes v_r0_now_things v_r0_now_hampers v_r0_now_days v_r0_now_fields r0_now_done o.2.1 o.2.2.1 o.2.2.2.1 o.2.2.2.2.1 o.2.2.2.2.2.1 o.2.2.2.2.2.2.1 r0_steps_steps_leftBefore o.2.2.2.2.2.2.2.1 o.2.2.2.2.2.2.2.2) o.1 A) ([.ref a_r0, .int x1, .int x2] : List Value).toArray s 0 0 A := ⟨_, rfl⟩
  rw [← hQ]
  refine lv_iload_n hx hb d_H_weighs_0 rfl (lv_at hl 1 rfl) ?_
  refine lv_iload_n hx hb d_H_weighs_1 rfl (lv_at hl 2 rfl) ?_
  obtain ⟨q_1, hc_1, hr⟩ := ob hr
  have ct_1 := C_Sta_weightRefusal l D cI cS x1 x2 q_1 hc_1
  refine k_goIp hA hW [] rfl rfl (k_runS C hA hW mw_Sta_weightRefusal ms_Sta_weightRefusal (ct_1.2 _) [] rfl rfl qm_H_158 ⟨Nat.le_of_ble_eq_true rfl, Nat.le_of_ble_eq_true rfl, Nat.zero_le _, Nat.zero_le _⟩ rfl rfl (Nat.le_of_ble_eq_true rfl) hl.1 d_H_weighs_2) (fun H locs hW => ?_)
  refine lv_istore_n (lv' := [(3, .int q_1), (0, .ref a_r0), (1, .int x1), (2, .int x2)]) hx hb d_H_weighs_5 rfl hl (by decide) rfl (fun ls hl => ?_)
  refine lv_iload_n hx hb d_H_weighs_6 rfl (lv_at hl 0 rfl) ?_
  refine lv_if_eq (tgt := 16) hx hb d_H_weighs_7 (by decide) (fun c_2 => ?_) (fun c_2 => ?_)
  · replace hr := ip c_2 hr
    refine lv_aload_n hx hb d_H_weighs_16 rfl (lv_at hl 1 rfl) ?_
    refine k_get i_H C hW 0 rfl rfl 0 (by decide) qf_H_10 rfl rfl d_H_weighs_17 ?_
    refine lv_iload_n hx hb d_H_weighs_20 rfl (lv_at hl 2 rfl) ?_
    obtain ⟨q_3, hc_3, hr⟩ := ob hr
    have ct_3 := C_Sta_weightOf l D cI cS a_r0_now a_r0_now_weights v_r0_now_kinds v_r0_now_figures v_r0_now_goes v_r0_now_things v_r0_now_hampers v_r0_now_days v_r0_now_fields (Value.int r0_now_done) r0_now_weights x1 q_3 hc_3
    refine k_goIp hA hW [1, 2] rfl rfl (k_runV C hA hW mw_Sta_weightOf mv_Sta_weightOf (ct_3.2 _) [1, 2] rfl rfl 1 rfl rfl qm_H_161 ⟨Nat.le_of_ble_eq_true rfl, Nat.le_of_ble_eq_true rfl, Nat.zero_le _, Nat.zero_le _⟩ rfl rfl (Nat.le_of_ble_eq_true rfl) hl.1 d_H_weighs_21) (fun H locs hW => ?_)
    refine lv_istore (lv' := [(4, .int q_3), (3, .int q_1), (0, .ref a_r0), (1, .int x1), (2, .int x2)]) hx hb d_H_weighs_24 hl (by decide) rfl (fun ls hl => ?_)
    refine lv_aload_n hx hb d_H_weighs_26 rfl (lv_at hl 2 rfl) ?_
    refine k_get i_H C hW 0 rfl rfl 4 (by decide) qf_H_29 rfl rfl d_H_weighs_27 ?_
    refine lv_aload_n hx hb d_H_weighs_30 rfl (lv_at hl 2 rfl) ?_
    refine k_get i_H C hW 0 rfl rfl 0 (by decide) qf_H_10 rfl rfl d_H_weighs_31 ?_
    refine lv_iload_n hx hb d_H_weighs_34 rfl (lv_at hl 3 rfl) ?_
    obtain ⟨q_4, hc_4, hr⟩ := ob hr
    have ct_4 := C_Sps_noteWeight l D cI cS a_r0_steps a_r0_steps_steps s_r0_steps_steps a_r0_now a_r0_now_weights v_r0_now_kinds v_r0_now_figures v_r0_now_goes v_r0_now_things v_r0_now_hampers v_r0_now_days v_r0_now_fields r0_steps_count r0_steps_steps r0_steps_steps_before r0_steps_steps_doneBefore r0_steps_steps_leftBefore r0_steps_steps_part r0_steps_steps_place r0_now_done r0_now_weights x1 q_4 hc_4
    refine k_goV hA hW [4, 5, 6, 7, 8, 9, 10, 11, 12, 13, 1, 2] rfl ct_4.1 (ws' := (w_H_weighs cI cS a_r0 a_r0_now a_r0_now_weights a_r0_refusals a_r0_steps a_r0_steps_steps s_r0_steps_steps v_r0_kept v_r0_trial v_r0_hasKept v_r0_letters v_r0_numbers v_r0_harvest v_r0_fraction v_r0_now_kinds v_r0_now_figures v_r0_now_goes v_r0_now_things v_r0_now_hampers v_r0_now_days v_r0_now_fields r0_now_done r0_now_weights r0_refusals q_4.1 q_4.2.1 q_4.2.2.1 q_4.2.2.2.1 r0_steps_steps_leftBefore q_4.2.2.2.2.1 q_4.2.2.2.2.2)) rfl (k_runV C hA hW mw_Sps_noteWeight mv_Sps_noteWeight (ct_4.2 _) [4, 5, 6, 7, 8, 9, 10, 11, 12, 13, 1, 2] rfl rfl 4 rfl rfl qm_H_164 ⟨Nat.le_of_ble_eq_true rfl, Nat.le_of_ble_eq_true rfl, Nat.zero_le _, Nat.zero_le _⟩ rfl rfl (Nat.le_of_ble_eq_true rfl) hl.1 d_H_weighs_35) (fun H locs hW => ?_)
    refine lv_aload_n hx hb d_H_weighs_38 rfl (lv_at hl 2 rfl) ?_
    refine k_get i_H C hW 0 rfl rfl 0 (by decide) qf_H_10 rfl rfl d_H_weighs_39 ?_
    refine lv_iload_n hx hb d_H_weighs_42 rfl (lv_at hl 3 rfl) ?_
    refine lv_iload_n hx hb d_H_weighs_43 rfl (lv_at hl 4 rfl) ?_
    obtain ⟨q_5, hc_5, hr⟩ := ob hr
    have ct_5 := C_Sta_reweigh l D cI cS a_r0_now a_r0_now_weights v_r0_now_kinds v_r0_now_figures v_r0_now_goes v_r0_now_things v_r0_now_hampers v_r0_now_days v_r0_now_fields (Value.int r0_now_done) r0_now_weights x1 x2 q_5 hc_5
    refine k_goV hA hW [1, 2] rfl ct_5.1 (ws' := (w_H_weighs cI cS a_r0 a_r0_now a_r0_now_weights a_r0_refusals a_r0_steps a_r0_steps_steps s_r0_steps_steps v_r0_kept v_r0_trial v_r0_hasKept v_r0_letters v_r0_numbers v_r0_harvest v_r0_fraction v_r0_now_kinds v_r0_now_figures v_r0_now_goes v_r0_now_things v_r0_now_hampers v_r0_now_days v_r0_now_fields r0_now_done q_5 r0_refusals q_4.1 q_4.2.1 q_4.2.2.1 q_4.2.2.2.1 r0_steps_steps_leftBefore q_4.2.2.2.2.1 q_4.2.2.2.2.2)) rfl (k_runV C hA hW mw_Sta_reweigh mv_Sta_reweigh (ct_5.2 _) [1, 2] rfl rfl 1 rfl rfl qm_H_168 ⟨Nat.le_of_ble_eq_true rfl, Nat.le_of_ble_eq_true rfl, Nat.zero_le _, Nat.zero_le _⟩ rfl rfl (Nat.le_of_ble_eq_true rfl) hl.1 d_H_weighs_44) (fun H locs hW => ?_)
    refine lv_iload hx hb d_H_weighs_47 (lv_at hl 0 rfl) ?_
    obtain rfl := Option.some.inj hr
    rw [hQ]; exact k_iret C hret hW d_H_weighs_49
  · replace hr := iN c_2 hr
    refine lv_aload_n hx hb d_H_weighs_10 rfl (lv_at hl 1 rfl) ?_
    refine lv_iload_n hx hb d_H_weighs_11 rfl (lv_at hl 0 rfl) ?_
    obtain ⟨q_6, hc_6, hr⟩ := ob hr
    have ct_6 := C_H_refused l D cI cS a_r0 a_r0_refusals (Value.ref a_r0_now) v_r0_kept v_r0_trial v_r0_hasKept (Value.ref a_r0_steps) v_r0_letters v_r0_numbers v_r0_harvest v_r0_fraction r0_refusals q_1 q_6 hc_6
    refine k_goI hA hW [0, 3] rfl ct_6.1 (ws' := (w_H_weighs cI cS a_r0 a_r0_now a_r0_now_weights a_r0_refusals a_r0_steps a_r0_steps_steps s_r0_steps_steps v_r0_kept v_r0_trial v_r0_hasKept v_r0_letters v_r0_numbers v_r0_harvest v_r0_fraction v_r0_now_kinds v_r0_now_figures v_r0_now_goes v_r0_now_things v_r0_now_hampers v_r0_now_days v_r0_now_fields r0_now_done r0_now_weights q_6.2 r0_steps_count r0_steps_steps r0_steps_steps_before r0_steps_steps_doneBefore r0_steps_steps_leftBefore r0_steps_steps_part r0_steps_steps_place)) rfl (k_runV C hA hW mw_H_refused mv_H_refused (ct_6.2 _) [0, 3] rfl rfl 0 rfl rfl qm_H_65 ⟨Nat.le_of_ble_eq_true rfl, Nat.le_of_ble_eq_true rfl, Nat.zero_le _, Nat.zero_le _⟩ rfl rfl (Nat.le_of_ble_eq_true rfl) hl.1 d_H_weighs_12) (fun H locs hW => ?_)
    obtain rfl := Option.some.inj hr
    rw [hQ]; exact k_iret C hret hW d_H_weighs_15
def w_H_weight (cI : ClassId) (a_r0 : Nat) (a_r0_now : Nat) (a_r0_now_weights : Nat) (a_r0_refusals : Nat) (v_r0_kept v_r0_trial v_r0_hasKept v_r0_steps v_r0_letters v_r0_numbers v_r0_harvest v_r0_fraction v_r0_now_kinds v_r0_now_figures v_r0_now_goes v_r0_now_things v_r0_now_hampers v_r0_now_days v_r0_now_fields v_r0_now_done : Value) (r0_now_weights : Nat → Int32) (r0_refusals : Nat → Int32) : va_W := [(a_r0, .inr (0, [.ref a_r0_now, v_r0_kept, v_r0_trial, v_r0_hasKept, v_r0_steps, v_r0_letters, v_r0_numbers, v_r0_harvest, v_r0_fraction, .ref a_r0_refusals])), (a_r0_now, .inr (1, [.ref a_r0_now_weights, v_r0_now_kinds, v_r0_now_figures, v_r0_now_goes, v_r0_now_things, v_r0_now_hampers, v_r0_now_days, v_r0_now_fields, v_r0_now_done])), (a_r0_now_weights, .inl (cI, 6, .inl r0_now_weights)), (a_r0_refusals, .inl (cI, 7, .inl r0_refusals))]
def F_H_weight (r0_now_weights : Nat → Int32) (r0_refusals : Nat → Int32) (x1 : Int32) : Option (Int32 × (Nat → Int32)) :=
  ((F_H_isWeather x1).bind (fun q_1 => (if q_1 = 0 then ((F_H_refused r0_refusals ((-1) : Int32)).bind (fun q_4 => (some (q_4.1, q_4.2)))) else (ck x1 6 (some ((r0_now_weights (Int32.toNatClampNeg x1)), r0_refusals))))))
set_option maxHeartbeats 4000000 in
set_option maxRecDepth 100000 in
theorem C_H_weight (l : Launch) (D : va_G) (cI cS : ClassId) (a_r0 : Nat) (a_r0_now : Nat) (a_r0_now_weights : Nat) (a_r0_refusals : Nat) (v_r0_kept v_r0_trial v_r0_hasKept v_r0_steps v_r0_letters v_r0_numbers v_r0_harvest v_r0_fraction v_r0_now_kinds v_r0_now_figures v_r0_now_goes v_r0_now_things v_r0_now_hampers v_r0_now_days v_r0_now_fields v_r0_now_done : Value) (r0_now_weights : Nat → Int32) (r0_refusals : Nat → Int32) (x1 : Int32) (o : Int32 × (Nat → Int32)) (hr : F_H_weight r0_now_weights r0_refusals x1 = some o) : ctI l y_H_weight (Cond.code y_H_weight b_H_weight 2 (some FieldType.int)) (rmd 1) D (kTy cI cS) [.ref a_r0, .int x1] (w_H_weight cI a_r0 a_r0_now a_r0_now_weights a_r0_refusals v_r0_kept v_r0_trial v_r0_hasKept v_r0_steps v_r0_letters v_r0_numbers v_r0_harvest v_r0_fraction v_r0_now_kinds v_r0_now_figures v_r0_now_goes v_r0_now_things v_r0_now_hampers v_r0_now_days v_r0_now_fields v_r0_now_done r0_now_weights r0_refusals) (w_H_weight cI a_r0 a_r0_now a_r0_now_weights a_r0_refusals v_r0_kept v_r0_trial v_r0_hasKept v_r0_steps v_r0_letters v_r0_numbers v_r0_harvest v_r0_fraction v_r0_now_kinds v_r0_now_figures v_r0_now_goes v_r0_now_things v_r0_now_hampers v_r0_now_days v_r0_now_fields v_r0_now_done r0_now_weights o.2) o.1 := by
  unfold F_H_weight at hr
  refine ⟨rfl, fun sz => ct_of (w0 := (w_H_weight cI a_r0 a_r0_now a_r0_now_weights a_r0_refusals v_r0_kept v_r0_trial v_r0_hasKept v_r0_steps v_r0_letters v_r0_numbers v_r0_harvest v_r0_fraction v_r0_now_kinds v_r0_now_figures v_r0_now_goes v_r0_now_things v_r0_now_hampers v_r0_now_days v_r0_now_fields v_r0_now_done r0_now_weights r0_refusals)) (Qc := fun A => qI D (w_H_weight cI a_r0 a_r0_now a_r0_now_weights a_r0_refusals v_r0_kept v_r0_trial v_r0_hasKept v_r0_steps v_r0_letters v_r0_numbers v_r0_harvest v_r0_fraction v_r0_now_kinds v_r0_now_figures v_r0_now_goes v_r0_now_things v_r0_now_hampers v_r0_now_days v_r0_now_fields v_r0_now_done r0_now_weights o.2) o.1 A) rfl (Nat.le_of_ble_eq_true rfl) ?_ sz⟩
  intro p e s m below meth c A hA C hret ls hl hW
  have C : cx p s m ([.ref a_r0, .int x1] : List Value).toArray meth c b_H_weight 2 R_H D (kTy cI cS) (Cond.code y_H_weight b_H_weight 2 (some FieldType.int)) := C
  obtain ⟨hx, hb, hml, hown, hts, hK, hlk, hN⟩ := id C
  have hl : lv_has ls 2 [(0, .ref a_r0), (1, .int x1)] := hl
  obtain ⟨Q, hQ⟩ : ∃ Q, Q = MQ below (qI D (w_H_weight cI a_r0 a_r0_now a_r0_now_weights a_r0_refusals v_r0_kept v_r0_trial v_r0_hasKept v_r0_steps v_r0_letters v_r0_numbers v_r0_harvest v_r0_fraction v_r0_now_kinds v_r0_now_figures v_r0_now_goes v_r0_now_things v_r0_now_hampers v_r0_now_days v_r0_now_fields v_r0_now_done r0_now_weights o.2) o.1 A) ([.ref a_r0, .int x1] : List Value).toArray s 0 0 A := ⟨_, rfl⟩
  rw [← hQ]
  refine lv_iload_n hx hb d_H_weight_0 rfl (lv_at hl 1 rfl) ?_
  obtain ⟨q_1, hc_1, hr⟩ := ob hr
  have ct_1 := C_H_isWeather l D cI cS x1 q_1 hc_1
  refine k_goIp hA hW [] rfl rfl (k_runS C hA hW mw_H_isWeather ms_H_isWeather (ct_1.2 _) [] rfl rfl qm_H_140 ⟨Nat.le_of_ble_eq_true rfl, Nat.le_of_ble_eq_true rfl, Nat.zero_le _, Nat.zero_le _⟩ rfl rfl (Nat.le_of_ble_eq_true rfl) hl.1 d_H_weight_1) (fun H locs hW => ?_)
  refine lv_if_ne (tgt := 13) hx hb d_H_weight_4 (by decide) (fun c_2 => ?_) (fun c_2 => ?_)
  · replace hr := iN c_2 hr
    refine lv_aload_n hx hb d_H_weight_13 rfl (lv_at hl 0 rfl) ?_
    refine k_get i_H C hW 0 rfl rfl 0 (by decide) qf_H_10 rfl rfl d_H_weight_14 ?_
    refine k_getN i_Sta C hW 1 rfl rfl 0 (by decide) qf_H_143 rfl rfl d_H_weight_17 ?_
    refine lv_iload_n hx hb d_H_weight_20 rfl (lv_at hl 1 rfl) ?_
    obtain ⟨h_3, hr⟩ := ck_some hr
    refine k_iald C hW 2 rfl h_3 d_H_weight_21 ?_
    obtain rfl := Option.some.inj hr
    rw [hQ]; exact k_iret C hret hW d_H_weight_22
  · replace hr := ip c_2 hr
    refine lv_aload_n hx hb d_H_weight_7 rfl (lv_at hl 0 rfl) ?_
    refine lv_iconst (v := (-1)) hx hb d_H_weight_8 (by decide) ?_
    obtain ⟨q_4, hc_4, hr⟩ := ob hr
    have ct_4 := C_H_refused l D cI cS a_r0 a_r0_refusals (Value.ref a_r0_now) v_r0_kept v_r0_trial v_r0_hasKept v_r0_steps v_r0_letters v_r0_numbers v_r0_harvest v_r0_fraction r0_refusals (-1) q_4 hc_4
    refine k_goI hA hW [0, 3] rfl ct_4.1 (ws' := (w_H_weight cI a_r0 a_r0_now a_r0_now_weights a_r0_refusals v_r0_kept v_r0_trial v_r0_hasKept v_r0_steps v_r0_letters v_r0_numbers v_r0_harvest v_r0_fraction v_r0_now_kinds v_r0_now_figures v_r0_now_goes v_r0_now_things v_r0_now_hampers v_r0_now_days v_r0_now_fields v_r0_now_done r0_now_weights q_4.2)) rfl (k_runV C hA hW mw_H_refused mv_H_refused (ct_4.2 _) [0, 3] rfl rfl 0 rfl rfl qm_H_65 ⟨Nat.le_of_ble_eq_true rfl, Nat.le_of_ble_eq_true rfl, Nat.zero_le _, Nat.zero_le _⟩ rfl rfl (Nat.le_of_ble_eq_true rfl) hl.1 d_H_weight_9) (fun H locs hW => ?_)
    obtain rfl := Option.some.inj hr
    rw [hQ]; exact k_iret C hret hW d_H_weight_12
def w_H_whatKind (cI : ClassId) (a_r0 : Nat) (a_r0_now : Nat) (a_r0_now_figures : Nat) (a_r0_now_kinds : Nat) (a_r0_numbers : Nat) (a_r0_numbers_numbers : Nat) (a_r0_refusals : Nat) (v_r0_kept v_r0_trial v_r0_hasKept v_r0_steps v_r0_letters v_r0_harvest v_r0_fraction v_r0_now_weights v_r0_now_goes v_r0_now_hampers v_r0_now_days v_r0_now_fields v_r0_now_done : Value) (r0_now_things : Int32) (r0_now_figures : Nat → Int32) (r0_now_kinds : Nat → Int32) (r0_numbers_count : Int32) (r0_numbers_numbers : Nat → Int32) (r0_refusals : Nat → Int32) : va_W := [(a_r0, .inr (0, [.ref a_r0_now, v_r0_kept, v_r0_trial, v_r0_hasKept, v_r0_steps, v_r0_letters, .ref a_r0_numbers, v_r0_harvest, v_r0_fraction, .ref a_r0_refusals])), (a_r0_now, .inr (1, [v_r0_now_weights, .ref a_r0_now_kinds, .ref a_r0_now_figures, v_r0_now_goes, .int r0_now_things, v_r0_now_hampers, v_r0_now_days, v_r0_now_fields, v_r0_now_done])), (a_r0_now_figures, .inl (cI, 8, .inl r0_now_figures)), (a_r0_now_kinds, .inl (cI, 8, .inl r0_now_kinds)), (a_r0_numbers, .inr (6, [.ref a_r0_numbers_numbers, .int r0_numbers_count])), (a_r0_numbers_numbers, .inl (cI, 12, .inl r0_numbers_numbers)), (a_r0_refusals, .inl (cI, 7, .inl r0_refusals))]
def F_H_whatKind_J33_4 (r0_now_figures : Nat → Int32) (r0_now_kinds : Nat → Int32) (r0_numbers_count : Int32) (r0_numbers_numbers : Nat → Int32) (r0_refusals : Nat → Int32) (x1 : Int32) (x2 : Int32) : Option (Int32 × (Nat → Int32)) :=
  ((F_Num_tellOfWeathers r0_numbers_count r0_numbers_numbers).bind (fun q_5 => (if q_5 = 0 then ((F_H_refused r0_refusals ((-3) : Int32)).bind (fun q_12 => (some (q_12.1, q_12.2)))) else (if x2 = 0 then (ck x1 8 ((F_Num_kindsSo r0_numbers_count r0_numbers_numbers (r0_now_figures (Int32.toNatClampNeg x1))).bind (fun q_11 => (some (q_11, r0_refusals))))) else (ck x1 8 ((F_Num_figuresSo r0_numbers_count r0_numbers_numbers (r0_now_kinds (Int32.toNatClampNeg x1))).bind (fun q_9 => (some (q_9, r0_refusals)))))))))
def F_H_whatKind (r0_now_things : Int32) (r0_now_figures : Nat → Int32) (r0_now_kinds : Nat → Int32) (r0_numbers_count : Int32) (r0_numbers_numbers : Nat → Int32) (r0_refusals : Nat → Int32) (x1 : Int32) (x2 : Int32) : Option (Int32 × (Nat → Int32)) :=
  ((F_Sta_hasThing r0_now_things x1).bind (fun q_1 => (if q_1 = 0 then ((F_H_refused r0_refusals ((-1) : Int32)).bind (fun q_15 => (some (q_15.1, q_15.2)))) else (if x2 = 0 then (F_H_whatKind_J33_4 r0_now_figures r0_now_kinds r0_numbers_count r0_numbers_numbers r0_refusals x1 x2) else (if x2 = 1 then (F_H_whatKind_J33_4 r0_now_figures r0_now_kinds r0_numbers_count r0_numbers_numbers r0_refusals x1 x2) else ((F_H_refused r0_refusals ((-2) : Int32)).bind (fun q_14 => (some (q_14.1, q_14.2)))))))))
set_option maxHeartbeats 4000000 in
set_option maxRecDepth 100000 in
theorem C_H_whatKind (l : Launch) (D : va_G) (cI cS : ClassId) (a_r0 : Nat) (a_r0_now : Nat) (a_r0_now_figures : Nat) (a_r0_now_kinds : Nat) (a_r0_numbers : Nat) (a_r0_numbers_numbers : Nat) (a_r0_refusals : Nat) (v_r0_kept v_r0_trial v_r0_hasKept v_r0_steps v_r0_letters v_r0_harvest v_r0_fraction v_r0_now_weights v_r0_now_goes v_r0_now_hampers v_r0_now_days v_r0_now_fields v_r0_now_done : Value) (r0_now_things : Int32) (r0_now_figures : Nat → Int32) (r0_now_kinds : Nat → Int32) (r0_numbers_count : Int32) (r0_numbers_numbers : Nat → Int32) (r0_refusals : Nat → Int32) (x1 : Int32) (x2 : Int32) (o : Int32 × (Nat → Int32)) (hr : F_H_whatKind r0_now_things r0_now_figures r0_now_kinds r0_numbers_count r0_numbers_numbers r0_refusals x1 x2 = some o) : ctI l y_H_whatKind (Cond.code y_H_whatKind b_H_whatKind 3 (some FieldType.int)) (rmd 4) D (kTy cI cS) [.ref a_r0, .int x1, .int x2] (w_H_whatKind cI a_r0 a_r0_now a_r0_now_figures a_r0_now_kinds a_r0_numbers a_r0_numbers_numbers a_r0_refusals v_r0_kept v_r0_trial v_r0_hasKept v_r0_steps v_r0_letters v_r0_harvest v_r0_fraction v_r0_now_weights v_r0_now_goes v_r0_now_hampers v_r0_now_days v_r0_now_fields v_r0_now_done r0_now_things r0_now_figures r0_now_kinds r0_numbers_count r0_numbers_numbers r0_refusals) (w_H_whatKind cI a_r0 a_r0_now a_r0_now_figures a_r0_now_kinds a_r0_numbers a_r0_numbers_numbers a_r0_refusals v_r0_kept v_r0_trial v_r0_hasKept v_r0_steps v_r0_letters v_r0_harvest v_r0_fraction v_r0_now_weights v_r0_now_goes v_r0_now_hampers v_r0_now_days v_r0_now_fields v_r0_now_done r0_now_things r0_now_figures r0_now_kinds r0_numbers_count r0_numbers_numbers o.2) o.1 := by
  unfold F_H_whatKind at hr
  refine ⟨rfl, fun sz => ct_of (w0 := (w_H_whatKind cI a_r0 a_r0_now a_r0_now_figures a_r0_now_kinds a_r0_numbers a_r0_numbers_numbers a_r0_refusals v_r0_kept v_r0_trial v_r0_hasKept v_r0_steps v_r0_letters v_r0_harvest v_r0_fraction v_r0_now_weights v_r0_now_goes v_r0_now_hampers v_r0_now_days v_r0_now_fields v_r0_now_done r0_now_things r0_now_figures r0_now_kinds r0_numbers_count r0_numbers_numbers r0_refusals)) (Qc := fun A => qI D (w_H_whatKind cI a_r0 a_r0_now a_r0_now_figures a_r0_now_kinds a_r0_numbers a_r0_numbers_numbers a_r0_refusals v_r0_kept v_r0_trial v_r0_hasKept v_r0_steps v_r0_letters v_r0_harvest v_r0_fraction v_r0_now_weights v_r0_now_goes v_r0_now_hampers v_r0_now_days v_r0_now_fields v_r0_now_done r0_now_things r0_now_figures r0_now_kinds r0_numbers_count r0_numbers_numbers o.2) o.1 A) rfl (Nat.le_of_ble_eq_true rfl) ?_ sz⟩
  intro p e s m below meth c A hA C hret ls hl hW
  have C : cx p s m ([.ref a_r0, .int x1, .int x2] : List Value).toArray meth c b_H_whatKind 3 R_H D (kTy cI cS) (Cond.code y_H_whatKind b_H_whatKind 3 (some FieldType.int)) := C
  obtain ⟨hx, hb, hml, hown, hts, hK, hlk, hN⟩ := id C
  have hl : lv_has ls 3 [(0, .ref a_r0), (1, .int x1), (2, .int x2)] := hl
  obtain ⟨Q, hQ⟩ : ∃ Q, Q = MQ below (qI D (w_H_whatKind cI a_r0 a_r0_now a_r0_now_figures a_r0_now_kinds a_r0_numbers a_r0_numbers_numbers a_r0_refusals v_r0_kept v_r0_trial v_r0_hasKept v_r0_steps v_r0_letters v_r0_harvest v_r0_fraction v_r0_now_weights v_r0_now_goes v_r0_now_hampers v_r0_now_days v_r0_now_fields v_r0_now_done r0_now_things r0_now_figures r0_now_kinds r0_numbers_count r0_numbers_numbers o.2) o.1 A) ([.ref a_r0, .int x1, .int x2] : List Value).toArray s 0 0 A := ⟨_, rfl⟩
  rw [← hQ]
  refine lv_aload_n hx hb d_H_whatKind_0 rfl (lv_at hl 0 rfl) ?_
  refine k_get i_H C hW 0 rfl rfl 0 (by decide) qf_H_10 rfl rfl d_H_whatKind_1 ?_
  refine lv_iload_n hx hb d_H_whatKind_4 rfl (lv_at hl 1 rfl) ?_
  obtain ⟨q_1, hc_1, hr⟩ := ob hr
  have ct_1 := C_Sta_hasThing l D cI cS a_r0_now v_r0_now_weights (Value.ref a_r0_now_kinds) (Value.ref a_r0_now_figures) v_r0_now_goes v_r0_now_hampers v_r0_now_days v_r0_now_fields v_r0_now_done r0_now_things x1 q_1 hc_1
  refine k_goIp hA hW [1] rfl rfl (k_runV C hA hW mw_Sta_hasThing mv_Sta_hasThing (ct_1.2 _) [1] rfl rfl 1 rfl rfl qm_H_85 ⟨Nat.le_of_ble_eq_true rfl, Nat.le_of_ble_eq_true rfl, Nat.zero_le _, Nat.zero_le _⟩ rfl rfl (Nat.le_of_ble_eq_true rfl) hl.1 d_H_whatKind_5) (fun H locs hW => ?_)
  refine lv_if_ne (tgt := 17) hx hb d_H_whatKind_8 (by decide) (fun c_2 => ?_) (fun c_2 => ?_)
  · replace hr := iN c_2 hr
    refine lv_iload_n hx hb d_H_whatKind_17 rfl (lv_at hl 2 rfl) ?_
    have hJ_4 : ∀ (_ : Unit), F_H_whatKind_J33_4 r0_now_figures r0_now_kinds r0_numbers_count r0_numbers_numbers r0_refusals x1 x2 = some o → ∀ (H : Heap) (locs : List Loc) (ls : Array Slot), wd A s.heap D (w_H_whatKind cI a_r0 a_r0_now a_r0_now_figures a_r0_now_kinds a_r0_numbers a_r0_numbers_numbers a_r0_refusals v_r0_kept v_r0_trial v_r0_hasKept v_r0_steps v_r0_letters v_r0_harvest v_r0_fraction v_r0_now_weights v_r0_now_goes v_r0_now_hampers v_r0_now_days v_r0_now_fields v_r0_now_done r0_now_things r0_now_figures r0_now_kinds r0_numbers_count r0_numbers_numbers r0_refusals) H locs → lv_has ls 3 [(0, .ref a_r0), (1, .int x1), (2, .int x2)] → W p l e (rmd 4) s m ([.ref a_r0, .int x1, .int x2] : List Value).toArray below meth c H locs 0 0 Q (F0 m 33 ls []) := by
      intro _ hr H locs ls hW hl
      unfold F_H_whatKind_J33_4 at hr
      refine lv_aload_n hx hb d_H_whatKind_33 rfl (lv_at hl 0 rfl) ?_
      refine k_get i_H C hW 0 rfl rfl 6 (by decide) qf_H_43 rfl rfl d_H_whatKind_34 ?_
      obtain ⟨q_5, hc_5, hr⟩ := ob hr
      have ct_5 := C_Num_tellOfWeathers l D cI cS a_r0_numbers a_r0_numbers_numbers r0_numbers_count r0_numbers_numbers q_5 hc_5
      refine k_goIp hA hW [4, 5] rfl rfl (k_runV C hA hW mw_Num_tellOfWeathers mv_Num_tellOfWeathers (ct_5.2 _) [4, 5] rfl rfl 4 rfl rfl qm_H_290 ⟨Nat.le_of_ble_eq_true rfl, Nat.le_of_ble_eq_true rfl, Nat.zero_le _, Nat.zero_le _⟩ rfl rfl (Nat.le_of_ble_eq_true rfl) hl.1 d_H_whatKind_37) (fun H locs hW => ?_)
      refine lv_if_ne (tgt := 50) hx hb d_H_whatKind_40 (by decide) (fun c_6 => ?_) (fun c_6 => ?_)
      · replace hr := iN c_6 hr
        refine lv_iload_n hx hb d_H_whatKind_50 rfl (lv_at hl 2 rfl) ?_
        refine lv_if_ne (tgt := 73) hx hb d_H_whatKind_51 (by decide) (fun c_7 => ?_) (fun c_7 => ?_)
        · replace hr := iN c_7 hr
          refine lv_aload_n hx hb d_H_whatKind_73 rfl (lv_at hl 0 rfl) ?_
          refine k_get i_H C hW 0 rfl rfl 6 (by decide) qf_H_43 rfl rfl d_H_whatKind_74 ?_
          refine lv_aload_n hx hb d_H_whatKind_77 rfl (lv_at hl 0 rfl) ?_
          refine k_get i_H C hW 0 rfl rfl 0 (by decide) qf_H_10 rfl rfl d_H_whatKind_78 ?_
          refine k_getN i_Sta C hW 1 rfl rfl 1 (by decide) qf_H_89 rfl rfl d_H_whatKind_81 ?_
          refine lv_iload_n hx hb d_H_whatKind_84 rfl (lv_at hl 1 rfl) ?_
          obtain ⟨h_8, hr⟩ := ck_some hr
          refine k_iald C hW 3 rfl h_8 d_H_whatKind_85 ?_
          obtain ⟨q_9, hc_9, hr⟩ := ob hr
          have ct_9 := C_Num_figuresSo l D cI cS a_r0_numbers a_r0_numbers_numbers r0_numbers_count r0_numbers_numbers (r0_now_kinds (Int32.toNatClampNeg x1)) q_9 hc_9
          refine k_goIp hA hW [4, 5] rfl rfl (k_runV C hA hW mw_Num_figuresSo mv_Num_figuresSo (ct_9.2 _) [4, 5] rfl rfl 4 rfl rfl qm_H_297 ⟨Nat.le_of_ble_eq_true rfl, Nat.le_of_ble_eq_true rfl, Nat.zero_le _, Nat.zero_le _⟩ rfl rfl (Nat.le_of_ble_eq_true rfl) hl.1 d_H_whatKind_86) (fun H locs hW => ?_)
          obtain rfl := Option.some.inj hr
          rw [hQ]; exact k_iret C hret hW d_H_whatKind_89
        · replace hr := ip c_7 hr
          refine lv_aload_n hx hb d_H_whatKind_54 rfl (lv_at hl 0 rfl) ?_
          refine k_get i_H C hW 0 rfl rfl 6 (by decide) qf_H_43 rfl rfl d_H_whatKind_55 ?_
          refine lv_aload_n hx hb d_H_whatKind_58 rfl (lv_at hl 0 rfl) ?_
          refine k_get i_H C hW 0 rfl rfl 0 (by decide) qf_H_10 rfl rfl d_H_whatKind_59 ?_
          refine k_getN i_Sta C hW 1 rfl rfl 2 (by decide) qf_H_92 rfl rfl d_H_whatKind_62 ?_
          refine lv_iload_n hx hb d_H_whatKind_65 rfl (lv_at hl 1 rfl) ?_
          obtain ⟨h_10, hr⟩ := ck_some hr
          refine k_iald C hW 2 rfl h_10 d_H_whatKind_66 ?_
          obtain ⟨q_11, hc_11, hr⟩ := ob hr
          have ct_11 := C_Num_kindsSo l D cI cS a_r0_numbers a_r0_numbers_numbers r0_numbers_count r0_numbers_numbers (r0_now_figures (Int32.toNatClampNeg x1)) q_11 hc_11
          refine k_goIp hA hW [4, 5] rfl rfl (k_runV C hA hW mw_Num_kindsSo mv_Num_kindsSo (ct_11.2 _) [4, 5] rfl rfl 4 rfl rfl qm_H_294 ⟨Nat.le_of_ble_eq_true rfl, Nat.le_of_ble_eq_true rfl, Nat.zero_le _, Nat.zero_le _⟩ rfl rfl (Nat.le_of_ble_eq_true rfl) hl.1 d_H_whatKind_67) (fun H locs hW => ?_)
          refine lv_goto (tgt := 89) hx hb d_H_whatKind_70 (by decide) ?_
          obtain rfl := Option.some.inj hr
          rw [hQ]; exact k_iret C hret hW d_H_whatKind_89
      · replace hr := ip c_6 hr
        refine lv_aload_n hx hb d_H_whatKind_43 rfl (lv_at hl 0 rfl) ?_
        refine lv_bipush (v := (-3)) hx hb d_H_whatKind_44 (by decide) ?_
        obtain ⟨q_12, hc_12, hr⟩ := ob hr
        have ct_12 := C_H_refused l D cI cS a_r0 a_r0_refusals (Value.ref a_r0_now) v_r0_kept v_r0_trial v_r0_hasKept v_r0_steps v_r0_letters (Value.ref a_r0_numbers) v_r0_harvest v_r0_fraction r0_refusals (-3) q_12 hc_12
        refine k_goI hA hW [0, 6] rfl ct_12.1 (ws' := (w_H_whatKind cI a_r0 a_r0_now a_r0_now_figures a_r0_now_kinds a_r0_numbers a_r0_numbers_numbers a_r0_refusals v_r0_kept v_r0_trial v_r0_hasKept v_r0_steps v_r0_letters v_r0_harvest v_r0_fraction v_r0_now_weights v_r0_now_goes v_r0_now_hampers v_r0_now_days v_r0_now_fields v_r0_now_done r0_now_things r0_now_figures r0_now_kinds r0_numbers_count r0_numbers_numbers q_12.2)) rfl (k_runV C hA hW mw_H_refused mv_H_refused (ct_12.2 _) [0, 6] rfl rfl 0 rfl rfl qm_H_65 ⟨Nat.le_of_ble_eq_true rfl, Nat.le_of_ble_eq_true rfl, Nat.zero_le _, Nat.zero_le _⟩ rfl rfl (Nat.le_of_ble_eq_true rfl) hl.1 d_H_whatKind_46) (fun H locs hW => ?_)
        obtain rfl := Option.some.inj hr
        rw [hQ]; exact k_iret C hret hW d_H_whatKind_49
    refine lv_if_eq (tgt := 33) hx hb d_H_whatKind_18 (by decide) (fun c_3 => ?_) (fun c_3 => ?_)
    · replace hr := ip c_3 hr
      exact hJ_4 () hr _ _ _ hW (lv_sub hl [0, 1, 2] rfl)
    · replace hr := iN c_3 hr
      refine lv_iload_n hx hb d_H_whatKind_21 rfl (lv_at hl 2 rfl) ?_
      refine lv_iconst (v := 1) hx hb d_H_whatKind_22 (by decide) ?_
      refine lv_icmp_eq (tgt := 33) hx hb d_H_whatKind_23 (by decide) (fun c_13 => ?_) (fun c_13 => ?_)
      · replace hr := ip c_13 hr
        exact hJ_4 () hr _ _ _ hW (lv_sub hl [0, 1, 2] rfl)
      · replace hr := iN c_13 hr
        refine lv_aload_n hx hb d_H_whatKind_26 rfl (lv_at hl 0 rfl) ?_
        refine lv_bipush (v := (-2)) hx hb d_H_whatKind_27 (by decide) ?_
        obtain ⟨q_14, hc_14, hr⟩ := ob hr
        have ct_14 := C_H_refused l D cI cS a_r0 a_r0_refusals (Value.ref a_r0_now) v_r0_kept v_r0_trial v_r0_hasKept v_r0_steps v_r0_letters (Value.ref a_r0_numbers) v_r0_harvest v_r0_fraction r0_refusals (-2) q_14 hc_14
        refine k_goI hA hW [0, 6] rfl ct_14.1 (ws' := (w_H_whatKind cI a_r0 a_r0_now a_r0_now_figures a_r0_now_kinds a_r0_numbers a_r0_numbers_numbers a_r0_refusals v_r0_kept v_r0_trial v_r0_hasKept v_r0_steps v_r0_letters v_r0_harvest v_r0_fraction v_r0_now_weights v_r0_now_goes v_r0_now_hampers v_r0_now_days v_r0_now_fields v_r0_now_done r0_now_things r0_now_figures r0_now_kinds r0_numbers_count r0_numbers_numbers q_14.2)) rfl (k_runV C hA hW mw_H_refused mv_H_refused (ct_14.2 _) [0, 6] rfl rfl 0 rfl rfl qm_H_65 ⟨Nat.le_of_ble_eq_true rfl, Nat.le_of_ble_eq_true rfl, Nat.zero_le _, Nat.zero_le _⟩ rfl rfl (Nat.le_of_ble_eq_true rfl) hl.1 d_H_whatKind_29) (fun H locs hW => ?_)
        obtain rfl := Option.some.inj hr
        rw [hQ]; exact k_iret C hret hW d_H_whatKind_32
  · replace hr := ip c_2 hr
    refine lv_aload_n hx hb d_H_whatKind_11 rfl (lv_at hl 0 rfl) ?_
    refine lv_iconst (v := (-1)) hx hb d_H_whatKind_12 (by decide) ?_
    obtain ⟨q_15, hc_15, hr⟩ := ob hr
    have ct_15 := C_H_refused l D cI cS a_r0 a_r0_refusals (Value.ref a_r0_now) v_r0_kept v_r0_trial v_r0_hasKept v_r0_steps v_r0_letters (Value.ref a_r0_numbers) v_r0_harvest v_r0_fraction r0_refusals (-1) q_15 hc_15
    refine k_goI hA hW [0, 6] rfl ct_15.1 (ws' := (w_H_whatKind cI a_r0 a_r0_now a_r0_now_figures a_r0_now_kinds a_r0_numbers a_r0_numbers_numbers a_r0_refusals v_r0_kept v_r0_trial v_r0_hasKept v_r0_steps v_r0_letters v_r0_harvest v_r0_fraction v_r0_now_weights v_r0_now_goes v_r0_now_hampers v_r0_now_days v_r0_now_fields v_r0_now_done r0_now_things r0_now_figures r0_now_kinds r0_numbers_count r0_numbers_numbers q_15.2)) rfl (k_runV C hA hW mw_H_refused mv_H_refused (ct_15.2 _) [0, 6] rfl rfl 0 rfl rfl qm_H_65 ⟨Nat.le_of_ble_eq_true rfl, Nat.le_of_ble_eq_true rfl, Nat.zero_le _, Nat.zero_le _⟩ rfl rfl (Nat.le_of_ble_eq_true rfl) hl.1 d_H_whatKind_13) (fun H locs hW => ?_)
    obtain rfl := Option.some.inj hr
    rw [hQ]; exact k_iret C hret hW d_H_whatKind_16
def w_H_worth (cI : ClassId) (a_r0 : Nat) (a_r0_fraction : Nat) (a_r0_now : Nat) (a_r0_now_goes : Nat) (a_r0_now_hampers : Nat) (a_r0_now_weights : Nat) (a_r0_refusals : Nat) (v_r0_kept v_r0_trial v_r0_hasKept v_r0_steps v_r0_letters v_r0_numbers v_r0_harvest v_r0_now_kinds v_r0_now_figures v_r0_now_things v_r0_now_fields v_r0_now_done : Value) (r0_fraction_above : Int64) (r0_fraction_below : Int64) (r0_now_days : Int32) (r0_now_goes : Nat → Int32) (r0_now_hampers : Nat → Int32) (r0_now_weights : Nat → Int32) (r0_refusals : Nat → Int32) : va_W := [(a_r0, .inr (0, [.ref a_r0_now, v_r0_kept, v_r0_trial, v_r0_hasKept, v_r0_steps, v_r0_letters, v_r0_numbers, v_r0_harvest, .ref a_r0_fraction, .ref a_r0_refusals])), (a_r0_fraction, .inr (8, [.long r0_fraction_above, .long r0_fraction_below])), (a_r0_now, .inr (1, [.ref a_r0_now_weights, v_r0_now_kinds, v_r0_now_figures, .ref a_r0_now_goes, v_r0_now_things, .ref a_r0_now_hampers, .int r0_now_days, v_r0_now_fields, v_r0_now_done])), (a_r0_now_goes, .inl (cI, 8, .inl r0_now_goes)), (a_r0_now_hampers, .inl (cI, 8, .inl r0_now_hampers)), (a_r0_now_weights, .inl (cI, 6, .inl r0_now_weights)), (a_r0_refusals, .inl (cI, 7, .inl r0_refusals))]
def F_H_worth (r0_fraction_above : Int64) (r0_fraction_below : Int64) (r0_now_days : Int32) (r0_now_goes : Nat → Int32) (r0_now_hampers : Nat → Int32) (r0_now_weights : Nat → Int32) (r0_refusals : Nat → Int32) (x1 : Int32) (x2 : Int32) : Option (Int64 × (Int64) × (Int64) × (Nat → Int32)) :=
  ((F_Sta_hasDay r0_now_days x1).bind (fun q_1 => (if q_1 = 0 then ((F_H_refusedLong r0_refusals ((-1) : Int32)).bind (fun q_14 => (some (q_14.1, r0_fraction_above, r0_fraction_below, q_14.2)))) else ((F_H_isPart x2).bind (fun q_3 => (if q_3 = 0 then ((F_H_refusedLong r0_refusals ((-2) : Int32)).bind (fun q_13 => (some (q_13.1, r0_fraction_above, r0_fraction_below, q_13.2)))) else (ck x1 8 ((F_Sta_couldBe r0_now_goes (r0_now_hampers (Int32.toNatClampNeg x1))).bind (fun q_6 => ((F_Sta_greatestOf r0_now_weights q_6).bind (fun q_7 => ((F_Sta_weightOfAll r0_now_weights q_6).bind (fun q_8 => ((F_Sta_greatestOf r0_now_weights (63 : Int32)).bind (fun q_9 => ((F_Sta_weightOfAll r0_now_weights (63 : Int32)).bind (fun q_10 => ((F_Frc_become (((Int32.toInt64 q_7) * (Int32.toInt64 q_10)) - ((Int32.toInt64 q_9) * (Int32.toInt64 q_8))) ((Int32.toInt64 q_8) * (Int32.toInt64 q_10))).bind (fun q_11 => ((F_Frc_told q_11.1 q_11.2 x2).bind (fun q_12 => (some (q_12, q_11.1, q_11.2, r0_refusals)))))))))))))))))))))))
set_option maxHeartbeats 4000000 in
set_option maxRecDepth 100000 in
theorem C_H_worth (l : Launch) (D : va_G) (cI cS : ClassId) (a_r0 : Nat) (a_r0_fraction : Nat) (a_r0_now : Nat) (a_r0_now_goes : Nat) (a_r0_now_hampers : Nat) (a_r0_now_weights : Nat) (a_r0_refusals : Nat) (v_r0_kept v_r0_trial v_r0_hasKept v_r0_steps v_r0_letters v_r0_numbers v_r0_harvest v_r0_now_kinds v_r0_now_figures v_r0_now_things v_r0_now_fields v_r0_now_done : Value) (r0_fraction_above : Int64) (r0_fraction_below : Int64) (r0_now_days : Int32) (r0_now_goes : Nat → Int32) (r0_now_hampers : Nat → Int32) (r0_now_weights : Nat → Int32) (r0_refusals : Nat → Int32) (x1 : Int32) (x2 : Int32) (o : Int64 × (Int64) × (Int64) × (Nat → Int32)) (hr : F_H_worth r0_fraction_above r0_fraction_below r0_now_days r0_now_goes r0_now_hampers r0_now_weights r0_refusals x1 x2 = some o) : ctL l y_H_worth (Cond.code y_H_worth b_H_worth 12 (some FieldType.long)) (rmd 2) D (kTy cI cS) [.ref a_r0, .int x1, .int x2] (w_H_worth cI a_r0 a_r0_fraction a_r0_now a_r0_now_goes a_r0_now_hampers a_r0_now_weights a_r0_refusals v_r0_kept v_r0_trial v_r0_hasKept v_r0_steps v_r0_letters v_r0_numbers v_r0_harvest v_r0_now_kinds v_r0_now_figures v_r0_now_things v_r0_now_fields v_r0_now_done r0_fraction_above r0_fraction_below r0_now_days r0_now_goes r0_now_hampers r0_now_weights r0_refusals) (w_H_worth cI a_r0 a_r0_fraction a_r0_now a_r0_now_goes a_r0_now_hampers a_r0_now_weights a_r0_refusals v_r0_kept v_r0_trial v_r0_hasKept v_r0_steps v_r0_letters v_r0_numbers v_r0_harvest v_r0_now_kinds v_r0_now_figures v_r0_now_things v_r0_now_fields v_r0_now_done o.2.1 o.2.2.1 r0_now_days r0_now_goes r0_now_hampers r0_now_weights o.2.2.2) o.1 := by
  unfold F_H_worth at hr
  refine ⟨rfl, fun sz => ct_of (w0 := (w_H_worth cI a_r0 a_r0_fraction a_r0_now a_r0_now_goes a_r0_now_hampers a_r0_now_weights a_r0_refusals v_r0_kept v_r0_trial v_r0_hasKept v_r0_steps v_r0_letters v_r0_numbers v_r0_harvest v_r0_now_kinds v_r0_now_figures v_r0_now_things v_r0_now_fields v_r0_now_done r0_fraction_above r0_fraction_below r0_now_days r0_now_goes r0_now_hampers r0_now_weights r0_refusals)) (Qc := fun A => qL D (w_H_worth cI a_r0 a_r0_fraction a_r0_now a_r0_now_goes a_r0_now_hampers a_r0_now_weights a_r0_refusals v_r0_kept v_r0_trial v_r0_hasKept v_r0_steps v_r0_letters v_r0_numbers v_r0_harvest v_r0_now_kinds v_r0_now_figures v_r0_now_things v_r0_now_fields v_r0_now_done o.2.1 o.2.2.1 r0_now_days r0_now_goes r0_now_hampers r0_now_weights o.2.2.2) o.1 A) rfl (Nat.le_of_ble_eq_true rfl) ?_ sz⟩
  intro p e s m below meth c A hA C hret ls hl hW
  have C : cx p s m ([.ref a_r0, .int x1, .int x2] : List Value).toArray meth c b_H_worth 12 R_H D (kTy cI cS) (Cond.code y_H_worth b_H_worth 12 (some FieldType.long)) := C
  obtain ⟨hx, hb, hml, hown, hts, hK, hlk, hN⟩ := id C
  have hl : lv_has ls 12 [(0, .ref a_r0), (1, .int x1), (2, .int x2)] := hl
  obtain ⟨Q, hQ⟩ : ∃ Q, Q = MQ below (qL D (w_H_worth cI a_r0 a_r0_fraction a_r0_now a_r0_now_goes a_r0_now_hampers a_r0_now_weights a_r0_refusals v_r0_kept v_r0_trial v_r0_hasKept v_r0_steps v_r0_letters v_r0_numbers v_r0_harvest v_r0_now_kinds v_r0_now_figures v_r0_now_things v_r0_now_fields v_r0_now_done o.2.1 o.2.2.1 r0_now_days r0_now_goes r0_now_hampers r0_now_weights o.2.2.2) o.1 A) ([.ref a_r0, .int x1, .int x2] : List Value).toArray s 0 0 A := ⟨_, rfl⟩
  rw [← hQ]
  refine lv_aload_n hx hb d_H_worth_0 rfl (lv_at hl 0 rfl) ?_
  refine k_get i_H C hW 0 rfl rfl 0 (by decide) qf_H_10 rfl rfl d_H_worth_1 ?_
  refine lv_iload_n hx hb d_H_worth_4 rfl (lv_at hl 1 rfl) ?_
  obtain ⟨q_1, hc_1, hr⟩ := ob hr
  have ct_1 := C_Sta_hasDay l D cI cS a_r0_now (Value.ref a_r0_now_weights) v_r0_now_kinds v_r0_now_figures (Value.ref a_r0_now_goes) v_r0_now_things (Value.ref a_r0_now_hampers) v_r0_now_fields v_r0_now_done r0_now_days x1 q_1 hc_1
  refine k_goIp hA hW [2] rfl rfl (k_runV C hA hW mw_Sta_hasDay mv_Sta_hasDay (ct_1.2 _) [2] rfl rfl 2 rfl rfl qm_H_107 ⟨Nat.le_of_ble_eq_true rfl, Nat.le_of_ble_eq_true rfl, Nat.zero_le _, Nat.zero_le _⟩ rfl rfl (Nat.le_of_ble_eq_true rfl) hl.1 d_H_worth_5) (fun H locs hW => ?_)
  refine lv_if_ne (tgt := 17) hx hb d_H_worth_8 (by decide) (fun c_2 => ?_) (fun c_2 => ?_)
  · replace hr := iN c_2 hr
    refine lv_iload_n hx hb d_H_worth_17 rfl (lv_at hl 2 rfl) ?_
    obtain ⟨q_3, hc_3, hr⟩ := ob hr
    have ct_3 := C_H_isPart l D cI cS x2 q_3 hc_3
    refine k_goIp hA hW [] rfl rfl (k_runS C hA hW mw_H_isPart ms_H_isPart (ct_3.2 _) [] rfl rfl qm_H_212 ⟨Nat.le_of_ble_eq_true rfl, Nat.le_of_ble_eq_true rfl, Nat.zero_le _, Nat.zero_le _⟩ rfl rfl (Nat.le_of_ble_eq_true rfl) hl.1 d_H_worth_18) (fun H locs hW => ?_)
    refine lv_if_ne (tgt := 31) hx hb d_H_worth_21 (by decide) (fun c_4 => ?_) (fun c_4 => ?_)
    · replace hr := iN c_4 hr
      refine lv_aload_n hx hb d_H_worth_31 rfl (lv_at hl 0 rfl) ?_
      refine k_get i_H C hW 0 rfl rfl 0 (by decide) qf_H_10 rfl rfl d_H_worth_32 ?_
      refine lv_aload_n hx hb d_H_worth_35 rfl (lv_at hl 0 rfl) ?_
      refine k_get i_H C hW 0 rfl rfl 0 (by decide) qf_H_10 rfl rfl d_H_worth_36 ?_
      refine k_getN i_Sta C hW 2 rfl rfl 5 (by decide) qf_H_110 rfl rfl d_H_worth_39 ?_
      refine lv_iload_n hx hb d_H_worth_42 rfl (lv_at hl 1 rfl) ?_
      obtain ⟨h_5, hr⟩ := ck_some hr
      refine k_iald C hW 4 rfl h_5 d_H_worth_43 ?_
      obtain ⟨q_6, hc_6, hr⟩ := ob hr
      have ct_6 := C_Sta_couldBe l D cI cS a_r0_now a_r0_now_goes (Value.ref a_r0_now_weights) v_r0_now_kinds v_r0_now_figures v_r0_now_things (Value.ref a_r0_now_hampers) (Value.int r0_now_days) v_r0_now_fields v_r0_now_done r0_now_goes (r0_now_hampers (Int32.toNatClampNeg x1)) q_6 hc_6
      refine k_goIp hA hW [2, 3] rfl rfl (k_runV C hA hW mw_Sta_couldBe mv_Sta_couldBe (ct_6.2 _) [2, 3] rfl rfl 2 rfl rfl qm_H_113 ⟨Nat.le_of_ble_eq_true rfl, Nat.le_of_ble_eq_true rfl, Nat.zero_le _, Nat.zero_le _⟩ rfl rfl (Nat.le_of_ble_eq_true rfl) hl.1 d_H_worth_44) (fun H locs hW => ?_)
      refine lv_istore_n (lv' := [(3, .int q_6), (0, .ref a_r0), (1, .int x1), (2, .int x2)]) hx hb d_H_worth_47 rfl hl (by decide) rfl (fun ls hl => ?_)
      refine lv_aload_n hx hb d_H_worth_48 rfl (lv_at hl 1 rfl) ?_
      refine k_get i_H C hW 0 rfl rfl 0 (by decide) qf_H_10 rfl rfl d_H_worth_49 ?_
      refine lv_iload_n hx hb d_H_worth_52 rfl (lv_at hl 0 rfl) ?_
      obtain ⟨q_7, hc_7, hr⟩ := ob hr
      have ct_7 := C_Sta_greatestOf l D cI cS a_r0_now a_r0_now_weights v_r0_now_kinds v_r0_now_figures (Value.ref a_r0_now_goes) v_r0_now_things (Value.ref a_r0_now_hampers) (Value.int r0_now_days) v_r0_now_fields v_r0_now_done r0_now_weights q_6 q_7 hc_7
      refine k_goIp hA hW [2, 5] rfl rfl (k_runV C hA hW mw_Sta_greatestOf mv_Sta_greatestOf (ct_7.2 _) [2, 5] rfl rfl 2 rfl rfl qm_H_300 ⟨Nat.le_of_ble_eq_true rfl, Nat.le_of_ble_eq_true rfl, Nat.zero_le _, Nat.zero_le _⟩ rfl rfl (Nat.le_of_ble_eq_true rfl) hl.1 d_H_worth_53) (fun H locs hW => ?_)
      refine lv_i2l hx hb d_H_worth_56 rfl ?_
      refine lv_lstore (lv' := [(4, .long (Int32.toInt64 q_7)), (3, .int q_6), (0, .ref a_r0), (1, .int x1), (2, .int x2)]) hx hb d_H_worth_57 hl (by decide) rfl (fun ls hl => ?_)
      refine lv_aload_n hx hb d_H_worth_59 rfl (lv_at hl 2 rfl) ?_
      refine k_get i_H C hW 0 rfl rfl 0 (by decide) qf_H_10 rfl rfl d_H_worth_60 ?_
      refine lv_iload_n hx hb d_H_worth_63 rfl (lv_at hl 1 rfl) ?_
      obtain ⟨q_8, hc_8, hr⟩ := ob hr
      have ct_8 := C_Sta_weightOfAll l D cI cS a_r0_now a_r0_now_weights v_r0_now_kinds v_r0_now_figures (Value.ref a_r0_now_goes) v_r0_now_things (Value.ref a_r0_now_hampers) (Value.int r0_now_days) v_r0_now_fields v_r0_now_done r0_now_weights q_6 q_8 hc_8
      refine k_goIp hA hW [2, 5] rfl rfl (k_runV C hA hW mw_Sta_weightOfAll mv_Sta_weightOfAll (ct_8.2 _) [2, 5] rfl rfl 2 rfl rfl qm_H_219 ⟨Nat.le_of_ble_eq_true rfl, Nat.le_of_ble_eq_true rfl, Nat.zero_le _, Nat.zero_le _⟩ rfl rfl (Nat.le_of_ble_eq_true rfl) hl.1 d_H_worth_64) (fun H locs hW => ?_)
      refine lv_i2l hx hb d_H_worth_67 rfl ?_
      refine lv_lstore (lv' := [(6, .long (Int32.toInt64 q_8)), (4, .long (Int32.toInt64 q_7)), (3, .int q_6), (0, .ref a_r0), (1, .int x1), (2, .int x2)]) hx hb d_H_worth_68 hl (by decide) rfl (fun ls hl => ?_)
      refine lv_aload_n hx hb d_H_worth_70 rfl (lv_at hl 3 rfl) ?_
      refine k_get i_H C hW 0 rfl rfl 0 (by decide) qf_H_10 rfl rfl d_H_worth_71 ?_
      refine lv_bipush (v := 63) hx hb d_H_worth_74 (by decide) ?_
      obtain ⟨q_9, hc_9, hr⟩ := ob hr
      have ct_9 := C_Sta_greatestOf l D cI cS a_r0_now a_r0_now_weights v_r0_now_kinds v_r0_now_figures (Value.ref a_r0_now_goes) v_r0_now_things (Value.ref a_r0_now_hampers) (Value.int r0_now_days) v_r0_now_fields v_r0_now_done r0_now_weights 63 q_9 hc_9
      refine k_goIp hA hW [2, 5] rfl rfl (k_runV C hA hW mw_Sta_greatestOf mv_Sta_greatestOf (ct_9.2 _) [2, 5] rfl rfl 2 rfl rfl qm_H_300 ⟨Nat.le_of_ble_eq_true rfl, Nat.le_of_ble_eq_true rfl, Nat.zero_le _, Nat.zero_le _⟩ rfl rfl (Nat.le_of_ble_eq_true rfl) hl.1 d_H_worth_76) (fun H locs hW => ?_)
      refine lv_i2l hx hb d_H_worth_79 rfl ?_
      refine lv_lstore (lv' := [(8, .long (Int32.toInt64 q_9)), (6, .long (Int32.toInt64 q_8)), (4, .long (Int32.toInt64 q_7)), (3, .int q_6), (0, .ref a_r0), (1, .int x1), (2, .int x2)]) hx hb d_H_worth_80 hl (by decide) rfl (fun ls hl => ?_)
      refine lv_aload_n hx hb d_H_worth_82 rfl (lv_at hl 4 rfl) ?_
      refine k_get i_H C hW 0 rfl rfl 0 (by decide) qf_H_10 rfl rfl d_H_worth_83 ?_
      refine lv_bipush (v := 63) hx hb d_H_worth_86 (by decide) ?_
      obtain ⟨q_10, hc_10, hr⟩ := ob hr
      have ct_10 := C_Sta_weightOfAll l D cI cS a_r0_now a_r0_now_weights v_r0_now_kinds v_r0_now_figures (Value.ref a_r0_now_goes) v_r0_now_things (Value.ref a_r0_now_hampers) (Value.int r0_now_days) v_r0_now_fields v_r0_now_done r0_now_weights 63 q_10 hc_10
      refine k_goIp hA hW [2, 5] rfl rfl (k_runV C hA hW mw_Sta_weightOfAll mv_Sta_weightOfAll (ct_10.2 _) [2, 5] rfl rfl 2 rfl rfl qm_H_219 ⟨Nat.le_of_ble_eq_true rfl, Nat.le_of_ble_eq_true rfl, Nat.zero_le _, Nat.zero_le _⟩ rfl rfl (Nat.le_of_ble_eq_true rfl) hl.1 d_H_worth_88) (fun H locs hW => ?_)
      refine lv_i2l hx hb d_H_worth_91 rfl ?_
      refine lv_lstore (lv' := [(10, .long (Int32.toInt64 q_10)), (8, .long (Int32.toInt64 q_9)), (6, .long (Int32.toInt64 q_8)), (4, .long (Int32.toInt64 q_7)), (3, .int q_6), (0, .ref a_r0), (1, .int x1), (2, .int x2)]) hx hb d_H_worth_92 hl (by decide) rfl (fun ls hl => ?_)
      refine lv_aload_n hx hb d_H_worth_94 rfl (lv_at hl 5 rfl) ?_
      refine k_get i_H C hW 0 rfl rfl 8 (by decide) qf_H_57 rfl rfl d_H_worth_95 ?_
      refine lv_lload hx hb d_H_worth_98 (lv_at hl 3 rfl) ?_
      refine lv_lload hx hb d_H_worth_100 (lv_at hl 0 rfl) ?_
      refine lv_lmul hx hb d_H_worth_102 ?_
      refine lv_lload hx hb d_H_worth_103 (lv_at hl 1 rfl) ?_
      refine lv_lload hx hb d_H_worth_105 (lv_at hl 2 rfl) ?_
      refine lv_lmul hx hb d_H_worth_107 ?_
      refine lv_lsub hx hb d_H_worth_108 ?_
      refine lv_lload hx hb d_H_worth_109 (lv_at hl 2 rfl) ?_
      refine lv_lload hx hb d_H_worth_111 (lv_at hl 0 rfl) ?_
      refine lv_lmul hx hb d_H_worth_113 ?_
      obtain ⟨q_11, hc_11, hr⟩ := ob hr
      have ct_11 := C_Frc_become l D cI cS a_r0_fraction r0_fraction_above r0_fraction_below (((Int32.toInt64 q_7) * (Int32.toInt64 q_10)) - ((Int32.toInt64 q_9) * (Int32.toInt64 q_8))) ((Int32.toInt64 q_8) * (Int32.toInt64 q_10)) q_11 hc_11
      refine k_goV hA hW [1] rfl ct_11.1 (ws' := (w_H_worth cI a_r0 a_r0_fraction a_r0_now a_r0_now_goes a_r0_now_hampers a_r0_now_weights a_r0_refusals v_r0_kept v_r0_trial v_r0_hasKept v_r0_steps v_r0_letters v_r0_numbers v_r0_harvest v_r0_now_kinds v_r0_now_figures v_r0_now_things v_r0_now_fields v_r0_now_done q_11.1 q_11.2 r0_now_days r0_now_goes r0_now_hampers r0_now_weights r0_refusals)) rfl (k_runV C hA hW mw_Frc_become mv_Frc_become (ct_11.2 _) [1] rfl rfl 1 rfl rfl qm_H_222 ⟨Nat.le_of_ble_eq_true rfl, Nat.le_of_ble_eq_true rfl, Nat.zero_le _, Nat.zero_le _⟩ rfl rfl (Nat.le_of_ble_eq_true rfl) hl.1 d_H_worth_114) (fun H locs hW => ?_)
      refine lv_aload_n hx hb d_H_worth_117 rfl (lv_at hl 5 rfl) ?_
      refine k_get i_H C hW 0 rfl rfl 8 (by decide) qf_H_57 rfl rfl d_H_worth_118 ?_
      refine lv_iload_n hx hb d_H_worth_121 rfl (lv_at hl 7 rfl) ?_
      obtain ⟨q_12, hc_12, hr⟩ := ob hr
      have ct_12 := C_Frc_told l D cI cS a_r0_fraction q_11.1 q_11.2 x2 q_12 hc_12
      refine k_goLp hA hW [1] rfl rfl (k_runV C hA hW mw_Frc_told mv_Frc_told (ct_12.2 _) [1] rfl rfl 1 rfl rfl qm_H_225 ⟨Nat.le_of_ble_eq_true rfl, Nat.le_of_ble_eq_true rfl, Nat.zero_le _, Nat.zero_le _⟩ rfl rfl (Nat.le_of_ble_eq_true rfl) hl.1 d_H_worth_122) (fun H locs hW => ?_)
      obtain rfl := Option.some.inj hr
      rw [hQ]; exact k_lret C hret hW d_H_worth_125
    · replace hr := ip c_4 hr
      refine lv_aload_n hx hb d_H_worth_24 rfl (lv_at hl 0 rfl) ?_
      refine lv_bipush (v := (-2)) hx hb d_H_worth_25 (by decide) ?_
      obtain ⟨q_13, hc_13, hr⟩ := ob hr
      have ct_13 := C_H_refusedLong l D cI cS a_r0 a_r0_refusals (Value.ref a_r0_now) v_r0_kept v_r0_trial v_r0_hasKept v_r0_steps v_r0_letters v_r0_numbers v_r0_harvest (Value.ref a_r0_fraction) r0_refusals (-2) q_13 hc_13
      refine k_goL hA hW [0, 6] rfl ct_13.1 (ws' := (w_H_worth cI a_r0 a_r0_fraction a_r0_now a_r0_now_goes a_r0_now_hampers a_r0_now_weights a_r0_refusals v_r0_kept v_r0_trial v_r0_hasKept v_r0_steps v_r0_letters v_r0_numbers v_r0_harvest v_r0_now_kinds v_r0_now_figures v_r0_now_things v_r0_now_fields v_r0_now_done r0_fraction_above r0_fraction_below r0_now_days r0_now_goes r0_now_hampers r0_now_weights q_13.2)) rfl (k_runV C hA hW mw_H_refusedLong mv_H_refusedLong (ct_13.2 _) [0, 6] rfl rfl 0 rfl rfl qm_H_208 ⟨Nat.le_of_ble_eq_true rfl, Nat.le_of_ble_eq_true rfl, Nat.zero_le _, Nat.zero_le _⟩ rfl rfl (Nat.le_of_ble_eq_true rfl) hl.1 d_H_worth_27) (fun H locs hW => ?_)
      obtain rfl := Option.some.inj hr
      rw [hQ]; exact k_lret C hret hW d_H_worth_30
  · replace hr := ip c_2 hr
    refine lv_aload_n hx hb d_H_worth_11 rfl (lv_at hl 0 rfl) ?_
    refine lv_iconst (v := (-1)) hx hb d_H_worth_12 (by decide) ?_
    obtain ⟨q_14, hc_14, hr⟩ := ob hr
    have ct_14 := C_H_refusedLong l D cI cS a_r0 a_r0_refusals (Value.ref a_r0_now) v_r0_kept v_r0_trial v_r0_hasKept v_r0_steps v_r0_letters v_r0_numbers v_r0_harvest (Value.ref a_r0_fraction) r0_refusals (-1) q_14 hc_14
    refine k_goL hA hW [0, 6] rfl ct_14.1 (ws' := (w_H_worth cI a_r0 a_r0_fraction a_r0_now a_r0_now_goes a_r0_now_hampers a_r0_now_weights a_r0_refusals v_r0_kept v_r0_trial v_r0_hasKept v_r0_steps v_r0_letters v_r0_numbers v_r0_harvest v_r0_now_kinds v_r0_now_figures v_r0_now_things v_r0_now_fields v_r0_now_done r0_fraction_above r0_fraction_below r0_now_days r0_now_goes r0_now_hampers r0_now_weights q_14.2)) rfl (k_runV C hA hW mw_H_refusedLong mv_H_refusedLong (ct_14.2 _) [0, 6] rfl rfl 0 rfl rfl qm_H_208 ⟨Nat.le_of_ble_eq_true rfl, Nat.le_of_ble_eq_true rfl, Nat.zero_le _, Nat.zero_le _⟩ rfl rfl (Nat.le_of_ble_eq_true rfl) hl.1 d_H_worth_13) (fun H locs hW => ?_)
    obtain rfl := Option.some.inj hr
    rw [hQ]; exact k_lret C hret hW d_H_worth_16
def w_H_wrong (cI : ClassId) (a_r0 : Nat) (a_r0_fraction : Nat) (a_r0_harvest : Nat) (a_r0_harvest_fields : Nat) (a_r0_harvest_fields_lefts : Nat) (a_r0_harvest_fields_wishes : Nat) (a_r0_harvest_weathers : Nat) (a_r0_now : Nat) (a_r0_now_fields : Nat) (a_r0_now_fields_lefts : Nat) (a_r0_now_fields_wishes : Nat) (a_r0_now_goes : Nat) (a_r0_now_hampers : Nat) (a_r0_now_weights : Nat) (a_r0_refusals : Nat) (v_r0_kept v_r0_trial v_r0_hasKept v_r0_steps v_r0_letters v_r0_numbers v_r0_harvest_path v_r0_harvest_best v_r0_harvest_counted v_r0_harvest_atMost v_r0_harvest_most v_r0_harvest_lotsDone v_r0_harvest_lotsNone v_r0_now_kinds v_r0_now_figures v_r0_now_things v_r0_now_done : Value) (r0_fraction_above : Int64) (r0_fraction_below : Int64) (r0_harvest_days : Int32) (r0_harvest_oneIn : Int32) (r0_harvest_fields_lefts : Nat → Int32) (r0_harvest_fields_wishes : Nat → Int32) (r0_harvest_weathers : Nat → Int32) (r0_now_days : Int32) (r0_now_fields_lefts : Nat → Int32) (r0_now_fields_wishes : Nat → Int32) (r0_now_goes : Nat → Int32) (r0_now_hampers : Nat → Int32) (r0_now_weights : Nat → Int32) (r0_refusals : Nat → Int32) : va_W := [(a_r0, .inr (0, [.ref a_r0_now, v_r0_kept, v_r0_trial, v_r0_hasKept, v_r0_steps, v_r0_letters, v_r0_numbers, .ref a_r0_harvest, .ref a_r0_fraction, .ref a_r0_refusals])), (a_r0_fraction, .inr (8, [.long r0_fraction_above, .long r0_fraction_below])), (a_r0_harvest, .inr (7, [.ref a_r0_harvest_fields, .ref a_r0_harvest_weathers, .int r0_harvest_days, v_r0_harvest_path, v_r0_harvest_best, v_r0_harvest_counted, v_r0_harvest_atMost, v_r0_harvest_most, .int r0_harvest_oneIn, v_r0_harvest_lotsDone, v_r0_harvest_lotsNone])), (a_r0_harvest_fields, .inr (2, [.ref a_r0_harvest_fields_wishes, .ref a_r0_harvest_fields_lefts])), (a_r0_harvest_fields_lefts, .inl (cI, 4, .inl r0_harvest_fields_lefts)), (a_r0_harvest_fields_wishes, .inl (cI, 4, .inl r0_harvest_fields_wishes)), (a_r0_harvest_weathers, .inl (cI, 8, .inl r0_harvest_weathers)), (a_r0_now, .inr (1, [.ref a_r0_now_weights, v_r0_now_kinds, v_r0_now_figures, .ref a_r0_now_goes, v_r0_now_things, .ref a_r0_now_hampers, .int r0_now_days, .ref a_r0_now_fields, v_r0_now_done])), (a_r0_now_fields, .inr (2, [.ref a_r0_now_fields_wishes, .ref a_r0_now_fields_lefts])), (a_r0_now_fields_lefts, .inl (cI, 4, .inl r0_now_fields_lefts)), (a_r0_now_fields_wishes, .inl (cI, 4, .inl r0_now_fields_wishes)), (a_r0_now_goes, .inl (cI, 8, .inl r0_now_goes)), (a_r0_now_hampers, .inl (cI, 8, .inl r0_now_hampers)), (a_r0_now_weights, .inl (cI, 6, .inl r0_now_weights)), (a_r0_refusals, .inl (cI, 7, .inl r0_refusals))]
def F_H_wrong_J9_2 (r0_fraction_above : Int64) (r0_fraction_below : Int64) (r0_harvest_days : Int32) (r0_harvest_oneIn : Int32) (r0_harvest_fields_lefts : Nat → Int32) (r0_harvest_fields_wishes : Nat → Int32) (r0_harvest_weathers : Nat → Int32) (r0_refusals : Nat → Int32) : Option (Int64 × (Int64) × (Int64) × (Int32) × (Int32) × (Nat → Int32) × (Nat → Int32) × (Nat → Int32) × (Nat → Int32)) :=
  ((F_H_refusedLong r0_refusals ((-4) : Int32)).bind (fun q_3 => (some (q_3.1, r0_fraction_above, r0_fraction_below, r0_harvest_days, r0_harvest_oneIn, r0_harvest_fields_lefts, r0_harvest_fields_wishes, r0_harvest_weathers, q_3.2))))
def F_H_wrong_J33_6 (r0_fraction_above : Int64) (r0_fraction_below : Int64) (r0_harvest_days : Int32) (r0_harvest_oneIn : Int32) (r0_harvest_fields_lefts : Nat → Int32) (r0_harvest_fields_wishes : Nat → Int32) (r0_harvest_weathers : Nat → Int32) (r0_refusals : Nat → Int32) : Option (Int64 × (Int64) × (Int64) × (Int32) × (Int32) × (Nat → Int32) × (Nat → Int32) × (Nat → Int32) × (Nat → Int32)) :=
  ((F_H_refusedLong r0_refusals ((-6) : Int32)).bind (fun q_7 => (some (q_7.1, r0_fraction_above, r0_fraction_below, r0_harvest_days, r0_harvest_oneIn, r0_harvest_fields_lefts, r0_harvest_fields_wishes, r0_harvest_weathers, q_7.2))))
def F_H_wrong (r0_fraction_above : Int64) (r0_fraction_below : Int64) (r0_harvest_days : Int32) (r0_harvest_oneIn : Int32) (r0_harvest_fields_lefts : Nat → Int32) (r0_harvest_fields_wishes : Nat → Int32) (r0_harvest_weathers : Nat → Int32) (r0_now_days : Int32) (r0_now_fields_lefts : Nat → Int32) (r0_now_fields_wishes : Nat → Int32) (r0_now_goes : Nat → Int32) (r0_now_hampers : Nat → Int32) (r0_now_weights : Nat → Int32) (r0_refusals : Nat → Int32) (x1 : Int32) (x2 : Int32) (x3 : Int32) : Option (Int64 × (Int64) × (Int64) × (Int32) × (Int32) × (Nat → Int32) × (Nat → Int32) × (Nat → Int32) × (Nat → Int32)) :=
  (if x1 < 0 then (F_H_wrong_J9_2 r0_fraction_above r0_fraction_below r0_harvest_days r0_harvest_oneIn r0_harvest_fields_lefts r0_harvest_fields_wishes r0_harvest_weathers r0_refusals) else (if (2 : Int32) ≤ x2 then (if r0_now_days < x1 then (F_H_wrong_J33_6 r0_fraction_above r0_fraction_below r0_harvest_days r0_harvest_oneIn r0_harvest_fields_lefts r0_harvest_fields_wishes r0_harvest_weathers r0_refusals) else (if x2 ≤ 20 then ((F_H_isPart x3).bind (fun q_9 => (if q_9 = 0 then ((F_H_refusedLong r0_refusals ((-2) : Int32)).bind (fun q_15 => (some (q_15.1, r0_fraction_above, r0_fraction_below, r0_harvest_days, r0_harvest_oneIn, r0_harvest_fields_lefts, r0_harvest_fields_wishes, r0_harvest_weathers, q_15.2)))) else ((F_Har_waysAllIn r0_harvest_fields_lefts r0_harvest_fields_wishes r0_harvest_weathers r0_now_days r0_now_fields_lefts r0_now_fields_wishes r0_now_goes r0_now_hampers r0_now_weights x1 x2).bind (fun q_11 => ((F_H_power x2 x1).bind (fun q_12 => ((F_Frc_become q_11.1 q_12).bind (fun q_13 => ((F_Frc_told q_13.1 q_13.2 x3).bind (fun q_14 => (some (q_14, q_13.1, q_13.2, q_11.2.1, q_11.2.2.1, q_11.2.2.2.1, q_11.2.2.2.2.1, q_11.2.2.2.2.2, r0_refusals))))))))))))) else (F_H_wrong_J33_6 r0_fraction_above r0_fraction_below r0_harvest_days r0_harvest_oneIn r0_harvest_fields_lefts r0_harvest_fields_wishes r0_harvest_weathers r0_refusals))) else (F_H_wrong_J9_2 r0_fraction_above r0_fraction_below r0_harvest_days r0_harvest_oneIn r0_harvest_fields_lefts r0_harvest_fields_wishes r0_harvest_weathers r0_refusals)))
set_option maxHeartbeats 4000000 in
set_option maxRecDepth 100000 in
theorem C_H_wrong (l : Launch) (D : va_G) (cI cS : ClassId) (a_r0 : Nat) (a_r0_fraction : Nat) (a_r0_harvest : Nat) (a_r0_harvest_fields : Nat) (a_r0_harvest_fields_lefts : Nat) (a_r0_harvest_fields_wishes : Nat) (a_r0_harvest_weathers : Nat) (a_r0_now : Nat) (a_r0_now_fields : Nat) (a_r0_now_fields_lefts : Nat) (a_r0_now_fields_wishes : Nat) (a_r0_now_goes : Nat) (a_r0_now_hampers : Nat) (a_r0_now_weights : Nat) (a_r0_refusals : Nat) (v_r0_kept v_r0_trial v_r0_hasKept v_r0_steps v_r0_letters v_r0_numbers v_r0_harvest_path v_r0_harvest_best v_r0_harvest_counted v_r0_harvest_atMost v_r0_harvest_most v_r0_harvest_lotsDone v_r0_harvest_lotsNone v_r0_now_kinds v_r0_now_figures v_r0_now_things v_r0_now_done : Value) (r0_fraction_above : Int64) (r0_fraction_below : Int64) (r0_harvest_days : Int32) (r0_harvest_oneIn : Int32) (r0_harvest_fields_lefts : Nat → Int32) (r0_harvest_fields_wishes : Nat → Int32) (r0_harvest_weathers : Nat → Int32) (r0_now_days : Int32) (r0_now_fields_lefts : Nat → Int32) (r0_now_fields_wishes : Nat → Int32) (r0_now_goes : Nat → Int32) (r0_now_hampers : Nat → Int32) (r0_now_weights : Nat → Int32) (r0_refusals : Nat → Int32) (x1 : Int32) (x2 : Int32) (x3 : Int32) (o : Int64 × (Int64) × (Int64) × (Int32) × (Int32) × (Nat → Int32) × (Nat → Int32) × (Nat → Int32) × (Nat → Int32)) (hr : F_H_wrong r0_fraction_above r0_fraction_below r0_harvest_days r0_harvest_oneIn r0_harvest_fields_lefts r0_harvest_fields_wishes r0_harvest_weathers r0_now_days r0_now_fields_lefts r0_now_fields_wishes r0_now_goes r0_now_hampers r0_now_weights r0_refusals x1 x2 x3 = some o) : ctL l y_H_wrong (Cond.code y_H_wrong b_H_wrong 4 (some FieldType.long)) (rmd 15) D (kTy cI cS) [.ref a_r0, .int x1, .int x2, .int x3] (w_H_wrong cI a_r0 a_r0_fraction a_r0_harvest a_r0_harvest_fields a_r0_harvest_fields_lefts a_r0_harvest_fields_wishes a_r0_harvest_weathers a_r0_now a_r0_now_fields a_r0_now_fields_lefts a_r0_now_fields_wishes a_r0_now_goes a_r0_now_hampers a_r0_now_weights a_r0_refusals v_r0_kept v_r0_trial v_r0_hasKept v_r0_steps v_r0_letters v_r0_numbers v_r0_harvest_path v_r0_harvest_best v_r0_harvest_counted v_r0_harvest_atMost v_r0_harvest_most v_r0_harvest_lotsDone v_r0_harvest_lotsNone v_r0_now_kinds v_r0_now_figures v_r0_now_things v_r0_now_done r0_fraction_above r0_fraction_below r0_harvest_days r0_harvest_oneIn r0_harvest_fields_lefts r0_harvest_fields_wishes r0_harvest_weathers r0_now_days r0_now_fields_lefts r0_now_fields_wishes r0_now_goes r0_now_hampers r0_now_weights r0_refusals) (w_H_wrong cI a_r0 a_r0_fraction a_r0_harvest a_r0_harvest_fields a_r0_harvest_fields_lefts a_r0_harvest_fields_wishes a_r0_harvest_weathers a_r0_now a_r0_now_fields a_r0_now_fields_lefts a_r0_now_fields_wishes a_r0_now_goes a_r0_now_hampers a_r0_now_weights a_r0_refusals v_r0_kept v_r0_trial v_r0_hasKept v_r0_steps v_r0_letters v_r0_numbers v_r0_harvest_path v_r0_harvest_best v_r0_harvest_counted v_r0_harvest_atMost v_r0_harvest_most v_r0_harvest_lotsDone v_r0_harvest_lotsNone v_r0_now_kinds v_r0_now_figures v_r0_now_things v_r0_now_done o.2.1 o.2.2.1 o.2.2.2.1 o.2.2.2.2.1 o.2.2.2.2.2.1 o.2.2.2.2.2.2.1 o.2.2.2.2.2.2.2.1 r0_now_days r0_now_fields_lefts r0_now_fields_wishes r0_now_goes r0_now_hampers r0_now_weights o.2.2.2.2.2.2.2.2) o.1 := by
  unfold F_H_wrong at hr
  refine ⟨rfl, fun sz => ct_of (w0 := (w_H_wrong cI a_r0 a_r0_fraction a_r0_harvest a_r0_harvest_fields a_r0_harvest_fields_lefts a_r0_harvest_fields_wishes a_r0_harvest_weathers a_r0_now a_r0_now_fields a_r0_now_fields_lefts a_r0_now_fields_wishes a_r0_now_goes a_r0_now_hampers a_r0_now_weights a_r0_refusals v_r0_kept v_r0_trial v_r0_hasKept v_r0_steps v_r0_letters v_r0_numbers v_r0_harvest_path v_r0_harvest_best v_r0_harvest_counted v_r0_harvest_atMost v_r0_harvest_most v_r0_harvest_lotsDone v_r0_harvest_lotsNone v_r0_now_kinds v_r0_now_figures v_r0_now_things v_r0_now_done r0_fraction_above r0_fraction_below r0_harvest_days r0_harvest_oneIn r0_harvest_fields_lefts r0_harvest_fields_wishes r0_harvest_weathers r0_now_days r0_now_fields_lefts r0_now_fields_wishes r0_now_goes r0_now_hampers r0_now_weights r0_refusals)) (Qc := fun A => qL D (w_H_wrong cI a_r0 a_r0_fraction a_r0_harvest a_r0_harvest_fields a_r0_harvest_fields_lefts a_r0_harvest_fields_wishes a_r0_harvest_weathers a_r0_now a_r0_now_fields a_r0_now_fields_lefts a_r0_now_fields_wishes a_r0_now_goes a_r0_now_hampers a_r0_now_weights a_r0_refusals v_r0_kept v_r0_trial v_r0_hasKept v_r0_steps v_r0_letters v_r0_numbers v_r0_harvest_path v_r0_harvest_best v_r0_harvest_counted v_r0_harvest_atMost v_r0_harvest_most v_r0_harvest_lotsDone v_r0_harvest_lotsNone v_r0_now_kinds v_r0_now_figures v_r0_now_things v_r0_now_done o.2.1 o.2.2.1 o.2.2.2.1 o.2.2.2.2.1 o.2.2.2.2.2.1 o.2.2.2.2.2.2.1 o.2.2.2.2.2.2.2.1 r0_now_days r0_now_fields_lefts r0_now_fields_wishes r0_now_goes r0_now_hampers r0_now_weights o.2.2.2.2.2.2.2.2) o.1 A) rfl (Nat.le_of_ble_eq_true rfl) ?_ sz⟩
  intro p e s m below meth c A hA C hret ls hl hW
  have C : cx p s m ([.ref a_r0, .int x1, .int x2, .int x3] : List Value).toArray meth c b_H_wrong 4 R_H D (kTy cI cS) (Cond.code y_H_wrong b_H_wrong 4 (some FieldType.long)) := C
  obtain ⟨hx, hb, hml, hown, hts, hK, hlk, hN⟩ := id C
  have hl : lv_has ls 4 [(0, .ref a_r0), (1, .int x1), (2, .int x2), (3, .int x3)] := hl
  obtain ⟨Q, hQ⟩ : ∃ Q, Q = MQ below (qL D (w_H_wrong cI a_r0 a_r0_fraction a_r0_harvest a_r0_harvest_fields a_r0_harvest_fields_lefts a_r0_harvest_fields_wishes a_r0_harvest_weathers a_r0_now a_r0_now_fields a_r0_now_fields_lefts a_r0_now_fields_wishes a_r0_now_goes a_r0_now_hampers a_r0_now_weights a_r0_refusals v_r0_kept v_r0_trial v_r0_hasKept v_r0_steps v_r0_letters v_r0_numbers v_r0_harvest_path v_r0_harvest_best v_r0_harvest_counted v_r0_harvest_atMost v_r0_harvest_most v_r0_harvest_lotsDone v_r0_harvest_lotsNone v_r0_now_kinds v_r0_now_figures v_r0_now_things v_r0_now_done o.2.1 o.2.2.1 o.2.2.2.1 o.2.2.2.2.1 o.2.2.2.2.2.1 o.2.2.2.2.2.2.1 o.2.2.2.2.2.2.2.1 r0_now_days r0_now_fields_lefts r0_now_fields_wishes r0_now_goes r0_now_hampers r0_now_weights o.2.2.2.2.2.2.2.2) o.1 A) ([.ref a_r0, .int x1, .int x2, .int x3] : List Value).toArray s 0 0 A := ⟨_, rfl⟩
  rw [← hQ]
  refine lv_iload_n hx hb d_H_wrong_0 rfl (lv_at hl 1 rfl) ?_
  have hJ_2 : ∀ (_ : Unit), F_H_wrong_J9_2 r0_fraction_above r0_fraction_below r0_harvest_days r0_harvest_oneIn r0_harvest_fields_lefts r0_harvest_fields_wishes r0_harvest_weathers r0_refusals = some o → ∀ (H : Heap) (locs : List Loc) (ls : Array Slot), wd A s.heap D (w_H_wrong cI a_r0 a_r0_fraction a_r0_harvest a_r0_harvest_fields a_r0_harvest_fields_lefts a_r0_harvest_fields_wishes a_r0_harvest_weathers a_r0_now a_r0_now_fields a_r0_now_fields_lefts a_r0_now_fields_wishes a_r0_now_goes a_r0_now_hampers a_r0_now_weights a_r0_refusals v_r0_kept v_r0_trial v_r0_hasKept v_r0_steps v_r0_letters v_r0_numbers v_r0_harvest_path v_r0_harvest_best v_r0_harvest_counted v_r0_harvest_atMost v_r0_harvest_most v_r0_harvest_lotsDone v_r0_harvest_lotsNone v_r0_now_kinds v_r0_now_figures v_r0_now_things v_r0_now_done r0_fraction_above r0_fraction_below r0_harvest_days r0_harvest_oneIn r0_harvest_fields_lefts r0_harvest_fields_wishes r0_harvest_weathers r0_now_days r0_now_fields_lefts r0_now_fields_wishes r0_now_goes r0_now_hampers r0_now_weights r0_refusals) H locs → lv_has ls 4 [(0, .ref a_r0)] → W p l e (rmd 15) s m ([.ref a_r0, .int x1, .int x2, .int x3] : List Value).toArray below meth c H locs 0 0 Q (F0 m 9 ls []) := by
    intro _ hr H locs ls hW hl
    unfold F_H_wrong_J9_2 at hr
    refine lv_aload_n hx hb d_H_wrong_9 rfl (lv_at hl 0 rfl) ?_
    refine lv_bipush (v := (-4)) hx hb d_H_wrong_10 (by decide) ?_
    obtain ⟨q_3, hc_3, hr⟩ := ob hr
    have ct_3 := C_H_refusedLong l D cI cS a_r0 a_r0_refusals (Value.ref a_r0_now) v_r0_kept v_r0_trial v_r0_hasKept v_r0_steps v_r0_letters v_r0_numbers (Value.ref a_r0_harvest) (Value.ref a_r0_fraction) r0_refusals (-4) q_3 hc_3
    refine k_goL hA hW [0, 14] rfl ct_3.1 (ws' := (w_H_wrong cI a_r0 a_r0_fraction a_r0_harvest a_r0_harvest_fields a_r0_harvest_fields_lefts a_r0_harvest_fields_wishes a_r0_harvest_weathers a_r0_now a_r0_now_fields a_r0_now_fields_lefts a_r0_now_fields_wishes a_r0_now_goes a_r0_now_hampers a_r0_now_weights a_r0_refusals v_r0_kept v_r0_trial v_r0_hasKept v_r0_steps v_r0_letters v_r0_numbers v_r0_harvest_path v_r0_harvest_best v_r0_harvest_counted v_r0_harvest_atMost v_r0_harvest_most v_r0_harvest_lotsDone v_r0_harvest_lotsNone v_r0_now_kinds v_r0_now_figures v_r0_now_things v_r0_now_done r0_fraction_above r0_fraction_below r0_harvest_days r0_harvest_oneIn r0_harvest_fields_lefts r0_harvest_fields_wishes r0_harvest_weathers r0_now_days r0_now_fields_lefts r0_now_fields_wishes r0_now_goes r0_now_hampers r0_now_weights q_3.2)) rfl (k_runV C hA hW mw_H_refusedLong mv_H_refusedLong (ct_3.2 _) [0, 14] rfl rfl 0 rfl rfl qm_H_208 ⟨Nat.le_of_ble_eq_true rfl, Nat.le_of_ble_eq_true rfl, Nat.zero_le _, Nat.zero_le _⟩ rfl rfl (Nat.le_of_ble_eq_true rfl) hl.1 d_H_wrong_12) (fun H locs hW => ?_)
    obtain rfl := Option.some.inj hr
    rw [hQ]; exact k_lret C hret hW d_H_wrong_15
  refine lv_if_lt (tgt := 9) hx hb d_H_wrong_1 (by decide) (fun c_1 => ?_) (fun c_1 => ?_)
  · replace hr := ip c_1 hr
    exact hJ_2 () hr _ _ _ hW (lv_sub hl [0] rfl)
  · replace hr := iN c_1 hr
    refine lv_iload_n hx hb d_H_wrong_4 rfl (lv_at hl 2 rfl) ?_
    refine lv_iconst (v := 2) hx hb d_H_wrong_5 (by decide) ?_
    refine lv_icmp_ge (tgt := 16) hx hb d_H_wrong_6 (by decide) (fun c_4 => ?_) (fun c_4 => ?_)
    · replace hr := ip c_4 hr
      refine lv_iload_n hx hb d_H_wrong_16 rfl (lv_at hl 1 rfl) ?_
      refine lv_aload_n hx hb d_H_wrong_17 rfl (lv_at hl 0 rfl) ?_
      refine k_get i_H C hW 0 rfl rfl 0 (by decide) qf_H_10 rfl rfl d_H_wrong_18 ?_
      refine k_getN i_Sta C hW 7 rfl rfl 6 (by decide) qf_H_272 rfl rfl d_H_wrong_21 ?_
      have hJ_6 : ∀ (_ : Unit), F_H_wrong_J33_6 r0_fraction_above r0_fraction_below r0_harvest_days r0_harvest_oneIn r0_harvest_fields_lefts r0_harvest_fields_wishes r0_harvest_weathers r0_refusals = some o → ∀ (H : Heap) (locs : List Loc) (ls : Array Slot), wd A s.heap D (w_H_wrong cI a_r0 a_r0_fraction a_r0_harvest a_r0_harvest_fields a_r0_harvest_fields_lefts a_r0_harvest_fields_wishes a_r0_harvest_weathers a_r0_now a_r0_now_fields a_r0_now_fields_lefts a_r0_now_fields_wishes a_r0_now_goes a_r0_now_hampers a_r0_now_weights a_r0_refusals v_r0_kept v_r0_trial v_r0_hasKept v_r0_steps v_r0_letters v_r0_numbers v_r0_harvest_path v_r0_harvest_best v_r0_harvest_counted v_r0_harvest_atMost v_r0_harvest_most v_r0_harvest_lotsDone v_r0_harvest_lotsNone v_r0_now_kinds v_r0_now_figures v_r0_now_things v_r0_now_done r0_fraction_above r0_fraction_below r0_harvest_days r0_harvest_oneIn r0_harvest_fields_lefts r0_harvest_fields_wishes r0_harvest_weathers r0_now_days r0_now_fields_lefts r0_now_fields_wishes r0_now_goes r0_now_hampers r0_now_weights r0_refusals) H locs → lv_has ls 4 [(0, .ref a_r0)] → W p l e (rmd 15) s m ([.ref a_r0, .int x1, .int x2, .int x3] : List Value).toArray below meth c H locs 0 0 Q (F0 m 33 ls []) := by
        intro _ hr H locs ls hW hl
        unfold F_H_wrong_J33_6 at hr
        refine lv_aload_n hx hb d_H_wrong_33 rfl (lv_at hl 0 rfl) ?_
        refine lv_bipush (v := (-6)) hx hb d_H_wrong_34 (by decide) ?_
        obtain ⟨q_7, hc_7, hr⟩ := ob hr
        have ct_7 := C_H_refusedLong l D cI cS a_r0 a_r0_refusals (Value.ref a_r0_now) v_r0_kept v_r0_trial v_r0_hasKept v_r0_steps v_r0_letters v_r0_numbers (Value.ref a_r0_harvest) (Value.ref a_r0_fraction) r0_refusals (-6) q_7 hc_7
        refine k_goL hA hW [0, 14] rfl ct_7.1 (ws' := (w_H_wrong cI a_r0 a_r0_fraction a_r0_harvest a_r0_harvest_fields a_r0_harvest_fields_lefts a_r0_harvest_fields_wishes a_r0_harvest_weathers a_r0_now a_r0_now_fields a_r0_now_fields_lefts a_r0_now_fields_wishes a_r0_now_goes a_r0_now_hampers a_r0_now_weights a_r0_refusals v_r0_kept v_r0_trial v_r0_hasKept v_r0_steps v_r0_letters v_r0_numbers v_r0_harvest_path v_r0_harvest_best v_r0_harvest_counted v_r0_harvest_atMost v_r0_harvest_most v_r0_harvest_lotsDone v_r0_harvest_lotsNone v_r0_now_kinds v_r0_now_figures v_r0_now_things v_r0_now_done r0_fraction_above r0_fraction_below r0_harvest_days r0_harvest_oneIn r0_harvest_fields_lefts r0_harvest_fields_wishes r0_harvest_weathers r0_now_days r0_now_fields_lefts r0_now_fields_wishes r0_now_goes r0_now_hampers r0_now_weights q_7.2)) rfl (k_runV C hA hW mw_H_refusedLong mv_H_refusedLong (ct_7.2 _) [0, 14] rfl rfl 0 rfl rfl qm_H_208 ⟨Nat.le_of_ble_eq_true rfl, Nat.le_of_ble_eq_true rfl, Nat.zero_le _, Nat.zero_le _⟩ rfl rfl (Nat.le_of_ble_eq_true rfl) hl.1 d_H_wrong_36) (fun H locs hW => ?_)
        obtain rfl := Option.some.inj hr
        rw [hQ]; exact k_lret C hret hW d_H_wrong_39
      refine lv_icmp_gt (tgt := 33) hx hb d_H_wrong_24 (by decide) (fun c_5 => ?_) (fun c_5 => ?_)
      · replace hr := ip c_5 hr
        exact hJ_6 () hr _ _ _ hW (lv_sub hl [0] rfl)
      · replace hr := iN c_5 hr
        refine lv_iload_n hx hb d_H_wrong_27 rfl (lv_at hl 2 rfl) ?_
        refine lv_bipush (v := 20) hx hb d_H_wrong_28 (by decide) ?_
        refine lv_icmp_le (tgt := 40) hx hb d_H_wrong_30 (by decide) (fun c_8 => ?_) (fun c_8 => ?_)
        · replace hr := ip c_8 hr
          refine lv_iload_n hx hb d_H_wrong_40 rfl (lv_at hl 3 rfl) ?_
          obtain ⟨q_9, hc_9, hr⟩ := ob hr
          have ct_9 := C_H_isPart l D cI cS x3 q_9 hc_9
          refine k_goIp hA hW [] rfl rfl (k_runS C hA hW mw_H_isPart ms_H_isPart (ct_9.2 _) [] rfl rfl qm_H_212 ⟨Nat.le_of_ble_eq_true rfl, Nat.le_of_ble_eq_true rfl, Nat.zero_le _, Nat.zero_le _⟩ rfl rfl (Nat.le_of_ble_eq_true rfl) hl.1 d_H_wrong_41) (fun H locs hW => ?_)
          refine lv_if_ne (tgt := 54) hx hb d_H_wrong_44 (by decide) (fun c_10 => ?_) (fun c_10 => ?_)
          · replace hr := iN c_10 hr
            refine lv_aload_n hx hb d_H_wrong_54 rfl (lv_at hl 0 rfl) ?_
            refine k_get i_H C hW 0 rfl rfl 8 (by decide) qf_H_57 rfl rfl d_H_wrong_55 ?_
            refine lv_aload_n hx hb d_H_wrong_58 rfl (lv_at hl 0 rfl) ?_
            refine k_get i_H C hW 0 rfl rfl 7 (by decide) qf_H_50 rfl rfl d_H_wrong_59 ?_
            refine lv_aload_n hx hb d_H_wrong_62 rfl (lv_at hl 0 rfl) ?_
            refine k_get i_H C hW 0 rfl rfl 0 (by decide) qf_H_10 rfl rfl d_H_wrong_63 ?_
            refine lv_iload_n hx hb d_H_wrong_66 rfl (lv_at hl 1 rfl) ?_
            refine lv_iload_n hx hb d_H_wrong_67 rfl (lv_at hl 2 rfl) ?_
            obtain ⟨q_11, hc_11, hr⟩ := ob hr
            have ct_11 := C_Har_waysAllIn l D cI cS a_r0_harvest a_r0_harvest_fields a_r0_harvest_fields_lefts a_r0_harvest_fields_wishes a_r0_harvest_weathers a_r0_now a_r0_now_fields a_r0_now_fields_lefts a_r0_now_fields_wishes a_r0_now_goes a_r0_now_hampers a_r0_now_weights v_r0_harvest_path v_r0_harvest_best v_r0_harvest_counted v_r0_harvest_atMost v_r0_harvest_most v_r0_harvest_lotsDone v_r0_harvest_lotsNone v_r0_now_kinds v_r0_now_figures v_r0_now_things v_r0_now_done r0_harvest_days r0_harvest_oneIn r0_harvest_fields_lefts r0_harvest_fields_wishes r0_harvest_weathers r0_now_days r0_now_fields_lefts r0_now_fields_wishes r0_now_goes r0_now_hampers r0_now_weights x1 x2 q_11 hc_11
            refine k_goL hA hW [2, 3, 4, 5, 6, 7, 8, 9, 10, 11, 12, 13] rfl ct_11.1 (ws' := (w_H_wrong cI a_r0 a_r0_fraction a_r0_harvest a_r0_harvest_fields a_r0_harvest_fields_lefts a_r0_harvest_fields_wishes a_r0_harvest_weathers a_r0_now a_r0_now_fields a_r0_now_fields_lefts a_r0_now_fields_wishes a_r0_now_goes a_r0_now_hampers a_r0_now_weights a_r0_refusals v_r0_kept v_r0_trial v_r0_hasKept v_r0_steps v_r0_letters v_r0_numbers v_r0_harvest_path v_r0_harvest_best v_r0_harvest_counted v_r0_harvest_atMost v_r0_harvest_most v_r0_harvest_lotsDone v_r0_harvest_lotsNone v_r0_now_kinds v_r0_now_figures v_r0_now_things v_r0_now_done r0_fraction_above r0_fraction_below q_11.2.1 q_11.2.2.1 q_11.2.2.2.1 q_11.2.2.2.2.1 q_11.2.2.2.2.2 r0_now_days r0_now_fields_lefts r0_now_fields_wishes r0_now_goes r0_now_hampers r0_now_weights r0_refusals)) rfl (k_runV C hA hW mw_Har_waysAllIn mv_Har_waysAllIn (ct_11.2 _) [2, 3, 4, 5, 6, 7, 8, 9, 10, 11, 12, 13] rfl rfl 2 rfl rfl qm_H_306 ⟨Nat.le_of_ble_eq_true rfl, Nat.le_of_ble_eq_true rfl, Nat.zero_le _, Nat.zero_le _⟩ rfl rfl (Nat.le_of_ble_eq_true rfl) hl.1 d_H_wrong_68) (fun H locs hW => ?_)
            refine lv_iload_n hx hb d_H_wrong_71 rfl (lv_at hl 2 rfl) ?_
            refine lv_iload_n hx hb d_H_wrong_72 rfl (lv_at hl 1 rfl) ?_
            obtain ⟨q_12, hc_12, hr⟩ := ob hr
            have ct_12 := C_H_power l D cI cS x2 x1 q_12 hc_12
            refine k_goLp hA hW [] rfl rfl (k_runS C hA hW mw_H_power ms_H_power (ct_12.2 _) [] rfl rfl qm_H_310 ⟨Nat.le_of_ble_eq_true rfl, Nat.le_of_ble_eq_true rfl, Nat.zero_le _, Nat.zero_le _⟩ rfl rfl (Nat.le_of_ble_eq_true rfl) hl.1 d_H_wrong_73) (fun H locs hW => ?_)
            obtain ⟨q_13, hc_13, hr⟩ := ob hr
            have ct_13 := C_Frc_become l D cI cS a_r0_fraction r0_fraction_above r0_fraction_below q_11.1 q_12 q_13 hc_13
            refine k_goV hA hW [1] rfl ct_13.1 (ws' := (w_H_wrong cI a_r0 a_r0_fraction a_r0_harvest a_r0_harvest_fields a_r0_harvest_fields_lefts a_r0_harvest_fields_wishes a_r0_harvest_weathers a_r0_now a_r0_now_fields a_r0_now_fields_lefts a_r0_now_fields_wishes a_r0_now_goes a_r0_now_hampers a_r0_now_weights a_r0_refusals v_r0_kept v_r0_trial v_r0_hasKept v_r0_steps v_r0_letters v_r0_numbers v_r0_harvest_path v_r0_harvest_best v_r0_harvest_counted v_r0_harvest_atMost v_r0_harvest_most v_r0_harvest_lotsDone v_r0_harvest_lotsNone v_r0_now_kinds v_r0_now_figures v_r0_now_things v_r0_now_done q_13.1 q_13.2 q_11.2.1 q_11.2.2.1 q_11.2.2.2.1 q_11.2.2.2.2.1 q_11.2.2.2.2.2 r0_now_days r0_now_fields_lefts r0_now_fields_wishes r0_now_goes r0_now_hampers r0_now_weights r0_refusals)) rfl (k_runV C hA hW mw_Frc_become mv_Frc_become (ct_13.2 _) [1] rfl rfl 1 rfl rfl qm_H_222 ⟨Nat.le_of_ble_eq_true rfl, Nat.le_of_ble_eq_true rfl, Nat.zero_le _, Nat.zero_le _⟩ rfl rfl (Nat.le_of_ble_eq_true rfl) hl.1 d_H_wrong_76) (fun H locs hW => ?_)
            refine lv_aload_n hx hb d_H_wrong_79 rfl (lv_at hl 0 rfl) ?_
            refine k_get i_H C hW 0 rfl rfl 8 (by decide) qf_H_57 rfl rfl d_H_wrong_80 ?_
            refine lv_iload_n hx hb d_H_wrong_83 rfl (lv_at hl 3 rfl) ?_
            obtain ⟨q_14, hc_14, hr⟩ := ob hr
            have ct_14 := C_Frc_told l D cI cS a_r0_fraction q_13.1 q_13.2 x3 q_14 hc_14
            refine k_goLp hA hW [1] rfl rfl (k_runV C hA hW mw_Frc_told mv_Frc_told (ct_14.2 _) [1] rfl rfl 1 rfl rfl qm_H_225 ⟨Nat.le_of_ble_eq_true rfl, Nat.le_of_ble_eq_true rfl, Nat.zero_le _, Nat.zero_le _⟩ rfl rfl (Nat.le_of_ble_eq_true rfl) hl.1 d_H_wrong_84) (fun H locs hW => ?_)
            obtain rfl := Option.some.inj hr
            rw [hQ]; exact k_lret C hret hW d_H_wrong_87
          · replace hr := ip c_10 hr
            refine lv_aload_n hx hb d_H_wrong_47 rfl (lv_at hl 0 rfl) ?_
            refine lv_bipush (v := (-2)) hx hb d_H_wrong_48 (by decide) ?_
            obtain ⟨q_15, hc_15, hr⟩ := ob hr
            have ct_15 := C_H_refusedLong l D cI cS a_r0 a_r0_refusals (Value.ref a_r0_now) v_r0_kept v_r0_trial v_r0_hasKept v_r0_steps v_r0_letters v_r0_numbers (Value.ref a_r0_harvest) (Value.ref a_r0_fraction) r0_refusals (-2) q_15 hc_15
            refine k_goL hA hW [0, 14] rfl ct_15.1 (ws' := (w_H_wrong cI a_r0 a_r0_fraction a_r0_harvest a_r0_harvest_fields a_r0_harvest_fields_lefts a_r0_harvest_fields_wishes a_r0_harvest_weathers a_r0_now a_r0_now_fields a_r0_now_fields_lefts a_r0_now_fields_wishes a_r0_now_goes a_r0_now_hampers a_r0_now_weights a_r0_refusals v_r0_kept v_r0_trial v_r0_hasKept v_r0_steps v_r0_letters v_r0_numbers v_r0_harvest_path v_r0_harvest_best v_r0_harvest_counted v_r0_harvest_atMost v_r0_harvest_most v_r0_harvest_lotsDone v_r0_harvest_lotsNone v_r0_now_kinds v_r0_now_figures v_r0_now_things v_r0_now_done r0_fraction_above r0_fraction_below r0_harvest_days r0_harvest_oneIn r0_harvest_fields_lefts r0_harvest_fields_wishes r0_harvest_weathers r0_now_days r0_now_fields_lefts r0_now_fields_wishes r0_now_goes r0_now_hampers r0_now_weights q_15.2)) rfl (k_runV C hA hW mw_H_refusedLong mv_H_refusedLong (ct_15.2 _) [0, 14] rfl rfl 0 rfl rfl qm_H_208 ⟨Nat.le_of_ble_eq_true rfl, Nat.le_of_ble_eq_true rfl, Nat.zero_le _, Nat.zero_le _⟩ rfl rfl (Nat.le_of_ble_eq_true rfl) hl.1 d_H_wrong_50) (fun H locs hW => ?_)
            obtain rfl := Option.some.inj hr
            rw [hQ]; exact k_lret C hret hW d_H_wrong_53
        · replace hr := iN c_8 hr
          exact hJ_6 () hr _ _ _ hW (lv_sub hl [0] rfl)
    · replace hr := iN c_4 hr
      exact hJ_2 () hr _ _ _ hW (lv_sub hl [0] rfl)
def w_M_carry_kept (cI : ClassId) (a_r0 : Nat) (a_r0_kept : Nat) (v_r0_weights v_r0_things v_r0_kinds v_r0_figures v_r0_days v_r0_hampers v_r0_wants0 v_r0_left0 v_r0_done0 v_r0_thrown v_r0_refusals v_r0_letters v_r0_letterMany v_r0_at v_r0_isBad v_r0_statements v_r0_placeIn v_r0_letterOf v_r0_told v_r0_imaged v_r0_hasImage v_r0_turns0 v_r0_turnOf v_r0_turned v_r0_order0 v_r0_likely0 v_r0_leftThen v_r0_row v_r0_rowMany v_r0_seed : Value) (r0_isTaking : Int32) (r0_place0 : Int32) (r0_kept : Nat → Int32) : va_W := [(a_r0, .inr (9, [v_r0_weights, v_r0_things, v_r0_kinds, v_r0_figures, v_r0_days, v_r0_hampers, v_r0_wants0, v_r0_left0, v_r0_done0, v_r0_thrown, v_r0_refusals, v_r0_letters, v_r0_letterMany, v_r0_at, v_r0_isBad, v_r0_statements, v_r0_placeIn, v_r0_letterOf, v_r0_told, .ref a_r0_kept, v_r0_imaged, v_r0_hasImage, .int r0_place0, .int r0_isTaking, .ref a_r0_kept, v_r0_turns0, v_r0_turnOf, v_r0_turned, v_r0_order0, v_r0_likely0, v_r0_leftThen, v_r0_row, v_r0_rowMany, v_r0_seed])), (a_r0_kept, .inl (cI, 41, .inl r0_kept))]
def F_M_carry_kept_J17_2 (r0_place0 : Int32) (r0_kept_2 : Nat → Int32) : Option (Int32 × (Int32) × (Nat → Int32)) :=
  (ck ((r0_place0 + 1) - 1) 41 (some ((r0_kept_2 (Int32.toNatClampNeg ((r0_place0 + 1) - 1))), (r0_place0 + 1), r0_kept_2)))
def F_M_carry_kept (r0_isTaking : Int32) (r0_place0 : Int32) (r0_kept : Nat → Int32) (x1 : Int32) : Option (Int32 × (Int32) × (Nat → Int32)) :=
  (if r0_isTaking = 0 then (F_M_carry_kept_J17_2 r0_place0 r0_kept) else (ck r0_place0 41 (F_M_carry_kept_J17_2 r0_place0 (upd r0_kept (Int32.toNatClampNeg r0_place0) x1))))
set_option maxHeartbeats 4000000 in
set_option maxRecDepth 100000 in
theorem C_M_carry_kept (l : Launch) (D : va_G) (cI cS : ClassId) (a_r0 : Nat) (a_r0_kept : Nat) (v_r0_weights v_r0_things v_r0_kinds v_r0_figures v_r0_days v_r0_hampers v_r0_wants0 v_r0_left0 v_r0_done0 v_r0_thrown v_r0_refusals v_r0_letters v_r0_letterMany v_r0_at v_r0_isBad v_r0_statements v_r0_placeIn v_r0_letterOf v_r0_told v_r0_imaged v_r0_hasImage v_r0_turns0 v_r0_turnOf v_r0_turned v_r0_order0 v_r0_likely0 v_r0_leftThen v_r0_row v_r0_rowMany v_r0_seed : Value) (r0_isTaking : Int32) (r0_place0 : Int32) (r0_kept : Nat → Int32) (x1 : Int32) (o : Int32 × (Int32) × (Nat → Int32)) (hr : F_M_carry_kept r0_isTaking r0_place0 r0_kept x1 = some o) : ctI l y_M_carry (Cond.code y_M_carry b_M_carry 2 (some FieldType.int)) (rmd 0) D (kTy cI cS) [.ref a_r0, .int x1] (w_M_carry_kept cI a_r0 a_r0_kept v_r0_weights v_r0_things v_r0_kinds v_r0_figures v_r0_days v_r0_hampers v_r0_wants0 v_r0_left0 v_r0_done0 v_r0_thrown v_r0_refusals v_r0_letters v_r0_letterMany v_r0_at v_r0_isBad v_r0_statements v_r0_placeIn v_r0_letterOf v_r0_told v_r0_imaged v_r0_hasImage v_r0_turns0 v_r0_turnOf v_r0_turned v_r0_order0 v_r0_likely0 v_r0_leftThen v_r0_row v_r0_rowMany v_r0_seed r0_isTaking r0_place0 r0_kept) (w_M_carry_kept cI a_r0 a_r0_kept v_r0_weights v_r0_things v_r0_kinds v_r0_figures v_r0_days v_r0_hampers v_r0_wants0 v_r0_left0 v_r0_done0 v_r0_thrown v_r0_refusals v_r0_letters v_r0_letterMany v_r0_at v_r0_isBad v_r0_statements v_r0_placeIn v_r0_letterOf v_r0_told v_r0_imaged v_r0_hasImage v_r0_turns0 v_r0_turnOf v_r0_turned v_r0_order0 v_r0_likely0 v_r0_leftThen v_r0_row v_r0_rowMany v_r0_seed r0_isTaking o.2.1 o.2.2) o.1 := by
  unfold F_M_carry_kept at hr
  refine ⟨rfl, fun sz => ct_of (w0 := (w_M_carry_kept cI a_r0 a_r0_kept v_r0_weights v_r0_things v_r0_kinds v_r0_figures v_r0_days v_r0_hampers v_r0_wants0 v_r0_left0 v_r0_done0 v_r0_thrown v_r0_refusals v_r0_letters v_r0_letterMany v_r0_at v_r0_isBad v_r0_statements v_r0_placeIn v_r0_letterOf v_r0_told v_r0_imaged v_r0_hasImage v_r0_turns0 v_r0_turnOf v_r0_turned v_r0_order0 v_r0_likely0 v_r0_leftThen v_r0_row v_r0_rowMany v_r0_seed r0_isTaking r0_place0 r0_kept)) (Qc := fun A => qI D (w_M_carry_kept cI a_r0 a_r0_kept v_r0_weights v_r0_things v_r0_kinds v_r0_figures v_r0_days v_r0_hampers v_r0_wants0 v_r0_left0 v_r0_done0 v_r0_thrown v_r0_refusals v_r0_letters v_r0_letterMany v_r0_at v_r0_isBad v_r0_statements v_r0_placeIn v_r0_letterOf v_r0_told v_r0_imaged v_r0_hasImage v_r0_turns0 v_r0_turnOf v_r0_turned v_r0_order0 v_r0_likely0 v_r0_leftThen v_r0_row v_r0_rowMany v_r0_seed r0_isTaking o.2.1 o.2.2) o.1 A) rfl (Nat.le_of_ble_eq_true rfl) ?_ sz⟩
  intro p e s m below meth c A hA C hret ls hl hW
  have C : cx p s m ([.ref a_r0, .int x1] : List Value).toArray meth c b_M_carry 2 R_M D (kTy cI cS) (Cond.code y_M_carry b_M_carry 2 (some FieldType.int)) := C
  obtain ⟨hx, hb, hml, hown, hts, hK, hlk, hN⟩ := id C
  have hl : lv_has ls 2 [(0, .ref a_r0), (1, .int x1)] := hl
  obtain ⟨Q, hQ⟩ : ∃ Q, Q = MQ below (qI D (w_M_carry_kept cI a_r0 a_r0_kept v_r0_weights v_r0_things v_r0_kinds v_r0_figures v_r0_days v_r0_hampers v_r0_wants0 v_r0_left0 v_r0_done0 v_r0_thrown v_r0_refusals v_r0_letters v_r0_letterMany v_r0_at v_r0_isBad v_r0_statements v_r0_placeIn v_r0_letterOf v_r0_told v_r0_imaged v_r0_hasImage v_r0_turns0 v_r0_turnOf v_r0_turned v_r0_order0 v_r0_likely0 v_r0_leftThen v_r0_row v_r0_rowMany v_r0_seed r0_isTaking o.2.1 o.2.2) o.1 A) ([.ref a_r0, .int x1] : List Value).toArray s 0 0 A := ⟨_, rfl⟩
  rw [← hQ]
  refine lv_aload_n hx hb d_M_carry_0 rfl (lv_at hl 0 rfl) ?_
  refine k_get i_M C hW 0 rfl rfl 23 (by decide) qf_M_177 rfl rfl d_M_carry_1 ?_
  have hJ_2 : ∀ (r0_kept_2 : Nat → Int32), F_M_carry_kept_J17_2 r0_place0 r0_kept_2 = some o → ∀ (H : Heap) (locs : List Loc) (ls : Array Slot), wd A s.heap D (w_M_carry_kept cI a_r0 a_r0_kept v_r0_weights v_r0_things v_r0_kinds v_r0_figures v_r0_days v_r0_hampers v_r0_wants0 v_r0_left0 v_r0_done0 v_r0_thrown v_r0_refusals v_r0_letters v_r0_letterMany v_r0_at v_r0_isBad v_r0_statements v_r0_placeIn v_r0_letterOf v_r0_told v_r0_imaged v_r0_hasImage v_r0_turns0 v_r0_turnOf v_r0_turned v_r0_order0 v_r0_likely0 v_r0_leftThen v_r0_row v_r0_rowMany v_r0_seed r0_isTaking r0_place0 r0_kept_2) H locs → lv_has ls 2 [(0, .ref a_r0)] → W p l e (rmd 0) s m ([.ref a_r0, .int x1] : List Value).toArray below meth c H locs 0 0 Q (F0 m 17 ls []) := by
    intro r0_kept_2 hr H locs ls hW hl
    unfold F_M_carry_kept_J17_2 at hr
    refine lv_aload_n hx hb d_M_carry_17 rfl (lv_at hl 0 rfl) ?_
    refine lv_dup hx hb d_M_carry_18 rfl ?_
    refine k_get i_M C hW 0 rfl rfl 22 (by decide) qf_M_183 rfl rfl d_M_carry_19 ?_
    refine lv_iconst (v := 1) hx hb d_M_carry_22 (by decide) ?_
    refine lv_iadd hx hb d_M_carry_23 ?_
    refine k_put i_M t_M_ok n_M C hW 0 rfl rfl 22 (by decide) qf_M_183 rfl rfl (ty := .int) rfl rfl rfl (Nat.le_of_ble_eq_true rfl) (ws' := (w_M_carry_kept cI a_r0 a_r0_kept v_r0_weights v_r0_things v_r0_kinds v_r0_figures v_r0_days v_r0_hampers v_r0_wants0 v_r0_left0 v_r0_done0 v_r0_thrown v_r0_refusals v_r0_letters v_r0_letterMany v_r0_at v_r0_isBad v_r0_statements v_r0_placeIn v_r0_letterOf v_r0_told v_r0_imaged v_r0_hasImage v_r0_turns0 v_r0_turnOf v_r0_turned v_r0_order0 v_r0_likely0 v_r0_leftThen v_r0_row v_r0_rowMany v_r0_seed r0_isTaking (r0_place0 + 1) r0_kept_2)) rfl d_M_carry_24 (fun H locs hW => ?_)
    refine lv_aload_n hx hb d_M_carry_27 rfl (lv_at hl 0 rfl) ?_
    refine k_get i_M C hW 0 rfl rfl 24 (by decide) qf_M_180 rfl rfl d_M_carry_28 ?_
    refine lv_aload_n hx hb d_M_carry_31 rfl (lv_at hl 0 rfl) ?_
    refine k_get i_M C hW 0 rfl rfl 22 (by decide) qf_M_183 rfl rfl d_M_carry_32 ?_
    refine lv_iconst (v := 1) hx hb d_M_carry_35 (by decide) ?_
    refine lv_isub hx hb d_M_carry_36 ?_
    obtain ⟨h_3, hr⟩ := ck_some hr
    refine k_iald C hW 1 rfl h_3 d_M_carry_37 ?_
    obtain rfl := Option.some.inj hr
    rw [hQ]; exact k_iret C hret hW d_M_carry_38
  refine lv_if_eq (tgt := 17) hx hb d_M_carry_4 (by decide) (fun c_1 => ?_) (fun c_1 => ?_)
  · replace hr := ip c_1 hr
    exact hJ_2 r0_kept hr _ _ _ hW (lv_sub hl [0] rfl)
  · replace hr := iN c_1 hr
    refine lv_aload_n hx hb d_M_carry_7 rfl (lv_at hl 0 rfl) ?_
    refine k_get i_M C hW 0 rfl rfl 24 (by decide) qf_M_180 rfl rfl d_M_carry_8 ?_
    refine lv_aload_n hx hb d_M_carry_11 rfl (lv_at hl 0 rfl) ?_
    refine k_get i_M C hW 0 rfl rfl 22 (by decide) qf_M_183 rfl rfl d_M_carry_12 ?_
    refine lv_iload_n hx hb d_M_carry_15 rfl (lv_at hl 1 rfl) ?_
    obtain ⟨h_4, hr⟩ := ck_some hr
    refine k_iast C hW 1 rfl h_4 (ws' := (w_M_carry_kept cI a_r0 a_r0_kept v_r0_weights v_r0_things v_r0_kinds v_r0_figures v_r0_days v_r0_hampers v_r0_wants0 v_r0_left0 v_r0_done0 v_r0_thrown v_r0_refusals v_r0_letters v_r0_letterMany v_r0_at v_r0_isBad v_r0_statements v_r0_placeIn v_r0_letterOf v_r0_told v_r0_imaged v_r0_hasImage v_r0_turns0 v_r0_turnOf v_r0_turned v_r0_order0 v_r0_likely0 v_r0_leftThen v_r0_row v_r0_rowMany v_r0_seed r0_isTaking r0_place0 (upd r0_kept (Int32.toNatClampNeg r0_place0) x1))) rfl d_M_carry_16 (fun H locs hW => ?_)
    exact hJ_2 (upd r0_kept (Int32.toNatClampNeg r0_place0) x1) hr _ _ _ hW (lv_sub hl [0] rfl)
def w_M_carryAll_kept (cI : ClassId) (a_r0 : Nat) (a_r0_figures : Nat) (a_r0_hampers : Nat) (a_r0_kept : Nat) (a_r0_kinds : Nat) (a_r0_left0 : Nat) (a_r0_wants0 : Nat) (a_r0_weights : Nat) (v_r0_thrown v_r0_refusals v_r0_letters v_r0_letterMany v_r0_at v_r0_isBad v_r0_statements v_r0_placeIn v_r0_letterOf v_r0_told v_r0_imaged v_r0_hasImage v_r0_keptIn v_r0_turns0 v_r0_turnOf v_r0_turned v_r0_order0 v_r0_likely0 v_r0_leftThen v_r0_row v_r0_rowMany v_r0_seed : Value) (r0_days : Int32) (r0_done0 : Int32) (r0_isTaking : Int32) (r0_place0 : Int32) (r0_things : Int32) (r0_figures : Nat → Int32) (r0_hampers : Nat → Int32) (r0_kept : Nat → Int32) (r0_kinds : Nat → Int32) (r0_left0 : Nat → Int32) (r0_wants0 : Nat → Int32) (r0_weights : Nat → Int32) : va_W := [(a_r0, .inr (9, [.ref a_r0_weights, .int r0_things, .ref a_r0_kinds, .ref a_r0_figures, .int r0_days, .ref a_r0_hampers, .ref a_r0_wants0, .ref a_r0_left0, .int r0_done0, v_r0_thrown, v_r0_refusals, v_r0_letters, v_r0_letterMany, v_r0_at, v_r0_isBad, v_r0_statements, v_r0_placeIn, v_r0_letterOf, v_r0_told, .ref a_r0_kept, v_r0_imaged, v_r0_hasImage, .int r0_place0, .int r0_isTaking, v_r0_keptIn, v_r0_turns0, v_r0_turnOf, v_r0_turned, v_r0_order0, v_r0_likely0, v_r0_leftThen, v_r0_row, v_r0_rowMany, v_r0_seed])), (a_r0_figures, .inl (cI, 8, .inl r0_figures)), (a_r0_hampers, .inl (cI, 8, .inl r0_hampers)), (a_r0_kept, .inl (cI, 41, .inl r0_kept)), (a_r0_kinds, .inl (cI, 8, .inl r0_kinds)), (a_r0_left0, .inl (cI, 4, .inl r0_left0)), (a_r0_wants0, .inl (cI, 4, .inl r0_wants0)), (a_r0_weights, .inl (cI, 6, .inl r0_weights))]
def F_M_carryAll_kept_L53 (x2 : Int32) (y3_5 : Int32) (r0_place0_5 : Int32) (r0_kept_5 : Nat → Int32) (r0_weights_5 : Nat → Int32) : Option (((Int32) × (Int32) × (Nat → Int32) × (Nat → Int32)) ⊕ ((Int32) × (Nat → Int32) × (Nat → Int32))) :=
  (if (6 : Int32) ≤ y3_5 then (some (.inr (r0_place0_5, r0_kept_5, r0_weights_5))) else (ck y3_5 6 ((F_M_carry_kept x2 r0_place0_5 r0_kept_5 (r0_weights_5 (Int32.toNatClampNeg y3_5))).bind (fun q_8 => (ck y3_5 6 (some (.inl ((y3_5 + 1), q_8.2.1, q_8.2.2, (upd r0_weights_5 (Int32.toNatClampNeg y3_5) q_8.1)))))))))
def F_M_carryAll_kept_L83 (x2 : Int32) (y3_10 : Int32) (r0_place0_10 : Int32) (r0_figures_10 : Nat → Int32) (r0_hampers_10 : Nat → Int32) (r0_kept_10 : Nat → Int32) (r0_kinds_10 : Nat → Int32) : Option (((Int32) × (Int32) × (Nat → Int32) × (Nat → Int32) × (Nat → Int32) × (Nat → Int32)) ⊕ ((Int32) × (Nat → Int32) × (Nat → Int32) × (Nat → Int32) × (Nat → Int32))) :=
  (if (8 : Int32) ≤ y3_10 then (some (.inr (r0_place0_10, r0_figures_10, r0_hampers_10, r0_kept_10, r0_kinds_10))) else (ck y3_10 8 ((F_M_carry_kept x2 r0_place0_10 r0_kept_10 (r0_kinds_10 (Int32.toNatClampNeg y3_10))).bind (fun q_13 => (ck y3_10 8 (ck y3_10 8 ((F_M_carry_kept x2 q_13.2.1 q_13.2.2 (r0_figures_10 (Int32.toNatClampNeg y3_10))).bind (fun q_16 => (ck y3_10 8 (ck y3_10 8 ((F_M_carry_kept x2 q_16.2.1 q_16.2.2 (r0_hampers_10 (Int32.toNatClampNeg y3_10))).bind (fun q_19 => (ck y3_10 8 (some (.inl ((y3_10 + 1), q_19.2.1, (upd r0_figures_10 (Int32.toNatClampNeg y3_10) q_16.1), (upd r0_hampers_10 (Int32.toNatClampNeg y3_10) q_19.1), q_19.2.2, (upd r0_kinds_10 (Int32.toNatClampNeg y3_10) q_13.1)))))))))))))))))
def F_M_carryAll_kept_L145 (x2 : Int32) (y3_21 : Int32) (r0_place0_21 : Int32) (r0_kept_21 : Nat → Int32) (r0_left0_21 : Nat → Int32) (r0_wants0_21 : Nat → Int32) : Option (((Int32) × (Int32) × (Nat → Int32) × (Nat → Int32) × (Nat → Int32)) ⊕ ((Int32) × (Nat → Int32) × (Nat → Int32) × (Nat → Int32))) :=
  (if (4 : Int32) ≤ y3_21 then (some (.inr (r0_place0_21, r0_kept_21, r0_left0_21, r0_wants0_21))) else (ck y3_21 4 ((F_M_carry_kept x2 r0_place0_21 r0_kept_21 (r0_wants0_21 (Int32.toNatClampNeg y3_21))).bind (fun q_24 => (ck y3_21 4 (ck y3_21 4 ((F_M_carry_kept x2 q_24.2.1 q_24.2.2 (r0_left0_21 (Int32.toNatClampNeg y3_21))).bind (fun q_27 => (ck y3_21 4 (some (.inl ((y3_21 + 1), q_27.2.1, q_27.2.2, (upd r0_left0_21 (Int32.toNatClampNeg y3_21) q_27.1), (upd r0_wants0_21 (Int32.toNatClampNeg y3_21) q_24.1)))))))))))))
def F_M_carryAll_kept (r0_days : Int32) (r0_done0 : Int32) (r0_things : Int32) (r0_figures : Nat → Int32) (r0_hampers : Nat → Int32) (r0_kept : Nat → Int32) (r0_kinds : Nat → Int32) (r0_left0 : Nat → Int32) (r0_wants0 : Nat → Int32) (r0_weights : Nat → Int32) (x2 : Int32) : Option ((Int32) × (Int32) × (Int32) × (Int32) × (Int32) × (Nat → Int32) × (Nat → Int32) × (Nat → Int32) × (Nat → Int32) × (Nat → Int32) × (Nat → Int32) × (Nat → Int32)) :=
  (ckz x2 ((F_M_carry_kept x2 0 r0_kept r0_things).bind (fun q_2 => ((F_M_carry_kept x2 q_2.2.1 q_2.2.2 r0_days).bind (fun q_3 => ((F_M_carry_kept x2 q_3.2.1 q_3.2.2 r0_done0).bind (fun q_4 => ((wh (fun (s : (Int32) × (Int32) × (Nat → Int32) × (Nat → Int32)) => F_M_carryAll_kept_L53 x2 s.1 s.2.1 s.2.2.1 s.2.2.2) 400 ((0 : Int32), q_4.2.1, q_4.2.2, r0_weights)).bind (fun e_5 => ((wh (fun (s : (Int32) × (Int32) × (Nat → Int32) × (Nat → Int32) × (Nat → Int32) × (Nat → Int32)) => F_M_carryAll_kept_L83 x2 s.1 s.2.1 s.2.2.1 s.2.2.2.1 s.2.2.2.2.1 s.2.2.2.2.2) 400 ((0 : Int32), e_5.1, r0_figures, r0_hampers, e_5.2.1, r0_kinds)).bind (fun e_10 => ((wh (fun (s : (Int32) × (Int32) × (Nat → Int32) × (Nat → Int32) × (Nat → Int32)) => F_M_carryAll_kept_L145 x2 s.1 s.2.1 s.2.2.1 s.2.2.2.1 s.2.2.2.2) 400 ((0 : Int32), e_10.1, e_10.2.2.2.1, r0_left0, r0_wants0)).bind (fun e_21 => (some (q_3.1, q_4.1, x2, e_21.1, q_2.1, e_10.2.1, e_10.2.2.1, e_21.2.1, e_10.2.2.2.2, e_21.2.2.1, e_21.2.2.2, e_5.2.2)))))))))))))))
set_option maxHeartbeats 4000000 in
set_option maxRecDepth 100000 in
theorem C_M_carryAll_kept (l : Launch) (D : va_G) (cI cS : ClassId) (a_r0 : Nat) (a_r0_figures : Nat) (a_r0_hampers : Nat) (a_r0_kept : Nat) (a_r0_kinds : Nat) (a_r0_left0 : Nat) (a_r0_wants0 : Nat) (a_r0_weights : Nat) (v_r0_thrown v_r0_refusals v_r0_letters v_r0_letterMany v_r0_at v_r0_isBad v_r0_statements v_r0_placeIn v_r0_letterOf v_r0_told v_r0_imaged v_r0_hasImage v_r0_keptIn v_r0_turns0 v_r0_turnOf v_r0_turned v_r0_order0 v_r0_likely0 v_r0_leftThen v_r0_row v_r0_rowMany v_r0_seed : Value) (kf : Value) (hkf : kf = .ref a_r0_kept) (r0_days : Int32) (r0_done0 : Int32) (r0_isTaking : Int32) (r0_place0 : Int32) (r0_things : Int32) (r0_figures : Nat → Int32) (r0_hampers : Nat → Int32) (r0_kept : Nat → Int32) (r0_kinds : Nat → Int32) (r0_left0 : Nat → Int32) (r0_wants0 : Nat → Int32) (r0_weights : Nat → Int32) (x2 : Int32) (o : (Int32) × (Int32) × (Int32) × (Int32) × (Int32) × (Nat → Int32) × (Nat → Int32) × (Nat → Int32) × (Nat → Int32) × (Nat → Int32) × (Nat → Int32) × (Nat → Int32)) (hr : F_M_carryAll_kept r0_days r0_done0 r0_things r0_figures r0_hampers r0_kept r0_kinds r0_left0 r0_wants0 r0_weights x2 = some o) : ctV l y_M_carryAll (Cond.code y_M_carryAll b_M_carryAll 4 none) (rmd 1) D (kTy cI cS) [.ref a_r0, .ref a_r0_kept, .int x2] (w_M_carryAll_kept cI a_r0 a_r0_figures a_r0_hampers a_r0_kept a_r0_kinds a_r0_left0 a_r0_wants0 a_r0_weights v_r0_thrown v_r0_refusals v_r0_letters v_r0_letterMany v_r0_at v_r0_isBad v_r0_statements v_r0_placeIn v_r0_letterOf v_r0_told v_r0_imaged v_r0_hasImage v_r0_keptIn v_r0_turns0 v_r0_turnOf v_r0_turned v_r0_order0 v_r0_likely0 v_r0_leftThen v_r0_row v_r0_rowMany v_r0_seed r0_days r0_done0 r0_isTaking r0_place0 r0_things r0_figures r0_hampers r0_kept r0_kinds r0_left0 r0_wants0 r0_weights) (w_M_carryAll_kept cI a_r0 a_r0_figures a_r0_hampers a_r0_kept a_r0_kinds a_r0_left0 a_r0_wants0 a_r0_weights v_r0_thrown v_r0_refusals v_r0_letters v_r0_letterMany v_r0_at v_r0_isBad v_r0_statements v_r0_placeIn v_r0_letterOf v_r0_told v_r0_imaged v_r0_hasImage kf v_r0_turns0 v_r0_turnOf v_r0_turned v_r0_order0 v_r0_likely0 v_r0_leftThen v_r0_row v_r0_rowMany v_r0_seed o.1 o.2.1 o.2.2.1 o.2.2.2.1 o.2.2.2.2.1 o.2.2.2.2.2.1 o.2.2.2.2.2.2.1 o.2.2.2.2.2.2.2.1 o.2.2.2.2.2.2.2.2.1 o.2.2.2.2.2.2.2.2.2.1 o.2.2.2.2.2.2.2.2.2.2.1 o.2.2.2.2.2.2.2.2.2.2.2) := by
  unfold F_M_carryAll_kept at hr
  subst hkf
  refine ⟨rfl, fun sz => ct_of (w0 := (w_M_carryAll_kept cI a_r0 a_r0_figures a_r0_hampers a_r0_kept a_r0_kinds a_r0_left0 a_r0_wants0 a_r0_weights v_r0_thrown v_r0_refusals v_r0_letters v_r0_letterMany v_r0_at v_r0_isBad v_r0_statements v_r0_placeIn v_r0_letterOf v_r0_told v_r0_imaged v_r0_hasImage v_r0_keptIn v_r0_turns0 v_r0_turnOf v_r0_turned v_r0_order0 v_r0_likely0 v_r0_leftThen v_r0_row v_r0_rowMany v_r0_seed r0_days r0_done0 r0_isTaking r0_place0 r0_things r0_figures r0_hampers r0_kept r0_kinds r0_left0 r0_wants0 r0_weights)) (Qc := fun A => qV D (w_M_carryAll_kept cI a_r0 a_r0_figures a_r0_hampers a_r0_kept a_r0_kinds a_r0_left0 a_r0_wants0 a_r0_weights v_r0_thrown v_r0_refusals v_r0_letters v_r0_letterMany v_r0_at v_r0_isBad v_r0_statements v_r0_placeIn v_r0_letterOf v_r0_told v_r0_imaged v_r0_hasImage (.ref a_r0_kept) v_r0_turns0 v_r0_turnOf v_r0_turned v_r0_order0 v_r0_likely0 v_r0_leftThen v_r0_row v_r0_rowMany v_r0_seed o.1 o.2.1 o.2.2.1 o.2.2.2.1 o.2.2.2.2.1 o.2.2.2.2.2.1 o.2.2.2.2.2.2.1 o.2.2.2.2.2.2.2.1 o.2.2.2.2.2.2.2.2.1 o.2.2.2.2.2.2.2.2.2.1 o.2.2.2.2.2.2.2.2.2.2.1 o.2.2.2.2.2.2.2.2.2.2.2) A) rfl (Nat.le_of_ble_eq_true rfl) ?_ sz⟩
  intro p e s m below meth c A hA C hret ls hl hW
  have C : cx p s m ([.ref a_r0, .ref a_r0_kept, .int x2] : List Value).toArray meth c b_M_carryAll 4 R_M D (kTy cI cS) (Cond.code y_M_carryAll b_M_carryAll 4 none) := C
  obtain ⟨hx, hb, hml, hown, hts, hK, hlk, hN⟩ := id C
  have hl : lv_has ls 4 [(0, .ref a_r0), (1, .ref a_r0_kept), (2, .int x2)] := hl
  obtain ⟨Q, hQ⟩ : ∃ Q, Q = MQ below (qV D (w_M_carryAll_kept cI a_r0 a_r0_figures a_r0_hampers a_r0_kept a_r0_kinds a_r0_left0 a_r0_wants0 a_r0_weights v_r0_thrown v_r0_refusals v_r0_letters v_r0_letterMany v_r0_at v_r0_isBad v_r0_statements v_r0_placeIn v_r0_letterOf v_r0_told v_r0_imaged v_r0_hasImage (.ref a_r0_kept) v_r0_turns0 v_r0_turnOf v_r0_turned v_r0_order0 v_r0_likely0 v_r0_leftThen v_r0_row v_r0_rowMany v_r0_seed o.1 o.2.1 o.2.2.1 o.2.2.2.1 o.2.2.2.2.1 o.2.2.2.2.2.1 o.2.2.2.2.2.2.1 o.2.2.2.2.2.2.2.1 o.2.2.2.2.2.2.2.2.1 o.2.2.2.2.2.2.2.2.2.1 o.2.2.2.2.2.2.2.2.2.2.1 o.2.2.2.2.2.2.2.2.2.2.2) A) ([.ref a_r0, .ref a_r0_kept, .int x2] : List Value).toArray s 0 0 A := ⟨_, rfl⟩
  rw [← hQ]
  refine lv_aload_n hx hb d_M_carryAll_0 rfl (lv_at hl 0 rfl) ?_
  refine lv_aload_n hx hb d_M_carryAll_1 rfl (lv_at hl 1 rfl) ?_
  refine k_put i_M t_M_ok n_M C hW 0 rfl rfl 24 (by decide) qf_M_180 rfl rfl (ty := .array .int) rfl rfl rfl (Nat.le_of_ble_eq_true rfl) (ws' := (w_M_carryAll_kept cI a_r0 a_r0_figures a_r0_hampers a_r0_kept a_r0_kinds a_r0_left0 a_r0_wants0 a_r0_weights v_r0_thrown v_r0_refusals v_r0_letters v_r0_letterMany v_r0_at v_r0_isBad v_r0_statements v_r0_placeIn v_r0_letterOf v_r0_told v_r0_imaged v_r0_hasImage (.ref a_r0_kept) v_r0_turns0 v_r0_turnOf v_r0_turned v_r0_order0 v_r0_likely0 v_r0_leftThen v_r0_row v_r0_rowMany v_r0_seed r0_days r0_done0 r0_isTaking r0_place0 r0_things r0_figures r0_hampers r0_kept r0_kinds r0_left0 r0_wants0 r0_weights)) rfl d_M_carryAll_2 (fun H locs hW => ?_)
  refine lv_aload_n hx hb d_M_carryAll_5 rfl (lv_at hl 0 rfl) ?_
  refine lv_iload_n hx hb d_M_carryAll_6 rfl (lv_at hl 2 rfl) ?_
  obtain ⟨h_1, hf_1, hr⟩ := ckz_some hr
  refine k_put i_M t_M_ok n_M C hW 0 rfl rfl 23 (by decide) qf_M_177 rfl rfl (ty := .boolean) rfl h_1 hf_1 (Nat.le_of_ble_eq_true rfl) (ws' := (w_M_carryAll_kept cI a_r0 a_r0_figures a_r0_hampers a_r0_kept a_r0_kinds a_r0_left0 a_r0_wants0 a_r0_weights v_r0_thrown v_r0_refusals v_r0_letters v_r0_letterMany v_r0_at v_r0_isBad v_r0_statements v_r0_placeIn v_r0_letterOf v_r0_told v_r0_imaged v_r0_hasImage (.ref a_r0_kept) v_r0_turns0 v_r0_turnOf v_r0_turned v_r0_order0 v_r0_likely0 v_r0_leftThen v_r0_row v_r0_rowMany v_r0_seed r0_days r0_done0 x2 r0_place0 r0_things r0_figures r0_hampers r0_kept r0_kinds r0_left0 r0_wants0 r0_weights)) rfl d_M_carryAll_7 (fun H locs hW => ?_)
  refine lv_aload_n hx hb d_M_carryAll_10 rfl (lv_at hl 0 rfl) ?_
  refine lv_iconst (v := 0) hx hb d_M_carryAll_11 (by decide) ?_
  refine k_put i_M t_M_ok n_M C hW 0 rfl rfl 22 (by decide) qf_M_183 rfl rfl (ty := .int) rfl rfl rfl (Nat.le_of_ble_eq_true rfl) (ws' := (w_M_carryAll_kept cI a_r0 a_r0_figures a_r0_hampers a_r0_kept a_r0_kinds a_r0_left0 a_r0_wants0 a_r0_weights v_r0_thrown v_r0_refusals v_r0_letters v_r0_letterMany v_r0_at v_r0_isBad v_r0_statements v_r0_placeIn v_r0_letterOf v_r0_told v_r0_imaged v_r0_hasImage (.ref a_r0_kept) v_r0_turns0 v_r0_turnOf v_r0_turned v_r0_order0 v_r0_likely0 v_r0_leftThen v_r0_row v_r0_rowMany v_r0_seed r0_days r0_done0 x2 0 r0_things r0_figures r0_hampers r0_kept r0_kinds r0_left0 r0_wants0 r0_weights)) rfl d_M_carryAll_12 (fun H locs hW => ?_)
  refine lv_aload_n hx hb d_M_carryAll_15 rfl (lv_at hl 0 rfl) ?_
  refine lv_aload_n hx hb d_M_carryAll_16 rfl (lv_at hl 0 rfl) ?_
  refine lv_aload_n hx hb d_M_carryAll_17 rfl (lv_at hl 0 rfl) ?_
  refine k_get i_M C hW 0 rfl rfl 1 (by decide) qf_M_71 rfl rfl d_M_carryAll_18 ?_
  obtain ⟨q_2, hc_2, hr⟩ := ob hr
  have ct_2 := C_M_carry_kept l D cI cS a_r0 a_r0_kept (Value.ref a_r0_weights) (Value.int r0_things) (Value.ref a_r0_kinds) (Value.ref a_r0_figures) (Value.int r0_days) (Value.ref a_r0_hampers) (Value.ref a_r0_wants0) (Value.ref a_r0_left0) (Value.int r0_done0) v_r0_thrown v_r0_refusals v_r0_letters v_r0_letterMany v_r0_at v_r0_isBad v_r0_statements v_r0_placeIn v_r0_letterOf v_r0_told v_r0_imaged v_r0_hasImage v_r0_turns0 v_r0_turnOf v_r0_turned v_r0_order0 v_r0_likely0 v_r0_leftThen v_r0_row v_r0_rowMany v_r0_seed x2 0 r0_kept r0_things q_2 hc_2
  refine k_goI hA hW [0, 3] rfl ct_2.1 (ws' := (w_M_carryAll_kept cI a_r0 a_r0_figures a_r0_hampers a_r0_kept a_r0_kinds a_r0_left0 a_r0_wants0 a_r0_weights v_r0_thrown v_r0_refusals v_r0_letters v_r0_letterMany v_r0_at v_r0_isBad v_r0_statements v_r0_placeIn v_r0_letterOf v_r0_told v_r0_imaged v_r0_hasImage (.ref a_r0_kept) v_r0_turns0 v_r0_turnOf v_r0_turned v_r0_order0 v_r0_likely0 v_r0_leftThen v_r0_row v_r0_rowMany v_r0_seed r0_days r0_done0 x2 q_2.2.1 r0_things r0_figures r0_hampers q_2.2.2 r0_kinds r0_left0 r0_wants0 r0_weights)) rfl (k_runV C hA hW mw_M_carry mv_M_carry (ct_2.2 _) [0, 3] rfl rfl 0 rfl rfl qm_M_186 ⟨Nat.le_of_ble_eq_true rfl, Nat.le_of_ble_eq_true rfl, Nat.zero_le _, Nat.zero_le _⟩ rfl rfl (Nat.le_of_ble_eq_true rfl) hl.1 d_M_carryAll_21) (fun H locs hW => ?_)
  refine k_put i_M t_M_ok n_M C hW 0 rfl rfl 1 (by decide) qf_M_71 rfl rfl (ty := .int) rfl rfl rfl (Nat.le_of_ble_eq_true rfl) (ws' := (w_M_carryAll_kept cI a_r0 a_r0_figures a_r0_hampers a_r0_kept a_r0_kinds a_r0_left0 a_r0_wants0 a_r0_weights v_r0_thrown v_r0_refusals v_r0_letters v_r0_letterMany v_r0_at v_r0_isBad v_r0_statements v_r0_placeIn v_r0_letterOf v_r0_told v_r0_imaged v_r0_hasImage (.ref a_r0_kept) v_r0_turns0 v_r0_turnOf v_r0_turned v_r0_order0 v_r0_likely0 v_r0_leftThen v_r0_row v_r0_rowMany v_r0_seed r0_days r0_done0 x2 q_2.2.1 q_2.1 r0_figures r0_hampers q_2.2.2 r0_kinds r0_left0 r0_wants0 r0_weights)) rfl d_M_carryAll_24 (fun H locs hW => ?_)
  refine lv_aload_n hx hb d_M_carryAll_27 rfl (lv_at hl 0 rfl) ?_
  refine lv_aload_n hx hb d_M_carryAll_28 rfl (lv_at hl 0 rfl) ?_
  refine lv_aload_n hx hb d_M_carryAll_29 rfl (lv_at hl 0 rfl) ?_
  refine k_get i_M C hW 0 rfl rfl 4 (by decide) qf_M_78 rfl rfl d_M_carryAll_30 ?_
  obtain ⟨q_3, hc_3, hr⟩ := ob hr
  have ct_3 := C_M_carry_kept l D cI cS a_r0 a_r0_kept (Value.ref a_r0_weights) (Value.int q_2.1) (Value.ref a_r0_kinds) (Value.ref a_r0_figures) (Value.int r0_days) (Value.ref a_r0_hampers) (Value.ref a_r0_wants0) (Value.ref a_r0_left0) (Value.int r0_done0) v_r0_thrown v_r0_refusals v_r0_letters v_r0_letterMany v_r0_at v_r0_isBad v_r0_statements v_r0_placeIn v_r0_letterOf v_r0_told v_r0_imaged v_r0_hasImage v_r0_turns0 v_r0_turnOf v_r0_turned v_r0_order0 v_r0_likely0 v_r0_leftThen v_r0_row v_r0_rowMany v_r0_seed x2 q_2.2.1 q_2.2.2 r0_days q_3 hc_3
  refine k_goI hA hW [0, 3] rfl ct_3.1 (ws' := (w_M_carryAll_kept cI a_r0 a_r0_figures a_r0_hampers a_r0_kept a_r0_kinds a_r0_left0 a_r0_wants0 a_r0_weights v_r0_thrown v_r0_refusals v_r0_letters v_r0_letterMany v_r0_at v_r0_isBad v_r0_statements v_r0_placeIn v_r0_letterOf v_r0_told v_r0_imaged v_r0_hasImage (.ref a_r0_kept) v_r0_turns0 v_r0_turnOf v_r0_turned v_r0_order0 v_r0_likely0 v_r0_leftThen v_r0_row v_r0_rowMany v_r0_seed r0_days r0_done0 x2 q_3.2.1 q_2.1 r0_figures r0_hampers q_3.2.2 r0_kinds r0_left0 r0_wants0 r0_weights)) rfl (k_runV C hA hW mw_M_carry mv_M_carry (ct_3.2 _) [0, 3] rfl rfl 0 rfl rfl qm_M_186 ⟨Nat.le_of_ble_eq_true rfl, Nat.le_of_ble_eq_true rfl, Nat.zero_le _, Nat.zero_le _⟩ rfl rfl (Nat.le_of_ble_eq_true rfl) hl.1 d_M_carryAll_33) (fun H locs hW => ?_)
  refine k_put i_M t_M_ok n_M C hW 0 rfl rfl 4 (by decide) qf_M_78 rfl rfl (ty := .int) rfl rfl rfl (Nat.le_of_ble_eq_true rfl) (ws' := (w_M_carryAll_kept cI a_r0 a_r0_figures a_r0_hampers a_r0_kept a_r0_kinds a_r0_left0 a_r0_wants0 a_r0_weights v_r0_thrown v_r0_refusals v_r0_letters v_r0_letterMany v_r0_at v_r0_isBad v_r0_statements v_r0_placeIn v_r0_letterOf v_r0_told v_r0_imaged v_r0_hasImage (.ref a_r0_kept) v_r0_turns0 v_r0_turnOf v_r0_turned v_r0_order0 v_r0_likely0 v_r0_leftThen v_r0_row v_r0_rowMany v_r0_seed q_3.1 r0_done0 x2 q_3.2.1 q_2.1 r0_figures r0_hampers q_3.2.2 r0_kinds r0_left0 r0_wants0 r0_weights)) rfl d_M_carryAll_36 (fun H locs hW => ?_)
  refine lv_aload_n hx hb d_M_carryAll_39 rfl (lv_at hl 0 rfl) ?_
  refine lv_aload_n hx hb d_M_carryAll_40 rfl (lv_at hl 0 rfl) ?_
  refine lv_aload_n hx hb d_M_carryAll_41 rfl (lv_at hl 0 rfl) ?_
  refine k_get i_M C hW 0 rfl rfl 8 (by decide) qf_M_105 rfl rfl d_M_carryAll_42 ?_
  obtain ⟨q_4, hc_4, hr⟩ := ob hr
  have ct_4 := C_M_carry_kept l D cI cS a_r0 a_r0_kept (Value.ref a_r0_weights) (Value.int q_2.1) (Value.ref a_r0_kinds) (Value.ref a_r0_figures) (Value.int q_3.1) (Value.ref a_r0_hampers) (Value.ref a_r0_wants0) (Value.ref a_r0_left0) (Value.int r0_done0) v_r0_thrown v_r0_refusals v_r0_letters v_r0_letterMany v_r0_at v_r0_isBad v_r0_statements v_r0_placeIn v_r0_letterOf v_r0_told v_r0_imaged v_r0_hasImage v_r0_turns0 v_r0_turnOf v_r0_turned v_r0_order0 v_r0_likely0 v_r0_leftThen v_r0_row v_r0_rowMany v_r0_seed x2 q_3.2.1 q_3.2.2 r0_done0 q_4 hc_4
  refine k_goI hA hW [0, 3] rfl ct_4.1 (ws' := (w_M_carryAll_kept cI a_r0 a_r0_figures a_r0_hampers a_r0_kept a_r0_kinds a_r0_left0 a_r0_wants0 a_r0_weights v_r0_thrown v_r0_refusals v_r0_letters v_r0_letterMany v_r0_at v_r0_isBad v_r0_statements v_r0_placeIn v_r0_letterOf v_r0_told v_r0_imaged v_r0_hasImage (.ref a_r0_kept) v_r0_turns0 v_r0_turnOf v_r0_turned v_r0_order0 v_r0_likely0 v_r0_leftThen v_r0_row v_r0_rowMany v_r0_seed q_3.1 r0_done0 x2 q_4.2.1 q_2.1 r0_figures r0_hampers q_4.2.2 r0_kinds r0_left0 r0_wants0 r0_weights)) rfl (k_runV C hA hW mw_M_carry mv_M_carry (ct_4.2 _) [0, 3] rfl rfl 0 rfl rfl qm_M_186 ⟨Nat.le_of_ble_eq_true rfl, Nat.le_of_ble_eq_true rfl, Nat.zero_le _, Nat.zero_le _⟩ rfl rfl (Nat.le_of_ble_eq_true rfl) hl.1 d_M_carryAll_45) (fun H locs hW => ?_)
  refine k_put i_M t_M_ok n_M C hW 0 rfl rfl 8 (by decide) qf_M_105 rfl rfl (ty := .int) rfl rfl rfl (Nat.le_of_ble_eq_true rfl) (ws' := (w_M_carryAll_kept cI a_r0 a_r0_figures a_r0_hampers a_r0_kept a_r0_kinds a_r0_left0 a_r0_wants0 a_r0_weights v_r0_thrown v_r0_refusals v_r0_letters v_r0_letterMany v_r0_at v_r0_isBad v_r0_statements v_r0_placeIn v_r0_letterOf v_r0_told v_r0_imaged v_r0_hasImage (.ref a_r0_kept) v_r0_turns0 v_r0_turnOf v_r0_turned v_r0_order0 v_r0_likely0 v_r0_leftThen v_r0_row v_r0_rowMany v_r0_seed q_3.1 q_4.1 x2 q_4.2.1 q_2.1 r0_figures r0_hampers q_4.2.2 r0_kinds r0_left0 r0_wants0 r0_weights)) rfl d_M_carryAll_48 (fun H locs hW => ?_)
  refine lv_iconst (v := 0) hx hb d_M_carryAll_51 (by decide) ?_
  refine lv_istore_n (lv' := [(3, .int 0), (0, .ref a_r0), (1, .ref a_r0_kept), (2, .int x2)]) hx hb d_M_carryAll_52 rfl hl (by decide) rfl (fun ls hl => ?_)
  obtain ⟨ex_5, hw_5, hk_5⟩ := ob hr
  have hx_5 : ∀ (e_5 : (Int32) × (Nat → Int32) × (Nat → Int32)), e_5 = ex_5 → ∀ (H : Heap) (locs : List Loc) (ls : Array Slot), wd A s.heap D (w_M_carryAll_kept cI a_r0 a_r0_figures a_r0_hampers a_r0_kept a_r0_kinds a_r0_left0 a_r0_wants0 a_r0_weights v_r0_thrown v_r0_refusals v_r0_letters v_r0_letterMany v_r0_at v_r0_isBad v_r0_statements v_r0_placeIn v_r0_letterOf v_r0_told v_r0_imaged v_r0_hasImage (.ref a_r0_kept) v_r0_turns0 v_r0_turnOf v_r0_turned v_r0_order0 v_r0_likely0 v_r0_leftThen v_r0_row v_r0_rowMany v_r0_seed q_3.1 q_4.1 x2 e_5.1 q_2.1 r0_figures r0_hampers e_5.2.1 r0_kinds r0_left0 r0_wants0 e_5.2.2) H locs → lv_has ls 4 [(0, .ref a_r0)] → W p l e (rmd 1) s m ([.ref a_r0, .ref a_r0_kept, .int x2] : List Value).toArray below meth c H locs 0 0 Q (F0 m 81 ls []) := by
    intro e_5 hE H locs ls hW hl
    subst hE; have hr := hk_5
    refine lv_iconst (v := 0) hx hb d_M_carryAll_81 (by decide) ?_
    refine lv_istore_n (lv' := [(3, .int 0), (0, .ref a_r0)]) hx hb d_M_carryAll_82 rfl hl (by decide) rfl (fun ls hl => ?_)
    obtain ⟨ex_10, hw_10, hk_10⟩ := ob hr
    have hx_10 : ∀ (e_10 : (Int32) × (Nat → Int32) × (Nat → Int32) × (Nat → Int32) × (Nat → Int32)), e_10 = ex_10 → ∀ (H : Heap) (locs : List Loc) (ls : Array Slot), wd A s.heap D (w_M_carryAll_kept cI a_r0 a_r0_figures a_r0_hampers a_r0_kept a_r0_kinds a_r0_left0 a_r0_wants0 a_r0_weights v_r0_thrown v_r0_refusals v_r0_letters v_r0_letterMany v_r0_at v_r0_isBad v_r0_statements v_r0_placeIn v_r0_letterOf v_r0_told v_r0_imaged v_r0_hasImage (.ref a_r0_kept) v_r0_turns0 v_r0_turnOf v_r0_turned v_r0_order0 v_r0_likely0 v_r0_leftThen v_r0_row v_r0_rowMany v_r0_seed q_3.1 q_4.1 x2 e_10.1 q_2.1 e_10.2.1 e_10.2.2.1 e_10.2.2.2.1 e_10.2.2.2.2 r0_left0 r0_wants0 e_5.2.2) H locs → lv_has ls 4 [(0, .ref a_r0)] → W p l e (rmd 1) s m ([.ref a_r0, .ref a_r0_kept, .int x2] : List Value).toArray below meth c H locs 0 0 Q (F0 m 143 ls []) := by
      intro e_10 hE H locs ls hW hl
      subst hE; have hr := hk_10
      refine lv_iconst (v := 0) hx hb d_M_carryAll_143 (by decide) ?_
      refine lv_istore_n (lv' := [(3, .int 0), (0, .ref a_r0)]) hx hb d_M_carryAll_144 rfl hl (by decide) rfl (fun ls hl => ?_)
      obtain ⟨ex_21, hw_21, hk_21⟩ := ob hr
      have hx_21 : ∀ (e_21 : (Int32) × (Nat → Int32) × (Nat → Int32) × (Nat → Int32)), e_21 = ex_21 → ∀ (H : Heap) (locs : List Loc) (ls : Array Slot), wd A s.heap D (w_M_carryAll_kept cI a_r0 a_r0_figures a_r0_hampers a_r0_kept a_r0_kinds a_r0_left0 a_r0_wants0 a_r0_weights v_r0_thrown v_r0_refusals v_r0_letters v_r0_letterMany v_r0_at v_r0_isBad v_r0_statements v_r0_placeIn v_r0_letterOf v_r0_told v_r0_imaged v_r0_hasImage (.ref a_r0_kept) v_r0_turns0 v_r0_turnOf v_r0_turned v_r0_order0 v_r0_likely0 v_r0_leftThen v_r0_row v_r0_rowMany v_r0_seed q_3.1 q_4.1 x2 e_21.1 q_2.1 e_10.2.1 e_10.2.2.1 e_21.2.1 e_10.2.2.2.2 e_21.2.2.1 e_21.2.2.2 e_5.2.2) H locs → lv_has ls 4 [] → W p l e (rmd 1) s m ([.ref a_r0, .ref a_r0_kept, .int x2] : List Value).toArray below meth c H locs 0 0 Q (F0 m 188 ls []) := by
        intro e_21 hE H locs ls hW hl
        subst hE; have hr := hk_21
        obtain rfl := Option.some.inj hr
        rw [hQ]; exact k_vret C hret hW d_M_carryAll_188
      have hl_21 : ∀ (k : Nat) (y3_21 : Int32) (r0_place0_21 : Int32) (r0_kept_21 : Nat → Int32) (r0_left0_21 : Nat → Int32) (r0_wants0_21 : Nat → Int32), wh (fun (s : (Int32) × (Int32) × (Nat → Int32) × (Nat → Int32) × (Nat → Int32)) => F_M_carryAll_kept_L145 x2 s.1 s.2.1 s.2.2.1 s.2.2.2.1 s.2.2.2.2) k (y3_21, r0_place0_21, r0_kept_21, r0_left0_21, r0_wants0_21) = some ex_21 → ∀ (H : Heap) (locs : List Loc) (ls : Array Slot), wd A s.heap D (w_M_carryAll_kept cI a_r0 a_r0_figures a_r0_hampers a_r0_kept a_r0_kinds a_r0_left0 a_r0_wants0 a_r0_weights v_r0_thrown v_r0_refusals v_r0_letters v_r0_letterMany v_r0_at v_r0_isBad v_r0_statements v_r0_placeIn v_r0_letterOf v_r0_told v_r0_imaged v_r0_hasImage (.ref a_r0_kept) v_r0_turns0 v_r0_turnOf v_r0_turned v_r0_order0 v_r0_likely0 v_r0_leftThen v_r0_row v_r0_rowMany v_r0_seed q_3.1 q_4.1 x2 r0_place0_21 q_2.1 e_10.2.1 e_10.2.2.1 r0_kept_21 e_10.2.2.2.2 r0_left0_21 r0_wants0_21 e_5.2.2) H locs → lv_has ls 4 [(0, .ref a_r0), (3, .int y3_21)] → W p l e (rmd 1) s m ([.ref a_r0, .ref a_r0_kept, .int x2] : List Value).toArray below meth c H locs 0 0 Q (F0 m 145 ls []) := by
        intro k
        induction k with
        | zero => intro y3_21 r0_place0_21 r0_kept_21 r0_left0_21 r0_wants0_21 hw; exact absurd hw wh_0
        | succ k ih_21 =>
          intro y3_21 r0_place0_21 r0_kept_21 r0_left0_21 r0_wants0_21 hw H locs ls hW hl
          obtain ⟨z_21, hr, hz1_21, hz2_21⟩ := wh_s hw
          have hr : F_M_carryAll_kept_L145 x2 y3_21 r0_place0_21 r0_kept_21 r0_left0_21 r0_wants0_21 = some z_21 := hr
          unfold F_M_carryAll_kept_L145 at hr
          refine lv_iload_n hx hb d_M_carryAll_145 rfl (lv_at hl 1 rfl) ?_
          refine lv_iconst (v := 4) hx hb d_M_carryAll_146 (by decide) ?_
          refine lv_icmp_ge (tgt := 188) hx hb d_M_carryAll_147 (by decide) (fun c_22 => ?_) (fun c_22 => ?_)
          · replace hr := ip c_22 hr
            exact hx_21 _ (hz2_21 _ (Option.some.inj hr).symm) _ _ _ hW (lv_sub hl [] rfl)
          · replace hr := iN c_22 hr
            refine lv_aload_n hx hb d_M_carryAll_150 rfl (lv_at hl 0 rfl) ?_
            refine k_get i_M C hW 0 rfl rfl 6 (by decide) qf_M_22 rfl rfl d_M_carryAll_151 ?_
            refine lv_iload_n hx hb d_M_carryAll_154 rfl (lv_at hl 1 rfl) ?_
            refine lv_aload_n hx hb d_M_carryAll_155 rfl (lv_at hl 0 rfl) ?_
            refine lv_aload_n hx hb d_M_carryAll_156 rfl (lv_at hl 0 rfl) ?_
            refine k_get i_M C hW 0 rfl rfl 6 (by decide) qf_M_22 rfl rfl d_M_carryAll_157 ?_
            refine lv_iload_n hx hb d_M_carryAll_160 rfl (lv_at hl 1 rfl) ?_
            obtain ⟨h_23, hr⟩ := ck_some hr
            refine k_iald C hW 6 rfl h_23 d_M_carryAll_161 ?_
            obtain ⟨q_24, hc_24, hr⟩ := ob hr
            have ct_24 := C_M_carry_kept l D cI cS a_r0 a_r0_kept (Value.ref a_r0_weights) (Value.int q_2.1) (Value.ref a_r0_kinds) (Value.ref a_r0_figures) (Value.int q_3.1) (Value.ref a_r0_hampers) (Value.ref a_r0_wants0) (Value.ref a_r0_left0) (Value.int q_4.1) v_r0_thrown v_r0_refusals v_r0_letters v_r0_letterMany v_r0_at v_r0_isBad v_r0_statements v_r0_placeIn v_r0_letterOf v_r0_told v_r0_imaged v_r0_hasImage v_r0_turns0 v_r0_turnOf v_r0_turned v_r0_order0 v_r0_likely0 v_r0_leftThen v_r0_row v_r0_rowMany v_r0_seed x2 r0_place0_21 r0_kept_21 (r0_wants0_21 (Int32.toNatClampNeg y3_21)) q_24 hc_24
            refine k_goI hA hW [0, 3] rfl ct_24.1 (ws' := (w_M_carryAll_kept cI a_r0 a_r0_figures a_r0_hampers a_r0_kept a_r0_kinds a_r0_left0 a_r0_wants0 a_r0_weights v_r0_thrown v_r0_refusals v_r0_letters v_r0_letterMany v_r0_at v_r0_isBad v_r0_statements v_r0_placeIn v_r0_letterOf v_r0_told v_r0_imaged v_r0_hasImage (.ref a_r0_kept) v_r0_turns0 v_r0_turnOf v_r0_turned v_r0_order0 v_r0_likely0 v_r0_leftThen v_r0_row v_r0_rowMany v_r0_seed q_3.1 q_4.1 x2 q_24.2.1 q_2.1 e_10.2.1 e_10.2.2.1 q_24.2.2 e_10.2.2.2.2 r0_left0_21 r0_wants0_21 e_5.2.2)) rfl (k_runV C hA hW mw_M_carry mv_M_carry (ct_24.2 _) [0, 3] rfl rfl 0 rfl rfl qm_M_186 ⟨Nat.le_of_ble_eq_true rfl, Nat.le_of_ble_eq_true rfl, Nat.zero_le _, Nat.zero_le _⟩ rfl rfl (Nat.le_of_ble_eq_true rfl) hl.1 d_M_carryAll_162) (fun H locs hW => ?_)
            obtain ⟨h_25, hr⟩ := ck_some hr
            refine k_iast C hW 6 rfl h_25 (ws' := (w_M_carryAll_kept cI a_r0 a_r0_figures a_r0_hampers a_r0_kept a_r0_kinds a_r0_left0 a_r0_wants0 a_r0_weights v_r0_thrown v_r0_refusals v_r0_letters v_r0_letterMany v_r0_at v_r0_isBad v_r0_statements v_r0_placeIn v_r0_letterOf v_r0_told v_r0_imaged v_r0_hasImage (.ref a_r0_kept) v_r0_turns0 v_r0_turnOf v_r0_turned v_r0_order0 v_r0_likely0 v_r0_leftThen v_r0_row v_r0_rowMany v_r0_seed q_3.1 q_4.1 x2 q_24.2.1 q_2.1 e_10.2.1 e_10.2.2.1 q_24.2.2 e_10.2.2.2.2 r0_left0_21 (upd r0_wants0_21 (Int32.toNatClampNeg y3_21) q_24.1) e_5.2.2)) rfl d_M_carryAll_165 (fun H locs hW => ?_)
            refine lv_aload_n hx hb d_M_carryAll_166 rfl (lv_at hl 0 rfl) ?_
            refine k_get i_M C hW 0 rfl rfl 7 (by decide) qf_M_25 rfl rfl d_M_carryAll_167 ?_
            refine lv_iload_n hx hb d_M_carryAll_170 rfl (lv_at hl 1 rfl) ?_
            refine lv_aload_n hx hb d_M_carryAll_171 rfl (lv_at hl 0 rfl) ?_
            refine lv_aload_n hx hb d_M_carryAll_172 rfl (lv_at hl 0 rfl) ?_
            refine k_get i_M C hW 0 rfl rfl 7 (by decide) qf_M_25 rfl rfl d_M_carryAll_173 ?_
            refine lv_iload_n hx hb d_M_carryAll_176 rfl (lv_at hl 1 rfl) ?_
            obtain ⟨h_26, hr⟩ := ck_some hr
            refine k_iald C hW 5 rfl h_26 d_M_carryAll_177 ?_
            obtain ⟨q_27, hc_27, hr⟩ := ob hr
            have ct_27 := C_M_carry_kept l D cI cS a_r0 a_r0_kept (Value.ref a_r0_weights) (Value.int q_2.1) (Value.ref a_r0_kinds) (Value.ref a_r0_figures) (Value.int q_3.1) (Value.ref a_r0_hampers) (Value.ref a_r0_wants0) (Value.ref a_r0_left0) (Value.int q_4.1) v_r0_thrown v_r0_refusals v_r0_letters v_r0_letterMany v_r0_at v_r0_isBad v_r0_statements v_r0_placeIn v_r0_letterOf v_r0_told v_r0_imaged v_r0_hasImage v_r0_turns0 v_r0_turnOf v_r0_turned v_r0_order0 v_r0_likely0 v_r0_leftThen v_r0_row v_r0_rowMany v_r0_seed x2 q_24.2.1 q_24.2.2 (r0_left0_21 (Int32.toNatClampNeg y3_21)) q_27 hc_27
            refine k_goI hA hW [0, 3] rfl ct_27.1 (ws' := (w_M_carryAll_kept cI a_r0 a_r0_figures a_r0_hampers a_r0_kept a_r0_kinds a_r0_left0 a_r0_wants0 a_r0_weights v_r0_thrown v_r0_refusals v_r0_letters v_r0_letterMany v_r0_at v_r0_isBad v_r0_statements v_r0_placeIn v_r0_letterOf v_r0_told v_r0_imaged v_r0_hasImage (.ref a_r0_kept) v_r0_turns0 v_r0_turnOf v_r0_turned v_r0_order0 v_r0_likely0 v_r0_leftThen v_r0_row v_r0_rowMany v_r0_seed q_3.1 q_4.1 x2 q_27.2.1 q_2.1 e_10.2.1 e_10.2.2.1 q_27.2.2 e_10.2.2.2.2 r0_left0_21 (upd r0_wants0_21 (Int32.toNatClampNeg y3_21) q_24.1) e_5.2.2)) rfl (k_runV C hA hW mw_M_carry mv_M_carry (ct_27.2 _) [0, 3] rfl rfl 0 rfl rfl qm_M_186 ⟨Nat.le_of_ble_eq_true rfl, Nat.le_of_ble_eq_true rfl, Nat.zero_le _, Nat.zero_le _⟩ rfl rfl (Nat.le_of_ble_eq_true rfl) hl.1 d_M_carryAll_178) (fun H locs hW => ?_)
            obtain ⟨h_28, hr⟩ := ck_some hr
            refine k_iast C hW 5 rfl h_28 (ws' := (w_M_carryAll_kept cI a_r0 a_r0_figures a_r0_hampers a_r0_kept a_r0_kinds a_r0_left0 a_r0_wants0 a_r0_weights v_r0_thrown v_r0_refusals v_r0_letters v_r0_letterMany v_r0_at v_r0_isBad v_r0_statements v_r0_placeIn v_r0_letterOf v_r0_told v_r0_imaged v_r0_hasImage (.ref a_r0_kept) v_r0_turns0 v_r0_turnOf v_r0_turned v_r0_order0 v_r0_likely0 v_r0_leftThen v_r0_row v_r0_rowMany v_r0_seed q_3.1 q_4.1 x2 q_27.2.1 q_2.1 e_10.2.1 e_10.2.2.1 q_27.2.2 e_10.2.2.2.2 (upd r0_left0_21 (Int32.toNatClampNeg y3_21) q_27.1) (upd r0_wants0_21 (Int32.toNatClampNeg y3_21) q_24.1) e_5.2.2)) rfl d_M_carryAll_181 (fun H locs hW => ?_)
            refine lv_iinc (v := (y3_21 + 1)) (lv' := [(3, .int (y3_21 + 1)), (0, .ref a_r0)]) hx hb d_M_carryAll_182 hl (k := 1) rfl rfl (by decide) rfl (fun ls hl => ?_)
            refine lv_goto (tgt := 145) hx hb d_M_carryAll_185 (by decide) ?_
            exact ih_21 (y3_21 + 1) q_27.2.1 q_27.2.2 (upd r0_left0_21 (Int32.toNatClampNeg y3_21) q_27.1) (upd r0_wants0_21 (Int32.toNatClampNeg y3_21) q_24.1) (hz1_21 _ (Option.some.inj hr).symm) _ _ _ hW (lv_sub hl [1, 0] rfl)
      exact hl_21 _ 0 e_10.1 e_10.2.2.2.1 r0_left0 r0_wants0 hw_21 _ _ _ hW (lv_sub hl [1, 0] rfl)
    have hl_10 : ∀ (k : Nat) (y3_10 : Int32) (r0_place0_10 : Int32) (r0_figures_10 : Nat → Int32) (r0_hampers_10 : Nat → Int32) (r0_kept_10 : Nat → Int32) (r0_kinds_10 : Nat → Int32), wh (fun (s : (Int32) × (Int32) × (Nat → Int32) × (Nat → Int32) × (Nat → Int32) × (Nat → Int32)) => F_M_carryAll_kept_L83 x2 s.1 s.2.1 s.2.2.1 s.2.2.2.1 s.2.2.2.2.1 s.2.2.2.2.2) k (y3_10, r0_place0_10, r0_figures_10, r0_hampers_10, r0_kept_10, r0_kinds_10) = some ex_10 → ∀ (H : Heap) (locs : List Loc) (ls : Array Slot), wd A s.heap D (w_M_carryAll_kept cI a_r0 a_r0_figures a_r0_hampers a_r0_kept a_r0_kinds a_r0_left0 a_r0_wants0 a_r0_weights v_r0_thrown v_r0_refusals v_r0_letters v_r0_letterMany v_r0_at v_r0_isBad v_r0_statements v_r0_placeIn v_r0_letterOf v_r0_told v_r0_imaged v_r0_hasImage (.ref a_r0_kept) v_r0_turns0 v_r0_turnOf v_r0_turned v_r0_order0 v_r0_likely0 v_r0_leftThen v_r0_row v_r0_rowMany v_r0_seed q_3.1 q_4.1 x2 r0_place0_10 q_2.1 r0_figures_10 r0_hampers_10 r0_kept_10 r0_kinds_10 r0_left0 r0_wants0 e_5.2.2) H locs → lv_has ls 4 [(0, .ref a_r0), (3, .int y3_10)] → W p l e (rmd 1) s m ([.ref a_r0, .ref a_r0_kept, .int x2] : List Value).toArray below meth c H locs 0 0 Q (F0 m 83 ls []) := by
      intro k
      induction k with
      | zero => intro y3_10 r0_place0_10 r0_figures_10 r0_hampers_10 r0_kept_10 r0_kinds_10 hw; exact absurd hw wh_0
      | succ k ih_10 =>
        intro y3_10 r0_place0_10 r0_figures_10 r0_hampers_10 r0_kept_10 r0_kinds_10 hw H locs ls hW hl
        obtain ⟨z_10, hr, hz1_10, hz2_10⟩ := wh_s hw
        have hr : F_M_carryAll_kept_L83 x2 y3_10 r0_place0_10 r0_figures_10 r0_hampers_10 r0_kept_10 r0_kinds_10 = some z_10 := hr
        unfold F_M_carryAll_kept_L83 at hr
        refine lv_iload_n hx hb d_M_carryAll_83 rfl (lv_at hl 1 rfl) ?_
        refine lv_bipush (v := 8) hx hb d_M_carryAll_84 (by decide) ?_
        refine lv_icmp_ge (tgt := 143) hx hb d_M_carryAll_86 (by decide) (fun c_11 => ?_) (fun c_11 => ?_)
        · replace hr := ip c_11 hr
          exact hx_10 _ (hz2_10 _ (Option.some.inj hr).symm) _ _ _ hW (lv_sub hl [0] rfl)
        · replace hr := iN c_11 hr
          refine lv_aload_n hx hb d_M_carryAll_89 rfl (lv_at hl 0 rfl) ?_
          refine k_get i_M C hW 0 rfl rfl 2 (by decide) qf_M_13 rfl rfl d_M_carryAll_90 ?_
          refine lv_iload_n hx hb d_M_carryAll_93 rfl (lv_at hl 1 rfl) ?_
          refine lv_aload_n hx hb d_M_carryAll_94 rfl (lv_at hl 0 rfl) ?_
          refine lv_aload_n hx hb d_M_carryAll_95 rfl (lv_at hl 0 rfl) ?_
          refine k_get i_M C hW 0 rfl rfl 2 (by decide) qf_M_13 rfl rfl d_M_carryAll_96 ?_
          refine lv_iload_n hx hb d_M_carryAll_99 rfl (lv_at hl 1 rfl) ?_
          obtain ⟨h_12, hr⟩ := ck_some hr
          refine k_iald C hW 4 rfl h_12 d_M_carryAll_100 ?_
          obtain ⟨q_13, hc_13, hr⟩ := ob hr
          have ct_13 := C_M_carry_kept l D cI cS a_r0 a_r0_kept (Value.ref a_r0_weights) (Value.int q_2.1) (Value.ref a_r0_kinds) (Value.ref a_r0_figures) (Value.int q_3.1) (Value.ref a_r0_hampers) (Value.ref a_r0_wants0) (Value.ref a_r0_left0) (Value.int q_4.1) v_r0_thrown v_r0_refusals v_r0_letters v_r0_letterMany v_r0_at v_r0_isBad v_r0_statements v_r0_placeIn v_r0_letterOf v_r0_told v_r0_imaged v_r0_hasImage v_r0_turns0 v_r0_turnOf v_r0_turned v_r0_order0 v_r0_likely0 v_r0_leftThen v_r0_row v_r0_rowMany v_r0_seed x2 r0_place0_10 r0_kept_10 (r0_kinds_10 (Int32.toNatClampNeg y3_10)) q_13 hc_13
          refine k_goI hA hW [0, 3] rfl ct_13.1 (ws' := (w_M_carryAll_kept cI a_r0 a_r0_figures a_r0_hampers a_r0_kept a_r0_kinds a_r0_left0 a_r0_wants0 a_r0_weights v_r0_thrown v_r0_refusals v_r0_letters v_r0_letterMany v_r0_at v_r0_isBad v_r0_statements v_r0_placeIn v_r0_letterOf v_r0_told v_r0_imaged v_r0_hasImage (.ref a_r0_kept) v_r0_turns0 v_r0_turnOf v_r0_turned v_r0_order0 v_r0_likely0 v_r0_leftThen v_r0_row v_r0_rowMany v_r0_seed q_3.1 q_4.1 x2 q_13.2.1 q_2.1 r0_figures_10 r0_hampers_10 q_13.2.2 r0_kinds_10 r0_left0 r0_wants0 e_5.2.2)) rfl (k_runV C hA hW mw_M_carry mv_M_carry (ct_13.2 _) [0, 3] rfl rfl 0 rfl rfl qm_M_186 ⟨Nat.le_of_ble_eq_true rfl, Nat.le_of_ble_eq_true rfl, Nat.zero_le _, Nat.zero_le _⟩ rfl rfl (Nat.le_of_ble_eq_true rfl) hl.1 d_M_carryAll_101) (fun H locs hW => ?_)
          obtain ⟨h_14, hr⟩ := ck_some hr
          refine k_iast C hW 4 rfl h_14 (ws' := (w_M_carryAll_kept cI a_r0 a_r0_figures a_r0_hampers a_r0_kept a_r0_kinds a_r0_left0 a_r0_wants0 a_r0_weights v_r0_thrown v_r0_refusals v_r0_letters v_r0_letterMany v_r0_at v_r0_isBad v_r0_statements v_r0_placeIn v_r0_letterOf v_r0_told v_r0_imaged v_r0_hasImage (.ref a_r0_kept) v_r0_turns0 v_r0_turnOf v_r0_turned v_r0_order0 v_r0_likely0 v_r0_leftThen v_r0_row v_r0_rowMany v_r0_seed q_3.1 q_4.1 x2 q_13.2.1 q_2.1 r0_figures_10 r0_hampers_10 q_13.2.2 (upd r0_kinds_10 (Int32.toNatClampNeg y3_10) q_13.1) r0_left0 r0_wants0 e_5.2.2)) rfl d_M_carryAll_104 (fun H locs hW => ?_)
          refine lv_aload_n hx hb d_M_carryAll_105 rfl (lv_at hl 0 rfl) ?_
          refine k_get i_M C hW 0 rfl rfl 3 (by decide) qf_M_16 rfl rfl d_M_carryAll_106 ?_
          refine lv_iload_n hx hb d_M_carryAll_109 rfl (lv_at hl 1 rfl) ?_
          refine lv_aload_n hx hb d_M_carryAll_110 rfl (lv_at hl 0 rfl) ?_
          refine lv_aload_n hx hb d_M_carryAll_111 rfl (lv_at hl 0 rfl) ?_
          refine k_get i_M C hW 0 rfl rfl 3 (by decide) qf_M_16 rfl rfl d_M_carryAll_112 ?_
          refine lv_iload_n hx hb d_M_carryAll_115 rfl (lv_at hl 1 rfl) ?_
          obtain ⟨h_15, hr⟩ := ck_some hr
          refine k_iald C hW 1 rfl h_15 d_M_carryAll_116 ?_
          obtain ⟨q_16, hc_16, hr⟩ := ob hr
          have ct_16 := C_M_carry_kept l D cI cS a_r0 a_r0_kept (Value.ref a_r0_weights) (Value.int q_2.1) (Value.ref a_r0_kinds) (Value.ref a_r0_figures) (Value.int q_3.1) (Value.ref a_r0_hampers) (Value.ref a_r0_wants0) (Value.ref a_r0_left0) (Value.int q_4.1) v_r0_thrown v_r0_refusals v_r0_letters v_r0_letterMany v_r0_at v_r0_isBad v_r0_statements v_r0_placeIn v_r0_letterOf v_r0_told v_r0_imaged v_r0_hasImage v_r0_turns0 v_r0_turnOf v_r0_turned v_r0_order0 v_r0_likely0 v_r0_leftThen v_r0_row v_r0_rowMany v_r0_seed x2 q_13.2.1 q_13.2.2 (r0_figures_10 (Int32.toNatClampNeg y3_10)) q_16 hc_16
          refine k_goI hA hW [0, 3] rfl ct_16.1 (ws' := (w_M_carryAll_kept cI a_r0 a_r0_figures a_r0_hampers a_r0_kept a_r0_kinds a_r0_left0 a_r0_wants0 a_r0_weights v_r0_thrown v_r0_refusals v_r0_letters v_r0_letterMany v_r0_at v_r0_isBad v_r0_statements v_r0_placeIn v_r0_letterOf v_r0_told v_r0_imaged v_r0_hasImage (.ref a_r0_kept) v_r0_turns0 v_r0_turnOf v_r0_turned v_r0_order0 v_r0_likely0 v_r0_leftThen v_r0_row v_r0_rowMany v_r0_seed q_3.1 q_4.1 x2 q_16.2.1 q_2.1 r0_figures_10 r0_hampers_10 q_16.2.2 (upd r0_kinds_10 (Int32.toNatClampNeg y3_10) q_13.1) r0_left0 r0_wants0 e_5.2.2)) rfl (k_runV C hA hW mw_M_carry mv_M_carry (ct_16.2 _) [0, 3] rfl rfl 0 rfl rfl qm_M_186 ⟨Nat.le_of_ble_eq_true rfl, Nat.le_of_ble_eq_true rfl, Nat.zero_le _, Nat.zero_le _⟩ rfl rfl (Nat.le_of_ble_eq_true rfl) hl.1 d_M_carryAll_117) (fun H locs hW => ?_)
          obtain ⟨h_17, hr⟩ := ck_some hr
          refine k_iast C hW 1 rfl h_17 (ws' := (w_M_carryAll_kept cI a_r0 a_r0_figures a_r0_hampers a_r0_kept a_r0_kinds a_r0_left0 a_r0_wants0 a_r0_weights v_r0_thrown v_r0_refusals v_r0_letters v_r0_letterMany v_r0_at v_r0_isBad v_r0_statements v_r0_placeIn v_r0_letterOf v_r0_told v_r0_imaged v_r0_hasImage (.ref a_r0_kept) v_r0_turns0 v_r0_turnOf v_r0_turned v_r0_order0 v_r0_likely0 v_r0_leftThen v_r0_row v_r0_rowMany v_r0_seed q_3.1 q_4.1 x2 q_16.2.1 q_2.1 (upd r0_figures_10 (Int32.toNatClampNeg y3_10) q_16.1) r0_hampers_10 q_16.2.2 (upd r0_kinds_10 (Int32.toNatClampNeg y3_10) q_13.1) r0_left0 r0_wants0 e_5.2.2)) rfl d_M_carryAll_120 (fun H locs hW => ?_)
          refine lv_aload_n hx hb d_M_carryAll_121 rfl (lv_at hl 0 rfl) ?_
          refine k_get i_M C hW 0 rfl rfl 5 (by decide) qf_M_19 rfl rfl d_M_carryAll_122 ?_
          refine lv_iload_n hx hb d_M_carryAll_125 rfl (lv_at hl 1 rfl) ?_
          refine lv_aload_n hx hb d_M_carryAll_126 rfl (lv_at hl 0 rfl) ?_
          refine lv_aload_n hx hb d_M_carryAll_127 rfl (lv_at hl 0 rfl) ?_
          refine k_get i_M C hW 0 rfl rfl 5 (by decide) qf_M_19 rfl rfl d_M_carryAll_128 ?_
          refine lv_iload_n hx hb d_M_carryAll_131 rfl (lv_at hl 1 rfl) ?_
          obtain ⟨h_18, hr⟩ := ck_some hr
          refine k_iald C hW 2 rfl h_18 d_M_carryAll_132 ?_
          obtain ⟨q_19, hc_19, hr⟩ := ob hr
          have ct_19 := C_M_carry_kept l D cI cS a_r0 a_r0_kept (Value.ref a_r0_weights) (Value.int q_2.1) (Value.ref a_r0_kinds) (Value.ref a_r0_figures) (Value.int q_3.1) (Value.ref a_r0_hampers) (Value.ref a_r0_wants0) (Value.ref a_r0_left0) (Value.int q_4.1) v_r0_thrown v_r0_refusals v_r0_letters v_r0_letterMany v_r0_at v_r0_isBad v_r0_statements v_r0_placeIn v_r0_letterOf v_r0_told v_r0_imaged v_r0_hasImage v_r0_turns0 v_r0_turnOf v_r0_turned v_r0_order0 v_r0_likely0 v_r0_leftThen v_r0_row v_r0_rowMany v_r0_seed x2 q_16.2.1 q_16.2.2 (r0_hampers_10 (Int32.toNatClampNeg y3_10)) q_19 hc_19
          refine k_goI hA hW [0, 3] rfl ct_19.1 (ws' := (w_M_carryAll_kept cI a_r0 a_r0_figures a_r0_hampers a_r0_kept a_r0_kinds a_r0_left0 a_r0_wants0 a_r0_weights v_r0_thrown v_r0_refusals v_r0_letters v_r0_letterMany v_r0_at v_r0_isBad v_r0_statements v_r0_placeIn v_r0_letterOf v_r0_told v_r0_imaged v_r0_hasImage (.ref a_r0_kept) v_r0_turns0 v_r0_turnOf v_r0_turned v_r0_order0 v_r0_likely0 v_r0_leftThen v_r0_row v_r0_rowMany v_r0_seed q_3.1 q_4.1 x2 q_19.2.1 q_2.1 (upd r0_figures_10 (Int32.toNatClampNeg y3_10) q_16.1) r0_hampers_10 q_19.2.2 (upd r0_kinds_10 (Int32.toNatClampNeg y3_10) q_13.1) r0_left0 r0_wants0 e_5.2.2)) rfl (k_runV C hA hW mw_M_carry mv_M_carry (ct_19.2 _) [0, 3] rfl rfl 0 rfl rfl qm_M_186 ⟨Nat.le_of_ble_eq_true rfl, Nat.le_of_ble_eq_true rfl, Nat.zero_le _, Nat.zero_le _⟩ rfl rfl (Nat.le_of_ble_eq_true rfl) hl.1 d_M_carryAll_133) (fun H locs hW => ?_)
          obtain ⟨h_20, hr⟩ := ck_some hr
          refine k_iast C hW 2 rfl h_20 (ws' := (w_M_carryAll_kept cI a_r0 a_r0_figures a_r0_hampers a_r0_kept a_r0_kinds a_r0_left0 a_r0_wants0 a_r0_weights v_r0_thrown v_r0_refusals v_r0_letters v_r0_letterMany v_r0_at v_r0_isBad v_r0_statements v_r0_placeIn v_r0_letterOf v_r0_told v_r0_imaged v_r0_hasImage (.ref a_r0_kept) v_r0_turns0 v_r0_turnOf v_r0_turned v_r0_order0 v_r0_likely0 v_r0_leftThen v_r0_row v_r0_rowMany v_r0_seed q_3.1 q_4.1 x2 q_19.2.1 q_2.1 (upd r0_figures_10 (Int32.toNatClampNeg y3_10) q_16.1) (upd r0_hampers_10 (Int32.toNatClampNeg y3_10) q_19.1) q_19.2.2 (upd r0_kinds_10 (Int32.toNatClampNeg y3_10) q_13.1) r0_left0 r0_wants0 e_5.2.2)) rfl d_M_carryAll_136 (fun H locs hW => ?_)
          refine lv_iinc (v := (y3_10 + 1)) (lv' := [(3, .int (y3_10 + 1)), (0, .ref a_r0)]) hx hb d_M_carryAll_137 hl (k := 1) rfl rfl (by decide) rfl (fun ls hl => ?_)
          refine lv_goto (tgt := 83) hx hb d_M_carryAll_140 (by decide) ?_
          exact ih_10 (y3_10 + 1) q_19.2.1 (upd r0_figures_10 (Int32.toNatClampNeg y3_10) q_16.1) (upd r0_hampers_10 (Int32.toNatClampNeg y3_10) q_19.1) q_19.2.2 (upd r0_kinds_10 (Int32.toNatClampNeg y3_10) q_13.1) (hz1_10 _ (Option.some.inj hr).symm) _ _ _ hW (lv_sub hl [1, 0] rfl)
    exact hl_10 _ 0 e_5.1 r0_figures r0_hampers e_5.2.1 r0_kinds hw_10 _ _ _ hW (lv_sub hl [1, 0] rfl)
  have hl_5 : ∀ (k : Nat) (y3_5 : Int32) (r0_place0_5 : Int32) (r0_kept_5 : Nat → Int32) (r0_weights_5 : Nat → Int32), wh (fun (s : (Int32) × (Int32) × (Nat → Int32) × (Nat → Int32)) => F_M_carryAll_kept_L53 x2 s.1 s.2.1 s.2.2.1 s.2.2.2) k (y3_5, r0_place0_5, r0_kept_5, r0_weights_5) = some ex_5 → ∀ (H : Heap) (locs : List Loc) (ls : Array Slot), wd A s.heap D (w_M_carryAll_kept cI a_r0 a_r0_figures a_r0_hampers a_r0_kept a_r0_kinds a_r0_left0 a_r0_wants0 a_r0_weights v_r0_thrown v_r0_refusals v_r0_letters v_r0_letterMany v_r0_at v_r0_isBad v_r0_statements v_r0_placeIn v_r0_letterOf v_r0_told v_r0_imaged v_r0_hasImage (.ref a_r0_kept) v_r0_turns0 v_r0_turnOf v_r0_turned v_r0_order0 v_r0_likely0 v_r0_leftThen v_r0_row v_r0_rowMany v_r0_seed q_3.1 q_4.1 x2 r0_place0_5 q_2.1 r0_figures r0_hampers r0_kept_5 r0_kinds r0_left0 r0_wants0 r0_weights_5) H locs → lv_has ls 4 [(0, .ref a_r0), (3, .int y3_5)] → W p l e (rmd 1) s m ([.ref a_r0, .ref a_r0_kept, .int x2] : List Value).toArray below meth c H locs 0 0 Q (F0 m 53 ls []) := by
    intro k
    induction k with
    | zero => intro y3_5 r0_place0_5 r0_kept_5 r0_weights_5 hw; exact absurd hw wh_0
    | succ k ih_5 =>
      intro y3_5 r0_place0_5 r0_kept_5 r0_weights_5 hw H locs ls hW hl
      obtain ⟨z_5, hr, hz1_5, hz2_5⟩ := wh_s hw
      have hr : F_M_carryAll_kept_L53 x2 y3_5 r0_place0_5 r0_kept_5 r0_weights_5 = some z_5 := hr
      unfold F_M_carryAll_kept_L53 at hr
      refine lv_iload_n hx hb d_M_carryAll_53 rfl (lv_at hl 1 rfl) ?_
      refine lv_bipush (v := 6) hx hb d_M_carryAll_54 (by decide) ?_
      refine lv_icmp_ge (tgt := 81) hx hb d_M_carryAll_56 (by decide) (fun c_6 => ?_) (fun c_6 => ?_)
      · replace hr := ip c_6 hr
        exact hx_5 _ (hz2_5 _ (Option.some.inj hr).symm) _ _ _ hW (lv_sub hl [0] rfl)
      · replace hr := iN c_6 hr
        refine lv_aload_n hx hb d_M_carryAll_59 rfl (lv_at hl 0 rfl) ?_
        refine k_get i_M C hW 0 rfl rfl 0 (by decide) qf_M_7 rfl rfl d_M_carryAll_60 ?_
        refine lv_iload_n hx hb d_M_carryAll_63 rfl (lv_at hl 1 rfl) ?_
        refine lv_aload_n hx hb d_M_carryAll_64 rfl (lv_at hl 0 rfl) ?_
        refine lv_aload_n hx hb d_M_carryAll_65 rfl (lv_at hl 0 rfl) ?_
        refine k_get i_M C hW 0 rfl rfl 0 (by decide) qf_M_7 rfl rfl d_M_carryAll_66 ?_
        refine lv_iload_n hx hb d_M_carryAll_69 rfl (lv_at hl 1 rfl) ?_
        obtain ⟨h_7, hr⟩ := ck_some hr
        refine k_iald C hW 7 rfl h_7 d_M_carryAll_70 ?_
        obtain ⟨q_8, hc_8, hr⟩ := ob hr
        have ct_8 := C_M_carry_kept l D cI cS a_r0 a_r0_kept (Value.ref a_r0_weights) (Value.int q_2.1) (Value.ref a_r0_kinds) (Value.ref a_r0_figures) (Value.int q_3.1) (Value.ref a_r0_hampers) (Value.ref a_r0_wants0) (Value.ref a_r0_left0) (Value.int q_4.1) v_r0_thrown v_r0_refusals v_r0_letters v_r0_letterMany v_r0_at v_r0_isBad v_r0_statements v_r0_placeIn v_r0_letterOf v_r0_told v_r0_imaged v_r0_hasImage v_r0_turns0 v_r0_turnOf v_r0_turned v_r0_order0 v_r0_likely0 v_r0_leftThen v_r0_row v_r0_rowMany v_r0_seed x2 r0_place0_5 r0_kept_5 (r0_weights_5 (Int32.toNatClampNeg y3_5)) q_8 hc_8
        refine k_goI hA hW [0, 3] rfl ct_8.1 (ws' := (w_M_carryAll_kept cI a_r0 a_r0_figures a_r0_hampers a_r0_kept a_r0_kinds a_r0_left0 a_r0_wants0 a_r0_weights v_r0_thrown v_r0_refusals v_r0_letters v_r0_letterMany v_r0_at v_r0_isBad v_r0_statements v_r0_placeIn v_r0_letterOf v_r0_told v_r0_imaged v_r0_hasImage (.ref a_r0_kept) v_r0_turns0 v_r0_turnOf v_r0_turned v_r0_order0 v_r0_likely0 v_r0_leftThen v_r0_row v_r0_rowMany v_r0_seed q_3.1 q_4.1 x2 q_8.2.1 q_2.1 r0_figures r0_hampers q_8.2.2 r0_kinds r0_left0 r0_wants0 r0_weights_5)) rfl (k_runV C hA hW mw_M_carry mv_M_carry (ct_8.2 _) [0, 3] rfl rfl 0 rfl rfl qm_M_186 ⟨Nat.le_of_ble_eq_true rfl, Nat.le_of_ble_eq_true rfl, Nat.zero_le _, Nat.zero_le _⟩ rfl rfl (Nat.le_of_ble_eq_true rfl) hl.1 d_M_carryAll_71) (fun H locs hW => ?_)
        obtain ⟨h_9, hr⟩ := ck_some hr
        refine k_iast C hW 7 rfl h_9 (ws' := (w_M_carryAll_kept cI a_r0 a_r0_figures a_r0_hampers a_r0_kept a_r0_kinds a_r0_left0 a_r0_wants0 a_r0_weights v_r0_thrown v_r0_refusals v_r0_letters v_r0_letterMany v_r0_at v_r0_isBad v_r0_statements v_r0_placeIn v_r0_letterOf v_r0_told v_r0_imaged v_r0_hasImage (.ref a_r0_kept) v_r0_turns0 v_r0_turnOf v_r0_turned v_r0_order0 v_r0_likely0 v_r0_leftThen v_r0_row v_r0_rowMany v_r0_seed q_3.1 q_4.1 x2 q_8.2.1 q_2.1 r0_figures r0_hampers q_8.2.2 r0_kinds r0_left0 r0_wants0 (upd r0_weights_5 (Int32.toNatClampNeg y3_5) q_8.1))) rfl d_M_carryAll_74 (fun H locs hW => ?_)
        refine lv_iinc (v := (y3_5 + 1)) (lv' := [(3, .int (y3_5 + 1)), (0, .ref a_r0)]) hx hb d_M_carryAll_75 hl (k := 1) rfl rfl (by decide) rfl (fun ls hl => ?_)
        refine lv_goto (tgt := 53) hx hb d_M_carryAll_78 (by decide) ?_
        exact ih_5 (y3_5 + 1) q_8.2.1 q_8.2.2 (upd r0_weights_5 (Int32.toNatClampNeg y3_5) q_8.1) (hz1_5 _ (Option.some.inj hr).symm) _ _ _ hW (lv_sub hl [1, 0] rfl)
  exact hl_5 _ 0 q_4.2.1 q_4.2.2 r0_weights hw_5 _ _ _ hW (lv_sub hl [1, 0] rfl)
def w_M_again (cI : ClassId) (a_r0 : Nat) (a_r0_figures : Nat) (a_r0_hampers : Nat) (a_r0_kept : Nat) (a_r0_kinds : Nat) (a_r0_left0 : Nat) (a_r0_wants0 : Nat) (a_r0_weights : Nat) (v_r0_thrown v_r0_refusals v_r0_letters v_r0_letterMany v_r0_at v_r0_isBad v_r0_statements v_r0_placeIn v_r0_letterOf v_r0_told v_r0_imaged v_r0_hasImage v_r0_turns0 v_r0_turnOf v_r0_turned v_r0_order0 v_r0_likely0 v_r0_leftThen v_r0_row v_r0_rowMany v_r0_seed : Value) (kv : Int32 → Value) (r0_days : Int32) (r0_done0 : Int32) (r0_isTaking : Int32) (r0_keptIn : Int32) (r0_place0 : Int32) (r0_things : Int32) (r0_figures : Nat → Int32) (r0_hampers : Nat → Int32) (r0_kept : Nat → Int32) (r0_kinds : Nat → Int32) (r0_left0 : Nat → Int32) (r0_wants0 : Nat → Int32) (r0_weights : Nat → Int32) : va_W := [(a_r0, .inr (9, [.ref a_r0_weights, .int r0_things, .ref a_r0_kinds, .ref a_r0_figures, .int r0_days, .ref a_r0_hampers, .ref a_r0_wants0, .ref a_r0_left0, .int r0_done0, v_r0_thrown, v_r0_refusals, v_r0_letters, v_r0_letterMany, v_r0_at, v_r0_isBad, v_r0_statements, v_r0_placeIn, v_r0_letterOf, v_r0_told, .ref a_r0_kept, v_r0_imaged, v_r0_hasImage, .int r0_place0, .int r0_isTaking, (kv r0_keptIn), v_r0_turns0, v_r0_turnOf, v_r0_turned, v_r0_order0, v_r0_likely0, v_r0_leftThen, v_r0_row, v_r0_rowMany, v_r0_seed])), (a_r0_figures, .inl (cI, 8, .inl r0_figures)), (a_r0_hampers, .inl (cI, 8, .inl r0_hampers)), (a_r0_kept, .inl (cI, 41, .inl r0_kept)), (a_r0_kinds, .inl (cI, 8, .inl r0_kinds)), (a_r0_left0, .inl (cI, 4, .inl r0_left0)), (a_r0_wants0, .inl (cI, 4, .inl r0_wants0)), (a_r0_weights, .inl (cI, 6, .inl r0_weights))]
def F_M_again (r0_days : Int32) (r0_done0 : Int32) (r0_things : Int32) (r0_figures : Nat → Int32) (r0_hampers : Nat → Int32) (r0_kept : Nat → Int32) (r0_kinds : Nat → Int32) (r0_left0 : Nat → Int32) (r0_wants0 : Nat → Int32) (r0_weights : Nat → Int32) : Option ((Int32) × (Int32) × (Int32) × (Int32) × (Int32) × (Int32) × (Nat → Int32) × (Nat → Int32) × (Nat → Int32) × (Nat → Int32) × (Nat → Int32) × (Nat → Int32) × (Nat → Int32)) :=
  ((F_M_carryAll_kept r0_days r0_done0 r0_things r0_figures r0_hampers r0_kept r0_kinds r0_left0 r0_wants0 r0_weights (0 : Int32)).bind (fun q_1 => (some (q_1.1, q_1.2.1, q_1.2.2.1, 1, q_1.2.2.2.1, q_1.2.2.2.2.1, q_1.2.2.2.2.2.1, q_1.2.2.2.2.2.2.1, q_1.2.2.2.2.2.2.2.1, q_1.2.2.2.2.2.2.2.2.1, q_1.2.2.2.2.2.2.2.2.2.1, q_1.2.2.2.2.2.2.2.2.2.2.1, q_1.2.2.2.2.2.2.2.2.2.2.2))))
set_option maxHeartbeats 4000000 in
set_option maxRecDepth 100000 in
theorem C_M_again (l : Launch) (D : va_G) (cI cS : ClassId) (a_r0 : Nat) (a_r0_figures : Nat) (a_r0_hampers : Nat) (a_r0_kept : Nat) (a_r0_kinds : Nat) (a_r0_left0 : Nat) (a_r0_wants0 : Nat) (a_r0_weights : Nat) (v_r0_thrown v_r0_refusals v_r0_letters v_r0_letterMany v_r0_at v_r0_isBad v_r0_statements v_r0_placeIn v_r0_letterOf v_r0_told v_r0_imaged v_r0_hasImage v_r0_turns0 v_r0_turnOf v_r0_turned v_r0_order0 v_r0_likely0 v_r0_leftThen v_r0_row v_r0_rowMany v_r0_seed : Value) (kv : Int32 → Value) (hkv_kept : kv 1 = .ref a_r0_kept) (r0_days : Int32) (r0_done0 : Int32) (r0_isTaking : Int32) (r0_keptIn : Int32) (r0_place0 : Int32) (r0_things : Int32) (r0_figures : Nat → Int32) (r0_hampers : Nat → Int32) (r0_kept : Nat → Int32) (r0_kinds : Nat → Int32) (r0_left0 : Nat → Int32) (r0_wants0 : Nat → Int32) (r0_weights : Nat → Int32) (o : (Int32) × (Int32) × (Int32) × (Int32) × (Int32) × (Int32) × (Nat → Int32) × (Nat → Int32) × (Nat → Int32) × (Nat → Int32) × (Nat → Int32) × (Nat → Int32) × (Nat → Int32)) (hr : F_M_again r0_days r0_done0 r0_things r0_figures r0_hampers r0_kept r0_kinds r0_left0 r0_wants0 r0_weights = some o) : ctV l y_M_again (Cond.code y_M_again b_M_again 1 none) (rmd 2) D (kTy cI cS) [.ref a_r0] (w_M_again cI a_r0 a_r0_figures a_r0_hampers a_r0_kept a_r0_kinds a_r0_left0 a_r0_wants0 a_r0_weights v_r0_thrown v_r0_refusals v_r0_letters v_r0_letterMany v_r0_at v_r0_isBad v_r0_statements v_r0_placeIn v_r0_letterOf v_r0_told v_r0_imaged v_r0_hasImage v_r0_turns0 v_r0_turnOf v_r0_turned v_r0_order0 v_r0_likely0 v_r0_leftThen v_r0_row v_r0_rowMany v_r0_seed kv r0_days r0_done0 r0_isTaking r0_keptIn r0_place0 r0_things r0_figures r0_hampers r0_kept r0_kinds r0_left0 r0_wants0 r0_weights) (w_M_again cI a_r0 a_r0_figures a_r0_hampers a_r0_kept a_r0_kinds a_r0_left0 a_r0_wants0 a_r0_weights v_r0_thrown v_r0_refusals v_r0_letters v_r0_letterMany v_r0_at v_r0_isBad v_r0_statements v_r0_placeIn v_r0_letterOf v_r0_told v_r0_imaged v_r0_hasImage v_r0_turns0 v_r0_turnOf v_r0_turned v_r0_order0 v_r0_likely0 v_r0_leftThen v_r0_row v_r0_rowMany v_r0_seed kv o.1 o.2.1 o.2.2.1 o.2.2.2.1 o.2.2.2.2.1 o.2.2.2.2.2.1 o.2.2.2.2.2.2.1 o.2.2.2.2.2.2.2.1 o.2.2.2.2.2.2.2.2.1 o.2.2.2.2.2.2.2.2.2.1 o.2.2.2.2.2.2.2.2.2.2.1 o.2.2.2.2.2.2.2.2.2.2.2.1 o.2.2.2.2.2.2.2.2.2.2.2.2) := by
  unfold F_M_again at hr
  refine ⟨rfl, fun sz => ct_of (w0 := (w_M_again cI a_r0 a_r0_figures a_r0_hampers a_r0_kept a_r0_kinds a_r0_left0 a_r0_wants0 a_r0_weights v_r0_thrown v_r0_refusals v_r0_letters v_r0_letterMany v_r0_at v_r0_isBad v_r0_statements v_r0_placeIn v_r0_letterOf v_r0_told v_r0_imaged v_r0_hasImage v_r0_turns0 v_r0_turnOf v_r0_turned v_r0_order0 v_r0_likely0 v_r0_leftThen v_r0_row v_r0_rowMany v_r0_seed kv r0_days r0_done0 r0_isTaking r0_keptIn r0_place0 r0_things r0_figures r0_hampers r0_kept r0_kinds r0_left0 r0_wants0 r0_weights)) (Qc := fun A => qV D (w_M_again cI a_r0 a_r0_figures a_r0_hampers a_r0_kept a_r0_kinds a_r0_left0 a_r0_wants0 a_r0_weights v_r0_thrown v_r0_refusals v_r0_letters v_r0_letterMany v_r0_at v_r0_isBad v_r0_statements v_r0_placeIn v_r0_letterOf v_r0_told v_r0_imaged v_r0_hasImage v_r0_turns0 v_r0_turnOf v_r0_turned v_r0_order0 v_r0_likely0 v_r0_leftThen v_r0_row v_r0_rowMany v_r0_seed kv o.1 o.2.1 o.2.2.1 o.2.2.2.1 o.2.2.2.2.1 o.2.2.2.2.2.1 o.2.2.2.2.2.2.1 o.2.2.2.2.2.2.2.1 o.2.2.2.2.2.2.2.2.1 o.2.2.2.2.2.2.2.2.2.1 o.2.2.2.2.2.2.2.2.2.2.1 o.2.2.2.2.2.2.2.2.2.2.2.1 o.2.2.2.2.2.2.2.2.2.2.2.2) A) rfl (Nat.le_of_ble_eq_true rfl) ?_ sz⟩
  intro p e s m below meth c A hA C hret ls hl hW
  have C : cx p s m ([.ref a_r0] : List Value).toArray meth c b_M_again 1 R_M D (kTy cI cS) (Cond.code y_M_again b_M_again 1 none) := C
  obtain ⟨hx, hb, hml, hown, hts, hK, hlk, hN⟩ := id C
  have hl : lv_has ls 1 [(0, .ref a_r0)] := hl
  obtain ⟨Q, hQ⟩ : ∃ Q, Q = MQ below (qV D (w_M_again cI a_r0 a_r0_figures a_r0_hampers a_r0_kept a_r0_kinds a_r0_left0 a_r0_wants0 a_r0_weights v_r0_thrown v_r0_refusals v_r0_letters v_r0_letterMany v_r0_at v_r0_isBad v_r0_statements v_r0_placeIn v_r0_letterOf v_r0_told v_r0_imaged v_r0_hasImage v_r0_turns0 v_r0_turnOf v_r0_turned v_r0_order0 v_r0_likely0 v_r0_leftThen v_r0_row v_r0_rowMany v_r0_seed kv o.1 o.2.1 o.2.2.1 o.2.2.2.1 o.2.2.2.2.1 o.2.2.2.2.2.1 o.2.2.2.2.2.2.1 o.2.2.2.2.2.2.2.1 o.2.2.2.2.2.2.2.2.1 o.2.2.2.2.2.2.2.2.2.1 o.2.2.2.2.2.2.2.2.2.2.1 o.2.2.2.2.2.2.2.2.2.2.2.1 o.2.2.2.2.2.2.2.2.2.2.2.2) A) ([.ref a_r0] : List Value).toArray s 0 0 A := ⟨_, rfl⟩
  rw [← hQ]
  refine lv_aload_n hx hb d_M_again_0 rfl (lv_at hl 0 rfl) ?_
  refine lv_aload_n hx hb d_M_again_1 rfl (lv_at hl 0 rfl) ?_
  refine k_get i_M C hW 0 rfl rfl 19 (by decide) qf_M_43 rfl rfl d_M_again_2 ?_
  refine lv_iconst (v := 0) hx hb d_M_again_5 (by decide) ?_
  obtain ⟨q_1, hc_1, hr⟩ := ob hr
  have ct_1 := C_M_carryAll_kept l D cI cS a_r0 a_r0_figures a_r0_hampers a_r0_kept a_r0_kinds a_r0_left0 a_r0_wants0 a_r0_weights v_r0_thrown v_r0_refusals v_r0_letters v_r0_letterMany v_r0_at v_r0_isBad v_r0_statements v_r0_placeIn v_r0_letterOf v_r0_told v_r0_imaged v_r0_hasImage (kv r0_keptIn) v_r0_turns0 v_r0_turnOf v_r0_turned v_r0_order0 v_r0_likely0 v_r0_leftThen v_r0_row v_r0_rowMany v_r0_seed (kv 1) hkv_kept r0_days r0_done0 r0_isTaking r0_place0 r0_things r0_figures r0_hampers r0_kept r0_kinds r0_left0 r0_wants0 r0_weights 0 q_1 hc_1
  refine k_goV hA hW [0, 1, 2, 3, 4, 5, 6, 7] rfl ct_1.1 (ws' := (w_M_again cI a_r0 a_r0_figures a_r0_hampers a_r0_kept a_r0_kinds a_r0_left0 a_r0_wants0 a_r0_weights v_r0_thrown v_r0_refusals v_r0_letters v_r0_letterMany v_r0_at v_r0_isBad v_r0_statements v_r0_placeIn v_r0_letterOf v_r0_told v_r0_imaged v_r0_hasImage v_r0_turns0 v_r0_turnOf v_r0_turned v_r0_order0 v_r0_likely0 v_r0_leftThen v_r0_row v_r0_rowMany v_r0_seed kv q_1.1 q_1.2.1 q_1.2.2.1 1 q_1.2.2.2.1 q_1.2.2.2.2.1 q_1.2.2.2.2.2.1 q_1.2.2.2.2.2.2.1 q_1.2.2.2.2.2.2.2.1 q_1.2.2.2.2.2.2.2.2.1 q_1.2.2.2.2.2.2.2.2.2.1 q_1.2.2.2.2.2.2.2.2.2.2.1 q_1.2.2.2.2.2.2.2.2.2.2.2)) rfl (k_runV C hA hW mw_M_carryAll mv_M_carryAll (ct_1.2 _) [0, 1, 2, 3, 4, 5, 6, 7] rfl rfl 0 rfl rfl qm_M_189 ⟨Nat.le_of_ble_eq_true rfl, Nat.le_of_ble_eq_true rfl, Nat.zero_le _, Nat.zero_le _⟩ rfl rfl (Nat.le_of_ble_eq_true rfl) hl.1 d_M_again_6) (fun H locs hW => ?_)
  obtain rfl := Option.some.inj hr
  rw [hQ]; exact k_vret C hret hW d_M_again_9
def w_M_dearOf (cI : ClassId) (a_r0 : Nat) (a_r0_figures : Nat) (a_r0_kinds : Nat) (v_r0_weights v_r0_things v_r0_days v_r0_hampers v_r0_wants0 v_r0_left0 v_r0_done0 v_r0_thrown v_r0_refusals v_r0_letters v_r0_letterMany v_r0_at v_r0_isBad v_r0_statements v_r0_placeIn v_r0_letterOf v_r0_told v_r0_kept v_r0_imaged v_r0_hasImage v_r0_place0 v_r0_isTaking v_r0_keptIn v_r0_turns0 v_r0_turnOf v_r0_turned v_r0_order0 v_r0_likely0 v_r0_leftThen v_r0_row v_r0_rowMany v_r0_seed : Value) (r0_figures : Nat → Int32) (r0_kinds : Nat → Int32) : va_W := [(a_r0, .inr (9, [v_r0_weights, v_r0_things, .ref a_r0_kinds, .ref a_r0_figures, v_r0_days, v_r0_hampers, v_r0_wants0, v_r0_left0, v_r0_done0, v_r0_thrown, v_r0_refusals, v_r0_letters, v_r0_letterMany, v_r0_at, v_r0_isBad, v_r0_statements, v_r0_placeIn, v_r0_letterOf, v_r0_told, v_r0_kept, v_r0_imaged, v_r0_hasImage, v_r0_place0, v_r0_isTaking, v_r0_keptIn, v_r0_turns0, v_r0_turnOf, v_r0_turned, v_r0_order0, v_r0_likely0, v_r0_leftThen, v_r0_row, v_r0_rowMany, v_r0_seed])), (a_r0_figures, .inl (cI, 8, .inl r0_figures)), (a_r0_kinds, .inl (cI, 8, .inl r0_kinds))]
def F_M_dearOf (r0_figures : Nat → Int32) (r0_kinds : Nat → Int32) (x1 : Int32) : Option (Int32) :=
  (ck x1 8 (if (r0_kinds (Int32.toNatClampNeg x1)) = 0 then (some 1) else (if (r0_kinds (Int32.toNatClampNeg x1)) = 1 then (ck x1 8 (some (r0_figures (Int32.toNatClampNeg x1)))) else (if (r0_kinds (Int32.toNatClampNeg x1)) = 2 then (some 4) else (if (r0_kinds (Int32.toNatClampNeg x1)) = 3 then (ck x1 8 (some ((4 : Int32) - ((r0_figures (Int32.toNatClampNeg x1)) / (3 : Int32))))) else (if (r0_kinds (Int32.toNatClampNeg x1)) = 4 then (ck x1 8 (some ((r0_figures (Int32.toNatClampNeg x1)) + 5))) else (some 9)))))))
set_option maxHeartbeats 4000000 in
set_option maxRecDepth 100000 in
theorem C_M_dearOf (l : Launch) (D : va_G) (cI cS : ClassId) (a_r0 : Nat) (a_r0_figures : Nat) (a_r0_kinds : Nat) (v_r0_weights v_r0_things v_r0_days v_r0_hampers v_r0_wants0 v_r0_left0 v_r0_done0 v_r0_thrown v_r0_refusals v_r0_letters v_r0_letterMany v_r0_at v_r0_isBad v_r0_statements v_r0_placeIn v_r0_letterOf v_r0_told v_r0_kept v_r0_imaged v_r0_hasImage v_r0_place0 v_r0_isTaking v_r0_keptIn v_r0_turns0 v_r0_turnOf v_r0_turned v_r0_order0 v_r0_likely0 v_r0_leftThen v_r0_row v_r0_rowMany v_r0_seed : Value) (r0_figures : Nat → Int32) (r0_kinds : Nat → Int32) (x1 : Int32) (o : Int32) (hr : F_M_dearOf r0_figures r0_kinds x1 = some o) : ctI l y_M_dearOf (Cond.code y_M_dearOf b_M_dearOf 2 (some FieldType.int)) (rmd 0) D (kTy cI cS) [.ref a_r0, .int x1] (w_M_dearOf cI a_r0 a_r0_figures a_r0_kinds v_r0_weights v_r0_things v_r0_days v_r0_hampers v_r0_wants0 v_r0_left0 v_r0_done0 v_r0_thrown v_r0_refusals v_r0_letters v_r0_letterMany v_r0_at v_r0_isBad v_r0_statements v_r0_placeIn v_r0_letterOf v_r0_told v_r0_kept v_r0_imaged v_r0_hasImage v_r0_place0 v_r0_isTaking v_r0_keptIn v_r0_turns0 v_r0_turnOf v_r0_turned v_r0_order0 v_r0_likely0 v_r0_leftThen v_r0_row v_r0_rowMany v_r0_seed r0_figures r0_kinds) (w_M_dearOf cI a_r0 a_r0_figures a_r0_kinds v_r0_weights v_r0_things v_r0_days v_r0_hampers v_r0_wants0 v_r0_left0 v_r0_done0 v_r0_thrown v_r0_refusals v_r0_letters v_r0_letterMany v_r0_at v_r0_isBad v_r0_statements v_r0_placeIn v_r0_letterOf v_r0_told v_r0_kept v_r0_imaged v_r0_hasImage v_r0_place0 v_r0_isTaking v_r0_keptIn v_r0_turns0 v_r0_turnOf v_r0_turned v_r0_order0 v_r0_likely0 v_r0_leftThen v_r0_row v_r0_rowMany v_r0_seed r0_figures r0_kinds) o := by
  unfold F_M_dearOf at hr
  refine ⟨rfl, fun sz => ct_of (w0 := (w_M_dearOf cI a_r0 a_r0_figures a_r0_kinds v_r0_weights v_r0_things v_r0_days v_r0_hampers v_r0_wants0 v_r0_left0 v_r0_done0 v_r0_thrown v_r0_refusals v_r0_letters v_r0_letterMany v_r0_at v_r0_isBad v_r0_statements v_r0_placeIn v_r0_letterOf v_r0_told v_r0_kept v_r0_imaged v_r0_hasImage v_r0_place0 v_r0_isTaking v_r0_keptIn v_r0_turns0 v_r0_turnOf v_r0_turned v_r0_order0 v_r0_likely0 v_r0_leftThen v_r0_row v_r0_rowMany v_r0_seed r0_figures r0_kinds)) (Qc := fun A => qI D (w_M_dearOf cI a_r0 a_r0_figures a_r0_kinds v_r0_weights v_r0_things v_r0_days v_r0_hampers v_r0_wants0 v_r0_left0 v_r0_done0 v_r0_thrown v_r0_refusals v_r0_letters v_r0_letterMany v_r0_at v_r0_isBad v_r0_statements v_r0_placeIn v_r0_letterOf v_r0_told v_r0_kept v_r0_imaged v_r0_hasImage v_r0_place0 v_r0_isTaking v_r0_keptIn v_r0_turns0 v_r0_turnOf v_r0_turned v_r0_order0 v_r0_likely0 v_r0_leftThen v_r0_row v_r0_rowMany v_r0_seed r0_figures r0_kinds) o A) rfl (Nat.le_of_ble_eq_true rfl) ?_ sz⟩
  intro p e s m below meth c A hA C hret ls hl hW
  have C : cx p s m ([.ref a_r0, .int x1] : List Value).toArray meth c b_M_dearOf 2 R_M D (kTy cI cS) (Cond.code y_M_dearOf b_M_dearOf 2 (some FieldType.int)) := C
  obtain ⟨hx, hb, hml, hown, hts, hK, hlk, hN⟩ := id C
  have hl : lv_has ls 2 [(0, .ref a_r0), (1, .int x1)] := hl
  obtain ⟨Q, hQ⟩ : ∃ Q, Q = MQ below (qI D (w_M_dearOf cI a_r0 a_r0_figures a_r0_kinds v_r0_weights v_r0_things v_r0_days v_r0_hampers v_r0_wants0 v_r0_left0 v_r0_done0 v_r0_thrown v_r0_refusals v_r0_letters v_r0_letterMany v_r0_at v_r0_isBad v_r0_statements v_r0_placeIn v_r0_letterOf v_r0_told v_r0_kept v_r0_imaged v_r0_hasImage v_r0_place0 v_r0_isTaking v_r0_keptIn v_r0_turns0 v_r0_turnOf v_r0_turned v_r0_order0 v_r0_likely0 v_r0_leftThen v_r0_row v_r0_rowMany v_r0_seed r0_figures r0_kinds) o A) ([.ref a_r0, .int x1] : List Value).toArray s 0 0 A := ⟨_, rfl⟩
  rw [← hQ]
  refine lv_aload_n hx hb d_M_dearOf_0 rfl (lv_at hl 0 rfl) ?_
  refine k_get i_M C hW 0 rfl rfl 2 (by decide) qf_M_13 rfl rfl d_M_dearOf_1 ?_
  refine lv_iload_n hx hb d_M_dearOf_4 rfl (lv_at hl 1 rfl) ?_
  obtain ⟨h_1, hr⟩ := ck_some hr
  refine k_iald C hW 2 rfl h_1 d_M_dearOf_5 ?_
  by_cases c_2 : (r0_kinds (Int32.toNatClampNeg x1)) = 0
  · replace hr := ip c_2 hr
    refine k_tabIn (tgt := 40) (off := 34) c_2 hx hb d_M_dearOf_6 (by decide) (by decide) (by decide) (by decide) ?_
    refine lv_iconst (v := 1) hx hb d_M_dearOf_40 (by decide) ?_
    obtain rfl := Option.some.inj hr
    rw [hQ]; exact k_iret C hret hW d_M_dearOf_41
  · replace hr := iN c_2 hr
    by_cases c_3 : (r0_kinds (Int32.toNatClampNeg x1)) = 1
    · replace hr := ip c_3 hr
      refine k_tabIn (tgt := 42) (off := 36) c_3 hx hb d_M_dearOf_6 (by decide) (by decide) (by decide) (by decide) ?_
      refine lv_aload_n hx hb d_M_dearOf_42 rfl (lv_at hl 0 rfl) ?_
      refine k_get i_M C hW 0 rfl rfl 3 (by decide) qf_M_16 rfl rfl d_M_dearOf_43 ?_
      refine lv_iload_n hx hb d_M_dearOf_46 rfl (lv_at hl 1 rfl) ?_
      obtain ⟨h_4, hr⟩ := ck_some hr
      refine k_iald C hW 1 rfl h_4 d_M_dearOf_47 ?_
      obtain rfl := Option.some.inj hr
      rw [hQ]; exact k_iret C hret hW d_M_dearOf_48
    · replace hr := iN c_3 hr
      by_cases c_5 : (r0_kinds (Int32.toNatClampNeg x1)) = 2
      · replace hr := ip c_5 hr
        refine k_tabIn (tgt := 49) (off := 43) c_5 hx hb d_M_dearOf_6 (by decide) (by decide) (by decide) (by decide) ?_
        refine lv_iconst (v := 4) hx hb d_M_dearOf_49 (by decide) ?_
        obtain rfl := Option.some.inj hr
        rw [hQ]; exact k_iret C hret hW d_M_dearOf_50
      · replace hr := iN c_5 hr
        by_cases c_6 : (r0_kinds (Int32.toNatClampNeg x1)) = 3
        · replace hr := ip c_6 hr
          refine k_tabIn (tgt := 51) (off := 45) c_6 hx hb d_M_dearOf_6 (by decide) (by decide) (by decide) (by decide) ?_
          refine lv_iconst (v := 4) hx hb d_M_dearOf_51 (by decide) ?_
          refine lv_aload_n hx hb d_M_dearOf_52 rfl (lv_at hl 0 rfl) ?_
          refine k_get i_M C hW 0 rfl rfl 3 (by decide) qf_M_16 rfl rfl d_M_dearOf_53 ?_
          refine lv_iload_n hx hb d_M_dearOf_56 rfl (lv_at hl 1 rfl) ?_
          obtain ⟨h_7, hr⟩ := ck_some hr
          refine k_iald C hW 1 rfl h_7 d_M_dearOf_57 ?_
          refine lv_iconst (v := 3) hx hb d_M_dearOf_58 (by decide) ?_
          refine lv_idiv hx hb d_M_dearOf_59 (by decide) ?_
          refine lv_isub hx hb d_M_dearOf_60 ?_
          obtain rfl := Option.some.inj hr
          rw [hQ]; exact k_iret C hret hW d_M_dearOf_61
        · replace hr := iN c_6 hr
          by_cases c_8 : (r0_kinds (Int32.toNatClampNeg x1)) = 4
          · replace hr := ip c_8 hr
            refine k_tabIn (tgt := 62) (off := 56) c_8 hx hb d_M_dearOf_6 (by decide) (by decide) (by decide) (by decide) ?_
            refine lv_aload_n hx hb d_M_dearOf_62 rfl (lv_at hl 0 rfl) ?_
            refine k_get i_M C hW 0 rfl rfl 3 (by decide) qf_M_16 rfl rfl d_M_dearOf_63 ?_
            refine lv_iload_n hx hb d_M_dearOf_66 rfl (lv_at hl 1 rfl) ?_
            obtain ⟨h_9, hr⟩ := ck_some hr
            refine k_iald C hW 1 rfl h_9 d_M_dearOf_67 ?_
            refine lv_iconst (v := 5) hx hb d_M_dearOf_68 (by decide) ?_
            refine lv_iadd hx hb d_M_dearOf_69 ?_
            obtain rfl := Option.some.inj hr
            rw [hQ]; exact k_iret C hret hW d_M_dearOf_70
          · replace hr := iN c_8 hr
            refine k_tabDef (tgt := 71) [0, 1, 2, 3, 4] (by decide +kernel) (by simp only [List.forall_mem_cons]; exact ⟨c_2, c_3, c_5, c_6, c_8, fun _ h => absurd h List.not_mem_nil⟩) hx hb d_M_dearOf_6 (by decide) ?_
            refine lv_bipush (v := 9) hx hb d_M_dearOf_71 (by decide) ?_
            obtain rfl := Option.some.inj hr
            rw [hQ]; exact k_iret C hret hW d_M_dearOf_73
def F_M_hasBit (x0 : Int32) (x1 : Int32) : Option (Int32) :=
  (if (((x0 : Int32) >>> ((x1 : Int32) &&& 31)) &&& 1) = 1 then (some 1) else (some 0))
set_option maxHeartbeats 4000000 in
set_option maxRecDepth 100000 in
theorem C_M_hasBit (l : Launch) (D : va_G) (cI cS : ClassId) (x0 : Int32) (x1 : Int32) (o : Int32) (hr : F_M_hasBit x0 x1 = some o) : ctI l y_M_hasBit (Cond.code y_M_hasBit b_M_hasBit 2 (some FieldType.boolean)) (rmd 0) D (kTy cI cS) [.int x0, .int x1] [] [] o := by
  unfold F_M_hasBit at hr
  refine ⟨rfl, fun sz => ct_of (w0 := []) (Qc := fun A => qI D [] o A) rfl (Nat.le_of_ble_eq_true rfl) ?_ sz⟩
  intro p e s m below meth c A hA C hret ls hl hW
  have C : cx p s m ([.int x0, .int x1] : List Value).toArray meth c b_M_hasBit 2 R_M D (kTy cI cS) (Cond.code y_M_hasBit b_M_hasBit 2 (some FieldType.boolean)) := C
  obtain ⟨hx, hb, hml, hown, hts, hK, hlk, hN⟩ := id C
  have hl : lv_has ls 2 [(0, .int x0), (1, .int x1)] := hl
  obtain ⟨Q, hQ⟩ : ∃ Q, Q = MQ below (qI D [] o A) ([.int x0, .int x1] : List Value).toArray s 0 0 A := ⟨_, rfl⟩
  rw [← hQ]
  refine lv_iload_n hx hb d_M_hasBit_0 rfl (lv_at hl 0 rfl) ?_
  refine lv_iload_n hx hb d_M_hasBit_1 rfl (lv_at hl 1 rfl) ?_
  refine lv_ishr hx hb d_M_hasBit_2 ?_
  refine lv_iconst (v := 1) hx hb d_M_hasBit_3 (by decide) ?_
  refine lv_iand hx hb d_M_hasBit_4 ?_
  refine lv_iconst (v := 1) hx hb d_M_hasBit_5 (by decide) ?_
  refine lv_icmp_ne (tgt := 13) hx hb d_M_hasBit_6 (by decide) (fun c_1 => ?_) (fun c_1 => ?_)
  · replace hr := iN c_1 hr
    refine lv_iconst (v := 0) hx hb d_M_hasBit_13 (by decide) ?_
    obtain rfl := Option.some.inj hr
    rw [hQ]; exact k_zret C hret nar0 hW d_M_hasBit_14
  · replace hr := ip c_1 hr
    refine lv_iconst (v := 1) hx hb d_M_hasBit_9 (by decide) ?_
    refine lv_goto (tgt := 14) hx hb d_M_hasBit_10 (by decide) ?_
    obtain rfl := Option.some.inj hr
    rw [hQ]; exact k_zret C hret nar1 hW d_M_hasBit_14
def w_M_allDear (cI : ClassId) (a_r0 : Nat) (a_r0_figures : Nat) (a_r0_kinds : Nat) (v_r0_weights v_r0_days v_r0_hampers v_r0_wants0 v_r0_left0 v_r0_done0 v_r0_thrown v_r0_refusals v_r0_letters v_r0_letterMany v_r0_at v_r0_isBad v_r0_statements v_r0_placeIn v_r0_letterOf v_r0_told v_r0_kept v_r0_imaged v_r0_hasImage v_r0_place0 v_r0_isTaking v_r0_keptIn v_r0_turns0 v_r0_turnOf v_r0_turned v_r0_order0 v_r0_likely0 v_r0_leftThen v_r0_row v_r0_rowMany v_r0_seed : Value) (r0_things : Int32) (r0_figures : Nat → Int32) (r0_kinds : Nat → Int32) : va_W := [(a_r0, .inr (9, [v_r0_weights, .int r0_things, .ref a_r0_kinds, .ref a_r0_figures, v_r0_days, v_r0_hampers, v_r0_wants0, v_r0_left0, v_r0_done0, v_r0_thrown, v_r0_refusals, v_r0_letters, v_r0_letterMany, v_r0_at, v_r0_isBad, v_r0_statements, v_r0_placeIn, v_r0_letterOf, v_r0_told, v_r0_kept, v_r0_imaged, v_r0_hasImage, v_r0_place0, v_r0_isTaking, v_r0_keptIn, v_r0_turns0, v_r0_turnOf, v_r0_turned, v_r0_order0, v_r0_likely0, v_r0_leftThen, v_r0_row, v_r0_rowMany, v_r0_seed])), (a_r0_figures, .inl (cI, 8, .inl r0_figures)), (a_r0_kinds, .inl (cI, 8, .inl r0_kinds))]
def F_M_allDear_L4 (r0_things : Int32) (r0_figures : Nat → Int32) (r0_kinds : Nat → Int32) (x1 : Int32) (y2_1 : Int32) (y3_1 : Int32) : Option (((Int32) × (Int32)) ⊕ ((Int32))) :=
  (if r0_things ≤ y3_1 then (some (.inr y2_1)) else ((F_M_hasBit x1 y3_1).bind (fun q_3 => (if q_3 = 0 then (some (.inl ((y2_1 + 0), (y3_1 + 1)))) else ((F_M_dearOf r0_figures r0_kinds y3_1).bind (fun q_5 => (some (.inl ((y2_1 + q_5), (y3_1 + 1))))))))))
def F_M_allDear (r0_things : Int32) (r0_figures : Nat → Int32) (r0_kinds : Nat → Int32) (x1 : Int32) : Option (Int32) :=
  ((wh (fun (s : (Int32) × (Int32)) => F_M_allDear_L4 r0_things r0_figures r0_kinds x1 s.1 s.2) 400 ((0 : Int32), (0 : Int32))).bind (fun e_1 => (some e_1)))
set_option maxHeartbeats 4000000 in
set_option maxRecDepth 100000 in
theorem C_M_allDear (l : Launch) (D : va_G) (cI cS : ClassId) (a_r0 : Nat) (a_r0_figures : Nat) (a_r0_kinds : Nat) (v_r0_weights v_r0_days v_r0_hampers v_r0_wants0 v_r0_left0 v_r0_done0 v_r0_thrown v_r0_refusals v_r0_letters v_r0_letterMany v_r0_at v_r0_isBad v_r0_statements v_r0_placeIn v_r0_letterOf v_r0_told v_r0_kept v_r0_imaged v_r0_hasImage v_r0_place0 v_r0_isTaking v_r0_keptIn v_r0_turns0 v_r0_turnOf v_r0_turned v_r0_order0 v_r0_likely0 v_r0_leftThen v_r0_row v_r0_rowMany v_r0_seed : Value) (r0_things : Int32) (r0_figures : Nat → Int32) (r0_kinds : Nat → Int32) (x1 : Int32) (o : Int32) (hr : F_M_allDear r0_things r0_figures r0_kinds x1 = some o) : ctI l y_M_allDear (Cond.code y_M_allDear b_M_allDear 4 (some FieldType.int)) (rmd 1) D (kTy cI cS) [.ref a_r0, .int x1] (w_M_allDear cI a_r0 a_r0_figures a_r0_kinds v_r0_weights v_r0_days v_r0_hampers v_r0_wants0 v_r0_left0 v_r0_done0 v_r0_thrown v_r0_refusals v_r0_letters v_r0_letterMany v_r0_at v_r0_isBad v_r0_statements v_r0_placeIn v_r0_letterOf v_r0_told v_r0_kept v_r0_imaged v_r0_hasImage v_r0_place0 v_r0_isTaking v_r0_keptIn v_r0_turns0 v_r0_turnOf v_r0_turned v_r0_order0 v_r0_likely0 v_r0_leftThen v_r0_row v_r0_rowMany v_r0_seed r0_things r0_figures r0_kinds) (w_M_allDear cI a_r0 a_r0_figures a_r0_kinds v_r0_weights v_r0_days v_r0_hampers v_r0_wants0 v_r0_left0 v_r0_done0 v_r0_thrown v_r0_refusals v_r0_letters v_r0_letterMany v_r0_at v_r0_isBad v_r0_statements v_r0_placeIn v_r0_letterOf v_r0_told v_r0_kept v_r0_imaged v_r0_hasImage v_r0_place0 v_r0_isTaking v_r0_keptIn v_r0_turns0 v_r0_turnOf v_r0_turned v_r0_order0 v_r0_likely0 v_r0_leftThen v_r0_row v_r0_rowMany v_r0_seed r0_things r0_figures r0_kinds) o := by
  unfold F_M_allDear at hr
  refine ⟨rfl, fun sz => ct_of (w0 := (w_M_allDear cI a_r0 a_r0_figures a_r0_kinds v_r0_weights v_r0_days v_r0_hampers v_r0_wants0 v_r0_left0 v_r0_done0 v_r0_thrown v_r0_refusals v_r0_letters v_r0_letterMany v_r0_at v_r0_isBad v_r0_statements v_r0_placeIn v_r0_letterOf v_r0_told v_r0_kept v_r0_imaged v_r0_hasImage v_r0_place0 v_r0_isTaking v_r0_keptIn v_r0_turns0 v_r0_turnOf v_r0_turned v_r0_order0 v_r0_likely0 v_r0_leftThen v_r0_row v_r0_rowMany v_r0_seed r0_things r0_figures r0_kinds)) (Qc := fun A => qI D (w_M_allDear cI a_r0 a_r0_figures a_r0_kinds v_r0_weights v_r0_days v_r0_hampers v_r0_wants0 v_r0_left0 v_r0_done0 v_r0_thrown v_r0_refusals v_r0_letters v_r0_letterMany v_r0_at v_r0_isBad v_r0_statements v_r0_placeIn v_r0_letterOf v_r0_told v_r0_kept v_r0_imaged v_r0_hasImage v_r0_place0 v_r0_isTaking v_r0_keptIn v_r0_turns0 v_r0_turnOf v_r0_turned v_r0_order0 v_r0_likely0 v_r0_leftThen v_r0_row v_r0_rowMany v_r0_seed r0_things r0_figures r0_kinds) o A) rfl (Nat.le_of_ble_eq_true rfl) ?_ sz⟩
  intro p e s m below meth c A hA C hret ls hl hW
  have C : cx p s m ([.ref a_r0, .int x1] : List Value).toArray meth c b_M_allDear 4 R_M D (kTy cI cS) (Cond.code y_M_allDear b_M_allDear 4 (some FieldType.int)) := C
  obtain ⟨hx, hb, hml, hown, hts, hK, hlk, hN⟩ := id C
  have hl : lv_has ls 4 [(0, .ref a_r0), (1, .int x1)] := hl
  obtain ⟨Q, hQ⟩ : ∃ Q, Q = MQ below (qI D (w_M_allDear cI a_r0 a_r0_figures a_r0_kinds v_r0_weights v_r0_days v_r0_hampers v_r0_wants0 v_r0_left0 v_r0_done0 v_r0_thrown v_r0_refusals v_r0_letters v_r0_letterMany v_r0_at v_r0_isBad v_r0_statements v_r0_placeIn v_r0_letterOf v_r0_told v_r0_kept v_r0_imaged v_r0_hasImage v_r0_place0 v_r0_isTaking v_r0_keptIn v_r0_turns0 v_r0_turnOf v_r0_turned v_r0_order0 v_r0_likely0 v_r0_leftThen v_r0_row v_r0_rowMany v_r0_seed r0_things r0_figures r0_kinds) o A) ([.ref a_r0, .int x1] : List Value).toArray s 0 0 A := ⟨_, rfl⟩
  rw [← hQ]
  refine lv_iconst (v := 0) hx hb d_M_allDear_0 (by decide) ?_
  refine lv_istore_n (lv' := [(2, .int 0), (0, .ref a_r0), (1, .int x1)]) hx hb d_M_allDear_1 rfl hl (by decide) rfl (fun ls hl => ?_)
  refine lv_iconst (v := 0) hx hb d_M_allDear_2 (by decide) ?_
  refine lv_istore_n (lv' := [(3, .int 0), (2, .int 0), (0, .ref a_r0), (1, .int x1)]) hx hb d_M_allDear_3 rfl hl (by decide) rfl (fun ls hl => ?_)
  obtain ⟨ex_1, hw_1, hk_1⟩ := ob hr
  have hx_1 : ∀ (e_1 : (Int32)), e_1 = ex_1 → ∀ (H : Heap) (locs : List Loc) (ls : Array Slot), wd A s.heap D (w_M_allDear cI a_r0 a_r0_figures a_r0_kinds v_r0_weights v_r0_days v_r0_hampers v_r0_wants0 v_r0_left0 v_r0_done0 v_r0_thrown v_r0_refusals v_r0_letters v_r0_letterMany v_r0_at v_r0_isBad v_r0_statements v_r0_placeIn v_r0_letterOf v_r0_told v_r0_kept v_r0_imaged v_r0_hasImage v_r0_place0 v_r0_isTaking v_r0_keptIn v_r0_turns0 v_r0_turnOf v_r0_turned v_r0_order0 v_r0_likely0 v_r0_leftThen v_r0_row v_r0_rowMany v_r0_seed r0_things r0_figures r0_kinds) H locs → lv_has ls 4 [(2, .int e_1)] → W p l e (rmd 1) s m ([.ref a_r0, .int x1] : List Value).toArray below meth c H locs 0 0 Q (F0 m 38 ls []) := by
    intro e_1 hE H locs ls hW hl
    subst hE; have hr := hk_1
    refine lv_iload_n hx hb d_M_allDear_38 rfl (lv_at hl 0 rfl) ?_
    obtain rfl := Option.some.inj hr
    rw [hQ]; exact k_iret C hret hW d_M_allDear_39
  have hl_1 : ∀ (k : Nat) (y2_1 : Int32) (y3_1 : Int32), wh (fun (s : (Int32) × (Int32)) => F_M_allDear_L4 r0_things r0_figures r0_kinds x1 s.1 s.2) k (y2_1, y3_1) = some ex_1 → ∀ (H : Heap) (locs : List Loc) (ls : Array Slot), wd A s.heap D (w_M_allDear cI a_r0 a_r0_figures a_r0_kinds v_r0_weights v_r0_days v_r0_hampers v_r0_wants0 v_r0_left0 v_r0_done0 v_r0_thrown v_r0_refusals v_r0_letters v_r0_letterMany v_r0_at v_r0_isBad v_r0_statements v_r0_placeIn v_r0_letterOf v_r0_told v_r0_kept v_r0_imaged v_r0_hasImage v_r0_place0 v_r0_isTaking v_r0_keptIn v_r0_turns0 v_r0_turnOf v_r0_turned v_r0_order0 v_r0_likely0 v_r0_leftThen v_r0_row v_r0_rowMany v_r0_seed r0_things r0_figures r0_kinds) H locs → lv_has ls 4 [(0, .ref a_r0), (1, .int x1), (2, .int y2_1), (3, .int y3_1)] → W p l e (rmd 1) s m ([.ref a_r0, .int x1] : List Value).toArray below meth c H locs 0 0 Q (F0 m 4 ls []) := by
    intro k
    induction k with
    | zero => intro y2_1 y3_1 hw; exact absurd hw wh_0
    | succ k ih_1 =>
      intro y2_1 y3_1 hw H locs ls hW hl
      obtain ⟨z_1, hr, hz1_1, hz2_1⟩ := wh_s hw
      have hr : F_M_allDear_L4 r0_things r0_figures r0_kinds x1 y2_1 y3_1 = some z_1 := hr
      unfold F_M_allDear_L4 at hr
      refine lv_iload_n hx hb d_M_allDear_4 rfl (lv_at hl 3 rfl) ?_
      refine lv_aload_n hx hb d_M_allDear_5 rfl (lv_at hl 0 rfl) ?_
      refine k_get i_M C hW 0 rfl rfl 1 (by decide) qf_M_71 rfl rfl d_M_allDear_6 ?_
      refine lv_icmp_ge (tgt := 38) hx hb d_M_allDear_9 (by decide) (fun c_2 => ?_) (fun c_2 => ?_)
      · replace hr := ip c_2 hr
        exact hx_1 _ (hz2_1 _ (Option.some.inj hr).symm) _ _ _ hW (lv_sub hl [2] rfl)
      · replace hr := iN c_2 hr
        refine lv_iload_n hx hb d_M_allDear_12 rfl (lv_at hl 2 rfl) ?_
        refine lv_iload_n hx hb d_M_allDear_13 rfl (lv_at hl 1 rfl) ?_
        refine lv_iload_n hx hb d_M_allDear_14 rfl (lv_at hl 3 rfl) ?_
        obtain ⟨q_3, hc_3, hr⟩ := ob hr
        have ct_3 := C_M_hasBit l D cI cS x1 y3_1 q_3 hc_3
        refine k_goIp hA hW [] rfl rfl (k_runS C hA hW mw_M_hasBit ms_M_hasBit (ct_3.2 _) [] rfl rfl qm_M_85 ⟨Nat.le_of_ble_eq_true rfl, Nat.le_of_ble_eq_true rfl, Nat.zero_le _, Nat.zero_le _⟩ rfl rfl (Nat.le_of_ble_eq_true rfl) hl.1 d_M_allDear_15) (fun H locs hW => ?_)
        refine lv_if_eq (tgt := 29) hx hb d_M_allDear_18 (by decide) (fun c_4 => ?_) (fun c_4 => ?_)
        · replace hr := ip c_4 hr
          refine lv_iconst (v := 0) hx hb d_M_allDear_29 (by decide) ?_
          refine lv_iadd hx hb d_M_allDear_30 ?_
          refine lv_istore_n (lv' := [(2, .int (y2_1 + 0)), (0, .ref a_r0), (1, .int x1), (3, .int y3_1)]) hx hb d_M_allDear_31 rfl hl (by decide) rfl (fun ls hl => ?_)
          refine lv_iinc (v := (y3_1 + 1)) (lv' := [(3, .int (y3_1 + 1)), (2, .int (y2_1 + 0)), (0, .ref a_r0), (1, .int x1)]) hx hb d_M_allDear_32 hl (k := 3) rfl rfl (by decide) rfl (fun ls hl => ?_)
          refine lv_goto (tgt := 4) hx hb d_M_allDear_35 (by decide) ?_
          exact ih_1 (y2_1 + 0) (y3_1 + 1) (hz1_1 _ (Option.some.inj hr).symm) _ _ _ hW (lv_sub hl [2, 3, 1, 0] rfl)
        · replace hr := iN c_4 hr
          refine lv_aload_n hx hb d_M_allDear_21 rfl (lv_at hl 0 rfl) ?_
          refine lv_iload_n hx hb d_M_allDear_22 rfl (lv_at hl 3 rfl) ?_
          obtain ⟨q_5, hc_5, hr⟩ := ob hr
          have ct_5 := C_M_dearOf l D cI cS a_r0 a_r0_figures a_r0_kinds v_r0_weights (Value.int r0_things) v_r0_days v_r0_hampers v_r0_wants0 v_r0_left0 v_r0_done0 v_r0_thrown v_r0_refusals v_r0_letters v_r0_letterMany v_r0_at v_r0_isBad v_r0_statements v_r0_placeIn v_r0_letterOf v_r0_told v_r0_kept v_r0_imaged v_r0_hasImage v_r0_place0 v_r0_isTaking v_r0_keptIn v_r0_turns0 v_r0_turnOf v_r0_turned v_r0_order0 v_r0_likely0 v_r0_leftThen v_r0_row v_r0_rowMany v_r0_seed r0_figures r0_kinds y3_1 q_5 hc_5
          refine k_goIp hA hW [0, 1, 2] rfl rfl (k_runV C hA hW mw_M_dearOf mv_M_dearOf (ct_5.2 _) [0, 1, 2] rfl rfl 0 rfl rfl qm_M_93 ⟨Nat.le_of_ble_eq_true rfl, Nat.le_of_ble_eq_true rfl, Nat.zero_le _, Nat.zero_le _⟩ rfl rfl (Nat.le_of_ble_eq_true rfl) hl.1 d_M_allDear_23) (fun H locs hW => ?_)
          refine lv_goto (tgt := 30) hx hb d_M_allDear_26 (by decide) ?_
          refine lv_iadd hx hb d_M_allDear_30 ?_
          refine lv_istore_n (lv' := [(2, .int (y2_1 + q_5)), (0, .ref a_r0), (1, .int x1), (3, .int y3_1)]) hx hb d_M_allDear_31 rfl hl (by decide) rfl (fun ls hl => ?_)
          refine lv_iinc (v := (y3_1 + 1)) (lv' := [(3, .int (y3_1 + 1)), (2, .int (y2_1 + q_5)), (0, .ref a_r0), (1, .int x1)]) hx hb d_M_allDear_32 hl (k := 3) rfl rfl (by decide) rfl (fun ls hl => ?_)
          refine lv_goto (tgt := 4) hx hb d_M_allDear_35 (by decide) ?_
          exact ih_1 (y2_1 + q_5) (y3_1 + 1) (hz1_1 _ (Option.some.inj hr).symm) _ _ _ hW (lv_sub hl [2, 3, 1, 0] rfl)
  exact hl_1 _ 0 0 hw_1 _ _ _ hW (lv_sub hl [2, 3, 1, 0] rfl)
def w_M_heavyOf (cI : ClassId) (a_r0 : Nat) (a_r0_figures : Nat) (a_r0_kinds : Nat) (v_r0_weights v_r0_things v_r0_days v_r0_hampers v_r0_wants0 v_r0_left0 v_r0_done0 v_r0_thrown v_r0_refusals v_r0_letters v_r0_letterMany v_r0_at v_r0_isBad v_r0_statements v_r0_placeIn v_r0_letterOf v_r0_told v_r0_kept v_r0_imaged v_r0_hasImage v_r0_place0 v_r0_isTaking v_r0_keptIn v_r0_turns0 v_r0_turnOf v_r0_turned v_r0_order0 v_r0_likely0 v_r0_leftThen v_r0_row v_r0_rowMany v_r0_seed : Value) (r0_figures : Nat → Int32) (r0_kinds : Nat → Int32) : va_W := [(a_r0, .inr (9, [v_r0_weights, v_r0_things, .ref a_r0_kinds, .ref a_r0_figures, v_r0_days, v_r0_hampers, v_r0_wants0, v_r0_left0, v_r0_done0, v_r0_thrown, v_r0_refusals, v_r0_letters, v_r0_letterMany, v_r0_at, v_r0_isBad, v_r0_statements, v_r0_placeIn, v_r0_letterOf, v_r0_told, v_r0_kept, v_r0_imaged, v_r0_hasImage, v_r0_place0, v_r0_isTaking, v_r0_keptIn, v_r0_turns0, v_r0_turnOf, v_r0_turned, v_r0_order0, v_r0_likely0, v_r0_leftThen, v_r0_row, v_r0_rowMany, v_r0_seed])), (a_r0_figures, .inl (cI, 8, .inl r0_figures)), (a_r0_kinds, .inl (cI, 8, .inl r0_kinds))]
def F_M_heavyOf (r0_figures : Nat → Int32) (r0_kinds : Nat → Int32) (x1 : Int32) : Option (Int32) :=
  (ck x1 8 (if (r0_kinds (Int32.toNatClampNeg x1)) = 0 then (ck x1 8 (some ((r0_figures (Int32.toNatClampNeg x1)) + 1))) else (if (r0_kinds (Int32.toNatClampNeg x1)) = 1 then (ck x1 8 (some ((r0_figures (Int32.toNatClampNeg x1)) + 3))) else (if (r0_kinds (Int32.toNatClampNeg x1)) = 2 then (some 4) else (if (r0_kinds (Int32.toNatClampNeg x1)) = 3 then (some 2) else (if (r0_kinds (Int32.toNatClampNeg x1)) = 4 then (ck x1 8 (some ((2 : Int32) * ((r0_figures (Int32.toNatClampNeg x1)) + 3)))) else (some 0)))))))
set_option maxHeartbeats 4000000 in
set_option maxRecDepth 100000 in
theorem C_M_heavyOf (l : Launch) (D : va_G) (cI cS : ClassId) (a_r0 : Nat) (a_r0_figures : Nat) (a_r0_kinds : Nat) (v_r0_weights v_r0_things v_r0_days v_r0_hampers v_r0_wants0 v_r0_left0 v_r0_done0 v_r0_thrown v_r0_refusals v_r0_letters v_r0_letterMany v_r0_at v_r0_isBad v_r0_statements v_r0_placeIn v_r0_letterOf v_r0_told v_r0_kept v_r0_imaged v_r0_hasImage v_r0_place0 v_r0_isTaking v_r0_keptIn v_r0_turns0 v_r0_turnOf v_r0_turned v_r0_order0 v_r0_likely0 v_r0_leftThen v_r0_row v_r0_rowMany v_r0_seed : Value) (r0_figures : Nat → Int32) (r0_kinds : Nat → Int32) (x1 : Int32) (o : Int32) (hr : F_M_heavyOf r0_figures r0_kinds x1 = some o) : ctI l y_M_heavyOf (Cond.code y_M_heavyOf b_M_heavyOf 2 (some FieldType.int)) (rmd 0) D (kTy cI cS) [.ref a_r0, .int x1] (w_M_heavyOf cI a_r0 a_r0_figures a_r0_kinds v_r0_weights v_r0_things v_r0_days v_r0_hampers v_r0_wants0 v_r0_left0 v_r0_done0 v_r0_thrown v_r0_refusals v_r0_letters v_r0_letterMany v_r0_at v_r0_isBad v_r0_statements v_r0_placeIn v_r0_letterOf v_r0_told v_r0_kept v_r0_imaged v_r0_hasImage v_r0_place0 v_r0_isTaking v_r0_keptIn v_r0_turns0 v_r0_turnOf v_r0_turned v_r0_order0 v_r0_likely0 v_r0_leftThen v_r0_row v_r0_rowMany v_r0_seed r0_figures r0_kinds) (w_M_heavyOf cI a_r0 a_r0_figures a_r0_kinds v_r0_weights v_r0_things v_r0_days v_r0_hampers v_r0_wants0 v_r0_left0 v_r0_done0 v_r0_thrown v_r0_refusals v_r0_letters v_r0_letterMany v_r0_at v_r0_isBad v_r0_statements v_r0_placeIn v_r0_letterOf v_r0_told v_r0_kept v_r0_imaged v_r0_hasImage v_r0_place0 v_r0_isTaking v_r0_keptIn v_r0_turns0 v_r0_turnOf v_r0_turned v_r0_order0 v_r0_likely0 v_r0_leftThen v_r0_row v_r0_rowMany v_r0_seed r0_figures r0_kinds) o := by
  unfold F_M_heavyOf at hr
  refine ⟨rfl, fun sz => ct_of (w0 := (w_M_heavyOf cI a_r0 a_r0_figures a_r0_kinds v_r0_weights v_r0_things v_r0_days v_r0_hampers v_r0_wants0 v_r0_left0 v_r0_done0 v_r0_thrown v_r0_refusals v_r0_letters v_r0_letterMany v_r0_at v_r0_isBad v_r0_statements v_r0_placeIn v_r0_letterOf v_r0_told v_r0_kept v_r0_imaged v_r0_hasImage v_r0_place0 v_r0_isTaking v_r0_keptIn v_r0_turns0 v_r0_turnOf v_r0_turned v_r0_order0 v_r0_likely0 v_r0_leftThen v_r0_row v_r0_rowMany v_r0_seed r0_figures r0_kinds)) (Qc := fun A => qI D (w_M_heavyOf cI a_r0 a_r0_figures a_r0_kinds v_r0_weights v_r0_things v_r0_days v_r0_hampers v_r0_wants0 v_r0_left0 v_r0_done0 v_r0_thrown v_r0_refusals v_r0_letters v_r0_letterMany v_r0_at v_r0_isBad v_r0_statements v_r0_placeIn v_r0_letterOf v_r0_told v_r0_kept v_r0_imaged v_r0_hasImage v_r0_place0 v_r0_isTaking v_r0_keptIn v_r0_turns0 v_r0_turnOf v_r0_turned v_r0_order0 v_r0_likely0 v_r0_leftThen v_r0_row v_r0_rowMany v_r0_seed r0_figures r0_kinds) o A) rfl (Nat.le_of_ble_eq_true rfl) ?_ sz⟩
  intro p e s m below meth c A hA C hret ls hl hW
  have C : cx p s m ([.ref a_r0, .int x1] : List Value).toArray meth c b_M_heavyOf 2 R_M D (kTy cI cS) (Cond.code y_M_heavyOf b_M_heavyOf 2 (some FieldType.int)) := C
  obtain ⟨hx, hb, hml, hown, hts, hK, hlk, hN⟩ := id C
  have hl : lv_has ls 2 [(0, .ref a_r0), (1, .int x1)] := hl
  obtain ⟨Q, hQ⟩ : ∃ Q, Q = MQ below (qI D (w_M_heavyOf cI a_r0 a_r0_figures a_r0_kinds v_r0_weights v_r0_things v_r0_days v_r0_hampers v_r0_wants0 v_r0_left0 v_r0_done0 v_r0_thrown v_r0_refusals v_r0_letters v_r0_letterMany v_r0_at v_r0_isBad v_r0_statements v_r0_placeIn v_r0_letterOf v_r0_told v_r0_kept v_r0_imaged v_r0_hasImage v_r0_place0 v_r0_isTaking v_r0_keptIn v_r0_turns0 v_r0_turnOf v_r0_turned v_r0_order0 v_r0_likely0 v_r0_leftThen v_r0_row v_r0_rowMany v_r0_seed r0_figures r0_kinds) o A) ([.ref a_r0, .int x1] : List Value).toArray s 0 0 A := ⟨_, rfl⟩
  rw [← hQ]
  refine lv_aload_n hx hb d_M_heavyOf_0 rfl (lv_at hl 0 rfl) ?_
  refine k_get i_M C hW 0 rfl rfl 2 (by decide) qf_M_13 rfl rfl d_M_heavyOf_1 ?_
  refine lv_iload_n hx hb d_M_heavyOf_4 rfl (lv_at hl 1 rfl) ?_
  obtain ⟨h_1, hr⟩ := ck_some hr
  refine k_iald C hW 2 rfl h_1 d_M_heavyOf_5 ?_
  by_cases c_2 : (r0_kinds (Int32.toNatClampNeg x1)) = 0
  · replace hr := ip c_2 hr
    refine k_tabIn (tgt := 40) (off := 34) c_2 hx hb d_M_heavyOf_6 (by decide) (by decide) (by decide) (by decide) ?_
    refine lv_aload_n hx hb d_M_heavyOf_40 rfl (lv_at hl 0 rfl) ?_
    refine k_get i_M C hW 0 rfl rfl 3 (by decide) qf_M_16 rfl rfl d_M_heavyOf_41 ?_
    refine lv_iload_n hx hb d_M_heavyOf_44 rfl (lv_at hl 1 rfl) ?_
    obtain ⟨h_3, hr⟩ := ck_some hr
    refine k_iald C hW 1 rfl h_3 d_M_heavyOf_45 ?_
    refine lv_iconst (v := 1) hx hb d_M_heavyOf_46 (by decide) ?_
    refine lv_iadd hx hb d_M_heavyOf_47 ?_
    obtain rfl := Option.some.inj hr
    rw [hQ]; exact k_iret C hret hW d_M_heavyOf_48
  · replace hr := iN c_2 hr
    by_cases c_4 : (r0_kinds (Int32.toNatClampNeg x1)) = 1
    · replace hr := ip c_4 hr
      refine k_tabIn (tgt := 49) (off := 43) c_4 hx hb d_M_heavyOf_6 (by decide) (by decide) (by decide) (by decide) ?_
      refine lv_aload_n hx hb d_M_heavyOf_49 rfl (lv_at hl 0 rfl) ?_
      refine k_get i_M C hW 0 rfl rfl 3 (by decide) qf_M_16 rfl rfl d_M_heavyOf_50 ?_
      refine lv_iload_n hx hb d_M_heavyOf_53 rfl (lv_at hl 1 rfl) ?_
      obtain ⟨h_5, hr⟩ := ck_some hr
      refine k_iald C hW 1 rfl h_5 d_M_heavyOf_54 ?_
      refine lv_iconst (v := 3) hx hb d_M_heavyOf_55 (by decide) ?_
      refine lv_iadd hx hb d_M_heavyOf_56 ?_
      obtain rfl := Option.some.inj hr
      rw [hQ]; exact k_iret C hret hW d_M_heavyOf_57
    · replace hr := iN c_4 hr
      by_cases c_6 : (r0_kinds (Int32.toNatClampNeg x1)) = 2
      · replace hr := ip c_6 hr
        refine k_tabIn (tgt := 58) (off := 52) c_6 hx hb d_M_heavyOf_6 (by decide) (by decide) (by decide) (by decide) ?_
        refine lv_iconst (v := 4) hx hb d_M_heavyOf_58 (by decide) ?_
        obtain rfl := Option.some.inj hr
        rw [hQ]; exact k_iret C hret hW d_M_heavyOf_59
      · replace hr := iN c_6 hr
        by_cases c_7 : (r0_kinds (Int32.toNatClampNeg x1)) = 3
        · replace hr := ip c_7 hr
          refine k_tabIn (tgt := 60) (off := 54) c_7 hx hb d_M_heavyOf_6 (by decide) (by decide) (by decide) (by decide) ?_
          refine lv_iconst (v := 2) hx hb d_M_heavyOf_60 (by decide) ?_
          obtain rfl := Option.some.inj hr
          rw [hQ]; exact k_iret C hret hW d_M_heavyOf_61
        · replace hr := iN c_7 hr
          by_cases c_8 : (r0_kinds (Int32.toNatClampNeg x1)) = 4
          · replace hr := ip c_8 hr
            refine k_tabIn (tgt := 62) (off := 56) c_8 hx hb d_M_heavyOf_6 (by decide) (by decide) (by decide) (by decide) ?_
            refine lv_iconst (v := 2) hx hb d_M_heavyOf_62 (by decide) ?_
            refine lv_aload_n hx hb d_M_heavyOf_63 rfl (lv_at hl 0 rfl) ?_
            refine k_get i_M C hW 0 rfl rfl 3 (by decide) qf_M_16 rfl rfl d_M_heavyOf_64 ?_
            refine lv_iload_n hx hb d_M_heavyOf_67 rfl (lv_at hl 1 rfl) ?_
            obtain ⟨h_9, hr⟩ := ck_some hr
            refine k_iald C hW 1 rfl h_9 d_M_heavyOf_68 ?_
            refine lv_iconst (v := 3) hx hb d_M_heavyOf_69 (by decide) ?_
            refine lv_iadd hx hb d_M_heavyOf_70 ?_
            refine lv_imul hx hb d_M_heavyOf_71 ?_
            obtain rfl := Option.some.inj hr
            rw [hQ]; exact k_iret C hret hW d_M_heavyOf_72
          · replace hr := iN c_8 hr
            refine k_tabDef (tgt := 73) [0, 1, 2, 3, 4] (by decide +kernel) (by simp only [List.forall_mem_cons]; exact ⟨c_2, c_4, c_6, c_7, c_8, fun _ h => absurd h List.not_mem_nil⟩) hx hb d_M_heavyOf_6 (by decide) ?_
            refine lv_iconst (v := 0) hx hb d_M_heavyOf_73 (by decide) ?_
            obtain rfl := Option.some.inj hr
            rw [hQ]; exact k_iret C hret hW d_M_heavyOf_74
def w_M_allHeavy (cI : ClassId) (a_r0 : Nat) (a_r0_figures : Nat) (a_r0_kinds : Nat) (v_r0_weights v_r0_days v_r0_hampers v_r0_wants0 v_r0_left0 v_r0_done0 v_r0_thrown v_r0_refusals v_r0_letters v_r0_letterMany v_r0_at v_r0_isBad v_r0_statements v_r0_placeIn v_r0_letterOf v_r0_told v_r0_kept v_r0_imaged v_r0_hasImage v_r0_place0 v_r0_isTaking v_r0_keptIn v_r0_turns0 v_r0_turnOf v_r0_turned v_r0_order0 v_r0_likely0 v_r0_leftThen v_r0_row v_r0_rowMany v_r0_seed : Value) (r0_things : Int32) (r0_figures : Nat → Int32) (r0_kinds : Nat → Int32) : va_W := [(a_r0, .inr (9, [v_r0_weights, .int r0_things, .ref a_r0_kinds, .ref a_r0_figures, v_r0_days, v_r0_hampers, v_r0_wants0, v_r0_left0, v_r0_done0, v_r0_thrown, v_r0_refusals, v_r0_letters, v_r0_letterMany, v_r0_at, v_r0_isBad, v_r0_statements, v_r0_placeIn, v_r0_letterOf, v_r0_told, v_r0_kept, v_r0_imaged, v_r0_hasImage, v_r0_place0, v_r0_isTaking, v_r0_keptIn, v_r0_turns0, v_r0_turnOf, v_r0_turned, v_r0_order0, v_r0_likely0, v_r0_leftThen, v_r0_row, v_r0_rowMany, v_r0_seed])), (a_r0_figures, .inl (cI, 8, .inl r0_figures)), (a_r0_kinds, .inl (cI, 8, .inl r0_kinds))]
def F_M_allHeavy_L4 (r0_things : Int32) (r0_figures : Nat → Int32) (r0_kinds : Nat → Int32) (x1 : Int32) (y2_1 : Int32) (y3_1 : Int32) : Option (((Int32) × (Int32)) ⊕ ((Int32))) :=
  (if r0_things ≤ y3_1 then (some (.inr y2_1)) else ((F_M_hasBit x1 y3_1).bind (fun q_3 => (if q_3 = 0 then (some (.inl ((y2_1 + 0), (y3_1 + 1)))) else ((F_M_heavyOf r0_figures r0_kinds y3_1).bind (fun q_5 => (some (.inl ((y2_1 + q_5), (y3_1 + 1))))))))))
def F_M_allHeavy (r0_things : Int32) (r0_figures : Nat → Int32) (r0_kinds : Nat → Int32) (x1 : Int32) : Option (Int32) :=
  ((wh (fun (s : (Int32) × (Int32)) => F_M_allHeavy_L4 r0_things r0_figures r0_kinds x1 s.1 s.2) 400 ((0 : Int32), (0 : Int32))).bind (fun e_1 => (some e_1)))
set_option maxHeartbeats 4000000 in
set_option maxRecDepth 100000 in
theorem C_M_allHeavy (l : Launch) (D : va_G) (cI cS : ClassId) (a_r0 : Nat) (a_r0_figures : Nat) (a_r0_kinds : Nat) (v_r0_weights v_r0_days v_r0_hampers v_r0_wants0 v_r0_left0 v_r0_done0 v_r0_thrown v_r0_refusals v_r0_letters v_r0_letterMany v_r0_at v_r0_isBad v_r0_statements v_r0_placeIn v_r0_letterOf v_r0_told v_r0_kept v_r0_imaged v_r0_hasImage v_r0_place0 v_r0_isTaking v_r0_keptIn v_r0_turns0 v_r0_turnOf v_r0_turned v_r0_order0 v_r0_likely0 v_r0_leftThen v_r0_row v_r0_rowMany v_r0_seed : Value) (r0_things : Int32) (r0_figures : Nat → Int32) (r0_kinds : Nat → Int32) (x1 : Int32) (o : Int32) (hr : F_M_allHeavy r0_things r0_figures r0_kinds x1 = some o) : ctI l y_M_allHeavy (Cond.code y_M_allHeavy b_M_allHeavy 4 (some FieldType.int)) (rmd 1) D (kTy cI cS) [.ref a_r0, .int x1] (w_M_allHeavy cI a_r0 a_r0_figures a_r0_kinds v_r0_weights v_r0_days v_r0_hampers v_r0_wants0 v_r0_left0 v_r0_done0 v_r0_thrown v_r0_refusals v_r0_letters v_r0_letterMany v_r0_at v_r0_isBad v_r0_statements v_r0_placeIn v_r0_letterOf v_r0_told v_r0_kept v_r0_imaged v_r0_hasImage v_r0_place0 v_r0_isTaking v_r0_keptIn v_r0_turns0 v_r0_turnOf v_r0_turned v_r0_order0 v_r0_likely0 v_r0_leftThen v_r0_row v_r0_rowMany v_r0_seed r0_things r0_figures r0_kinds) (w_M_allHeavy cI a_r0 a_r0_figures a_r0_kinds v_r0_weights v_r0_days v_r0_hampers v_r0_wants0 v_r0_left0 v_r0_done0 v_r0_thrown v_r0_refusals v_r0_letters v_r0_letterMany v_r0_at v_r0_isBad v_r0_statements v_r0_placeIn v_r0_letterOf v_r0_told v_r0_kept v_r0_imaged v_r0_hasImage v_r0_place0 v_r0_isTaking v_r0_keptIn v_r0_turns0 v_r0_turnOf v_r0_turned v_r0_order0 v_r0_likely0 v_r0_leftThen v_r0_row v_r0_rowMany v_r0_seed r0_things r0_figures r0_kinds) o := by
  unfold F_M_allHeavy at hr
  refine ⟨rfl, fun sz => ct_of (w0 := (w_M_allHeavy cI a_r0 a_r0_figures a_r0_kinds v_r0_weights v_r0_days v_r0_hampers v_r0_wants0 v_r0_left0 v_r0_done0 v_r0_thrown v_r0_refusals v_r0_letters v_r0_letterMany v_r0_at v_r0_isBad v_r0_statements v_r0_placeIn v_r0_letterOf v_r0_told v_r0_kept v_r0_imaged v_r0_hasImage v_r0_place0 v_r0_isTaking v_r0_keptIn v_r0_turns0 v_r0_turnOf v_r0_turned v_r0_order0 v_r0_likely0 v_r0_leftThen v_r0_row v_r0_rowMany v_r0_seed r0_things r0_figures r0_kinds)) (Qc := fun A => qI D (w_M_allHeavy cI a_r0 a_r0_figures a_r0_kinds v_r0_weights v_r0_days v_r0_hampers v_r0_wants0 v_r0_left0 v_r0_done0 v_r0_thrown v_r0_refusals v_r0_letters v_r0_letterMany v_r0_at v_r0_isBad v_r0_statements v_r0_placeIn v_r0_letterOf v_r0_told v_r0_kept v_r0_imaged v_r0_hasImage v_r0_place0 v_r0_isTaking v_r0_keptIn v_r0_turns0 v_r0_turnOf v_r0_turned v_r0_order0 v_r0_likely0 v_r0_leftThen v_r0_row v_r0_rowMany v_r0_seed r0_things r0_figures r0_kinds) o A) rfl (Nat.le_of_ble_eq_true rfl) ?_ sz⟩
  intro p e s m below meth c A hA C hret ls hl hW
  have C : cx p s m ([.ref a_r0, .int x1] : List Value).toArray meth c b_M_allHeavy 4 R_M D (kTy cI cS) (Cond.code y_M_allHeavy b_M_allHeavy 4 (some FieldType.int)) := C
  obtain ⟨hx, hb, hml, hown, hts, hK, hlk, hN⟩ := id C
  have hl : lv_has ls 4 [(0, .ref a_r0), (1, .int x1)] := hl
  obtain ⟨Q, hQ⟩ : ∃ Q, Q = MQ below (qI D (w_M_allHeavy cI a_r0 a_r0_figures a_r0_kinds v_r0_weights v_r0_days v_r0_hampers v_r0_wants0 v_r0_left0 v_r0_done0 v_r0_thrown v_r0_refusals v_r0_letters v_r0_letterMany v_r0_at v_r0_isBad v_r0_statements v_r0_placeIn v_r0_letterOf v_r0_told v_r0_kept v_r0_imaged v_r0_hasImage v_r0_place0 v_r0_isTaking v_r0_keptIn v_r0_turns0 v_r0_turnOf v_r0_turned v_r0_order0 v_r0_likely0 v_r0_leftThen v_r0_row v_r0_rowMany v_r0_seed r0_things r0_figures r0_kinds) o A) ([.ref a_r0, .int x1] : List Value).toArray s 0 0 A := ⟨_, rfl⟩
  rw [← hQ]
  refine lv_iconst (v := 0) hx hb d_M_allHeavy_0 (by decide) ?_
  refine lv_istore_n (lv' := [(2, .int 0), (0, .ref a_r0), (1, .int x1)]) hx hb d_M_allHeavy_1 rfl hl (by decide) rfl (fun ls hl => ?_)
  refine lv_iconst (v := 0) hx hb d_M_allHeavy_2 (by decide) ?_
  refine lv_istore_n (lv' := [(3, .int 0), (2, .int 0), (0, .ref a_r0), (1, .int x1)]) hx hb d_M_allHeavy_3 rfl hl (by decide) rfl (fun ls hl => ?_)
  obtain ⟨ex_1, hw_1, hk_1⟩ := ob hr
  have hx_1 : ∀ (e_1 : (Int32)), e_1 = ex_1 → ∀ (H : Heap) (locs : List Loc) (ls : Array Slot), wd A s.heap D (w_M_allHeavy cI a_r0 a_r0_figures a_r0_kinds v_r0_weights v_r0_days v_r0_hampers v_r0_wants0 v_r0_left0 v_r0_done0 v_r0_thrown v_r0_refusals v_r0_letters v_r0_letterMany v_r0_at v_r0_isBad v_r0_statements v_r0_placeIn v_r0_letterOf v_r0_told v_r0_kept v_r0_imaged v_r0_hasImage v_r0_place0 v_r0_isTaking v_r0_keptIn v_r0_turns0 v_r0_turnOf v_r0_turned v_r0_order0 v_r0_likely0 v_r0_leftThen v_r0_row v_r0_rowMany v_r0_seed r0_things r0_figures r0_kinds) H locs → lv_has ls 4 [(2, .int e_1)] → W p l e (rmd 1) s m ([.ref a_r0, .int x1] : List Value).toArray below meth c H locs 0 0 Q (F0 m 38 ls []) := by
    intro e_1 hE H locs ls hW hl
    subst hE; have hr := hk_1
    refine lv_iload_n hx hb d_M_allHeavy_38 rfl (lv_at hl 0 rfl) ?_
    obtain rfl := Option.some.inj hr
    rw [hQ]; exact k_iret C hret hW d_M_allHeavy_39
  have hl_1 : ∀ (k : Nat) (y2_1 : Int32) (y3_1 : Int32), wh (fun (s : (Int32) × (Int32)) => F_M_allHeavy_L4 r0_things r0_figures r0_kinds x1 s.1 s.2) k (y2_1, y3_1) = some ex_1 → ∀ (H : Heap) (locs : List Loc) (ls : Array Slot), wd A s.heap D (w_M_allHeavy cI a_r0 a_r0_figures a_r0_kinds v_r0_weights v_r0_days v_r0_hampers v_r0_wants0 v_r0_left0 v_r0_done0 v_r0_thrown v_r0_refusals v_r0_letters v_r0_letterMany v_r0_at v_r0_isBad v_r0_statements v_r0_placeIn v_r0_letterOf v_r0_told v_r0_kept v_r0_imaged v_r0_hasImage v_r0_place0 v_r0_isTaking v_r0_keptIn v_r0_turns0 v_r0_turnOf v_r0_turned v_r0_order0 v_r0_likely0 v_r0_leftThen v_r0_row v_r0_rowMany v_r0_seed r0_things r0_figures r0_kinds) H locs → lv_has ls 4 [(0, .ref a_r0), (1, .int x1), (2, .int y2_1), (3, .int y3_1)] → W p l e (rmd 1) s m ([.ref a_r0, .int x1] : List Value).toArray below meth c H locs 0 0 Q (F0 m 4 ls []) := by
    intro k
    induction k with
    | zero => intro y2_1 y3_1 hw; exact absurd hw wh_0
    | succ k ih_1 =>
      intro y2_1 y3_1 hw H locs ls hW hl
      obtain ⟨z_1, hr, hz1_1, hz2_1⟩ := wh_s hw
      have hr : F_M_allHeavy_L4 r0_things r0_figures r0_kinds x1 y2_1 y3_1 = some z_1 := hr
      unfold F_M_allHeavy_L4 at hr
      refine lv_iload_n hx hb d_M_allHeavy_4 rfl (lv_at hl 3 rfl) ?_
      refine lv_aload_n hx hb d_M_allHeavy_5 rfl (lv_at hl 0 rfl) ?_
      refine k_get i_M C hW 0 rfl rfl 1 (by decide) qf_M_71 rfl rfl d_M_allHeavy_6 ?_
      refine lv_icmp_ge (tgt := 38) hx hb d_M_allHeavy_9 (by decide) (fun c_2 => ?_) (fun c_2 => ?_)
      · replace hr := ip c_2 hr
        exact hx_1 _ (hz2_1 _ (Option.some.inj hr).symm) _ _ _ hW (lv_sub hl [2] rfl)
      · replace hr := iN c_2 hr
        refine lv_iload_n hx hb d_M_allHeavy_12 rfl (lv_at hl 2 rfl) ?_
        refine lv_iload_n hx hb d_M_allHeavy_13 rfl (lv_at hl 1 rfl) ?_
        refine lv_iload_n hx hb d_M_allHeavy_14 rfl (lv_at hl 3 rfl) ?_
        obtain ⟨q_3, hc_3, hr⟩ := ob hr
        have ct_3 := C_M_hasBit l D cI cS x1 y3_1 q_3 hc_3
        refine k_goIp hA hW [] rfl rfl (k_runS C hA hW mw_M_hasBit ms_M_hasBit (ct_3.2 _) [] rfl rfl qm_M_85 ⟨Nat.le_of_ble_eq_true rfl, Nat.le_of_ble_eq_true rfl, Nat.zero_le _, Nat.zero_le _⟩ rfl rfl (Nat.le_of_ble_eq_true rfl) hl.1 d_M_allHeavy_15) (fun H locs hW => ?_)
        refine lv_if_eq (tgt := 29) hx hb d_M_allHeavy_18 (by decide) (fun c_4 => ?_) (fun c_4 => ?_)
        · replace hr := ip c_4 hr
          refine lv_iconst (v := 0) hx hb d_M_allHeavy_29 (by decide) ?_
          refine lv_iadd hx hb d_M_allHeavy_30 ?_
          refine lv_istore_n (lv' := [(2, .int (y2_1 + 0)), (0, .ref a_r0), (1, .int x1), (3, .int y3_1)]) hx hb d_M_allHeavy_31 rfl hl (by decide) rfl (fun ls hl => ?_)
          refine lv_iinc (v := (y3_1 + 1)) (lv' := [(3, .int (y3_1 + 1)), (2, .int (y2_1 + 0)), (0, .ref a_r0), (1, .int x1)]) hx hb d_M_allHeavy_32 hl (k := 3) rfl rfl (by decide) rfl (fun ls hl => ?_)
          refine lv_goto (tgt := 4) hx hb d_M_allHeavy_35 (by decide) ?_
          exact ih_1 (y2_1 + 0) (y3_1 + 1) (hz1_1 _ (Option.some.inj hr).symm) _ _ _ hW (lv_sub hl [2, 3, 1, 0] rfl)
        · replace hr := iN c_4 hr
          refine lv_aload_n hx hb d_M_allHeavy_21 rfl (lv_at hl 0 rfl) ?_
          refine lv_iload_n hx hb d_M_allHeavy_22 rfl (lv_at hl 3 rfl) ?_
          obtain ⟨q_5, hc_5, hr⟩ := ob hr
          have ct_5 := C_M_heavyOf l D cI cS a_r0 a_r0_figures a_r0_kinds v_r0_weights (Value.int r0_things) v_r0_days v_r0_hampers v_r0_wants0 v_r0_left0 v_r0_done0 v_r0_thrown v_r0_refusals v_r0_letters v_r0_letterMany v_r0_at v_r0_isBad v_r0_statements v_r0_placeIn v_r0_letterOf v_r0_told v_r0_kept v_r0_imaged v_r0_hasImage v_r0_place0 v_r0_isTaking v_r0_keptIn v_r0_turns0 v_r0_turnOf v_r0_turned v_r0_order0 v_r0_likely0 v_r0_leftThen v_r0_row v_r0_rowMany v_r0_seed r0_figures r0_kinds y3_1 q_5 hc_5
          refine k_goIp hA hW [0, 1, 2] rfl rfl (k_runV C hA hW mw_M_heavyOf mv_M_heavyOf (ct_5.2 _) [0, 1, 2] rfl rfl 0 rfl rfl qm_M_89 ⟨Nat.le_of_ble_eq_true rfl, Nat.le_of_ble_eq_true rfl, Nat.zero_le _, Nat.zero_le _⟩ rfl rfl (Nat.le_of_ble_eq_true rfl) hl.1 d_M_allHeavy_23) (fun H locs hW => ?_)
          refine lv_goto (tgt := 30) hx hb d_M_allHeavy_26 (by decide) ?_
          refine lv_iadd hx hb d_M_allHeavy_30 ?_
          refine lv_istore_n (lv' := [(2, .int (y2_1 + q_5)), (0, .ref a_r0), (1, .int x1), (3, .int y3_1)]) hx hb d_M_allHeavy_31 rfl hl (by decide) rfl (fun ls hl => ?_)
          refine lv_iinc (v := (y3_1 + 1)) (lv' := [(3, .int (y3_1 + 1)), (2, .int (y2_1 + q_5)), (0, .ref a_r0), (1, .int x1)]) hx hb d_M_allHeavy_32 hl (k := 3) rfl rfl (by decide) rfl (fun ls hl => ?_)
          refine lv_goto (tgt := 4) hx hb d_M_allHeavy_35 (by decide) ?_
          exact ih_1 (y2_1 + q_5) (y3_1 + 1) (hz1_1 _ (Option.some.inj hr).symm) _ _ _ hW (lv_sub hl [2, 3, 1, 0] rfl)
  exact hl_1 _ 0 0 hw_1 _ _ _ hW (lv_sub hl [2, 3, 1, 0] rfl)
def w_M_allLeft (cI : ClassId) (a_r0 : Nat) (a_r0_left0 : Nat) (v_r0_weights v_r0_things v_r0_kinds v_r0_figures v_r0_days v_r0_hampers v_r0_wants0 v_r0_done0 v_r0_thrown v_r0_refusals v_r0_letters v_r0_letterMany v_r0_at v_r0_isBad v_r0_statements v_r0_placeIn v_r0_letterOf v_r0_told v_r0_kept v_r0_imaged v_r0_hasImage v_r0_place0 v_r0_isTaking v_r0_keptIn v_r0_turns0 v_r0_turnOf v_r0_turned v_r0_order0 v_r0_likely0 v_r0_leftThen v_r0_row v_r0_rowMany v_r0_seed : Value) (r0_left0 : Nat → Int32) : va_W := [(a_r0, .inr (9, [v_r0_weights, v_r0_things, v_r0_kinds, v_r0_figures, v_r0_days, v_r0_hampers, v_r0_wants0, .ref a_r0_left0, v_r0_done0, v_r0_thrown, v_r0_refusals, v_r0_letters, v_r0_letterMany, v_r0_at, v_r0_isBad, v_r0_statements, v_r0_placeIn, v_r0_letterOf, v_r0_told, v_r0_kept, v_r0_imaged, v_r0_hasImage, v_r0_place0, v_r0_isTaking, v_r0_keptIn, v_r0_turns0, v_r0_turnOf, v_r0_turned, v_r0_order0, v_r0_likely0, v_r0_leftThen, v_r0_row, v_r0_rowMany, v_r0_seed])), (a_r0_left0, .inl (cI, 4, .inl r0_left0))]
def F_M_allLeft (r0_left0 : Nat → Int32) : Option (Int32) :=
  (some ((((r0_left0 (Int32.toNatClampNeg 0)) + (r0_left0 (Int32.toNatClampNeg 1))) + (r0_left0 (Int32.toNatClampNeg 2))) + (r0_left0 (Int32.toNatClampNeg 3))))
set_option maxHeartbeats 4000000 in
set_option maxRecDepth 100000 in
theorem C_M_allLeft (l : Launch) (D : va_G) (cI cS : ClassId) (a_r0 : Nat) (a_r0_left0 : Nat) (v_r0_weights v_r0_things v_r0_kinds v_r0_figures v_r0_days v_r0_hampers v_r0_wants0 v_r0_done0 v_r0_thrown v_r0_refusals v_r0_letters v_r0_letterMany v_r0_at v_r0_isBad v_r0_statements v_r0_placeIn v_r0_letterOf v_r0_told v_r0_kept v_r0_imaged v_r0_hasImage v_r0_place0 v_r0_isTaking v_r0_keptIn v_r0_turns0 v_r0_turnOf v_r0_turned v_r0_order0 v_r0_likely0 v_r0_leftThen v_r0_row v_r0_rowMany v_r0_seed : Value) (r0_left0 : Nat → Int32) (o : Int32) (hr : F_M_allLeft r0_left0 = some o) : ctI l y_M_allLeft (Cond.code y_M_allLeft b_M_allLeft 1 (some FieldType.int)) (rmd 0) D (kTy cI cS) [.ref a_r0] (w_M_allLeft cI a_r0 a_r0_left0 v_r0_weights v_r0_things v_r0_kinds v_r0_figures v_r0_days v_r0_hampers v_r0_wants0 v_r0_done0 v_r0_thrown v_r0_refusals v_r0_letters v_r0_letterMany v_r0_at v_r0_isBad v_r0_statements v_r0_placeIn v_r0_letterOf v_r0_told v_r0_kept v_r0_imaged v_r0_hasImage v_r0_place0 v_r0_isTaking v_r0_keptIn v_r0_turns0 v_r0_turnOf v_r0_turned v_r0_order0 v_r0_likely0 v_r0_leftThen v_r0_row v_r0_rowMany v_r0_seed r0_left0) (w_M_allLeft cI a_r0 a_r0_left0 v_r0_weights v_r0_things v_r0_kinds v_r0_figures v_r0_days v_r0_hampers v_r0_wants0 v_r0_done0 v_r0_thrown v_r0_refusals v_r0_letters v_r0_letterMany v_r0_at v_r0_isBad v_r0_statements v_r0_placeIn v_r0_letterOf v_r0_told v_r0_kept v_r0_imaged v_r0_hasImage v_r0_place0 v_r0_isTaking v_r0_keptIn v_r0_turns0 v_r0_turnOf v_r0_turned v_r0_order0 v_r0_likely0 v_r0_leftThen v_r0_row v_r0_rowMany v_r0_seed r0_left0) o := by
  unfold F_M_allLeft at hr
  refine ⟨rfl, fun sz => ct_of (w0 := (w_M_allLeft cI a_r0 a_r0_left0 v_r0_weights v_r0_things v_r0_kinds v_r0_figures v_r0_days v_r0_hampers v_r0_wants0 v_r0_done0 v_r0_thrown v_r0_refusals v_r0_letters v_r0_letterMany v_r0_at v_r0_isBad v_r0_statements v_r0_placeIn v_r0_letterOf v_r0_told v_r0_kept v_r0_imaged v_r0_hasImage v_r0_place0 v_r0_isTaking v_r0_keptIn v_r0_turns0 v_r0_turnOf v_r0_turned v_r0_order0 v_r0_likely0 v_r0_leftThen v_r0_row v_r0_rowMany v_r0_seed r0_left0)) (Qc := fun A => qI D (w_M_allLeft cI a_r0 a_r0_left0 v_r0_weights v_r0_things v_r0_kinds v_r0_figures v_r0_days v_r0_hampers v_r0_wants0 v_r0_done0 v_r0_thrown v_r0_refusals v_r0_letters v_r0_letterMany v_r0_at v_r0_isBad v_r0_statements v_r0_placeIn v_r0_letterOf v_r0_told v_r0_kept v_r0_imaged v_r0_hasImage v_r0_place0 v_r0_isTaking v_r0_keptIn v_r0_turns0 v_r0_turnOf v_r0_turned v_r0_order0 v_r0_likely0 v_r0_leftThen v_r0_row v_r0_rowMany v_r0_seed r0_left0) o A) rfl (Nat.le_of_ble_eq_true rfl) ?_ sz⟩
  intro p e s m below meth c A hA C hret ls hl hW
  have C : cx p s m ([.ref a_r0] : List Value).toArray meth c b_M_allLeft 1 R_M D (kTy cI cS) (Cond.code y_M_allLeft b_M_allLeft 1 (some FieldType.int)) := C
  obtain ⟨hx, hb, hml, hown, hts, hK, hlk, hN⟩ := id C
  have hl : lv_has ls 1 [(0, .ref a_r0)] := hl
  obtain ⟨Q, hQ⟩ : ∃ Q, Q = MQ below (qI D (w_M_allLeft cI a_r0 a_r0_left0 v_r0_weights v_r0_things v_r0_kinds v_r0_figures v_r0_days v_r0_hampers v_r0_wants0 v_r0_done0 v_r0_thrown v_r0_refusals v_r0_letters v_r0_letterMany v_r0_at v_r0_isBad v_r0_statements v_r0_placeIn v_r0_letterOf v_r0_told v_r0_kept v_r0_imaged v_r0_hasImage v_r0_place0 v_r0_isTaking v_r0_keptIn v_r0_turns0 v_r0_turnOf v_r0_turned v_r0_order0 v_r0_likely0 v_r0_leftThen v_r0_row v_r0_rowMany v_r0_seed r0_left0) o A) ([.ref a_r0] : List Value).toArray s 0 0 A := ⟨_, rfl⟩
  rw [← hQ]
  refine lv_aload_n hx hb d_M_allLeft_0 rfl (lv_at hl 0 rfl) ?_
  refine k_get i_M C hW 0 rfl rfl 7 (by decide) qf_M_25 rfl rfl d_M_allLeft_1 ?_
  refine lv_iconst (v := 0) hx hb d_M_allLeft_4 (by decide) ?_
  refine k_iald C hW 1 rfl (vp_inC 0 4 (by decide)) d_M_allLeft_5 ?_
  refine lv_aload_n hx hb d_M_allLeft_6 rfl (lv_at hl 0 rfl) ?_
  refine k_get i_M C hW 0 rfl rfl 7 (by decide) qf_M_25 rfl rfl d_M_allLeft_7 ?_
  refine lv_iconst (v := 1) hx hb d_M_allLeft_10 (by decide) ?_
  refine k_iald C hW 1 rfl (vp_inC 1 4 (by decide)) d_M_allLeft_11 ?_
  refine lv_iadd hx hb d_M_allLeft_12 ?_
  refine lv_aload_n hx hb d_M_allLeft_13 rfl (lv_at hl 0 rfl) ?_
  refine k_get i_M C hW 0 rfl rfl 7 (by decide) qf_M_25 rfl rfl d_M_allLeft_14 ?_
  refine lv_iconst (v := 2) hx hb d_M_allLeft_17 (by decide) ?_
  refine k_iald C hW 1 rfl (vp_inC 2 4 (by decide)) d_M_allLeft_18 ?_
  refine lv_iadd hx hb d_M_allLeft_19 ?_
  refine lv_aload_n hx hb d_M_allLeft_20 rfl (lv_at hl 0 rfl) ?_
  refine k_get i_M C hW 0 rfl rfl 7 (by decide) qf_M_25 rfl rfl d_M_allLeft_21 ?_
  refine lv_iconst (v := 3) hx hb d_M_allLeft_24 (by decide) ?_
  refine k_iald C hW 1 rfl (vp_inC 3 4 (by decide)) d_M_allLeft_25 ?_
  refine lv_iadd hx hb d_M_allLeft_26 ?_
  obtain rfl := Option.some.inj hr
  rw [hQ]; exact k_iret C hret hW d_M_allLeft_27
