def w_H_dayOf (cI : ClassId) (a_r0 a_r0_now a_r0_now_figures a_r0_now_goes a_r0_now_hampers a_r0_now_kinds a_r0_now_weights a_r0_refusals : Nat) (v_r0_kept v_r0_trial v_r0_hasKept v_r0_steps v_r0_letters v_r0_numbers v_r0_harvest v_r0_fraction v_r0_now_things v_r0_now_fields v_r0_now_done : Value) (r0_now_days : Int32) (r0_now_figures : Nat → Int32) (r0_now_goes : Nat → Int32) (r0_now_hampers : Nat → Int32) (r0_now_kinds : Nat → Int32) (r0_now_weights : Nat → Int32) (r0_refusals : Nat → Int32) : va_W := [(a_r0, .inr (0, [.ref a_r0_now, v_r0_kept, v_r0_trial, v_r0_hasKept, v_r0_steps, v_r0_letters, v_r0_numbers, v_r0_harvest, v_r0_fraction, .ref a_r0_refusals])), (a_r0_now, .inr (1, [.ref a_r0_now_weights, .ref a_r0_now_kinds, .ref a_r0_now_figures, .ref a_r0_now_goes, v_r0_now_things, .ref a_r0_now_hampers, .int r0_now_days, v_r0_now_fields, v_r0_now_done])), (a_r0_now_figures, .inl (cI, 8, .inl r0_now_figures)), (a_r0_now_goes, .inl (cI, 8, .inl r0_now_goes)), (a_r0_now_hampers, .inl (cI, 8, .inl r0_now_hampers)), (a_r0_now_kinds, .inl (cI, 8, .inl r0_now_kinds)), (a_r0_now_weights, .inl (cI, 6, .inl r0_now_weights)), (a_r0_refusals, .inl (cI, 7, .inl r0_refusals))]
def F_H_dayOf (r0_now_days : Int32) (r0_now_figures : Nat → Int32) (r0_now_goes : Nat → Int32) (r0_now_hampers : Nat → Int32) (r0_now_kinds : Nat → Int32) (r0_now_weights : Nat → Int32) (r0_refusals : Nat → Int32) (x1 : Int32) (x2 : Int32) : Option (Int32 × (Nat → Int32)) :=
  ((F_Sta_hasDay r0_now_days x1).bind (fun q_1 => (if q_1 = 0 then ((F_H_refused r0_refusals ((-1) : Int32)).bind (fun q_14 => (some (q_14.1, q_14.2)))) else (ck x1 8 (if x2 = 0 then (some ((r0_now_hampers (Int32.toNatClampNeg x1)), r0_refusals)) else (if x2 = 1 then ((F_Sta_couldBe r0_now_goes (r0_now_hampers (Int32.toNatClampNeg x1))).bind (fun q_6 => (some (q_6, r0_refusals)))) else (if x2 = 2 then ((F_Sta_likeliestBy r0_now_goes r0_now_weights (r0_now_hampers (Int32.toNatClampNeg x1))).bind (fun q_8 => (some (q_8, r0_refusals)))) else (if x2 = 3 then ((F_Sta_heavyOf r0_now_figures r0_now_kinds (r0_now_hampers (Int32.toNatClampNeg x1))).bind (fun q_10 => (some (q_10, r0_refusals)))) else (if x2 = 4 then ((F_Sta_dearOf r0_now_figures r0_now_kinds (r0_now_hampers (Int32.toNatClampNeg x1))).bind (fun q_12 => (some (q_12, r0_refusals)))) else ((F_H_refused r0_refusals ((-2) : Int32)).bind (fun q_13 => (some (q_13.1, q_13.2)))))))))))))
set_option maxHeartbeats 4000000 in
set_option maxRecDepth 100000 in
theorem C_H_dayOf (l : Launch) (D : va_G) (cI cS : ClassId) (a_r0 a_r0_now a_r0_now_figures a_r0_now_goes a_r0_now_hampers a_r0_now_kinds a_r0_now_weights a_r0_refusals : Nat) (v_r0_kept v_r0_trial v_r0_hasKept v_r0_steps v_r0_letters v_r0_numbers v_r0_harvest v_r0_fraction v_r0_now_things v_r0_now_fields v_r0_now_done : Value) (r0_now_days : Int32) (r0_now_figures : Nat → Int32) (r0_now_goes : Nat → Int32) (r0_now_hampers : Nat → Int32) (r0_now_kinds : Nat → Int32) (r0_now_weights : Nat → Int32) (r0_refusals : Nat → Int32) (x1 : Int32) (x2 : Int32) (o : Int32 × (Nat → Int32)) (hr : F_H_dayOf r0_now_days r0_now_figures r0_now_goes r0_now_hampers r0_now_kinds r0_now_weights r0_refusals x1 x2 = some o) : ctI l y_H_dayOf (Cond.code y_H_dayOf b_H_dayOf 4 (some FieldType.int)) (rmd 3) D (kTy cI cS) [.ref a_r0, .int x1, .int x2] (w_H_dayOf cI a_r0 a_r0_now a_r0_now_figures a_r0_now_goes a_r0_now_hampers a_r0_now_kinds a_r0_now_weights a_r0_refusals v_r0_kept v_r0_trial v_r0_hasKept v_r0_steps v_r0_letters v_r0_numbers v_r0_harvest v_r0_fraction v_r0_now_things v_r0_now_fields v_r0_now_done r0_now_days r0_now_figures r0_now_goes r0_now_hampers r0_now_kinds r0_now_weights r0_refusals) (w_H_dayOf cI a_r0 a_r0_now a_r0_now_figures a_r0_now_goes a_r0_now_hampers a_r0_now_kinds a_r0_now_weights a_r0_refusals v_r0_kept v_r0_trial v_r0_hasKept v_r0_steps v_r0_letters v_r0_numbers v_r0_harvest v_r0_fraction v_r0_now_things v_r0_now_fields v_r0_now_done r0_now_days r0_now_figures r0_now_goes r0_now_hampers r0_now_kinds r0_now_weights o.2) o.1 := by
  unfold F_H_dayOf at hr
  refine ⟨rfl, fun sz => ct_of (w0 := (w_H_dayOf cI a_r0 a_r0_now a_r0_now_figures a_r0_now_goes a_r0_now_hampers a_r0_now_kinds a_r0_now_weights a_r0_refusals v_r0_kept v_r0_trial v_r0_hasKept v_r0_steps v_r0_letters v_r0_numbers v_r0_harvest v_r0_fraction v_r0_now_things v_r0_now_fields v_r0_now_done r0_now_days r0_now_figures r0_now_goes r0_now_hampers r0_now_kinds r0_now_weights r0_refusals)) (Qc := fun A => qI D (w_H_dayOf cI a_r0 a_r0_now a_r0_now_figures a_r0_now_goes a_r0_now_hampers a_r0_now_kinds a_r0_now_weights a_r0_refusals v_r0_kept v_r0_trial v_r0_hasKept v_r0_steps v_r0_letters v_r0_numbers v_r0_harvest v_r0_fraction v_r0_now_things v_r0_now_fields v_r0_now_done r0_now_days r0_now_figures r0_now_goes r0_now_hampers r0_now_kinds r0_now_weights o.2) o.1 A) rfl (Nat.le_of_ble_eq_true rfl) ?_ sz⟩
  intro p e s m below meth c A hA C hret ls hl hW
  have C : cx p s m ([.ref a_r0, .int x1, .int x2] : List Value).toArray meth c b_H_dayOf 4 R_H D (kTy cI cS) (Cond.code y_H_dayOf b_H_dayOf 4 (some FieldType.int)) := C
  obtain ⟨hx, hb, hml, hown, hts, hK, hlk, hN⟩ := id C
  have hl : lv_has ls 4 [(0, .ref a_r0), (1, .int x1), (2, .int x2)] := hl
  obtain ⟨Q, hQ⟩ : ∃ Q, Q = MQ below (qI D (w_H_dayOf cI a_r0 a_r0_now a_r0_now_figures a_r0_now_goes a_r0_now_hampers a_r0_now_kinds a_r0_now_weights a_r0_refusals v_r0_kept v_r0_trial v_r0_hasKept v_r0_steps v_r0_letters v_r0_numbers v_r0_harvest v_r0_fraction v_r0_now_things v_r0_now_fields v_r0_now_done r0_now_days r0_now_figures r0_now_goes r0_now_hampers r0_now_kinds r0_now_weights o.2) o.1 A) ([.ref a_r0, .int x1, .int x2] : List Value).toArray s 0 0 A := ⟨_, rfl⟩
  rw [← hQ]
  refine lv_aload_n hx hb d_H_dayOf_0 rfl (lv_at hl 0 rfl) ?_
  refine k_get i_H C hW 0 rfl rfl 0 (by decide) qf_H_10 rfl rfl d_H_dayOf_1 ?_
  refine lv_iload_n hx hb d_H_dayOf_4 rfl (lv_at hl 1 rfl) ?_
  obtain ⟨q_1, hc_1, hr⟩ := ob hr
  have ct_1 := C_Sta_hasDay l D cI cS a_r0_now (Value.ref a_r0_now_weights) (Value.ref a_r0_now_kinds) (Value.ref a_r0_now_figures) (Value.ref a_r0_now_goes) v_r0_now_things (Value.ref a_r0_now_hampers) v_r0_now_fields v_r0_now_done r0_now_days x1 q_1 hc_1
  refine k_goIp hA hW [1] rfl rfl (k_runV C hA hW mw_Sta_hasDay mv_Sta_hasDay (ct_1.2 _) [1] rfl rfl 1 rfl rfl qm_H_107 ⟨Nat.le_of_ble_eq_true rfl, Nat.le_of_ble_eq_true rfl, Nat.zero_le _, Nat.zero_le _⟩ rfl rfl (Nat.le_of_ble_eq_true rfl) hl.1 d_H_dayOf_5) (fun H locs hW => ?_)
  refine lv_if_ne (tgt := 17) hx hb d_H_dayOf_8 (by decide) (fun c_2 => ?_) (fun c_2 => ?_)
  · replace hr := iN c_2 hr
    refine lv_aload_n hx hb d_H_dayOf_17 rfl (lv_at hl 0 rfl) ?_
    refine k_get i_H C hW 0 rfl rfl 0 (by decide) qf_H_10 rfl rfl d_H_dayOf_18 ?_
    refine k_getN i_Sta C hW 1 rfl rfl 5 (by decide) qf_H_110 rfl rfl d_H_dayOf_21 ?_
    refine lv_iload_n hx hb d_H_dayOf_24 rfl (lv_at hl 1 rfl) ?_
    obtain ⟨h_3, hr⟩ := ck_some hr
    refine k_iald C hW 4 rfl h_3 d_H_dayOf_25 ?_
    refine lv_istore_n (lv' := [(3, .int (r0_now_hampers (Int32.toNatClampNeg x1))), (0, .ref a_r0), (1, .int x1), (2, .int x2)]) hx hb d_H_dayOf_26 rfl hl (by decide) rfl (fun ls hl => ?_)
    refine lv_iload_n hx hb d_H_dayOf_27 rfl (lv_at hl 3 rfl) ?_
    by_cases c_4 : x2 = 0
    · replace hr := ip c_4 hr
      refine k_tabIn (tgt := 64) (off := 36) c_4 hx hb d_H_dayOf_28 (by decide) (by decide) (by decide) (by decide) ?_
      refine lv_iload_n hx hb d_H_dayOf_64 rfl (lv_at hl 0 rfl) ?_
      obtain rfl := Option.some.inj hr
      rw [hQ]; exact k_iret C hret hW d_H_dayOf_65
    · replace hr := iN c_4 hr
      by_cases c_5 : x2 = 1
      · replace hr := ip c_5 hr
        refine k_tabIn (tgt := 66) (off := 38) c_5 hx hb d_H_dayOf_28 (by decide) (by decide) (by decide) (by decide) ?_
        refine lv_aload_n hx hb d_H_dayOf_66 rfl (lv_at hl 1 rfl) ?_
        refine k_get i_H C hW 0 rfl rfl 0 (by decide) qf_H_10 rfl rfl d_H_dayOf_67 ?_
        refine lv_iload_n hx hb d_H_dayOf_70 rfl (lv_at hl 0 rfl) ?_
        obtain ⟨q_6, hc_6, hr⟩ := ob hr
        have ct_6 := C_Sta_couldBe l D cI cS a_r0_now a_r0_now_goes (Value.ref a_r0_now_weights) (Value.ref a_r0_now_kinds) (Value.ref a_r0_now_figures) v_r0_now_things (Value.ref a_r0_now_hampers) (Value.int r0_now_days) v_r0_now_fields v_r0_now_done r0_now_goes (r0_now_hampers (Int32.toNatClampNeg x1)) q_6 hc_6
        refine k_goIp hA hW [1, 3] rfl rfl (k_runV C hA hW mw_Sta_couldBe mv_Sta_couldBe (ct_6.2 _) [1, 3] rfl rfl 1 rfl rfl qm_H_113 ⟨Nat.le_of_ble_eq_true rfl, Nat.le_of_ble_eq_true rfl, Nat.zero_le _, Nat.zero_le _⟩ rfl rfl (Nat.le_of_ble_eq_true rfl) hl.1 d_H_dayOf_71) (fun H locs hW => ?_)
        obtain rfl := Option.some.inj hr
        rw [hQ]; exact k_iret C hret hW d_H_dayOf_74
      · replace hr := iN c_5 hr
        by_cases c_7 : x2 = 2
        · replace hr := ip c_7 hr
          refine k_tabIn (tgt := 75) (off := 47) c_7 hx hb d_H_dayOf_28 (by decide) (by decide) (by decide) (by decide) ?_
          refine lv_aload_n hx hb d_H_dayOf_75 rfl (lv_at hl 1 rfl) ?_
          refine k_get i_H C hW 0 rfl rfl 0 (by decide) qf_H_10 rfl rfl d_H_dayOf_76 ?_
          refine lv_iload_n hx hb d_H_dayOf_79 rfl (lv_at hl 0 rfl) ?_
          obtain ⟨q_8, hc_8, hr⟩ := ob hr
          have ct_8 := C_Sta_likeliestBy l D cI cS a_r0_now a_r0_now_goes a_r0_now_weights (Value.ref a_r0_now_kinds) (Value.ref a_r0_now_figures) v_r0_now_things (Value.ref a_r0_now_hampers) (Value.int r0_now_days) v_r0_now_fields v_r0_now_done r0_now_goes r0_now_weights (r0_now_hampers (Int32.toNatClampNeg x1)) q_8 hc_8
          refine k_goIp hA hW [1, 3, 6] rfl rfl (k_runV C hA hW mw_Sta_likeliestBy mv_Sta_likeliestBy (ct_8.2 _) [1, 3, 6] rfl rfl 1 rfl rfl qm_H_116 ⟨Nat.le_of_ble_eq_true rfl, Nat.le_of_ble_eq_true rfl, Nat.zero_le _, Nat.zero_le _⟩ rfl rfl (Nat.le_of_ble_eq_true rfl) hl.1 d_H_dayOf_80) (fun H locs hW => ?_)
          obtain rfl := Option.some.inj hr
          rw [hQ]; exact k_iret C hret hW d_H_dayOf_83
        · replace hr := iN c_7 hr
          by_cases c_9 : x2 = 3
          · replace hr := ip c_9 hr
            refine k_tabIn (tgt := 84) (off := 56) c_9 hx hb d_H_dayOf_28 (by decide) (by decide) (by decide) (by decide) ?_
            refine lv_aload_n hx hb d_H_dayOf_84 rfl (lv_at hl 1 rfl) ?_
            refine k_get i_H C hW 0 rfl rfl 0 (by decide) qf_H_10 rfl rfl d_H_dayOf_85 ?_
            refine lv_iload_n hx hb d_H_dayOf_88 rfl (lv_at hl 0 rfl) ?_
            obtain ⟨q_10, hc_10, hr⟩ := ob hr
            have ct_10 := C_Sta_heavyOf l D cI cS a_r0_now a_r0_now_figures a_r0_now_kinds (Value.ref a_r0_now_weights) (Value.ref a_r0_now_goes) v_r0_now_things (Value.ref a_r0_now_hampers) (Value.int r0_now_days) v_r0_now_fields v_r0_now_done r0_now_figures r0_now_kinds (r0_now_hampers (Int32.toNatClampNeg x1)) q_10 hc_10
            refine k_goIp hA hW [1, 2, 5] rfl rfl (k_runV C hA hW mw_Sta_heavyOf mv_Sta_heavyOf (ct_10.2 _) [1, 2, 5] rfl rfl 1 rfl rfl qm_H_119 ⟨Nat.le_of_ble_eq_true rfl, Nat.le_of_ble_eq_true rfl, Nat.zero_le _, Nat.zero_le _⟩ rfl rfl (Nat.le_of_ble_eq_true rfl) hl.1 d_H_dayOf_89) (fun H locs hW => ?_)
            obtain rfl := Option.some.inj hr
            rw [hQ]; exact k_iret C hret hW d_H_dayOf_92
          · replace hr := iN c_9 hr
            by_cases c_11 : x2 = 4
            · replace hr := ip c_11 hr
              refine k_tabIn (tgt := 93) (off := 65) c_11 hx hb d_H_dayOf_28 (by decide) (by decide) (by decide) (by decide) ?_
              refine lv_aload_n hx hb d_H_dayOf_93 rfl (lv_at hl 1 rfl) ?_
              refine k_get i_H C hW 0 rfl rfl 0 (by decide) qf_H_10 rfl rfl d_H_dayOf_94 ?_
              refine lv_iload_n hx hb d_H_dayOf_97 rfl (lv_at hl 0 rfl) ?_
              obtain ⟨q_12, hc_12, hr⟩ := ob hr
              have ct_12 := C_Sta_dearOf l D cI cS a_r0_now a_r0_now_figures a_r0_now_kinds (Value.ref a_r0_now_weights) (Value.ref a_r0_now_goes) v_r0_now_things (Value.ref a_r0_now_hampers) (Value.int r0_now_days) v_r0_now_fields v_r0_now_done r0_now_figures r0_now_kinds (r0_now_hampers (Int32.toNatClampNeg x1)) q_12 hc_12
              refine k_goIp hA hW [1, 2, 5] rfl rfl (k_runV C hA hW mw_Sta_dearOf mv_Sta_dearOf (ct_12.2 _) [1, 2, 5] rfl rfl 1 rfl rfl qm_H_122 ⟨Nat.le_of_ble_eq_true rfl, Nat.le_of_ble_eq_true rfl, Nat.zero_le _, Nat.zero_le _⟩ rfl rfl (Nat.le_of_ble_eq_true rfl) hl.1 d_H_dayOf_98) (fun H locs hW => ?_)
              obtain rfl := Option.some.inj hr
              rw [hQ]; exact k_iret C hret hW d_H_dayOf_101
            · replace hr := iN c_11 hr
              refine k_tabDef (tgt := 102) [0, 1, 2, 3, 4] (by decide +kernel) (by simp only [List.forall_mem_cons]; exact ⟨c_4, c_5, c_7, c_9, c_11, fun _ h => absurd h List.not_mem_nil⟩) hx hb d_H_dayOf_28 (by decide) ?_
              refine lv_aload_n hx hb d_H_dayOf_102 rfl (lv_at hl 1 rfl) ?_
              refine lv_bipush (v := (-2)) hx hb d_H_dayOf_103 (by decide) ?_
              obtain ⟨q_13, hc_13, hr⟩ := ob hr
              have ct_13 := C_H_refused l D cI cS a_r0 a_r0_refusals (Value.ref a_r0_now) v_r0_kept v_r0_trial v_r0_hasKept v_r0_steps v_r0_letters v_r0_numbers v_r0_harvest v_r0_fraction r0_refusals (-2) q_13 hc_13
              refine k_goI hA hW [0, 7] rfl ct_13.1 (ws' := (w_H_dayOf cI a_r0 a_r0_now a_r0_now_figures a_r0_now_goes a_r0_now_hampers a_r0_now_kinds a_r0_now_weights a_r0_refusals v_r0_kept v_r0_trial v_r0_hasKept v_r0_steps v_r0_letters v_r0_numbers v_r0_harvest v_r0_fraction v_r0_now_things v_r0_now_fields v_r0_now_done r0_now_days r0_now_figures r0_now_goes r0_now_hampers r0_now_kinds r0_now_weights q_13.2)) rfl (k_runV C hA hW mw_H_refused mv_H_refused (ct_13.2 _) [0, 7] rfl rfl 0 rfl rfl qm_H_65 ⟨Nat.le_of_ble_eq_true rfl, Nat.le_of_ble_eq_true rfl, Nat.zero_le _, Nat.zero_le _⟩ rfl rfl (Nat.le_of_ble_eq_true rfl) hl.1 d_H_dayOf_105) (fun H locs hW => ?_)
              obtain rfl := Option.some.inj hr
              rw [hQ]; exact k_iret C hret hW d_H_dayOf_108
  · replace hr := ip c_2 hr
    refine lv_aload_n hx hb d_H_dayOf_11 rfl (lv_at hl 0 rfl) ?_
    refine lv_iconst (v := (-1)) hx hb d_H_dayOf_12 (by decide) ?_
    obtain ⟨q_14, hc_14, hr⟩ := ob hr
    have ct_14 := C_H_refused l D cI cS a_r0 a_r0_refusals (Value.ref a_r0_now) v_r0_kept v_r0_trial v_r0_hasKept v_r0_steps v_r0_letters v_r0_numbers v_r0_harvest v_r0_fraction r0_refusals (-1) q_14 hc_14
    refine k_goI hA hW [0, 7] rfl ct_14.1 (ws' := (w_H_dayOf cI a_r0 a_r0_now a_r0_now_figures a_r0_now_goes a_r0_now_hampers a_r0_now_kinds a_r0_now_weights a_r0_refusals v_r0_kept v_r0_trial v_r0_hasKept v_r0_steps v_r0_letters v_r0_numbers v_r0_harvest v_r0_fraction v_r0_now_things v_r0_now_fields v_r0_now_done r0_now_days r0_now_figures r0_now_goes r0_now_hampers r0_now_kinds r0_now_weights q_14.2)) rfl (k_runV C hA hW mw_H_refused mv_H_refused (ct_14.2 _) [0, 7] rfl rfl 0 rfl rfl qm_H_65 ⟨Nat.le_of_ble_eq_true rfl, Nat.le_of_ble_eq_true rfl, Nat.zero_le _, Nat.zero_le _⟩ rfl rfl (Nat.le_of_ble_eq_true rfl) hl.1 d_H_dayOf_13) (fun H locs hW => ?_)
    obtain rfl := Option.some.inj hr
    rw [hQ]; exact k_iret C hret hW d_H_dayOf_16
def w_H_drop (cI : ClassId) (a_r0 a_r0_now a_r0_now_goes a_r0_now_hampers a_r0_now_weights : Nat) (v_r0_kept v_r0_trial v_r0_hasKept v_r0_steps v_r0_letters v_r0_numbers v_r0_harvest v_r0_fraction v_r0_refusals v_r0_now_kinds v_r0_now_figures v_r0_now_fields v_r0_now_done : Value) (r0_now_days : Int32) (r0_now_things : Int32) (r0_now_goes : Nat → Int32) (r0_now_hampers : Nat → Int32) (r0_now_weights : Nat → Int32) : va_W := [(a_r0, .inr (0, [.ref a_r0_now, v_r0_kept, v_r0_trial, v_r0_hasKept, v_r0_steps, v_r0_letters, v_r0_numbers, v_r0_harvest, v_r0_fraction, v_r0_refusals])), (a_r0_now, .inr (1, [.ref a_r0_now_weights, v_r0_now_kinds, v_r0_now_figures, .ref a_r0_now_goes, .int r0_now_things, .ref a_r0_now_hampers, .int r0_now_days, v_r0_now_fields, v_r0_now_done])), (a_r0_now_goes, .inl (cI, 8, .inl r0_now_goes)), (a_r0_now_hampers, .inl (cI, 8, .inl r0_now_hampers)), (a_r0_now_weights, .inl (cI, 6, .inl r0_now_weights))]
def F_H_drop (r0_now_days : Int32) (r0_now_things : Int32) (r0_now_goes : Nat → Int32) (r0_now_hampers : Nat → Int32) (r0_now_weights : Nat → Int32) : Option (Int32) :=
  ((F_Dia_bestDropped r0_now_days r0_now_things r0_now_goes r0_now_hampers r0_now_weights).bind (fun q_1 => (some q_1)))
set_option maxHeartbeats 4000000 in
set_option maxRecDepth 100000 in
theorem C_H_drop (l : Launch) (D : va_G) (cI cS : ClassId) (a_r0 a_r0_now a_r0_now_goes a_r0_now_hampers a_r0_now_weights : Nat) (v_r0_kept v_r0_trial v_r0_hasKept v_r0_steps v_r0_letters v_r0_numbers v_r0_harvest v_r0_fraction v_r0_refusals v_r0_now_kinds v_r0_now_figures v_r0_now_fields v_r0_now_done : Value) (r0_now_days : Int32) (r0_now_things : Int32) (r0_now_goes : Nat → Int32) (r0_now_hampers : Nat → Int32) (r0_now_weights : Nat → Int32) (o : Int32) (hr : F_H_drop r0_now_days r0_now_things r0_now_goes r0_now_hampers r0_now_weights = some o) : ctI l y_H_drop (Cond.code y_H_drop b_H_drop 1 (some FieldType.int)) (rmd 5) D (kTy cI cS) [.ref a_r0] (w_H_drop cI a_r0 a_r0_now a_r0_now_goes a_r0_now_hampers a_r0_now_weights v_r0_kept v_r0_trial v_r0_hasKept v_r0_steps v_r0_letters v_r0_numbers v_r0_harvest v_r0_fraction v_r0_refusals v_r0_now_kinds v_r0_now_figures v_r0_now_fields v_r0_now_done r0_now_days r0_now_things r0_now_goes r0_now_hampers r0_now_weights) (w_H_drop cI a_r0 a_r0_now a_r0_now_goes a_r0_now_hampers a_r0_now_weights v_r0_kept v_r0_trial v_r0_hasKept v_r0_steps v_r0_letters v_r0_numbers v_r0_harvest v_r0_fraction v_r0_refusals v_r0_now_kinds v_r0_now_figures v_r0_now_fields v_r0_now_done r0_now_days r0_now_things r0_now_goes r0_now_hampers r0_now_weights) o := by
  unfold F_H_drop at hr
  refine ⟨rfl, fun sz => ct_of (w0 := (w_H_drop cI a_r0 a_r0_now a_r0_now_goes a_r0_now_hampers a_r0_now_weights v_r0_kept v_r0_trial v_r0_hasKept v_r0_steps v_r0_letters v_r0_numbers v_r0_harvest v_r0_fraction v_r0_refusals v_r0_now_kinds v_r0_now_figures v_r0_now_fields v_r0_now_done r0_now_days r0_now_things r0_now_goes r0_now_hampers r0_now_weights)) (Qc := fun A => qI D (w_H_drop cI a_r0 a_r0_now a_r0_now_goes a_r0_now_hampers a_r0_now_weights v_r0_kept v_r0_trial v_r0_hasKept v_r0_steps v_r0_letters v_r0_numbers v_r0_harvest v_r0_fraction v_r0_refusals v_r0_now_kinds v_r0_now_figures v_r0_now_fields v_r0_now_done r0_now_days r0_now_things r0_now_goes r0_now_hampers r0_now_weights) o A) rfl (Nat.le_of_ble_eq_true rfl) ?_ sz⟩
  intro p e s m below meth c A hA C hret ls hl hW
  have C : cx p s m ([.ref a_r0] : List Value).toArray meth c b_H_drop 1 R_H D (kTy cI cS) (Cond.code y_H_drop b_H_drop 1 (some FieldType.int)) := C
  obtain ⟨hx, hb, hml, hown, hts, hK, hlk, hN⟩ := id C
  have hl : lv_has ls 1 [(0, .ref a_r0)] := hl
  obtain ⟨Q, hQ⟩ : ∃ Q, Q = MQ below (qI D (w_H_drop cI a_r0 a_r0_now a_r0_now_goes a_r0_now_hampers a_r0_now_weights v_r0_kept v_r0_trial v_r0_hasKept v_r0_steps v_r0_letters v_r0_numbers v_r0_harvest v_r0_fraction v_r0_refusals v_r0_now_kinds v_r0_now_figures v_r0_now_fields v_r0_now_done r0_now_days r0_now_things r0_now_goes r0_now_hampers r0_now_weights) o A) ([.ref a_r0] : List Value).toArray s 0 0 A := ⟨_, rfl⟩
  rw [← hQ]
  refine lv_aload_n hx hb d_H_drop_0 rfl (lv_at hl 0 rfl) ?_
  refine k_get i_H C hW 0 rfl rfl 0 (by decide) qf_H_10 rfl rfl d_H_drop_1 ?_
  obtain ⟨q_1, hc_1, hr⟩ := ob hr
  have ct_1 := C_Dia_bestDropped l D cI cS a_r0_now a_r0_now_goes a_r0_now_hampers a_r0_now_weights v_r0_now_kinds v_r0_now_figures v_r0_now_fields v_r0_now_done r0_now_days r0_now_things r0_now_goes r0_now_hampers r0_now_weights q_1 hc_1
  refine k_goIp hA hW [1, 2, 3, 4] rfl rfl (k_runS C hA hW mw_Dia_bestDropped ms_Dia_bestDropped (ct_1.2 _) [1, 2, 3, 4] rfl rfl qm_H_344 ⟨Nat.le_of_ble_eq_true rfl, Nat.le_of_ble_eq_true rfl, Nat.zero_le _, Nat.zero_le _⟩ rfl rfl (Nat.le_of_ble_eq_true rfl) hl.1 d_H_drop_4) (fun H locs hW => ?_)
  obtain rfl := Option.some.inj hr
  rw [hQ]; exact k_iret C hret hW d_H_drop_7
def w_H_eggAndRope (cI : ClassId) (a_r0 a_r0_now a_r0_now_goes : Nat) (v_r0_kept v_r0_trial v_r0_hasKept v_r0_steps v_r0_letters v_r0_numbers v_r0_harvest v_r0_fraction v_r0_refusals v_r0_now_weights v_r0_now_kinds v_r0_now_figures v_r0_now_hampers v_r0_now_days v_r0_now_fields v_r0_now_done : Value) (r0_now_things : Int32) (r0_now_goes : Nat → Int32) : va_W := [(a_r0, .inr (0, [.ref a_r0_now, v_r0_kept, v_r0_trial, v_r0_hasKept, v_r0_steps, v_r0_letters, v_r0_numbers, v_r0_harvest, v_r0_fraction, v_r0_refusals])), (a_r0_now, .inr (1, [v_r0_now_weights, v_r0_now_kinds, v_r0_now_figures, .ref a_r0_now_goes, .int r0_now_things, v_r0_now_hampers, v_r0_now_days, v_r0_now_fields, v_r0_now_done])), (a_r0_now_goes, .inl (cI, 8, .inl r0_now_goes))]
def F_H_eggAndRope (r0_now_things : Int32) (r0_now_goes : Nat → Int32) : Option (Int32) :=
  ((F_Set_nearestTwo r0_now_things r0_now_goes).bind (fun q_1 => (some q_1)))
set_option maxHeartbeats 4000000 in
set_option maxRecDepth 100000 in
theorem C_H_eggAndRope (l : Launch) (D : va_G) (cI cS : ClassId) (a_r0 a_r0_now a_r0_now_goes : Nat) (v_r0_kept v_r0_trial v_r0_hasKept v_r0_steps v_r0_letters v_r0_numbers v_r0_harvest v_r0_fraction v_r0_refusals v_r0_now_weights v_r0_now_kinds v_r0_now_figures v_r0_now_hampers v_r0_now_days v_r0_now_fields v_r0_now_done : Value) (r0_now_things : Int32) (r0_now_goes : Nat → Int32) (o : Int32) (hr : F_H_eggAndRope r0_now_things r0_now_goes = some o) : ctI l y_H_eggAndRope (Cond.code y_H_eggAndRope b_H_eggAndRope 1 (some FieldType.int)) (rmd 2) D (kTy cI cS) [.ref a_r0] (w_H_eggAndRope cI a_r0 a_r0_now a_r0_now_goes v_r0_kept v_r0_trial v_r0_hasKept v_r0_steps v_r0_letters v_r0_numbers v_r0_harvest v_r0_fraction v_r0_refusals v_r0_now_weights v_r0_now_kinds v_r0_now_figures v_r0_now_hampers v_r0_now_days v_r0_now_fields v_r0_now_done r0_now_things r0_now_goes) (w_H_eggAndRope cI a_r0 a_r0_now a_r0_now_goes v_r0_kept v_r0_trial v_r0_hasKept v_r0_steps v_r0_letters v_r0_numbers v_r0_harvest v_r0_fraction v_r0_refusals v_r0_now_weights v_r0_now_kinds v_r0_now_figures v_r0_now_hampers v_r0_now_days v_r0_now_fields v_r0_now_done r0_now_things r0_now_goes) o := by
  unfold F_H_eggAndRope at hr
  refine ⟨rfl, fun sz => ct_of (w0 := (w_H_eggAndRope cI a_r0 a_r0_now a_r0_now_goes v_r0_kept v_r0_trial v_r0_hasKept v_r0_steps v_r0_letters v_r0_numbers v_r0_harvest v_r0_fraction v_r0_refusals v_r0_now_weights v_r0_now_kinds v_r0_now_figures v_r0_now_hampers v_r0_now_days v_r0_now_fields v_r0_now_done r0_now_things r0_now_goes)) (Qc := fun A => qI D (w_H_eggAndRope cI a_r0 a_r0_now a_r0_now_goes v_r0_kept v_r0_trial v_r0_hasKept v_r0_steps v_r0_letters v_r0_numbers v_r0_harvest v_r0_fraction v_r0_refusals v_r0_now_weights v_r0_now_kinds v_r0_now_figures v_r0_now_hampers v_r0_now_days v_r0_now_fields v_r0_now_done r0_now_things r0_now_goes) o A) rfl (Nat.le_of_ble_eq_true rfl) ?_ sz⟩
  intro p e s m below meth c A hA C hret ls hl hW
  have C : cx p s m ([.ref a_r0] : List Value).toArray meth c b_H_eggAndRope 1 R_H D (kTy cI cS) (Cond.code y_H_eggAndRope b_H_eggAndRope 1 (some FieldType.int)) := C
  obtain ⟨hx, hb, hml, hown, hts, hK, hlk, hN⟩ := id C
  have hl : lv_has ls 1 [(0, .ref a_r0)] := hl
  obtain ⟨Q, hQ⟩ : ∃ Q, Q = MQ below (qI D (w_H_eggAndRope cI a_r0 a_r0_now a_r0_now_goes v_r0_kept v_r0_trial v_r0_hasKept v_r0_steps v_r0_letters v_r0_numbers v_r0_harvest v_r0_fraction v_r0_refusals v_r0_now_weights v_r0_now_kinds v_r0_now_figures v_r0_now_hampers v_r0_now_days v_r0_now_fields v_r0_now_done r0_now_things r0_now_goes) o A) ([.ref a_r0] : List Value).toArray s 0 0 A := ⟨_, rfl⟩
  rw [← hQ]
  refine lv_aload_n hx hb d_H_eggAndRope_0 rfl (lv_at hl 0 rfl) ?_
  refine k_get i_H C hW 0 rfl rfl 0 (by decide) qf_H_10 rfl rfl d_H_eggAndRope_1 ?_
  obtain ⟨q_1, hc_1, hr⟩ := ob hr
  have ct_1 := C_Set_nearestTwo l D cI cS a_r0_now a_r0_now_goes v_r0_now_weights v_r0_now_kinds v_r0_now_figures v_r0_now_hampers v_r0_now_days v_r0_now_fields v_r0_now_done r0_now_things r0_now_goes q_1 hc_1
  refine k_goIp hA hW [1, 2] rfl rfl (k_runS C hA hW mw_Set_nearestTwo ms_Set_nearestTwo (ct_1.2 _) [1, 2] rfl rfl qm_H_262 ⟨Nat.le_of_ble_eq_true rfl, Nat.le_of_ble_eq_true rfl, Nat.zero_le _, Nat.zero_le _⟩ rfl rfl (Nat.le_of_ble_eq_true rfl) hl.1 d_H_eggAndRope_4) (fun H locs hW => ?_)
  obtain rfl := Option.some.inj hr
  rw [hQ]; exact k_iret C hret hW d_H_eggAndRope_7
def w_H_feed (cI : ClassId) (a_r0 a_r0_letters a_r0_letters_letters a_r0_refusals : Nat) (v_r0_now v_r0_kept v_r0_trial v_r0_hasKept v_r0_steps v_r0_numbers v_r0_harvest v_r0_fraction : Value) (r0_letters_count : Int32) (r0_letters_letters : Nat → Int32) (r0_refusals : Nat → Int32) : va_W := [(a_r0, .inr (0, [v_r0_now, v_r0_kept, v_r0_trial, v_r0_hasKept, v_r0_steps, .ref a_r0_letters, v_r0_numbers, v_r0_harvest, v_r0_fraction, .ref a_r0_refusals])), (a_r0_letters, .inr (5, [.ref a_r0_letters_letters, .int r0_letters_count])), (a_r0_letters_letters, .inl (cI, 96, .inl r0_letters_letters)), (a_r0_refusals, .inl (cI, 7, .inl r0_refusals))]
def F_H_feed_J30_3 (r0_letters_count : Int32) (r0_letters_letters : Nat → Int32) (r0_refusals : Nat → Int32) : Option (Int32 × (Int32) × (Nat → Int32) × (Nat → Int32)) :=
  ((F_H_refused r0_refusals ((-6) : Int32)).bind (fun q_4 => (some (q_4.1, r0_letters_count, r0_letters_letters, q_4.2))))
def F_H_feed (r0_letters_count : Int32) (r0_letters_letters : Nat → Int32) (r0_refusals : Nat → Int32) (x1 : Int32) : Option (Int32 × (Int32) × (Nat → Int32) × (Nat → Int32)) :=
  (if (0 : Int32) ≤ x1 then (if (255 : Int32) < x1 then (F_H_feed_J30_3 r0_letters_count r0_letters_letters r0_refusals) else (if r0_letters_count < 96 then ((F_Let_append r0_letters_count r0_letters_letters x1).bind (fun q_6 => (some (q_6.1, q_6.2.1, q_6.2.2, r0_refusals)))) else (F_H_feed_J30_3 r0_letters_count r0_letters_letters r0_refusals))) else ((F_H_refused r0_refusals ((-4) : Int32)).bind (fun q_7 => (some (q_7.1, r0_letters_count, r0_letters_letters, q_7.2)))))
set_option maxHeartbeats 4000000 in
set_option maxRecDepth 100000 in
theorem C_H_feed (l : Launch) (D : va_G) (cI cS : ClassId) (a_r0 a_r0_letters a_r0_letters_letters a_r0_refusals : Nat) (v_r0_now v_r0_kept v_r0_trial v_r0_hasKept v_r0_steps v_r0_numbers v_r0_harvest v_r0_fraction : Value) (r0_letters_count : Int32) (r0_letters_letters : Nat → Int32) (r0_refusals : Nat → Int32) (x1 : Int32) (o : Int32 × (Int32) × (Nat → Int32) × (Nat → Int32)) (hr : F_H_feed r0_letters_count r0_letters_letters r0_refusals x1 = some o) : ctI l y_H_feed (Cond.code y_H_feed b_H_feed 2 (some FieldType.int)) (rmd 1) D (kTy cI cS) [.ref a_r0, .int x1] (w_H_feed cI a_r0 a_r0_letters a_r0_letters_letters a_r0_refusals v_r0_now v_r0_kept v_r0_trial v_r0_hasKept v_r0_steps v_r0_numbers v_r0_harvest v_r0_fraction r0_letters_count r0_letters_letters r0_refusals) (w_H_feed cI a_r0 a_r0_letters a_r0_letters_letters a_r0_refusals v_r0_now v_r0_kept v_r0_trial v_r0_hasKept v_r0_steps v_r0_numbers v_r0_harvest v_r0_fraction o.2.1 o.2.2.1 o.2.2.2) o.1 := by
  unfold F_H_feed at hr
  refine ⟨rfl, fun sz => ct_of (w0 := (w_H_feed cI a_r0 a_r0_letters a_r0_letters_letters a_r0_refusals v_r0_now v_r0_kept v_r0_trial v_r0_hasKept v_r0_steps v_r0_numbers v_r0_harvest v_r0_fraction r0_letters_count r0_letters_letters r0_refusals)) (Qc := fun A => qI D (w_H_feed cI a_r0 a_r0_letters a_r0_letters_letters a_r0_refusals v_r0_now v_r0_kept v_r0_trial v_r0_hasKept v_r0_steps v_r0_numbers v_r0_harvest v_r0_fraction o.2.1 o.2.2.1 o.2.2.2) o.1 A) rfl (Nat.le_of_ble_eq_true rfl) ?_ sz⟩
  intro p e s m below meth c A hA C hret ls hl hW
  have C : cx p s m ([.ref a_r0, .int x1] : List Value).toArray meth c b_H_feed 2 R_H D (kTy cI cS) (Cond.code y_H_feed b_H_feed 2 (some FieldType.int)) := C
  obtain ⟨hx, hb, hml, hown, hts, hK, hlk, hN⟩ := id C
  have hl : lv_has ls 2 [(0, .ref a_r0), (1, .int x1)] := hl
  obtain ⟨Q, hQ⟩ : ∃ Q, Q = MQ below (qI D (w_H_feed cI a_r0 a_r0_letters a_r0_letters_letters a_r0_refusals v_r0_now v_r0_kept v_r0_trial v_r0_hasKept v_r0_steps v_r0_numbers v_r0_harvest v_r0_fraction o.2.1 o.2.2.1 o.2.2.2) o.1 A) ([.ref a_r0, .int x1] : List Value).toArray s 0 0 A := ⟨_, rfl⟩
  rw [← hQ]
  refine lv_iload_n hx hb d_H_feed_0 rfl (lv_at hl 1 rfl) ?_
  refine lv_if_ge (tgt := 11) hx hb d_H_feed_1 (by decide) (fun c_1 => ?_) (fun c_1 => ?_)
  · replace hr := ip c_1 hr
    refine lv_iload_n hx hb d_H_feed_11 rfl (lv_at hl 1 rfl) ?_
    refine lv_sipush (v := 255) hx hb d_H_feed_12 (by decide) ?_
    have hJ_3 : ∀ (_ : Unit), F_H_feed_J30_3 r0_letters_count r0_letters_letters r0_refusals = some o → ∀ (H : Heap) (locs : List Loc) (ls : Array Slot), wd A s.heap D (w_H_feed cI a_r0 a_r0_letters a_r0_letters_letters a_r0_refusals v_r0_now v_r0_kept v_r0_trial v_r0_hasKept v_r0_steps v_r0_numbers v_r0_harvest v_r0_fraction r0_letters_count r0_letters_letters r0_refusals) H locs → lv_has ls 2 [(0, .ref a_r0)] → W p l e (rmd 1) s m ([.ref a_r0, .int x1] : List Value).toArray below meth c H locs 0 0 Q (F0 m 30 ls []) := by
      intro _ hr H locs ls hW hl
      unfold F_H_feed_J30_3 at hr
      refine lv_aload_n hx hb d_H_feed_30 rfl (lv_at hl 0 rfl) ?_
      refine lv_bipush (v := (-6)) hx hb d_H_feed_31 (by decide) ?_
      obtain ⟨q_4, hc_4, hr⟩ := ob hr
      have ct_4 := C_H_refused l D cI cS a_r0 a_r0_refusals v_r0_now v_r0_kept v_r0_trial v_r0_hasKept v_r0_steps (Value.ref a_r0_letters) v_r0_numbers v_r0_harvest v_r0_fraction r0_refusals (-6) q_4 hc_4
      refine k_goI hA hW [0, 3] rfl ct_4.1 (ws' := (w_H_feed cI a_r0 a_r0_letters a_r0_letters_letters a_r0_refusals v_r0_now v_r0_kept v_r0_trial v_r0_hasKept v_r0_steps v_r0_numbers v_r0_harvest v_r0_fraction r0_letters_count r0_letters_letters q_4.2)) rfl (k_runV C hA hW mw_H_refused mv_H_refused (ct_4.2 _) [0, 3] rfl rfl 0 rfl rfl qm_H_65 ⟨Nat.le_of_ble_eq_true rfl, Nat.le_of_ble_eq_true rfl, Nat.zero_le _, Nat.zero_le _⟩ rfl rfl (Nat.le_of_ble_eq_true rfl) hl.1 d_H_feed_33) (fun H locs hW => ?_)
      obtain rfl := Option.some.inj hr
      rw [hQ]; exact k_iret C hret hW d_H_feed_36
    refine lv_icmp_gt (tgt := 30) hx hb d_H_feed_15 (by decide) (fun c_2 => ?_) (fun c_2 => ?_)
    · replace hr := ip c_2 hr
      exact hJ_3 () hr _ _ _ hW (lv_sub hl [0] rfl)
    · replace hr := iN c_2 hr
      refine lv_aload_n hx hb d_H_feed_18 rfl (lv_at hl 0 rfl) ?_
      refine k_get i_H C hW 0 rfl rfl 5 (by decide) qf_H_36 rfl rfl d_H_feed_19 ?_
      refine k_getN i_Let C hW 1 rfl rfl 1 (by decide) qf_H_69 rfl rfl d_H_feed_22 ?_
      refine lv_bipush (v := 96) hx hb d_H_feed_25 (by decide) ?_
      refine lv_icmp_lt (tgt := 37) hx hb d_H_feed_27 (by decide) (fun c_5 => ?_) (fun c_5 => ?_)
      · replace hr := ip c_5 hr
        refine lv_aload_n hx hb d_H_feed_37 rfl (lv_at hl 0 rfl) ?_
        refine k_get i_H C hW 0 rfl rfl 5 (by decide) qf_H_36 rfl rfl d_H_feed_38 ?_
        refine lv_iload_n hx hb d_H_feed_41 rfl (lv_at hl 1 rfl) ?_
        obtain ⟨q_6, hc_6, hr⟩ := ob hr
        have ct_6 := C_Let_append l D cI cS a_r0_letters a_r0_letters_letters r0_letters_count r0_letters_letters x1 q_6 hc_6
        refine k_goI hA hW [1, 2] rfl ct_6.1 (ws' := (w_H_feed cI a_r0 a_r0_letters a_r0_letters_letters a_r0_refusals v_r0_now v_r0_kept v_r0_trial v_r0_hasKept v_r0_steps v_r0_numbers v_r0_harvest v_r0_fraction q_6.2.1 q_6.2.2 r0_refusals)) rfl (k_runV C hA hW mw_Let_append mv_Let_append (ct_6.2 _) [1, 2] rfl rfl 1 rfl rfl qm_H_73 ⟨Nat.le_of_ble_eq_true rfl, Nat.le_of_ble_eq_true rfl, Nat.zero_le _, Nat.zero_le _⟩ rfl rfl (Nat.le_of_ble_eq_true rfl) hl.1 d_H_feed_42) (fun H locs hW => ?_)
        obtain rfl := Option.some.inj hr
        rw [hQ]; exact k_iret C hret hW d_H_feed_45
      · replace hr := iN c_5 hr
        exact hJ_3 () hr _ _ _ hW (lv_sub hl [0] rfl)
  · replace hr := iN c_1 hr
    refine lv_aload_n hx hb d_H_feed_4 rfl (lv_at hl 0 rfl) ?_
    refine lv_bipush (v := (-4)) hx hb d_H_feed_5 (by decide) ?_
    obtain ⟨q_7, hc_7, hr⟩ := ob hr
    have ct_7 := C_H_refused l D cI cS a_r0 a_r0_refusals v_r0_now v_r0_kept v_r0_trial v_r0_hasKept v_r0_steps (Value.ref a_r0_letters) v_r0_numbers v_r0_harvest v_r0_fraction r0_refusals (-4) q_7 hc_7
    refine k_goI hA hW [0, 3] rfl ct_7.1 (ws' := (w_H_feed cI a_r0 a_r0_letters a_r0_letters_letters a_r0_refusals v_r0_now v_r0_kept v_r0_trial v_r0_hasKept v_r0_steps v_r0_numbers v_r0_harvest v_r0_fraction r0_letters_count r0_letters_letters q_7.2)) rfl (k_runV C hA hW mw_H_refused mv_H_refused (ct_7.2 _) [0, 3] rfl rfl 0 rfl rfl qm_H_65 ⟨Nat.le_of_ble_eq_true rfl, Nat.le_of_ble_eq_true rfl, Nat.zero_le _, Nat.zero_le _⟩ rfl rfl (Nat.le_of_ble_eq_true rfl) hl.1 d_H_feed_7) (fun H locs hW => ?_)
    obtain rfl := Option.some.inj hr
    rw [hQ]; exact k_iret C hret hW d_H_feed_10
def w_H_fieldOf (cI : ClassId) (a_r0 a_r0_now a_r0_now_fields a_r0_now_fields_lefts a_r0_now_fields_wishes a_r0_refusals : Nat) (v_r0_kept v_r0_trial v_r0_hasKept v_r0_steps v_r0_letters v_r0_numbers v_r0_harvest v_r0_fraction v_r0_now_weights v_r0_now_kinds v_r0_now_figures v_r0_now_goes v_r0_now_things v_r0_now_hampers v_r0_now_days v_r0_now_done : Value) (r0_now_fields_lefts : Nat → Int32) (r0_now_fields_wishes : Nat → Int32) (r0_refusals : Nat → Int32) : va_W := [(a_r0, .inr (0, [.ref a_r0_now, v_r0_kept, v_r0_trial, v_r0_hasKept, v_r0_steps, v_r0_letters, v_r0_numbers, v_r0_harvest, v_r0_fraction, .ref a_r0_refusals])), (a_r0_now, .inr (1, [v_r0_now_weights, v_r0_now_kinds, v_r0_now_figures, v_r0_now_goes, v_r0_now_things, v_r0_now_hampers, v_r0_now_days, .ref a_r0_now_fields, v_r0_now_done])), (a_r0_now_fields, .inr (2, [.ref a_r0_now_fields_wishes, .ref a_r0_now_fields_lefts])), (a_r0_now_fields_lefts, .inl (cI, 4, .inl r0_now_fields_lefts)), (a_r0_now_fields_wishes, .inl (cI, 4, .inl r0_now_fields_wishes)), (a_r0_refusals, .inl (cI, 7, .inl r0_refusals))]
def F_H_fieldOf (r0_now_fields_lefts : Nat → Int32) (r0_now_fields_wishes : Nat → Int32) (r0_refusals : Nat → Int32) (x1 : Int32) (x2 : Int32) : Option (Int32 × (Nat → Int32)) :=
  ((F_H_isField x1).bind (fun q_1 => (if q_1 = 0 then ((F_H_refused r0_refusals ((-1) : Int32)).bind (fun q_8 => (some (q_8.1, q_8.2)))) else (if x2 = 0 then (ck x1 4 (some ((r0_now_fields_wishes (Int32.toNatClampNeg x1)), r0_refusals))) else (if x2 = 1 then (ck x1 4 (some ((r0_now_fields_lefts (Int32.toNatClampNeg x1)), r0_refusals))) else ((F_H_refused r0_refusals ((-2) : Int32)).bind (fun q_7 => (some (q_7.1, q_7.2)))))))))
set_option maxHeartbeats 4000000 in
set_option maxRecDepth 100000 in
theorem C_H_fieldOf (l : Launch) (D : va_G) (cI cS : ClassId) (a_r0 a_r0_now a_r0_now_fields a_r0_now_fields_lefts a_r0_now_fields_wishes a_r0_refusals : Nat) (v_r0_kept v_r0_trial v_r0_hasKept v_r0_steps v_r0_letters v_r0_numbers v_r0_harvest v_r0_fraction v_r0_now_weights v_r0_now_kinds v_r0_now_figures v_r0_now_goes v_r0_now_things v_r0_now_hampers v_r0_now_days v_r0_now_done : Value) (r0_now_fields_lefts : Nat → Int32) (r0_now_fields_wishes : Nat → Int32) (r0_refusals : Nat → Int32) (x1 : Int32) (x2 : Int32) (o : Int32 × (Nat → Int32)) (hr : F_H_fieldOf r0_now_fields_lefts r0_now_fields_wishes r0_refusals x1 x2 = some o) : ctI l y_H_fieldOf (Cond.code y_H_fieldOf b_H_fieldOf 3 (some FieldType.int)) (rmd 1) D (kTy cI cS) [.ref a_r0, .int x1, .int x2] (w_H_fieldOf cI a_r0 a_r0_now a_r0_now_fields a_r0_now_fields_lefts a_r0_now_fields_wishes a_r0_refusals v_r0_kept v_r0_trial v_r0_hasKept v_r0_steps v_r0_letters v_r0_numbers v_r0_harvest v_r0_fraction v_r0_now_weights v_r0_now_kinds v_r0_now_figures v_r0_now_goes v_r0_now_things v_r0_now_hampers v_r0_now_days v_r0_now_done r0_now_fields_lefts r0_now_fields_wishes r0_refusals) (w_H_fieldOf cI a_r0 a_r0_now a_r0_now_fields a_r0_now_fields_lefts a_r0_now_fields_wishes a_r0_refusals v_r0_kept v_r0_trial v_r0_hasKept v_r0_steps v_r0_letters v_r0_numbers v_r0_harvest v_r0_fraction v_r0_now_weights v_r0_now_kinds v_r0_now_figures v_r0_now_goes v_r0_now_things v_r0_now_hampers v_r0_now_days v_r0_now_done r0_now_fields_lefts r0_now_fields_wishes o.2) o.1 := by
  unfold F_H_fieldOf at hr
  refine ⟨rfl, fun sz => ct_of (w0 := (w_H_fieldOf cI a_r0 a_r0_now a_r0_now_fields a_r0_now_fields_lefts a_r0_now_fields_wishes a_r0_refusals v_r0_kept v_r0_trial v_r0_hasKept v_r0_steps v_r0_letters v_r0_numbers v_r0_harvest v_r0_fraction v_r0_now_weights v_r0_now_kinds v_r0_now_figures v_r0_now_goes v_r0_now_things v_r0_now_hampers v_r0_now_days v_r0_now_done r0_now_fields_lefts r0_now_fields_wishes r0_refusals)) (Qc := fun A => qI D (w_H_fieldOf cI a_r0 a_r0_now a_r0_now_fields a_r0_now_fields_lefts a_r0_now_fields_wishes a_r0_refusals v_r0_kept v_r0_trial v_r0_hasKept v_r0_steps v_r0_letters v_r0_numbers v_r0_harvest v_r0_fraction v_r0_now_weights v_r0_now_kinds v_r0_now_figures v_r0_now_goes v_r0_now_things v_r0_now_hampers v_r0_now_days v_r0_now_done r0_now_fields_lefts r0_now_fields_wishes o.2) o.1 A) rfl (Nat.le_of_ble_eq_true rfl) ?_ sz⟩
  intro p e s m below meth c A hA C hret ls hl hW
  have C : cx p s m ([.ref a_r0, .int x1, .int x2] : List Value).toArray meth c b_H_fieldOf 3 R_H D (kTy cI cS) (Cond.code y_H_fieldOf b_H_fieldOf 3 (some FieldType.int)) := C
  obtain ⟨hx, hb, hml, hown, hts, hK, hlk, hN⟩ := id C
  have hl : lv_has ls 3 [(0, .ref a_r0), (1, .int x1), (2, .int x2)] := hl
  obtain ⟨Q, hQ⟩ : ∃ Q, Q = MQ below (qI D (w_H_fieldOf cI a_r0 a_r0_now a_r0_now_fields a_r0_now_fields_lefts a_r0_now_fields_wishes a_r0_refusals v_r0_kept v_r0_trial v_r0_hasKept v_r0_steps v_r0_letters v_r0_numbers v_r0_harvest v_r0_fraction v_r0_now_weights v_r0_now_kinds v_r0_now_figures v_r0_now_goes v_r0_now_things v_r0_now_hampers v_r0_now_days v_r0_now_done r0_now_fields_lefts r0_now_fields_wishes o.2) o.1 A) ([.ref a_r0, .int x1, .int x2] : List Value).toArray s 0 0 A := ⟨_, rfl⟩
  rw [← hQ]
  refine lv_iload_n hx hb d_H_fieldOf_0 rfl (lv_at hl 1 rfl) ?_
  obtain ⟨q_1, hc_1, hr⟩ := ob hr
  have ct_1 := C_H_isField l D cI cS x1 q_1 hc_1
  refine k_goIp hA hW [] rfl rfl (k_runS C hA hW mw_H_isField ms_H_isField (ct_1.2 _) [] rfl rfl qm_H_125 ⟨Nat.le_of_ble_eq_true rfl, Nat.le_of_ble_eq_true rfl, Nat.zero_le _, Nat.zero_le _⟩ rfl rfl (Nat.le_of_ble_eq_true rfl) hl.1 d_H_fieldOf_1) (fun H locs hW => ?_)
  refine lv_if_ne (tgt := 13) hx hb d_H_fieldOf_4 (by decide) (fun c_2 => ?_) (fun c_2 => ?_)
  · replace hr := iN c_2 hr
    refine lv_iload_n hx hb d_H_fieldOf_13 rfl (lv_at hl 2 rfl) ?_
    by_cases c_3 : x2 = 0
    · replace hr := ip c_3 hr
      refine k_lookIn (tgt := 40) (off := 26) c_3 hx hb d_H_fieldOf_14 (by decide) (by decide) (by decide) ?_
      refine lv_aload_n hx hb d_H_fieldOf_40 rfl (lv_at hl 0 rfl) ?_
      refine k_get i_H C hW 0 rfl rfl 0 (by decide) qf_H_10 rfl rfl d_H_fieldOf_41 ?_
      refine k_getN i_Sta C hW 1 rfl rfl 7 (by decide) qf_H_128 rfl rfl d_H_fieldOf_44 ?_
      refine k_getN i_Fld C hW 2 rfl rfl 0 (by decide) qf_H_132 rfl rfl d_H_fieldOf_47 ?_
      refine lv_iload_n hx hb d_H_fieldOf_50 rfl (lv_at hl 1 rfl) ?_
      obtain ⟨h_4, hr⟩ := ck_some hr
      refine k_iald C hW 4 rfl h_4 d_H_fieldOf_51 ?_
      obtain rfl := Option.some.inj hr
      rw [hQ]; exact k_iret C hret hW d_H_fieldOf_52
    · replace hr := iN c_3 hr
      by_cases c_5 : x2 = 1
      · replace hr := ip c_5 hr
        refine k_lookIn (tgt := 53) (off := 39) c_5 hx hb d_H_fieldOf_14 (by decide) (by decide) (by decide) ?_
        refine lv_aload_n hx hb d_H_fieldOf_53 rfl (lv_at hl 0 rfl) ?_
        refine k_get i_H C hW 0 rfl rfl 0 (by decide) qf_H_10 rfl rfl d_H_fieldOf_54 ?_
        refine k_getN i_Sta C hW 1 rfl rfl 7 (by decide) qf_H_128 rfl rfl d_H_fieldOf_57 ?_
        refine k_getN i_Fld C hW 2 rfl rfl 1 (by decide) qf_H_137 rfl rfl d_H_fieldOf_60 ?_
        refine lv_iload_n hx hb d_H_fieldOf_63 rfl (lv_at hl 1 rfl) ?_
        obtain ⟨h_6, hr⟩ := ck_some hr
        refine k_iald C hW 3 rfl h_6 d_H_fieldOf_64 ?_
        obtain rfl := Option.some.inj hr
        rw [hQ]; exact k_iret C hret hW d_H_fieldOf_65
      · replace hr := iN c_5 hr
        refine lv_lookup (tgt := 66) (off := 52) hx hb d_H_fieldOf_14 (by decide) (look_out _ [0, 1] (by decide +kernel) (by simp only [List.forall_mem_cons]; exact ⟨c_3, c_5, fun _ h => absurd h List.not_mem_nil⟩)) (by decide) ?_
        refine lv_aload_n hx hb d_H_fieldOf_66 rfl (lv_at hl 0 rfl) ?_
        refine lv_bipush (v := (-2)) hx hb d_H_fieldOf_67 (by decide) ?_
        obtain ⟨q_7, hc_7, hr⟩ := ob hr
        have ct_7 := C_H_refused l D cI cS a_r0 a_r0_refusals (Value.ref a_r0_now) v_r0_kept v_r0_trial v_r0_hasKept v_r0_steps v_r0_letters v_r0_numbers v_r0_harvest v_r0_fraction r0_refusals (-2) q_7 hc_7
        refine k_goI hA hW [0, 5] rfl ct_7.1 (ws' := (w_H_fieldOf cI a_r0 a_r0_now a_r0_now_fields a_r0_now_fields_lefts a_r0_now_fields_wishes a_r0_refusals v_r0_kept v_r0_trial v_r0_hasKept v_r0_steps v_r0_letters v_r0_numbers v_r0_harvest v_r0_fraction v_r0_now_weights v_r0_now_kinds v_r0_now_figures v_r0_now_goes v_r0_now_things v_r0_now_hampers v_r0_now_days v_r0_now_done r0_now_fields_lefts r0_now_fields_wishes q_7.2)) rfl (k_runV C hA hW mw_H_refused mv_H_refused (ct_7.2 _) [0, 5] rfl rfl 0 rfl rfl qm_H_65 ⟨Nat.le_of_ble_eq_true rfl, Nat.le_of_ble_eq_true rfl, Nat.zero_le _, Nat.zero_le _⟩ rfl rfl (Nat.le_of_ble_eq_true rfl) hl.1 d_H_fieldOf_69) (fun H locs hW => ?_)
        obtain rfl := Option.some.inj hr
        rw [hQ]; exact k_iret C hret hW d_H_fieldOf_72
  · replace hr := ip c_2 hr
    refine lv_aload_n hx hb d_H_fieldOf_7 rfl (lv_at hl 0 rfl) ?_
    refine lv_iconst (v := (-1)) hx hb d_H_fieldOf_8 (by decide) ?_
    obtain ⟨q_8, hc_8, hr⟩ := ob hr
    have ct_8 := C_H_refused l D cI cS a_r0 a_r0_refusals (Value.ref a_r0_now) v_r0_kept v_r0_trial v_r0_hasKept v_r0_steps v_r0_letters v_r0_numbers v_r0_harvest v_r0_fraction r0_refusals (-1) q_8 hc_8
    refine k_goI hA hW [0, 5] rfl ct_8.1 (ws' := (w_H_fieldOf cI a_r0 a_r0_now a_r0_now_fields a_r0_now_fields_lefts a_r0_now_fields_wishes a_r0_refusals v_r0_kept v_r0_trial v_r0_hasKept v_r0_steps v_r0_letters v_r0_numbers v_r0_harvest v_r0_fraction v_r0_now_weights v_r0_now_kinds v_r0_now_figures v_r0_now_goes v_r0_now_things v_r0_now_hampers v_r0_now_days v_r0_now_done r0_now_fields_lefts r0_now_fields_wishes q_8.2)) rfl (k_runV C hA hW mw_H_refused mv_H_refused (ct_8.2 _) [0, 5] rfl rfl 0 rfl rfl qm_H_65 ⟨Nat.le_of_ble_eq_true rfl, Nat.le_of_ble_eq_true rfl, Nat.zero_le _, Nat.zero_le _⟩ rfl rfl (Nat.le_of_ble_eq_true rfl) hl.1 d_H_fieldOf_9) (fun H locs hW => ?_)
    obtain rfl := Option.some.inj hr
    rw [hQ]; exact k_iret C hret hW d_H_fieldOf_12
def w_H_gotIn (cI : ClassId) (a_r0 a_r0_harvest a_r0_harvest_fields a_r0_harvest_fields_lefts a_r0_harvest_fields_wishes a_r0_harvest_weathers a_r0_now a_r0_now_fields a_r0_now_fields_lefts a_r0_now_fields_wishes a_r0_now_goes a_r0_now_hampers a_r0_now_weights a_r0_refusals : Nat) (v_r0_kept v_r0_trial v_r0_hasKept v_r0_steps v_r0_letters v_r0_numbers v_r0_fraction v_r0_harvest_path v_r0_harvest_best v_r0_harvest_counted v_r0_harvest_atMost v_r0_harvest_most v_r0_harvest_oneIn v_r0_harvest_lotsDone v_r0_harvest_lotsNone v_r0_now_kinds v_r0_now_figures v_r0_now_things v_r0_now_done : Value) (r0_harvest_days : Int32) (r0_harvest_fields_lefts : Nat → Int32) (r0_harvest_fields_wishes : Nat → Int32) (r0_harvest_weathers : Nat → Int32) (r0_now_days : Int32) (r0_now_fields_lefts : Nat → Int32) (r0_now_fields_wishes : Nat → Int32) (r0_now_goes : Nat → Int32) (r0_now_hampers : Nat → Int32) (r0_now_weights : Nat → Int32) (r0_refusals : Nat → Int32) : va_W := [(a_r0, .inr (0, [.ref a_r0_now, v_r0_kept, v_r0_trial, v_r0_hasKept, v_r0_steps, v_r0_letters, v_r0_numbers, .ref a_r0_harvest, v_r0_fraction, .ref a_r0_refusals])), (a_r0_harvest, .inr (7, [.ref a_r0_harvest_fields, .ref a_r0_harvest_weathers, .int r0_harvest_days, v_r0_harvest_path, v_r0_harvest_best, v_r0_harvest_counted, v_r0_harvest_atMost, v_r0_harvest_most, v_r0_harvest_oneIn, v_r0_harvest_lotsDone, v_r0_harvest_lotsNone])), (a_r0_harvest_fields, .inr (2, [.ref a_r0_harvest_fields_wishes, .ref a_r0_harvest_fields_lefts])), (a_r0_harvest_fields_lefts, .inl (cI, 4, .inl r0_harvest_fields_lefts)), (a_r0_harvest_fields_wishes, .inl (cI, 4, .inl r0_harvest_fields_wishes)), (a_r0_harvest_weathers, .inl (cI, 8, .inl r0_harvest_weathers)), (a_r0_now, .inr (1, [.ref a_r0_now_weights, v_r0_now_kinds, v_r0_now_figures, .ref a_r0_now_goes, v_r0_now_things, .ref a_r0_now_hampers, .int r0_now_days, .ref a_r0_now_fields, v_r0_now_done])), (a_r0_now_fields, .inr (2, [.ref a_r0_now_fields_wishes, .ref a_r0_now_fields_lefts])), (a_r0_now_fields_lefts, .inl (cI, 4, .inl r0_now_fields_lefts)), (a_r0_now_fields_wishes, .inl (cI, 4, .inl r0_now_fields_wishes)), (a_r0_now_goes, .inl (cI, 8, .inl r0_now_goes)), (a_r0_now_hampers, .inl (cI, 8, .inl r0_now_hampers)), (a_r0_now_weights, .inl (cI, 6, .inl r0_now_weights)), (a_r0_refusals, .inl (cI, 7, .inl r0_refusals))]
def F_H_gotIn (r0_harvest_days : Int32) (r0_harvest_fields_lefts : Nat → Int32) (r0_harvest_fields_wishes : Nat → Int32) (r0_harvest_weathers : Nat → Int32) (r0_now_days : Int32) (r0_now_fields_lefts : Nat → Int32) (r0_now_fields_wishes : Nat → Int32) (r0_now_goes : Nat → Int32) (r0_now_hampers : Nat → Int32) (r0_now_weights : Nat → Int32) (r0_refusals : Nat → Int32) (x1 : Int32) : Option (Int32 × (Int32) × (Nat → Int32) × (Nat → Int32) × (Nat → Int32) × (Nat → Int32)) :=
  (if x1 = 0 then ((F_Har_gather r0_harvest_fields_lefts r0_harvest_fields_wishes r0_harvest_weathers r0_now_days r0_now_fields_lefts r0_now_fields_wishes r0_now_goes r0_now_hampers r0_now_weights (0 : Int32)).bind (fun q_2 => (some (q_2.1, q_2.2.1, q_2.2.2.1, q_2.2.2.2.1, q_2.2.2.2.2, r0_refusals)))) else (if x1 = 1 then ((F_Har_gather r0_harvest_fields_lefts r0_harvest_fields_wishes r0_harvest_weathers r0_now_days r0_now_fields_lefts r0_now_fields_wishes r0_now_goes r0_now_hampers r0_now_weights (0 : Int32)).bind (fun q_4 => ((F_Fld_emptied q_4.2.2.1).bind (fun q_5 => (some (q_5, q_4.2.1, q_4.2.2.1, q_4.2.2.2.1, q_4.2.2.2.2, r0_refusals)))))) else ((F_H_refused r0_refusals ((-2) : Int32)).bind (fun q_6 => (some (q_6.1, r0_harvest_days, r0_harvest_fields_lefts, r0_harvest_fields_wishes, r0_harvest_weathers, q_6.2))))))
set_option maxHeartbeats 4000000 in
set_option maxRecDepth 100000 in
theorem C_H_gotIn (l : Launch) (D : va_G) (cI cS : ClassId) (a_r0 a_r0_harvest a_r0_harvest_fields a_r0_harvest_fields_lefts a_r0_harvest_fields_wishes a_r0_harvest_weathers a_r0_now a_r0_now_fields a_r0_now_fields_lefts a_r0_now_fields_wishes a_r0_now_goes a_r0_now_hampers a_r0_now_weights a_r0_refusals : Nat) (v_r0_kept v_r0_trial v_r0_hasKept v_r0_steps v_r0_letters v_r0_numbers v_r0_fraction v_r0_harvest_path v_r0_harvest_best v_r0_harvest_counted v_r0_harvest_atMost v_r0_harvest_most v_r0_harvest_oneIn v_r0_harvest_lotsDone v_r0_harvest_lotsNone v_r0_now_kinds v_r0_now_figures v_r0_now_things v_r0_now_done : Value) (r0_harvest_days : Int32) (r0_harvest_fields_lefts : Nat → Int32) (r0_harvest_fields_wishes : Nat → Int32) (r0_harvest_weathers : Nat → Int32) (r0_now_days : Int32) (r0_now_fields_lefts : Nat → Int32) (r0_now_fields_wishes : Nat → Int32) (r0_now_goes : Nat → Int32) (r0_now_hampers : Nat → Int32) (r0_now_weights : Nat → Int32) (r0_refusals : Nat → Int32) (x1 : Int32) (o : Int32 × (Int32) × (Nat → Int32) × (Nat → Int32) × (Nat → Int32) × (Nat → Int32)) (hr : F_H_gotIn r0_harvest_days r0_harvest_fields_lefts r0_harvest_fields_wishes r0_harvest_weathers r0_now_days r0_now_fields_lefts r0_now_fields_wishes r0_now_goes r0_now_hampers r0_now_weights r0_refusals x1 = some o) : ctI l y_H_gotIn (Cond.code y_H_gotIn b_H_gotIn 2 (some FieldType.int)) (rmd 6) D (kTy cI cS) [.ref a_r0, .int x1] (w_H_gotIn cI a_r0 a_r0_harvest a_r0_harvest_fields a_r0_harvest_fields_lefts a_r0_harvest_fields_wishes a_r0_harvest_weathers a_r0_now a_r0_now_fields a_r0_now_fields_lefts a_r0_now_fields_wishes a_r0_now_goes a_r0_now_hampers a_r0_now_weights a_r0_refusals v_r0_kept v_r0_trial v_r0_hasKept v_r0_steps v_r0_letters v_r0_numbers v_r0_fraction v_r0_harvest_path v_r0_harvest_best v_r0_harvest_counted v_r0_harvest_atMost v_r0_harvest_most v_r0_harvest_oneIn v_r0_harvest_lotsDone v_r0_harvest_lotsNone v_r0_now_kinds v_r0_now_figures v_r0_now_things v_r0_now_done r0_harvest_days r0_harvest_fields_lefts r0_harvest_fields_wishes r0_harvest_weathers r0_now_days r0_now_fields_lefts r0_now_fields_wishes r0_now_goes r0_now_hampers r0_now_weights r0_refusals) (w_H_gotIn cI a_r0 a_r0_harvest a_r0_harvest_fields a_r0_harvest_fields_lefts a_r0_harvest_fields_wishes a_r0_harvest_weathers a_r0_now a_r0_now_fields a_r0_now_fields_lefts a_r0_now_fields_wishes a_r0_now_goes a_r0_now_hampers a_r0_now_weights a_r0_refusals v_r0_kept v_r0_trial v_r0_hasKept v_r0_steps v_r0_letters v_r0_numbers v_r0_fraction v_r0_harvest_path v_r0_harvest_best v_r0_harvest_counted v_r0_harvest_atMost v_r0_harvest_most v_r0_harvest_oneIn v_r0_harvest_lotsDone v_r0_harvest_lotsNone v_r0_now_kinds v_r0_now_figures v_r0_now_things v_r0_now_done o.2.1 o.2.2.1 o.2.2.2.1 o.2.2.2.2.1 r0_now_days r0_now_fields_lefts r0_now_fields_wishes r0_now_goes r0_now_hampers r0_now_weights o.2.2.2.2.2) o.1 := by
  unfold F_H_gotIn at hr
  refine ⟨rfl, fun sz => ct_of (w0 := (w_H_gotIn cI a_r0 a_r0_harvest a_r0_harvest_fields a_r0_harvest_fields_lefts a_r0_harvest_fields_wishes a_r0_harvest_weathers a_r0_now a_r0_now_fields a_r0_now_fields_lefts a_r0_now_fields_wishes a_r0_now_goes a_r0_now_hampers a_r0_now_weights a_r0_refusals v_r0_kept v_r0_trial v_r0_hasKept v_r0_steps v_r0_letters v_r0_numbers v_r0_fraction v_r0_harvest_path v_r0_harvest_best v_r0_harvest_counted v_r0_harvest_atMost v_r0_harvest_most v_r0_harvest_oneIn v_r0_harvest_lotsDone v_r0_harvest_lotsNone v_r0_now_kinds v_r0_now_figures v_r0_now_things v_r0_now_done r0_harvest_days r0_harvest_fields_lefts r0_harvest_fields_wishes r0_harvest_weathers r0_now_days r0_now_fields_lefts r0_now_fields_wishes r0_now_goes r0_now_hampers r0_now_weights r0_refusals)) (Qc := fun A => qI D (w_H_gotIn cI a_r0 a_r0_harvest a_r0_harvest_fields a_r0_harvest_fields_lefts a_r0_harvest_fields_wishes a_r0_harvest_weathers a_r0_now a_r0_now_fields a_r0_now_fields_lefts a_r0_now_fields_wishes a_r0_now_goes a_r0_now_hampers a_r0_now_weights a_r0_refusals v_r0_kept v_r0_trial v_r0_hasKept v_r0_steps v_r0_letters v_r0_numbers v_r0_fraction v_r0_harvest_path v_r0_harvest_best v_r0_harvest_counted v_r0_harvest_atMost v_r0_harvest_most v_r0_harvest_oneIn v_r0_harvest_lotsDone v_r0_harvest_lotsNone v_r0_now_kinds v_r0_now_figures v_r0_now_things v_r0_now_done o.2.1 o.2.2.1 o.2.2.2.1 o.2.2.2.2.1 r0_now_days r0_now_fields_lefts r0_now_fields_wishes r0_now_goes r0_now_hampers r0_now_weights o.2.2.2.2.2) o.1 A) rfl (Nat.le_of_ble_eq_true rfl) ?_ sz⟩
  intro p e s m below meth c A hA C hret ls hl hW
  have C : cx p s m ([.ref a_r0, .int x1] : List Value).toArray meth c b_H_gotIn 2 R_H D (kTy cI cS) (Cond.code y_H_gotIn b_H_gotIn 2 (some FieldType.int)) := C
  obtain ⟨hx, hb, hml, hown, hts, hK, hlk, hN⟩ := id C
  have hl : lv_has ls 2 [(0, .ref a_r0), (1, .int x1)] := hl
  obtain ⟨Q, hQ⟩ : ∃ Q, Q = MQ below (qI D (w_H_gotIn cI a_r0 a_r0_harvest a_r0_harvest_fields a_r0_harvest_fields_lefts a_r0_harvest_fields_wishes a_r0_harvest_weathers a_r0_now a_r0_now_fields a_r0_now_fields_lefts a_r0_now_fields_wishes a_r0_now_goes a_r0_now_hampers a_r0_now_weights a_r0_refusals v_r0_kept v_r0_trial v_r0_hasKept v_r0_steps v_r0_letters v_r0_numbers v_r0_fraction v_r0_harvest_path v_r0_harvest_best v_r0_harvest_counted v_r0_harvest_atMost v_r0_harvest_most v_r0_harvest_oneIn v_r0_harvest_lotsDone v_r0_harvest_lotsNone v_r0_now_kinds v_r0_now_figures v_r0_now_things v_r0_now_done o.2.1 o.2.2.1 o.2.2.2.1 o.2.2.2.2.1 r0_now_days r0_now_fields_lefts r0_now_fields_wishes r0_now_goes r0_now_hampers r0_now_weights o.2.2.2.2.2) o.1 A) ([.ref a_r0, .int x1] : List Value).toArray s 0 0 A := ⟨_, rfl⟩
  rw [← hQ]
  refine lv_iload_n hx hb d_H_gotIn_0 rfl (lv_at hl 1 rfl) ?_
  by_cases c_1 : x1 = 0
  · replace hr := ip c_1 hr
    refine k_lookIn (tgt := 28) (off := 27) c_1 hx hb d_H_gotIn_1 (by decide) (by decide) (by decide) ?_
    refine lv_aload_n hx hb d_H_gotIn_28 rfl (lv_at hl 0 rfl) ?_
    refine k_get i_H C hW 0 rfl rfl 7 (by decide) qf_H_50 rfl rfl d_H_gotIn_29 ?_
    refine lv_aload_n hx hb d_H_gotIn_32 rfl (lv_at hl 0 rfl) ?_
    refine k_get i_H C hW 0 rfl rfl 0 (by decide) qf_H_10 rfl rfl d_H_gotIn_33 ?_
    refine lv_iconst (v := 0) hx hb d_H_gotIn_36 (by decide) ?_
    obtain ⟨q_2, hc_2, hr⟩ := ob hr
    have ct_2 := C_Har_gather l D cI cS a_r0_harvest a_r0_harvest_fields a_r0_harvest_fields_lefts a_r0_harvest_fields_wishes a_r0_harvest_weathers a_r0_now a_r0_now_fields a_r0_now_fields_lefts a_r0_now_fields_wishes a_r0_now_goes a_r0_now_hampers a_r0_now_weights v_r0_harvest_path v_r0_harvest_best v_r0_harvest_counted v_r0_harvest_atMost v_r0_harvest_most v_r0_harvest_oneIn v_r0_harvest_lotsDone v_r0_harvest_lotsNone v_r0_now_kinds v_r0_now_figures v_r0_now_things v_r0_now_done r0_harvest_days r0_harvest_fields_lefts r0_harvest_fields_wishes r0_harvest_weathers r0_now_days r0_now_fields_lefts r0_now_fields_wishes r0_now_goes r0_now_hampers r0_now_weights 0 q_2 hc_2
    refine k_goI hA hW [1, 2, 3, 4, 5, 6, 7, 8, 9, 10, 11, 12] rfl ct_2.1 (ws' := (w_H_gotIn cI a_r0 a_r0_harvest a_r0_harvest_fields a_r0_harvest_fields_lefts a_r0_harvest_fields_wishes a_r0_harvest_weathers a_r0_now a_r0_now_fields a_r0_now_fields_lefts a_r0_now_fields_wishes a_r0_now_goes a_r0_now_hampers a_r0_now_weights a_r0_refusals v_r0_kept v_r0_trial v_r0_hasKept v_r0_steps v_r0_letters v_r0_numbers v_r0_fraction v_r0_harvest_path v_r0_harvest_best v_r0_harvest_counted v_r0_harvest_atMost v_r0_harvest_most v_r0_harvest_oneIn v_r0_harvest_lotsDone v_r0_harvest_lotsNone v_r0_now_kinds v_r0_now_figures v_r0_now_things v_r0_now_done q_2.2.1 q_2.2.2.1 q_2.2.2.2.1 q_2.2.2.2.2 r0_now_days r0_now_fields_lefts r0_now_fields_wishes r0_now_goes r0_now_hampers r0_now_weights r0_refusals)) rfl (k_runV C hA hW mw_Har_gather mv_Har_gather (ct_2.2 _) [1, 2, 3, 4, 5, 6, 7, 8, 9, 10, 11, 12] rfl rfl 1 rfl rfl qm_H_265 ⟨Nat.le_of_ble_eq_true rfl, Nat.le_of_ble_eq_true rfl, Nat.zero_le _, Nat.zero_le _⟩ rfl rfl (Nat.le_of_ble_eq_true rfl) hl.1 d_H_gotIn_37) (fun H locs hW => ?_)
    obtain rfl := Option.some.inj hr
    rw [hQ]; exact k_iret C hret hW d_H_gotIn_40
  · replace hr := iN c_1 hr
    by_cases c_3 : x1 = 1
    · replace hr := ip c_3 hr
      refine k_lookIn (tgt := 41) (off := 40) c_3 hx hb d_H_gotIn_1 (by decide) (by decide) (by decide) ?_
      refine lv_aload_n hx hb d_H_gotIn_41 rfl (lv_at hl 0 rfl) ?_
      refine k_get i_H C hW 0 rfl rfl 7 (by decide) qf_H_50 rfl rfl d_H_gotIn_42 ?_
      refine lv_aload_n hx hb d_H_gotIn_45 rfl (lv_at hl 0 rfl) ?_
      refine k_get i_H C hW 0 rfl rfl 0 (by decide) qf_H_10 rfl rfl d_H_gotIn_46 ?_
      refine lv_iconst (v := 0) hx hb d_H_gotIn_49 (by decide) ?_
      obtain ⟨q_4, hc_4, hr⟩ := ob hr
      have ct_4 := C_Har_gather l D cI cS a_r0_harvest a_r0_harvest_fields a_r0_harvest_fields_lefts a_r0_harvest_fields_wishes a_r0_harvest_weathers a_r0_now a_r0_now_fields a_r0_now_fields_lefts a_r0_now_fields_wishes a_r0_now_goes a_r0_now_hampers a_r0_now_weights v_r0_harvest_path v_r0_harvest_best v_r0_harvest_counted v_r0_harvest_atMost v_r0_harvest_most v_r0_harvest_oneIn v_r0_harvest_lotsDone v_r0_harvest_lotsNone v_r0_now_kinds v_r0_now_figures v_r0_now_things v_r0_now_done r0_harvest_days r0_harvest_fields_lefts r0_harvest_fields_wishes r0_harvest_weathers r0_now_days r0_now_fields_lefts r0_now_fields_wishes r0_now_goes r0_now_hampers r0_now_weights 0 q_4 hc_4
      refine k_goI hA hW [1, 2, 3, 4, 5, 6, 7, 8, 9, 10, 11, 12] rfl ct_4.1 (ws' := (w_H_gotIn cI a_r0 a_r0_harvest a_r0_harvest_fields a_r0_harvest_fields_lefts a_r0_harvest_fields_wishes a_r0_harvest_weathers a_r0_now a_r0_now_fields a_r0_now_fields_lefts a_r0_now_fields_wishes a_r0_now_goes a_r0_now_hampers a_r0_now_weights a_r0_refusals v_r0_kept v_r0_trial v_r0_hasKept v_r0_steps v_r0_letters v_r0_numbers v_r0_fraction v_r0_harvest_path v_r0_harvest_best v_r0_harvest_counted v_r0_harvest_atMost v_r0_harvest_most v_r0_harvest_oneIn v_r0_harvest_lotsDone v_r0_harvest_lotsNone v_r0_now_kinds v_r0_now_figures v_r0_now_things v_r0_now_done q_4.2.1 q_4.2.2.1 q_4.2.2.2.1 q_4.2.2.2.2 r0_now_days r0_now_fields_lefts r0_now_fields_wishes r0_now_goes r0_now_hampers r0_now_weights r0_refusals)) rfl (k_runV C hA hW mw_Har_gather mv_Har_gather (ct_4.2 _) [1, 2, 3, 4, 5, 6, 7, 8, 9, 10, 11, 12] rfl rfl 1 rfl rfl qm_H_265 ⟨Nat.le_of_ble_eq_true rfl, Nat.le_of_ble_eq_true rfl, Nat.zero_le _, Nat.zero_le _⟩ rfl rfl (Nat.le_of_ble_eq_true rfl) hl.1 d_H_gotIn_50) (fun H locs hW => ?_)
      refine lv_pop hx hb d_H_gotIn_53 rfl ?_
      refine lv_aload_n hx hb d_H_gotIn_54 rfl (lv_at hl 0 rfl) ?_
      refine k_get i_H C hW 0 rfl rfl 7 (by decide) qf_H_50 rfl rfl d_H_gotIn_55 ?_
      refine k_getN i_Har C hW 1 rfl rfl 0 (by decide) qf_H_268 rfl rfl d_H_gotIn_58 ?_
      obtain ⟨q_5, hc_5, hr⟩ := ob hr
      have ct_5 := C_Fld_emptied l D cI cS a_r0_harvest_fields a_r0_harvest_fields_lefts (Value.ref a_r0_harvest_fields_wishes) q_4.2.2.1 q_5 hc_5
      refine k_goIp hA hW [2, 3] rfl rfl (k_runV C hA hW mw_Fld_emptied mv_Fld_emptied (ct_5.2 _) [2, 3] rfl rfl 2 rfl rfl qm_H_269 ⟨Nat.le_of_ble_eq_true rfl, Nat.le_of_ble_eq_true rfl, Nat.zero_le _, Nat.zero_le _⟩ rfl rfl (Nat.le_of_ble_eq_true rfl) hl.1 d_H_gotIn_61) (fun H locs hW => ?_)
      obtain rfl := Option.some.inj hr
      rw [hQ]; exact k_iret C hret hW d_H_gotIn_64
    · replace hr := iN c_3 hr
      refine lv_lookup (tgt := 65) (off := 64) hx hb d_H_gotIn_1 (by decide) (look_out _ [0, 1] (by decide +kernel) (by simp only [List.forall_mem_cons]; exact ⟨c_1, c_3, fun _ h => absurd h List.not_mem_nil⟩)) (by decide) ?_
      refine lv_aload_n hx hb d_H_gotIn_65 rfl (lv_at hl 0 rfl) ?_
      refine lv_bipush (v := (-2)) hx hb d_H_gotIn_66 (by decide) ?_
      obtain ⟨q_6, hc_6, hr⟩ := ob hr
      have ct_6 := C_H_refused l D cI cS a_r0 a_r0_refusals (Value.ref a_r0_now) v_r0_kept v_r0_trial v_r0_hasKept v_r0_steps v_r0_letters v_r0_numbers (Value.ref a_r0_harvest) v_r0_fraction r0_refusals (-2) q_6 hc_6
      refine k_goI hA hW [0, 13] rfl ct_6.1 (ws' := (w_H_gotIn cI a_r0 a_r0_harvest a_r0_harvest_fields a_r0_harvest_fields_lefts a_r0_harvest_fields_wishes a_r0_harvest_weathers a_r0_now a_r0_now_fields a_r0_now_fields_lefts a_r0_now_fields_wishes a_r0_now_goes a_r0_now_hampers a_r0_now_weights a_r0_refusals v_r0_kept v_r0_trial v_r0_hasKept v_r0_steps v_r0_letters v_r0_numbers v_r0_fraction v_r0_harvest_path v_r0_harvest_best v_r0_harvest_counted v_r0_harvest_atMost v_r0_harvest_most v_r0_harvest_oneIn v_r0_harvest_lotsDone v_r0_harvest_lotsNone v_r0_now_kinds v_r0_now_figures v_r0_now_things v_r0_now_done r0_harvest_days r0_harvest_fields_lefts r0_harvest_fields_wishes r0_harvest_weathers r0_now_days r0_now_fields_lefts r0_now_fields_wishes r0_now_goes r0_now_hampers r0_now_weights q_6.2)) rfl (k_runV C hA hW mw_H_refused mv_H_refused (ct_6.2 _) [0, 13] rfl rfl 0 rfl rfl qm_H_65 ⟨Nat.le_of_ble_eq_true rfl, Nat.le_of_ble_eq_true rfl, Nat.zero_le _, Nat.zero_le _⟩ rfl rfl (Nat.le_of_ble_eq_true rfl) hl.1 d_H_gotIn_68) (fun H locs hW => ?_)
      obtain rfl := Option.some.inj hr
      rw [hQ]; exact k_iret C hret hW d_H_gotIn_71
def w_H_hall (cI : ClassId) (a_r0 a_r0_letters a_r0_letters_letters a_r0_now a_r0_now_fields a_r0_now_fields_lefts a_r0_now_fields_wishes a_r0_now_figures a_r0_now_goes a_r0_now_hampers a_r0_now_kinds a_r0_now_weights a_r0_steps a_r0_trial a_r0_trial_fields a_r0_trial_fields_lefts a_r0_trial_fields_wishes a_r0_trial_figures a_r0_trial_goes a_r0_trial_hampers a_r0_trial_kinds a_r0_trial_weights : Nat) (v_r0_kept v_r0_hasKept v_r0_numbers v_r0_harvest v_r0_fraction v_r0_refusals v_r0_steps_steps : Value) (r0_letters_count : Int32) (r0_letters_letters : Nat → Int32) (r0_now_days : Int32) (r0_now_done : Int32) (r0_now_things : Int32) (r0_now_fields_lefts : Nat → Int32) (r0_now_fields_wishes : Nat → Int32) (r0_now_figures : Nat → Int32) (r0_now_goes : Nat → Int32) (r0_now_hampers : Nat → Int32) (r0_now_kinds : Nat → Int32) (r0_now_weights : Nat → Int32) (r0_steps_count : Int32) (r0_trial_days : Int32) (r0_trial_done : Int32) (r0_trial_things : Int32) (r0_trial_fields_lefts : Nat → Int32) (r0_trial_fields_wishes : Nat → Int32) (r0_trial_figures : Nat → Int32) (r0_trial_goes : Nat → Int32) (r0_trial_hampers : Nat → Int32) (r0_trial_kinds : Nat → Int32) (r0_trial_weights : Nat → Int32) : va_W := [(a_r0, .inr (0, [.ref a_r0_now, v_r0_kept, .ref a_r0_trial, v_r0_hasKept, .ref a_r0_steps, .ref a_r0_letters, v_r0_numbers, v_r0_harvest, v_r0_fraction, v_r0_refusals])), (a_r0_letters, .inr (5, [.ref a_r0_letters_letters, .int r0_letters_count])), (a_r0_letters_letters, .inl (cI, 96, .inl r0_letters_letters)), (a_r0_now, .inr (1, [.ref a_r0_now_weights, .ref a_r0_now_kinds, .ref a_r0_now_figures, .ref a_r0_now_goes, .int r0_now_things, .ref a_r0_now_hampers, .int r0_now_days, .ref a_r0_now_fields, .int r0_now_done])), (a_r0_now_fields, .inr (2, [.ref a_r0_now_fields_wishes, .ref a_r0_now_fields_lefts])), (a_r0_now_fields_lefts, .inl (cI, 4, .inl r0_now_fields_lefts)), (a_r0_now_fields_wishes, .inl (cI, 4, .inl r0_now_fields_wishes)), (a_r0_now_figures, .inl (cI, 8, .inl r0_now_figures)), (a_r0_now_goes, .inl (cI, 8, .inl r0_now_goes)), (a_r0_now_hampers, .inl (cI, 8, .inl r0_now_hampers)), (a_r0_now_kinds, .inl (cI, 8, .inl r0_now_kinds)), (a_r0_now_weights, .inl (cI, 6, .inl r0_now_weights)), (a_r0_steps, .inr (3, [v_r0_steps_steps, .int r0_steps_count])), (a_r0_trial, .inr (1, [.ref a_r0_trial_weights, .ref a_r0_trial_kinds, .ref a_r0_trial_figures, .ref a_r0_trial_goes, .int r0_trial_things, .ref a_r0_trial_hampers, .int r0_trial_days, .ref a_r0_trial_fields, .int r0_trial_done])), (a_r0_trial_fields, .inr (2, [.ref a_r0_trial_fields_wishes, .ref a_r0_trial_fields_lefts])), (a_r0_trial_fields_lefts, .inl (cI, 4, .inl r0_trial_fields_lefts)), (a_r0_trial_fields_wishes, .inl (cI, 4, .inl r0_trial_fields_wishes)), (a_r0_trial_figures, .inl (cI, 8, .inl r0_trial_figures)), (a_r0_trial_goes, .inl (cI, 8, .inl r0_trial_goes)), (a_r0_trial_hampers, .inl (cI, 8, .inl r0_trial_hampers)), (a_r0_trial_kinds, .inl (cI, 8, .inl r0_trial_kinds)), (a_r0_trial_weights, .inl (cI, 6, .inl r0_trial_weights))]
def F_H_hall (r0_letters_count : Int32) (r0_letters_letters : Nat → Int32) (r0_now_days : Int32) (r0_now_done : Int32) (r0_now_things : Int32) (r0_now_fields_lefts : Nat → Int32) (r0_now_fields_wishes : Nat → Int32) (r0_now_figures : Nat → Int32) (r0_now_goes : Nat → Int32) (r0_now_hampers : Nat → Int32) (r0_now_kinds : Nat → Int32) (r0_now_weights : Nat → Int32) (r0_steps_count : Int32) (r0_trial_days : Int32) (r0_trial_done : Int32) (r0_trial_things : Int32) (r0_trial_fields_lefts : Nat → Int32) (r0_trial_fields_wishes : Nat → Int32) (r0_trial_figures : Nat → Int32) (r0_trial_goes : Nat → Int32) (r0_trial_hampers : Nat → Int32) (r0_trial_kinds : Nat → Int32) (r0_trial_weights : Nat → Int32) : Option (Int32 × (Int32) × (Int32) × (Int32) × (Int32) × (Nat → Int32) × (Nat → Int32) × (Nat → Int32) × (Nat → Int32) × (Nat → Int32) × (Nat → Int32) × (Nat → Int32) × (Int32) × (Int32) × (Int32) × (Int32) × (Nat → Int32) × (Nat → Int32) × (Nat → Int32) × (Nat → Int32) × (Nat → Int32) × (Nat → Int32) × (Nat → Int32)) :=
  ((F_Let_tellInto r0_letters_count r0_letters_letters r0_trial_days r0_trial_done r0_trial_things r0_trial_fields_lefts r0_trial_fields_wishes r0_trial_figures r0_trial_goes r0_trial_hampers r0_trial_kinds r0_trial_weights r0_now_days r0_now_done r0_now_things r0_now_fields_lefts r0_now_fields_wishes r0_now_figures r0_now_goes r0_now_hampers r0_now_kinds r0_now_weights).bind (fun q_1 => (if q_1.1 < 0 then (some (q_1.1, 0, r0_now_days, r0_now_done, r0_now_things, r0_now_fields_lefts, r0_now_fields_wishes, r0_now_figures, r0_now_goes, r0_now_hampers, r0_now_kinds, r0_now_weights, r0_steps_count, q_1.2.1, q_1.2.2.1, q_1.2.2.2.1, q_1.2.2.2.2.1, q_1.2.2.2.2.2.1, q_1.2.2.2.2.2.2.1, q_1.2.2.2.2.2.2.2.1, q_1.2.2.2.2.2.2.2.2.1, q_1.2.2.2.2.2.2.2.2.2.1, q_1.2.2.2.2.2.2.2.2.2.2)) else ((F_Sta_copyFrom r0_now_fields_lefts r0_now_fields_wishes r0_now_figures r0_now_goes r0_now_hampers r0_now_kinds r0_now_weights q_1.2.1 q_1.2.2.1 q_1.2.2.2.1 q_1.2.2.2.2.1 q_1.2.2.2.2.2.1 q_1.2.2.2.2.2.2.1 q_1.2.2.2.2.2.2.2.1 q_1.2.2.2.2.2.2.2.2.1 q_1.2.2.2.2.2.2.2.2.2.1 q_1.2.2.2.2.2.2.2.2.2.2).bind (fun q_3 => (some (q_1.1, 0, q_3.1, q_3.2.1, q_3.2.2.1, q_3.2.2.2.1, q_3.2.2.2.2.1, q_3.2.2.2.2.2.1, q_3.2.2.2.2.2.2.1, q_3.2.2.2.2.2.2.2.1, q_3.2.2.2.2.2.2.2.2.1, q_3.2.2.2.2.2.2.2.2.2, 0, q_1.2.1, q_1.2.2.1, q_1.2.2.2.1, q_1.2.2.2.2.1, q_1.2.2.2.2.2.1, q_1.2.2.2.2.2.2.1, q_1.2.2.2.2.2.2.2.1, q_1.2.2.2.2.2.2.2.2.1, q_1.2.2.2.2.2.2.2.2.2.1, q_1.2.2.2.2.2.2.2.2.2.2)))))))
set_option maxHeartbeats 4000000 in
set_option maxRecDepth 100000 in
theorem C_H_hall (l : Launch) (D : va_G) (cI cS : ClassId) (a_r0 a_r0_letters a_r0_letters_letters a_r0_now a_r0_now_fields a_r0_now_fields_lefts a_r0_now_fields_wishes a_r0_now_figures a_r0_now_goes a_r0_now_hampers a_r0_now_kinds a_r0_now_weights a_r0_steps a_r0_trial a_r0_trial_fields a_r0_trial_fields_lefts a_r0_trial_fields_wishes a_r0_trial_figures a_r0_trial_goes a_r0_trial_hampers a_r0_trial_kinds a_r0_trial_weights : Nat) (v_r0_kept v_r0_hasKept v_r0_numbers v_r0_harvest v_r0_fraction v_r0_refusals v_r0_steps_steps : Value) (r0_letters_count : Int32) (r0_letters_letters : Nat → Int32) (r0_now_days : Int32) (r0_now_done : Int32) (r0_now_things : Int32) (r0_now_fields_lefts : Nat → Int32) (r0_now_fields_wishes : Nat → Int32) (r0_now_figures : Nat → Int32) (r0_now_goes : Nat → Int32) (r0_now_hampers : Nat → Int32) (r0_now_kinds : Nat → Int32) (r0_now_weights : Nat → Int32) (r0_steps_count : Int32) (r0_trial_days : Int32) (r0_trial_done : Int32) (r0_trial_things : Int32) (r0_trial_fields_lefts : Nat → Int32) (r0_trial_fields_wishes : Nat → Int32) (r0_trial_figures : Nat → Int32) (r0_trial_goes : Nat → Int32) (r0_trial_hampers : Nat → Int32) (r0_trial_kinds : Nat → Int32) (r0_trial_weights : Nat → Int32) (o : Int32 × (Int32) × (Int32) × (Int32) × (Int32) × (Nat → Int32) × (Nat → Int32) × (Nat → Int32) × (Nat → Int32) × (Nat → Int32) × (Nat → Int32) × (Nat → Int32) × (Int32) × (Int32) × (Int32) × (Int32) × (Nat → Int32) × (Nat → Int32) × (Nat → Int32) × (Nat → Int32) × (Nat → Int32) × (Nat → Int32) × (Nat → Int32)) (hr : F_H_hall r0_letters_count r0_letters_letters r0_now_days r0_now_done r0_now_things r0_now_fields_lefts r0_now_fields_wishes r0_now_figures r0_now_goes r0_now_hampers r0_now_kinds r0_now_weights r0_steps_count r0_trial_days r0_trial_done r0_trial_things r0_trial_fields_lefts r0_trial_fields_wishes r0_trial_figures r0_trial_goes r0_trial_hampers r0_trial_kinds r0_trial_weights = some o) : ctI l y_H_hall (Cond.code y_H_hall b_H_hall 2 (some FieldType.int)) (rmd 6) D (kTy cI cS) [.ref a_r0] (w_H_hall cI a_r0 a_r0_letters a_r0_letters_letters a_r0_now a_r0_now_fields a_r0_now_fields_lefts a_r0_now_fields_wishes a_r0_now_figures a_r0_now_goes a_r0_now_hampers a_r0_now_kinds a_r0_now_weights a_r0_steps a_r0_trial a_r0_trial_fields a_r0_trial_fields_lefts a_r0_trial_fields_wishes a_r0_trial_figures a_r0_trial_goes a_r0_trial_hampers a_r0_trial_kinds a_r0_trial_weights v_r0_kept v_r0_hasKept v_r0_numbers v_r0_harvest v_r0_fraction v_r0_refusals v_r0_steps_steps r0_letters_count r0_letters_letters r0_now_days r0_now_done r0_now_things r0_now_fields_lefts r0_now_fields_wishes r0_now_figures r0_now_goes r0_now_hampers r0_now_kinds r0_now_weights r0_steps_count r0_trial_days r0_trial_done r0_trial_things r0_trial_fields_lefts r0_trial_fields_wishes r0_trial_figures r0_trial_goes r0_trial_hampers r0_trial_kinds r0_trial_weights) (w_H_hall cI a_r0 a_r0_letters a_r0_letters_letters a_r0_now a_r0_now_fields a_r0_now_fields_lefts a_r0_now_fields_wishes a_r0_now_figures a_r0_now_goes a_r0_now_hampers a_r0_now_kinds a_r0_now_weights a_r0_steps a_r0_trial a_r0_trial_fields a_r0_trial_fields_lefts a_r0_trial_fields_wishes a_r0_trial_figures a_r0_trial_goes a_r0_trial_hampers a_r0_trial_kinds a_r0_trial_weights v_r0_kept v_r0_hasKept v_r0_numbers v_r0_harvest v_r0_fraction v_r0_refusals v_r0_steps_steps o.2.1 r0_letters_letters o.2.2.1 o.2.2.2.1 o.2.2.2.2.1 o.2.2.2.2.2.1 o.2.2.2.2.2.2.1 o.2.2.2.2.2.2.2.1 o.2.2.2.2.2.2.2.2.1 o.2.2.2.2.2.2.2.2.2.1 o.2.2.2.2.2.2.2.2.2.2.1 o.2.2.2.2.2.2.2.2.2.2.2.1 o.2.2.2.2.2.2.2.2.2.2.2.2.1 o.2.2.2.2.2.2.2.2.2.2.2.2.2.1 o.2.2.2.2.2.2.2.2.2.2.2.2.2.2.1 o.2.2.2.2.2.2.2.2.2.2.2.2.2.2.2.1 o.2.2.2.2.2.2.2.2.2.2.2.2.2.2.2.2.1 o.2.2.2.2.2.2.2.2.2.2.2.2.2.2.2.2.2.1 o.2.2.2.2.2.2.2.2.2.2.2.2.2.2.2.2.2.2.1 o.2.2.2.2.2.2.2.2.2.2.2.2.2.2.2.2.2.2.2.1 o.2.2.2.2.2.2.2.2.2.2.2.2.2.2.2.2.2.2.2.2.1 o.2.2.2.2.2.2.2.2.2.2.2.2.2.2.2.2.2.2.2.2.2.1 o.2.2.2.2.2.2.2.2.2.2.2.2.2.2.2.2.2.2.2.2.2.2) o.1 := by
  unfold F_H_hall at hr
  refine ⟨rfl, fun sz => ct_of (w0 := (w_H_hall cI a_r0 a_r0_letters a_r0_letters_letters a_r0_now a_r0_now_fields a_r0_now_fields_lefts a_r0_now_fields_wishes a_r0_now_figures a_r0_now_goes a_r0_now_hampers a_r0_now_kinds a_r0_now_weights a_r0_steps a_r0_trial a_r0_trial_fields a_r0_trial_fields_lefts a_r0_trial_fields_wishes a_r0_trial_figures a_r0_trial_goes a_r0_trial_hampers a_r0_trial_kinds a_r0_trial_weights v_r0_kept v_r0_hasKept v_r0_numbers v_r0_harvest v_r0_fraction v_r0_refusals v_r0_steps_steps r0_letters_count r0_letters_letters r0_now_days r0_now_done r0_now_things r0_now_fields_lefts r0_now_fields_wishes r0_now_figures r0_now_goes r0_now_hampers r0_now_kinds r0_now_weights r0_steps_count r0_trial_days r0_trial_done r0_trial_things r0_trial_fields_lefts r0_trial_fields_wishes r0_trial_figures r0_trial_goes r0_trial_hampers r0_trial_kinds r0_trial_weights)) (Qc := fun A => qI D (w_H_hall cI a_r0 a_r0_letters a_r0_letters_letters a_r0_now a_r0_now_fields a_r0_now_fields_lefts a_r0_now_fields_wishes a_r0_now_figures a_r0_now_goes a_r0_now_hampers a_r0_now_kinds a_r0_now_weights a_r0_steps a_r0_trial a_r0_trial_fields a_r0_trial_fields_lefts a_r0_trial_fields_wishes a_r0_trial_figures a_r0_trial_goes a_r0_trial_hampers a_r0_trial_kinds a_r0_trial_weights v_r0_kept v_r0_hasKept v_r0_numbers v_r0_harvest v_r0_fraction v_r0_refusals v_r0_steps_steps o.2.1 r0_letters_letters o.2.2.1 o.2.2.2.1 o.2.2.2.2.1 o.2.2.2.2.2.1 o.2.2.2.2.2.2.1 o.2.2.2.2.2.2.2.1 o.2.2.2.2.2.2.2.2.1 o.2.2.2.2.2.2.2.2.2.1 o.2.2.2.2.2.2.2.2.2.2.1 o.2.2.2.2.2.2.2.2.2.2.2.1 o.2.2.2.2.2.2.2.2.2.2.2.2.1 o.2.2.2.2.2.2.2.2.2.2.2.2.2.1 o.2.2.2.2.2.2.2.2.2.2.2.2.2.2.1 o.2.2.2.2.2.2.2.2.2.2.2.2.2.2.2.1 o.2.2.2.2.2.2.2.2.2.2.2.2.2.2.2.2.1 o.2.2.2.2.2.2.2.2.2.2.2.2.2.2.2.2.2.1 o.2.2.2.2.2.2.2.2.2.2.2.2.2.2.2.2.2.2.1 o.2.2.2.2.2.2.2.2.2.2.2.2.2.2.2.2.2.2.2.1 o.2.2.2.2.2.2.2.2.2.2.2.2.2.2.2.2.2.2.2.2.1 o.2.2.2.2.2.2.2.2.2.2.2.2.2.2.2.2.2.2.2.2.2.1 o.2.2.2.2.2.2.2.2.2.2.2.2.2.2.2.2.2.2.2.2.2.2) o.1 A) rfl (Nat.le_of_ble_eq_true rfl) ?_ sz⟩
  intro p e s m below meth c A hA C hret ls hl hW
  have C : cx p s m ([.ref a_r0] : List Value).toArray meth c b_H_hall 2 R_H D (kTy cI cS) (Cond.code y_H_hall b_H_hall 2 (some FieldType.int)) := C
  obtain ⟨hx, hb, hml, hown, hts, hK, hlk, hN⟩ := id C
  have hl : lv_has ls 2 [(0, .ref a_r0)] := hl
  obtain ⟨Q, hQ⟩ : ∃ Q, Q = MQ below (qI D (w_H_hall cI a_r0 a_r0_letters a_r0_letters_letters a_r0_now a_r0_now_fields a_r0_now_fields_lefts a_r0_now_fields_wishes a_r0_now_figures a_r0_now_goes a_r0_now_hampers a_r0_now_kinds a_r0_now_weights a_r0_steps a_r0_trial a_r0_trial_fields a_r0_trial_fields_lefts a_r0_trial_fields_wishes a_r0_trial_figures a_r0_trial_goes a_r0_trial_hampers a_r0_trial_kinds a_r0_trial_weights v_r0_kept v_r0_hasKept v_r0_numbers v_r0_harvest v_r0_fraction v_r0_refusals v_r0_steps_steps o.2.1 r0_letters_letters o.2.2.1 o.2.2.2.1 o.2.2.2.2.1 o.2.2.2.2.2.1 o.2.2.2.2.2.2.1 o.2.2.2.2.2.2.2.1 o.2.2.2.2.2.2.2.2.1 o.2.2.2.2.2.2.2.2.2.1 o.2.2.2.2.2.2.2.2.2.2.1 o.2.2.2.2.2.2.2.2.2.2.2.1 o.2.2.2.2.2.2.2.2.2.2.2.2.1 o.2.2.2.2.2.2.2.2.2.2.2.2.2.1 o.2.2.2.2.2.2.2.2.2.2.2.2.2.2.1 o.2.2.2.2.2.2.2.2.2.2.2.2.2.2.2.1 o.2.2.2.2.2.2.2.2.2.2.2.2.2.2.2.2.1 o.2.2.2.2.2.2.2.2.2.2.2.2.2.2.2.2.2.1 o.2.2.2.2.2.2.2.2.2.2.2.2.2.2.2.2.2.2.1 o.2.2.2.2.2.2.2.2.2.2.2.2.2.2.2.2.2.2.2.1 o.2.2.2.2.2.2.2.2.2.2.2.2.2.2.2.2.2.2.2.2.1 o.2.2.2.2.2.2.2.2.2.2.2.2.2.2.2.2.2.2.2.2.2.1 o.2.2.2.2.2.2.2.2.2.2.2.2.2.2.2.2.2.2.2.2.2.2) o.1 A) ([.ref a_r0] : List Value).toArray s 0 0 A := ⟨_, rfl⟩
  rw [← hQ]
  refine lv_aload_n hx hb d_H_hall_0 rfl (lv_at hl 0 rfl) ?_
  refine k_get i_H C hW 0 rfl rfl 5 (by decide) qf_H_36 rfl rfl d_H_hall_1 ?_
  refine lv_aload_n hx hb d_H_hall_4 rfl (lv_at hl 0 rfl) ?_
  refine k_get i_H C hW 0 rfl rfl 2 (by decide) qf_H_19 rfl rfl d_H_hall_5 ?_
  refine lv_aload_n hx hb d_H_hall_8 rfl (lv_at hl 0 rfl) ?_
  refine k_get i_H C hW 0 rfl rfl 0 (by decide) qf_H_10 rfl rfl d_H_hall_9 ?_
  obtain ⟨q_1, hc_1, hr⟩ := ob hr
  have ct_1 := C_Let_tellInto l D cI cS a_r0_letters a_r0_letters_letters a_r0_trial a_r0_trial_fields a_r0_trial_fields_lefts a_r0_trial_fields_wishes a_r0_trial_figures a_r0_trial_goes a_r0_trial_hampers a_r0_trial_kinds a_r0_trial_weights a_r0_now a_r0_now_fields a_r0_now_fields_lefts a_r0_now_fields_wishes a_r0_now_figures a_r0_now_goes a_r0_now_hampers a_r0_now_kinds a_r0_now_weights r0_letters_count r0_letters_letters r0_trial_days r0_trial_done r0_trial_things r0_trial_fields_lefts r0_trial_fields_wishes r0_trial_figures r0_trial_goes r0_trial_hampers r0_trial_kinds r0_trial_weights r0_now_days r0_now_done r0_now_things r0_now_fields_lefts r0_now_fields_wishes r0_now_figures r0_now_goes r0_now_hampers r0_now_kinds r0_now_weights q_1 hc_1
  refine k_goI hA hW [1, 2, 13, 14, 15, 16, 17, 18, 19, 20, 21, 3, 4, 5, 6, 7, 8, 9, 10, 11] rfl ct_1.1 (ws' := (w_H_hall cI a_r0 a_r0_letters a_r0_letters_letters a_r0_now a_r0_now_fields a_r0_now_fields_lefts a_r0_now_fields_wishes a_r0_now_figures a_r0_now_goes a_r0_now_hampers a_r0_now_kinds a_r0_now_weights a_r0_steps a_r0_trial a_r0_trial_fields a_r0_trial_fields_lefts a_r0_trial_fields_wishes a_r0_trial_figures a_r0_trial_goes a_r0_trial_hampers a_r0_trial_kinds a_r0_trial_weights v_r0_kept v_r0_hasKept v_r0_numbers v_r0_harvest v_r0_fraction v_r0_refusals v_r0_steps_steps r0_letters_count r0_letters_letters r0_now_days r0_now_done r0_now_things r0_now_fields_lefts r0_now_fields_wishes r0_now_figures r0_now_goes r0_now_hampers r0_now_kinds r0_now_weights r0_steps_count q_1.2.1 q_1.2.2.1 q_1.2.2.2.1 q_1.2.2.2.2.1 q_1.2.2.2.2.2.1 q_1.2.2.2.2.2.2.1 q_1.2.2.2.2.2.2.2.1 q_1.2.2.2.2.2.2.2.2.1 q_1.2.2.2.2.2.2.2.2.2.1 q_1.2.2.2.2.2.2.2.2.2.2)) rfl (k_runV C hA hW mw_Let_tellInto mv_Let_tellInto (ct_1.2 _) [1, 2, 13, 14, 15, 16, 17, 18, 19, 20, 21, 3, 4, 5, 6, 7, 8, 9, 10, 11] rfl rfl 1 rfl rfl qm_H_76 ⟨Nat.le_of_ble_eq_true rfl, Nat.le_of_ble_eq_true rfl, Nat.zero_le _, Nat.zero_le _⟩ rfl rfl (Nat.le_of_ble_eq_true rfl) hl.1 d_H_hall_12) (fun H locs hW => ?_)
  refine lv_istore_n (lv' := [(1, .int q_1.1), (0, .ref a_r0)]) hx hb d_H_hall_15 rfl hl (by decide) rfl (fun ls hl => ?_)
  refine lv_aload_n hx hb d_H_hall_16 rfl (lv_at hl 1 rfl) ?_
  refine k_get i_H C hW 0 rfl rfl 5 (by decide) qf_H_36 rfl rfl d_H_hall_17 ?_
  refine lv_iconst (v := 0) hx hb d_H_hall_20 (by decide) ?_
  refine k_putN i_Let t_Let_ok n_Let C hW 1 rfl rfl 1 (by decide) qf_H_69 rfl rfl (ty := .int) rfl rfl rfl (Nat.le_of_ble_eq_true rfl) (ws' := (w_H_hall cI a_r0 a_r0_letters a_r0_letters_letters a_r0_now a_r0_now_fields a_r0_now_fields_lefts a_r0_now_fields_wishes a_r0_now_figures a_r0_now_goes a_r0_now_hampers a_r0_now_kinds a_r0_now_weights a_r0_steps a_r0_trial a_r0_trial_fields a_r0_trial_fields_lefts a_r0_trial_fields_wishes a_r0_trial_figures a_r0_trial_goes a_r0_trial_hampers a_r0_trial_kinds a_r0_trial_weights v_r0_kept v_r0_hasKept v_r0_numbers v_r0_harvest v_r0_fraction v_r0_refusals v_r0_steps_steps 0 r0_letters_letters r0_now_days r0_now_done r0_now_things r0_now_fields_lefts r0_now_fields_wishes r0_now_figures r0_now_goes r0_now_hampers r0_now_kinds r0_now_weights r0_steps_count q_1.2.1 q_1.2.2.1 q_1.2.2.2.1 q_1.2.2.2.2.1 q_1.2.2.2.2.2.1 q_1.2.2.2.2.2.2.1 q_1.2.2.2.2.2.2.2.1 q_1.2.2.2.2.2.2.2.2.1 q_1.2.2.2.2.2.2.2.2.2.1 q_1.2.2.2.2.2.2.2.2.2.2)) rfl d_H_hall_21 (fun H locs hW => ?_)
  refine lv_iload_n hx hb d_H_hall_24 rfl (lv_at hl 0 rfl) ?_
  refine lv_if_lt (tgt := 47) hx hb d_H_hall_25 (by decide) (fun c_2 => ?_) (fun c_2 => ?_)
  · replace hr := ip c_2 hr
    refine lv_iload_n hx hb d_H_hall_47 rfl (lv_at hl 0 rfl) ?_
    obtain rfl := Option.some.inj hr
    rw [hQ]; exact k_iret C hret hW d_H_hall_48
  · replace hr := iN c_2 hr
    refine lv_aload_n hx hb d_H_hall_28 rfl (lv_at hl 1 rfl) ?_
    refine k_get i_H C hW 0 rfl rfl 0 (by decide) qf_H_10 rfl rfl d_H_hall_29 ?_
    refine lv_aload_n hx hb d_H_hall_32 rfl (lv_at hl 1 rfl) ?_
    refine k_get i_H C hW 0 rfl rfl 2 (by decide) qf_H_19 rfl rfl d_H_hall_33 ?_
    obtain ⟨q_3, hc_3, hr⟩ := ob hr
    have ct_3 := C_Sta_copyFrom l D cI cS a_r0_now a_r0_now_fields a_r0_now_fields_lefts a_r0_now_fields_wishes a_r0_now_figures a_r0_now_goes a_r0_now_hampers a_r0_now_kinds a_r0_now_weights a_r0_trial a_r0_trial_fields a_r0_trial_fields_lefts a_r0_trial_fields_wishes a_r0_trial_figures a_r0_trial_goes a_r0_trial_hampers a_r0_trial_kinds a_r0_trial_weights r0_now_days r0_now_done r0_now_things r0_now_fields_lefts r0_now_fields_wishes r0_now_figures r0_now_goes r0_now_hampers r0_now_kinds r0_now_weights q_1.2.1 q_1.2.2.1 q_1.2.2.2.1 q_1.2.2.2.2.1 q_1.2.2.2.2.2.1 q_1.2.2.2.2.2.2.1 q_1.2.2.2.2.2.2.2.1 q_1.2.2.2.2.2.2.2.2.1 q_1.2.2.2.2.2.2.2.2.2.1 q_1.2.2.2.2.2.2.2.2.2.2 q_3 hc_3
    refine k_goV hA hW [3, 4, 5, 6, 7, 8, 9, 10, 11, 13, 14, 15, 16, 17, 18, 19, 20, 21] rfl ct_3.1 (ws' := (w_H_hall cI a_r0 a_r0_letters a_r0_letters_letters a_r0_now a_r0_now_fields a_r0_now_fields_lefts a_r0_now_fields_wishes a_r0_now_figures a_r0_now_goes a_r0_now_hampers a_r0_now_kinds a_r0_now_weights a_r0_steps a_r0_trial a_r0_trial_fields a_r0_trial_fields_lefts a_r0_trial_fields_wishes a_r0_trial_figures a_r0_trial_goes a_r0_trial_hampers a_r0_trial_kinds a_r0_trial_weights v_r0_kept v_r0_hasKept v_r0_numbers v_r0_harvest v_r0_fraction v_r0_refusals v_r0_steps_steps 0 r0_letters_letters q_3.1 q_3.2.1 q_3.2.2.1 q_3.2.2.2.1 q_3.2.2.2.2.1 q_3.2.2.2.2.2.1 q_3.2.2.2.2.2.2.1 q_3.2.2.2.2.2.2.2.1 q_3.2.2.2.2.2.2.2.2.1 q_3.2.2.2.2.2.2.2.2.2 r0_steps_count q_1.2.1 q_1.2.2.1 q_1.2.2.2.1 q_1.2.2.2.2.1 q_1.2.2.2.2.2.1 q_1.2.2.2.2.2.2.1 q_1.2.2.2.2.2.2.2.1 q_1.2.2.2.2.2.2.2.2.1 q_1.2.2.2.2.2.2.2.2.2.1 q_1.2.2.2.2.2.2.2.2.2.2)) rfl (k_runV C hA hW mw_Sta_copyFrom mv_Sta_copyFrom (ct_3.2 _) [3, 4, 5, 6, 7, 8, 9, 10, 11, 13, 14, 15, 16, 17, 18, 19, 20, 21] rfl rfl 3 rfl rfl qm_H_80 ⟨Nat.le_of_ble_eq_true rfl, Nat.le_of_ble_eq_true rfl, Nat.zero_le _, Nat.zero_le _⟩ rfl rfl (Nat.le_of_ble_eq_true rfl) hl.1 d_H_hall_36) (fun H locs hW => ?_)
    refine lv_aload_n hx hb d_H_hall_39 rfl (lv_at hl 1 rfl) ?_
    refine k_get i_H C hW 0 rfl rfl 4 (by decide) qf_H_29 rfl rfl d_H_hall_40 ?_
    refine lv_iconst (v := 0) hx hb d_H_hall_43 (by decide) ?_
    refine k_putN i_Sps t_Sps_ok n_Sps C hW 12 rfl rfl 1 (by decide) qf_H_84 rfl rfl (ty := .int) rfl rfl rfl (Nat.le_of_ble_eq_true rfl) (ws' := (w_H_hall cI a_r0 a_r0_letters a_r0_letters_letters a_r0_now a_r0_now_fields a_r0_now_fields_lefts a_r0_now_fields_wishes a_r0_now_figures a_r0_now_goes a_r0_now_hampers a_r0_now_kinds a_r0_now_weights a_r0_steps a_r0_trial a_r0_trial_fields a_r0_trial_fields_lefts a_r0_trial_fields_wishes a_r0_trial_figures a_r0_trial_goes a_r0_trial_hampers a_r0_trial_kinds a_r0_trial_weights v_r0_kept v_r0_hasKept v_r0_numbers v_r0_harvest v_r0_fraction v_r0_refusals v_r0_steps_steps 0 r0_letters_letters q_3.1 q_3.2.1 q_3.2.2.1 q_3.2.2.2.1 q_3.2.2.2.2.1 q_3.2.2.2.2.2.1 q_3.2.2.2.2.2.2.1 q_3.2.2.2.2.2.2.2.1 q_3.2.2.2.2.2.2.2.2.1 q_3.2.2.2.2.2.2.2.2.2 0 q_1.2.1 q_1.2.2.1 q_1.2.2.2.1 q_1.2.2.2.2.1 q_1.2.2.2.2.2.1 q_1.2.2.2.2.2.2.1 q_1.2.2.2.2.2.2.2.1 q_1.2.2.2.2.2.2.2.2.1 q_1.2.2.2.2.2.2.2.2.2.1 q_1.2.2.2.2.2.2.2.2.2.2)) rfl d_H_hall_44 (fun H locs hW => ?_)
    refine lv_iload_n hx hb d_H_hall_47 rfl (lv_at hl 0 rfl) ?_
    obtain rfl := Option.some.inj hr
    rw [hQ]; exact k_iret C hret hW d_H_hall_48
def w_H_image (cI : ClassId) (a_r0 a_r0_kept a_r0_kept_fields a_r0_kept_fields_lefts a_r0_kept_fields_wishes a_r0_kept_figures a_r0_kept_goes a_r0_kept_hampers a_r0_kept_kinds a_r0_kept_weights a_r0_now a_r0_now_fields a_r0_now_fields_lefts a_r0_now_fields_wishes a_r0_now_figures a_r0_now_goes a_r0_now_hampers a_r0_now_kinds a_r0_now_weights : Nat) (v_r0_trial v_r0_steps v_r0_letters v_r0_numbers v_r0_harvest v_r0_fraction v_r0_refusals : Value) (r0_hasKept : Int32) (r0_kept_days : Int32) (r0_kept_done : Int32) (r0_kept_things : Int32) (r0_kept_fields_lefts : Nat → Int32) (r0_kept_fields_wishes : Nat → Int32) (r0_kept_figures : Nat → Int32) (r0_kept_goes : Nat → Int32) (r0_kept_hampers : Nat → Int32) (r0_kept_kinds : Nat → Int32) (r0_kept_weights : Nat → Int32) (r0_now_days : Int32) (r0_now_done : Int32) (r0_now_things : Int32) (r0_now_fields_lefts : Nat → Int32) (r0_now_fields_wishes : Nat → Int32) (r0_now_figures : Nat → Int32) (r0_now_goes : Nat → Int32) (r0_now_hampers : Nat → Int32) (r0_now_kinds : Nat → Int32) (r0_now_weights : Nat → Int32) : va_W := [(a_r0, .inr (0, [.ref a_r0_now, .ref a_r0_kept, v_r0_trial, .int r0_hasKept, v_r0_steps, v_r0_letters, v_r0_numbers, v_r0_harvest, v_r0_fraction, v_r0_refusals])), (a_r0_kept, .inr (1, [.ref a_r0_kept_weights, .ref a_r0_kept_kinds, .ref a_r0_kept_figures, .ref a_r0_kept_goes, .int r0_kept_things, .ref a_r0_kept_hampers, .int r0_kept_days, .ref a_r0_kept_fields, .int r0_kept_done])), (a_r0_kept_fields, .inr (2, [.ref a_r0_kept_fields_wishes, .ref a_r0_kept_fields_lefts])), (a_r0_kept_fields_lefts, .inl (cI, 4, .inl r0_kept_fields_lefts)), (a_r0_kept_fields_wishes, .inl (cI, 4, .inl r0_kept_fields_wishes)), (a_r0_kept_figures, .inl (cI, 8, .inl r0_kept_figures)), (a_r0_kept_goes, .inl (cI, 8, .inl r0_kept_goes)), (a_r0_kept_hampers, .inl (cI, 8, .inl r0_kept_hampers)), (a_r0_kept_kinds, .inl (cI, 8, .inl r0_kept_kinds)), (a_r0_kept_weights, .inl (cI, 6, .inl r0_kept_weights)), (a_r0_now, .inr (1, [.ref a_r0_now_weights, .ref a_r0_now_kinds, .ref a_r0_now_figures, .ref a_r0_now_goes, .int r0_now_things, .ref a_r0_now_hampers, .int r0_now_days, .ref a_r0_now_fields, .int r0_now_done])), (a_r0_now_fields, .inr (2, [.ref a_r0_now_fields_wishes, .ref a_r0_now_fields_lefts])), (a_r0_now_fields_lefts, .inl (cI, 4, .inl r0_now_fields_lefts)), (a_r0_now_fields_wishes, .inl (cI, 4, .inl r0_now_fields_wishes)), (a_r0_now_figures, .inl (cI, 8, .inl r0_now_figures)), (a_r0_now_goes, .inl (cI, 8, .inl r0_now_goes)), (a_r0_now_hampers, .inl (cI, 8, .inl r0_now_hampers)), (a_r0_now_kinds, .inl (cI, 8, .inl r0_now_kinds)), (a_r0_now_weights, .inl (cI, 6, .inl r0_now_weights))]
def F_H_image (r0_kept_fields_lefts : Nat → Int32) (r0_kept_fields_wishes : Nat → Int32) (r0_kept_figures : Nat → Int32) (r0_kept_goes : Nat → Int32) (r0_kept_hampers : Nat → Int32) (r0_kept_kinds : Nat → Int32) (r0_kept_weights : Nat → Int32) (r0_now_days : Int32) (r0_now_done : Int32) (r0_now_things : Int32) (r0_now_fields_lefts : Nat → Int32) (r0_now_fields_wishes : Nat → Int32) (r0_now_figures : Nat → Int32) (r0_now_goes : Nat → Int32) (r0_now_hampers : Nat → Int32) (r0_now_kinds : Nat → Int32) (r0_now_weights : Nat → Int32) : Option (Int32 × (Int32) × (Int32) × (Int32) × (Int32) × (Nat → Int32) × (Nat → Int32) × (Nat → Int32) × (Nat → Int32) × (Nat → Int32) × (Nat → Int32) × (Nat → Int32)) :=
  ((F_Sta_copyFrom r0_kept_fields_lefts r0_kept_fields_wishes r0_kept_figures r0_kept_goes r0_kept_hampers r0_kept_kinds r0_kept_weights r0_now_days r0_now_done r0_now_things r0_now_fields_lefts r0_now_fields_wishes r0_now_figures r0_now_goes r0_now_hampers r0_now_kinds r0_now_weights).bind (fun q_1 => (some (r0_now_done, 1, q_1.1, q_1.2.1, q_1.2.2.1, q_1.2.2.2.1, q_1.2.2.2.2.1, q_1.2.2.2.2.2.1, q_1.2.2.2.2.2.2.1, q_1.2.2.2.2.2.2.2.1, q_1.2.2.2.2.2.2.2.2.1, q_1.2.2.2.2.2.2.2.2.2))))
set_option maxHeartbeats 4000000 in
set_option maxRecDepth 100000 in
theorem C_H_image (l : Launch) (D : va_G) (cI cS : ClassId) (a_r0 a_r0_kept a_r0_kept_fields a_r0_kept_fields_lefts a_r0_kept_fields_wishes a_r0_kept_figures a_r0_kept_goes a_r0_kept_hampers a_r0_kept_kinds a_r0_kept_weights a_r0_now a_r0_now_fields a_r0_now_fields_lefts a_r0_now_fields_wishes a_r0_now_figures a_r0_now_goes a_r0_now_hampers a_r0_now_kinds a_r0_now_weights : Nat) (v_r0_trial v_r0_steps v_r0_letters v_r0_numbers v_r0_harvest v_r0_fraction v_r0_refusals : Value) (r0_hasKept : Int32) (r0_kept_days : Int32) (r0_kept_done : Int32) (r0_kept_things : Int32) (r0_kept_fields_lefts : Nat → Int32) (r0_kept_fields_wishes : Nat → Int32) (r0_kept_figures : Nat → Int32) (r0_kept_goes : Nat → Int32) (r0_kept_hampers : Nat → Int32) (r0_kept_kinds : Nat → Int32) (r0_kept_weights : Nat → Int32) (r0_now_days : Int32) (r0_now_done : Int32) (r0_now_things : Int32) (r0_now_fields_lefts : Nat → Int32) (r0_now_fields_wishes : Nat → Int32) (r0_now_figures : Nat → Int32) (r0_now_goes : Nat → Int32) (r0_now_hampers : Nat → Int32) (r0_now_kinds : Nat → Int32) (r0_now_weights : Nat → Int32) (o : Int32 × (Int32) × (Int32) × (Int32) × (Int32) × (Nat → Int32) × (Nat → Int32) × (Nat → Int32) × (Nat → Int32) × (Nat → Int32) × (Nat → Int32) × (Nat → Int32)) (hr : F_H_image r0_kept_fields_lefts r0_kept_fields_wishes r0_kept_figures r0_kept_goes r0_kept_hampers r0_kept_kinds r0_kept_weights r0_now_days r0_now_done r0_now_things r0_now_fields_lefts r0_now_fields_wishes r0_now_figures r0_now_goes r0_now_hampers r0_now_kinds r0_now_weights = some o) : ctI l y_H_image (Cond.code y_H_image b_H_image 1 (some FieldType.int)) (rmd 2) D (kTy cI cS) [.ref a_r0] (w_H_image cI a_r0 a_r0_kept a_r0_kept_fields a_r0_kept_fields_lefts a_r0_kept_fields_wishes a_r0_kept_figures a_r0_kept_goes a_r0_kept_hampers a_r0_kept_kinds a_r0_kept_weights a_r0_now a_r0_now_fields a_r0_now_fields_lefts a_r0_now_fields_wishes a_r0_now_figures a_r0_now_goes a_r0_now_hampers a_r0_now_kinds a_r0_now_weights v_r0_trial v_r0_steps v_r0_letters v_r0_numbers v_r0_harvest v_r0_fraction v_r0_refusals r0_hasKept r0_kept_days r0_kept_done r0_kept_things r0_kept_fields_lefts r0_kept_fields_wishes r0_kept_figures r0_kept_goes r0_kept_hampers r0_kept_kinds r0_kept_weights r0_now_days r0_now_done r0_now_things r0_now_fields_lefts r0_now_fields_wishes r0_now_figures r0_now_goes r0_now_hampers r0_now_kinds r0_now_weights) (w_H_image cI a_r0 a_r0_kept a_r0_kept_fields a_r0_kept_fields_lefts a_r0_kept_fields_wishes a_r0_kept_figures a_r0_kept_goes a_r0_kept_hampers a_r0_kept_kinds a_r0_kept_weights a_r0_now a_r0_now_fields a_r0_now_fields_lefts a_r0_now_fields_wishes a_r0_now_figures a_r0_now_goes a_r0_now_hampers a_r0_now_kinds a_r0_now_weights v_r0_trial v_r0_steps v_r0_letters v_r0_numbers v_r0_harvest v_r0_fraction v_r0_refusals o.2.1 o.2.2.1 o.2.2.2.1 o.2.2.2.2.1 o.2.2.2.2.2.1 o.2.2.2.2.2.2.1 o.2.2.2.2.2.2.2.1 o.2.2.2.2.2.2.2.2.1 o.2.2.2.2.2.2.2.2.2.1 o.2.2.2.2.2.2.2.2.2.2.1 o.2.2.2.2.2.2.2.2.2.2.2 r0_now_days r0_now_done r0_now_things r0_now_fields_lefts r0_now_fields_wishes r0_now_figures r0_now_goes r0_now_hampers r0_now_kinds r0_now_weights) o.1 := by
  unfold F_H_image at hr
  refine ⟨rfl, fun sz => ct_of (w0 := (w_H_image cI a_r0 a_r0_kept a_r0_kept_fields a_r0_kept_fields_lefts a_r0_kept_fields_wishes a_r0_kept_figures a_r0_kept_goes a_r0_kept_hampers a_r0_kept_kinds a_r0_kept_weights a_r0_now a_r0_now_fields a_r0_now_fields_lefts a_r0_now_fields_wishes a_r0_now_figures a_r0_now_goes a_r0_now_hampers a_r0_now_kinds a_r0_now_weights v_r0_trial v_r0_steps v_r0_letters v_r0_numbers v_r0_harvest v_r0_fraction v_r0_refusals r0_hasKept r0_kept_days r0_kept_done r0_kept_things r0_kept_fields_lefts r0_kept_fields_wishes r0_kept_figures r0_kept_goes r0_kept_hampers r0_kept_kinds r0_kept_weights r0_now_days r0_now_done r0_now_things r0_now_fields_lefts r0_now_fields_wishes r0_now_figures r0_now_goes r0_now_hampers r0_now_kinds r0_now_weights)) (Qc := fun A => qI D (w_H_image cI a_r0 a_r0_kept a_r0_kept_fields a_r0_kept_fields_lefts a_r0_kept_fields_wishes a_r0_kept_figures a_r0_kept_goes a_r0_kept_hampers a_r0_kept_kinds a_r0_kept_weights a_r0_now a_r0_now_fields a_r0_now_fields_lefts a_r0_now_fields_wishes a_r0_now_figures a_r0_now_goes a_r0_now_hampers a_r0_now_kinds a_r0_now_weights v_r0_trial v_r0_steps v_r0_letters v_r0_numbers v_r0_harvest v_r0_fraction v_r0_refusals o.2.1 o.2.2.1 o.2.2.2.1 o.2.2.2.2.1 o.2.2.2.2.2.1 o.2.2.2.2.2.2.1 o.2.2.2.2.2.2.2.1 o.2.2.2.2.2.2.2.2.1 o.2.2.2.2.2.2.2.2.2.1 o.2.2.2.2.2.2.2.2.2.2.1 o.2.2.2.2.2.2.2.2.2.2.2 r0_now_days r0_now_done r0_now_things r0_now_fields_lefts r0_now_fields_wishes r0_now_figures r0_now_goes r0_now_hampers r0_now_kinds r0_now_weights) o.1 A) rfl (Nat.le_of_ble_eq_true rfl) ?_ sz⟩
  intro p e s m below meth c A hA C hret ls hl hW
  have C : cx p s m ([.ref a_r0] : List Value).toArray meth c b_H_image 1 R_H D (kTy cI cS) (Cond.code y_H_image b_H_image 1 (some FieldType.int)) := C
  obtain ⟨hx, hb, hml, hown, hts, hK, hlk, hN⟩ := id C
  have hl : lv_has ls 1 [(0, .ref a_r0)] := hl
  obtain ⟨Q, hQ⟩ : ∃ Q, Q = MQ below (qI D (w_H_image cI a_r0 a_r0_kept a_r0_kept_fields a_r0_kept_fields_lefts a_r0_kept_fields_wishes a_r0_kept_figures a_r0_kept_goes a_r0_kept_hampers a_r0_kept_kinds a_r0_kept_weights a_r0_now a_r0_now_fields a_r0_now_fields_lefts a_r0_now_fields_wishes a_r0_now_figures a_r0_now_goes a_r0_now_hampers a_r0_now_kinds a_r0_now_weights v_r0_trial v_r0_steps v_r0_letters v_r0_numbers v_r0_harvest v_r0_fraction v_r0_refusals o.2.1 o.2.2.1 o.2.2.2.1 o.2.2.2.2.1 o.2.2.2.2.2.1 o.2.2.2.2.2.2.1 o.2.2.2.2.2.2.2.1 o.2.2.2.2.2.2.2.2.1 o.2.2.2.2.2.2.2.2.2.1 o.2.2.2.2.2.2.2.2.2.2.1 o.2.2.2.2.2.2.2.2.2.2.2 r0_now_days r0_now_done r0_now_things r0_now_fields_lefts r0_now_fields_wishes r0_now_figures r0_now_goes r0_now_hampers r0_now_kinds r0_now_weights) o.1 A) ([.ref a_r0] : List Value).toArray s 0 0 A := ⟨_, rfl⟩
  rw [← hQ]
  refine lv_aload_n hx hb d_H_image_0 rfl (lv_at hl 0 rfl) ?_
  refine k_get i_H C hW 0 rfl rfl 1 (by decide) qf_H_16 rfl rfl d_H_image_1 ?_
  refine lv_aload_n hx hb d_H_image_4 rfl (lv_at hl 0 rfl) ?_
  refine k_get i_H C hW 0 rfl rfl 0 (by decide) qf_H_10 rfl rfl d_H_image_5 ?_
  obtain ⟨q_1, hc_1, hr⟩ := ob hr
  have ct_1 := C_Sta_copyFrom l D cI cS a_r0_kept a_r0_kept_fields a_r0_kept_fields_lefts a_r0_kept_fields_wishes a_r0_kept_figures a_r0_kept_goes a_r0_kept_hampers a_r0_kept_kinds a_r0_kept_weights a_r0_now a_r0_now_fields a_r0_now_fields_lefts a_r0_now_fields_wishes a_r0_now_figures a_r0_now_goes a_r0_now_hampers a_r0_now_kinds a_r0_now_weights r0_kept_days r0_kept_done r0_kept_things r0_kept_fields_lefts r0_kept_fields_wishes r0_kept_figures r0_kept_goes r0_kept_hampers r0_kept_kinds r0_kept_weights r0_now_days r0_now_done r0_now_things r0_now_fields_lefts r0_now_fields_wishes r0_now_figures r0_now_goes r0_now_hampers r0_now_kinds r0_now_weights q_1 hc_1
  refine k_goV hA hW [1, 2, 3, 4, 5, 6, 7, 8, 9, 10, 11, 12, 13, 14, 15, 16, 17, 18] rfl ct_1.1 (ws' := (w_H_image cI a_r0 a_r0_kept a_r0_kept_fields a_r0_kept_fields_lefts a_r0_kept_fields_wishes a_r0_kept_figures a_r0_kept_goes a_r0_kept_hampers a_r0_kept_kinds a_r0_kept_weights a_r0_now a_r0_now_fields a_r0_now_fields_lefts a_r0_now_fields_wishes a_r0_now_figures a_r0_now_goes a_r0_now_hampers a_r0_now_kinds a_r0_now_weights v_r0_trial v_r0_steps v_r0_letters v_r0_numbers v_r0_harvest v_r0_fraction v_r0_refusals r0_hasKept q_1.1 q_1.2.1 q_1.2.2.1 q_1.2.2.2.1 q_1.2.2.2.2.1 q_1.2.2.2.2.2.1 q_1.2.2.2.2.2.2.1 q_1.2.2.2.2.2.2.2.1 q_1.2.2.2.2.2.2.2.2.1 q_1.2.2.2.2.2.2.2.2.2 r0_now_days r0_now_done r0_now_things r0_now_fields_lefts r0_now_fields_wishes r0_now_figures r0_now_goes r0_now_hampers r0_now_kinds r0_now_weights)) rfl (k_runV C hA hW mw_Sta_copyFrom mv_Sta_copyFrom (ct_1.2 _) [1, 2, 3, 4, 5, 6, 7, 8, 9, 10, 11, 12, 13, 14, 15, 16, 17, 18] rfl rfl 1 rfl rfl qm_H_80 ⟨Nat.le_of_ble_eq_true rfl, Nat.le_of_ble_eq_true rfl, Nat.zero_le _, Nat.zero_le _⟩ rfl rfl (Nat.le_of_ble_eq_true rfl) hl.1 d_H_image_8) (fun H locs hW => ?_)
  refine lv_aload_n hx hb d_H_image_11 rfl (lv_at hl 0 rfl) ?_
  refine lv_iconst (v := 1) hx hb d_H_image_12 (by decide) ?_
  refine k_put i_H t_H_ok n_H C hW 0 rfl rfl 3 (by decide) qf_H_22 rfl rfl (ty := .boolean) rfl nar1 rfl (Nat.le_of_ble_eq_true rfl) (ws' := (w_H_image cI a_r0 a_r0_kept a_r0_kept_fields a_r0_kept_fields_lefts a_r0_kept_fields_wishes a_r0_kept_figures a_r0_kept_goes a_r0_kept_hampers a_r0_kept_kinds a_r0_kept_weights a_r0_now a_r0_now_fields a_r0_now_fields_lefts a_r0_now_fields_wishes a_r0_now_figures a_r0_now_goes a_r0_now_hampers a_r0_now_kinds a_r0_now_weights v_r0_trial v_r0_steps v_r0_letters v_r0_numbers v_r0_harvest v_r0_fraction v_r0_refusals 1 q_1.1 q_1.2.1 q_1.2.2.1 q_1.2.2.2.1 q_1.2.2.2.2.1 q_1.2.2.2.2.2.1 q_1.2.2.2.2.2.2.1 q_1.2.2.2.2.2.2.2.1 q_1.2.2.2.2.2.2.2.2.1 q_1.2.2.2.2.2.2.2.2.2 r0_now_days r0_now_done r0_now_things r0_now_fields_lefts r0_now_fields_wishes r0_now_figures r0_now_goes r0_now_hampers r0_now_kinds r0_now_weights)) rfl d_H_image_13 (fun H locs hW => ?_)
  refine lv_aload_n hx hb d_H_image_16 rfl (lv_at hl 0 rfl) ?_
  refine k_get i_H C hW 0 rfl rfl 0 (by decide) qf_H_10 rfl rfl d_H_image_17 ?_
  refine k_getN i_Sta C hW 10 rfl rfl 8 (by decide) qf_H_362 rfl rfl d_H_image_20 ?_
  obtain rfl := Option.some.inj hr
  rw [hQ]; exact k_iret C hret hW d_H_image_23
def F_H_isPart (x0 : Int32) : Option (Int32) :=
  (if x0 = 0 then (some 1) else (if x0 = 1 then (some 1) else (some 0)))
set_option maxHeartbeats 4000000 in
set_option maxRecDepth 100000 in
theorem C_H_isPart (l : Launch) (D : va_G) (cI cS : ClassId) (x0 : Int32) (o : Int32) (hr : F_H_isPart x0 = some o) : ctI l y_H_isPart (Cond.code y_H_isPart b_H_isPart 1 (some FieldType.boolean)) (rmd 0) D (kTy cI cS) [.int x0] [] [] o := by
  unfold F_H_isPart at hr
  refine ⟨rfl, fun sz => ct_of (w0 := []) (Qc := fun A => qI D [] o A) rfl (Nat.le_of_ble_eq_true rfl) ?_ sz⟩
  intro p e s m below meth c A hA C hret ls hl hW
  have C : cx p s m ([.int x0] : List Value).toArray meth c b_H_isPart 1 R_H D (kTy cI cS) (Cond.code y_H_isPart b_H_isPart 1 (some FieldType.boolean)) := C
  obtain ⟨hx, hb, hml, hown, hts, hK, hlk, hN⟩ := id C
  have hl : lv_has ls 1 [(0, .int x0)] := hl
  obtain ⟨Q, hQ⟩ : ∃ Q, Q = MQ below (qI D [] o A) ([.int x0] : List Value).toArray s 0 0 A := ⟨_, rfl⟩
  rw [← hQ]
  refine lv_iload_n hx hb d_H_isPart_0 rfl (lv_at hl 0 rfl) ?_
  refine lv_if_eq (tgt := 9) hx hb d_H_isPart_1 (by decide) (fun c_1 => ?_) (fun c_1 => ?_)
  · replace hr := ip c_1 hr
    refine lv_iconst (v := 1) hx hb d_H_isPart_9 (by decide) ?_
    refine lv_goto (tgt := 14) hx hb d_H_isPart_10 (by decide) ?_
    obtain rfl := Option.some.inj hr
    rw [hQ]; exact k_zret C hret nar1 hW d_H_isPart_14
  · replace hr := iN c_1 hr
    refine lv_iload_n hx hb d_H_isPart_4 rfl (lv_at hl 0 rfl) ?_
    refine lv_iconst (v := 1) hx hb d_H_isPart_5 (by decide) ?_
    refine lv_icmp_ne (tgt := 13) hx hb d_H_isPart_6 (by decide) (fun c_2 => ?_) (fun c_2 => ?_)
    · replace hr := iN c_2 hr
      refine lv_iconst (v := 0) hx hb d_H_isPart_13 (by decide) ?_
      obtain rfl := Option.some.inj hr
      rw [hQ]; exact k_zret C hret nar0 hW d_H_isPart_14
    · replace hr := ip c_2 hr
      refine lv_iconst (v := 1) hx hb d_H_isPart_9 (by decide) ?_
      refine lv_goto (tgt := 14) hx hb d_H_isPart_10 (by decide) ?_
      obtain rfl := Option.some.inj hr
      rw [hQ]; exact k_zret C hret nar1 hW d_H_isPart_14
def w_H_judge (cI : ClassId) (a_r0 a_r0_now a_r0_now_goes a_r0_now_hampers a_r0_now_weights a_r0_numbers a_r0_numbers_numbers : Nat) (v_r0_kept v_r0_trial v_r0_hasKept v_r0_steps v_r0_letters v_r0_harvest v_r0_fraction v_r0_refusals v_r0_now_kinds v_r0_now_figures v_r0_now_things v_r0_now_fields v_r0_now_done : Value) (r0_now_days : Int32) (r0_now_goes : Nat → Int32) (r0_now_hampers : Nat → Int32) (r0_now_weights : Nat → Int32) (r0_numbers_count : Int32) (r0_numbers_numbers : Nat → Int32) : va_W := [(a_r0, .inr (0, [.ref a_r0_now, v_r0_kept, v_r0_trial, v_r0_hasKept, v_r0_steps, v_r0_letters, .ref a_r0_numbers, v_r0_harvest, v_r0_fraction, v_r0_refusals])), (a_r0_now, .inr (1, [.ref a_r0_now_weights, v_r0_now_kinds, v_r0_now_figures, .ref a_r0_now_goes, v_r0_now_things, .ref a_r0_now_hampers, .int r0_now_days, v_r0_now_fields, v_r0_now_done])), (a_r0_now_goes, .inl (cI, 8, .inl r0_now_goes)), (a_r0_now_hampers, .inl (cI, 8, .inl r0_now_hampers)), (a_r0_now_weights, .inl (cI, 6, .inl r0_now_weights)), (a_r0_numbers, .inr (6, [.ref a_r0_numbers_numbers, .int r0_numbers_count])), (a_r0_numbers_numbers, .inl (cI, 12, .inl r0_numbers_numbers))]
def F_H_judge (r0_now_days : Int32) (r0_now_goes : Nat → Int32) (r0_now_hampers : Nat → Int32) (r0_now_weights : Nat → Int32) (r0_numbers_count : Int32) (r0_numbers_numbers : Nat → Int32) : Option (Int32 × (Int32)) :=
  ((F_Num_firstWrong r0_numbers_count r0_numbers_numbers r0_now_days r0_now_goes r0_now_hampers r0_now_weights).bind (fun q_1 => (some (q_1, 0))))
set_option maxHeartbeats 4000000 in
set_option maxRecDepth 100000 in
theorem C_H_judge (l : Launch) (D : va_G) (cI cS : ClassId) (a_r0 a_r0_now a_r0_now_goes a_r0_now_hampers a_r0_now_weights a_r0_numbers a_r0_numbers_numbers : Nat) (v_r0_kept v_r0_trial v_r0_hasKept v_r0_steps v_r0_letters v_r0_harvest v_r0_fraction v_r0_refusals v_r0_now_kinds v_r0_now_figures v_r0_now_things v_r0_now_fields v_r0_now_done : Value) (r0_now_days : Int32) (r0_now_goes : Nat → Int32) (r0_now_hampers : Nat → Int32) (r0_now_weights : Nat → Int32) (r0_numbers_count : Int32) (r0_numbers_numbers : Nat → Int32) (o : Int32 × (Int32)) (hr : F_H_judge r0_now_days r0_now_goes r0_now_hampers r0_now_weights r0_numbers_count r0_numbers_numbers = some o) : ctI l y_H_judge (Cond.code y_H_judge b_H_judge 2 (some FieldType.int)) (rmd 5) D (kTy cI cS) [.ref a_r0] (w_H_judge cI a_r0 a_r0_now a_r0_now_goes a_r0_now_hampers a_r0_now_weights a_r0_numbers a_r0_numbers_numbers v_r0_kept v_r0_trial v_r0_hasKept v_r0_steps v_r0_letters v_r0_harvest v_r0_fraction v_r0_refusals v_r0_now_kinds v_r0_now_figures v_r0_now_things v_r0_now_fields v_r0_now_done r0_now_days r0_now_goes r0_now_hampers r0_now_weights r0_numbers_count r0_numbers_numbers) (w_H_judge cI a_r0 a_r0_now a_r0_now_goes a_r0_now_hampers a_r0_now_weights a_r0_numbers a_r0_numbers_numbers v_r0_kept v_r0_trial v_r0_hasKept v_r0_steps v_r0_letters v_r0_harvest v_r0_fraction v_r0_refusals v_r0_now_kinds v_r0_now_figures v_r0_now_things v_r0_now_fields v_r0_now_done r0_now_days r0_now_goes r0_now_hampers r0_now_weights o.2 r0_numbers_numbers) o.1 := by
  unfold F_H_judge at hr
  refine ⟨rfl, fun sz => ct_of (w0 := (w_H_judge cI a_r0 a_r0_now a_r0_now_goes a_r0_now_hampers a_r0_now_weights a_r0_numbers a_r0_numbers_numbers v_r0_kept v_r0_trial v_r0_hasKept v_r0_steps v_r0_letters v_r0_harvest v_r0_fraction v_r0_refusals v_r0_now_kinds v_r0_now_figures v_r0_now_things v_r0_now_fields v_r0_now_done r0_now_days r0_now_goes r0_now_hampers r0_now_weights r0_numbers_count r0_numbers_numbers)) (Qc := fun A => qI D (w_H_judge cI a_r0 a_r0_now a_r0_now_goes a_r0_now_hampers a_r0_now_weights a_r0_numbers a_r0_numbers_numbers v_r0_kept v_r0_trial v_r0_hasKept v_r0_steps v_r0_letters v_r0_harvest v_r0_fraction v_r0_refusals v_r0_now_kinds v_r0_now_figures v_r0_now_things v_r0_now_fields v_r0_now_done r0_now_days r0_now_goes r0_now_hampers r0_now_weights o.2 r0_numbers_numbers) o.1 A) rfl (Nat.le_of_ble_eq_true rfl) ?_ sz⟩
  intro p e s m below meth c A hA C hret ls hl hW
  have C : cx p s m ([.ref a_r0] : List Value).toArray meth c b_H_judge 2 R_H D (kTy cI cS) (Cond.code y_H_judge b_H_judge 2 (some FieldType.int)) := C
  obtain ⟨hx, hb, hml, hown, hts, hK, hlk, hN⟩ := id C
  have hl : lv_has ls 2 [(0, .ref a_r0)] := hl
  obtain ⟨Q, hQ⟩ : ∃ Q, Q = MQ below (qI D (w_H_judge cI a_r0 a_r0_now a_r0_now_goes a_r0_now_hampers a_r0_now_weights a_r0_numbers a_r0_numbers_numbers v_r0_kept v_r0_trial v_r0_hasKept v_r0_steps v_r0_letters v_r0_harvest v_r0_fraction v_r0_refusals v_r0_now_kinds v_r0_now_figures v_r0_now_things v_r0_now_fields v_r0_now_done r0_now_days r0_now_goes r0_now_hampers r0_now_weights o.2 r0_numbers_numbers) o.1 A) ([.ref a_r0] : List Value).toArray s 0 0 A := ⟨_, rfl⟩
  rw [← hQ]
  refine lv_aload_n hx hb d_H_judge_0 rfl (lv_at hl 0 rfl) ?_
  refine k_get i_H C hW 0 rfl rfl 6 (by decide) qf_H_43 rfl rfl d_H_judge_1 ?_
  refine lv_aload_n hx hb d_H_judge_4 rfl (lv_at hl 0 rfl) ?_
  refine k_get i_H C hW 0 rfl rfl 0 (by decide) qf_H_10 rfl rfl d_H_judge_5 ?_
  obtain ⟨q_1, hc_1, hr⟩ := ob hr
  have ct_1 := C_Num_firstWrong l D cI cS a_r0_numbers a_r0_numbers_numbers a_r0_now a_r0_now_goes a_r0_now_hampers a_r0_now_weights v_r0_now_kinds v_r0_now_figures v_r0_now_things v_r0_now_fields v_r0_now_done r0_numbers_count r0_numbers_numbers r0_now_days r0_now_goes r0_now_hampers r0_now_weights q_1 hc_1
  refine k_goIp hA hW [5, 6, 1, 2, 3, 4] rfl rfl (k_runV C hA hW mw_Num_firstWrong mv_Num_firstWrong (ct_1.2 _) [5, 6, 1, 2, 3, 4] rfl rfl 5 rfl rfl qm_H_349 ⟨Nat.le_of_ble_eq_true rfl, Nat.le_of_ble_eq_true rfl, Nat.zero_le _, Nat.zero_le _⟩ rfl rfl (Nat.le_of_ble_eq_true rfl) hl.1 d_H_judge_8) (fun H locs hW => ?_)
  refine lv_istore_n (lv' := [(1, .int q_1), (0, .ref a_r0)]) hx hb d_H_judge_11 rfl hl (by decide) rfl (fun ls hl => ?_)
  refine lv_aload_n hx hb d_H_judge_12 rfl (lv_at hl 1 rfl) ?_
  refine k_get i_H C hW 0 rfl rfl 6 (by decide) qf_H_43 rfl rfl d_H_judge_13 ?_
  refine lv_iconst (v := 0) hx hb d_H_judge_16 (by decide) ?_
  refine k_putN i_Num t_Num_ok n_Num C hW 5 rfl rfl 1 (by decide) qf_H_347 rfl rfl (ty := .int) rfl rfl rfl (Nat.le_of_ble_eq_true rfl) (ws' := (w_H_judge cI a_r0 a_r0_now a_r0_now_goes a_r0_now_hampers a_r0_now_weights a_r0_numbers a_r0_numbers_numbers v_r0_kept v_r0_trial v_r0_hasKept v_r0_steps v_r0_letters v_r0_harvest v_r0_fraction v_r0_refusals v_r0_now_kinds v_r0_now_figures v_r0_now_things v_r0_now_fields v_r0_now_done r0_now_days r0_now_goes r0_now_hampers r0_now_weights 0 r0_numbers_numbers)) rfl d_H_judge_17 (fun H locs hW => ?_)
  refine lv_iload_n hx hb d_H_judge_20 rfl (lv_at hl 0 rfl) ?_
  obtain rfl := Option.some.inj hr
  rw [hQ]; exact k_iret C hret hW d_H_judge_21
def w_H_lightest (cI : ClassId) (a_r0 a_r0_now a_r0_now_figures a_r0_now_hampers a_r0_now_kinds a_r0_refusals : Nat) (v_r0_kept v_r0_trial v_r0_hasKept v_r0_steps v_r0_letters v_r0_numbers v_r0_harvest v_r0_fraction v_r0_now_weights v_r0_now_goes v_r0_now_things v_r0_now_fields v_r0_now_done : Value) (r0_now_days : Int32) (r0_now_figures : Nat → Int32) (r0_now_hampers : Nat → Int32) (r0_now_kinds : Nat → Int32) (r0_refusals : Nat → Int32) : va_W := [(a_r0, .inr (0, [.ref a_r0_now, v_r0_kept, v_r0_trial, v_r0_hasKept, v_r0_steps, v_r0_letters, v_r0_numbers, v_r0_harvest, v_r0_fraction, .ref a_r0_refusals])), (a_r0_now, .inr (1, [v_r0_now_weights, .ref a_r0_now_kinds, .ref a_r0_now_figures, v_r0_now_goes, v_r0_now_things, .ref a_r0_now_hampers, .int r0_now_days, v_r0_now_fields, v_r0_now_done])), (a_r0_now_figures, .inl (cI, 8, .inl r0_now_figures)), (a_r0_now_hampers, .inl (cI, 8, .inl r0_now_hampers)), (a_r0_now_kinds, .inl (cI, 8, .inl r0_now_kinds)), (a_r0_refusals, .inl (cI, 7, .inl r0_refusals))]
def F_H_lightest_J16_2 (r0_now_days : Int32) (r0_now_figures : Nat → Int32) (r0_now_hampers : Nat → Int32) (r0_now_kinds : Nat → Int32) (r0_refusals : Nat → Int32) (x1 : Int32) : Option (Int32 × (Nat → Int32)) :=
  ((F_Dia_lightestDay r0_now_days r0_now_figures r0_now_hampers r0_now_kinds).bind (fun q_3 => (if x1 = 0 then (some (q_3, r0_refusals)) else (if (0 : Int32) ≤ q_3 then ((F_Sta_hamperOf r0_now_days r0_now_hampers q_3).bind (fun q_6 => ((F_Sta_heavyOf r0_now_figures r0_now_kinds q_6).bind (fun q_7 => (some (q_7, r0_refusals)))))) else (some (q_3, r0_refusals))))))
def F_H_lightest (r0_now_days : Int32) (r0_now_figures : Nat → Int32) (r0_now_hampers : Nat → Int32) (r0_now_kinds : Nat → Int32) (r0_refusals : Nat → Int32) (x1 : Int32) : Option (Int32 × (Nat → Int32)) :=
  (if x1 = 0 then (F_H_lightest_J16_2 r0_now_days r0_now_figures r0_now_hampers r0_now_kinds r0_refusals x1) else (if x1 = 1 then (F_H_lightest_J16_2 r0_now_days r0_now_figures r0_now_hampers r0_now_kinds r0_refusals x1) else ((F_H_refused r0_refusals ((-2) : Int32)).bind (fun q_9 => (some (q_9.1, q_9.2))))))
set_option maxHeartbeats 4000000 in
set_option maxRecDepth 100000 in
theorem C_H_lightest (l : Launch) (D : va_G) (cI cS : ClassId) (a_r0 a_r0_now a_r0_now_figures a_r0_now_hampers a_r0_now_kinds a_r0_refusals : Nat) (v_r0_kept v_r0_trial v_r0_hasKept v_r0_steps v_r0_letters v_r0_numbers v_r0_harvest v_r0_fraction v_r0_now_weights v_r0_now_goes v_r0_now_things v_r0_now_fields v_r0_now_done : Value) (r0_now_days : Int32) (r0_now_figures : Nat → Int32) (r0_now_hampers : Nat → Int32) (r0_now_kinds : Nat → Int32) (r0_refusals : Nat → Int32) (x1 : Int32) (o : Int32 × (Nat → Int32)) (hr : F_H_lightest r0_now_days r0_now_figures r0_now_hampers r0_now_kinds r0_refusals x1 = some o) : ctI l y_H_lightest (Cond.code y_H_lightest b_H_lightest 3 (some FieldType.int)) (rmd 3) D (kTy cI cS) [.ref a_r0, .int x1] (w_H_lightest cI a_r0 a_r0_now a_r0_now_figures a_r0_now_hampers a_r0_now_kinds a_r0_refusals v_r0_kept v_r0_trial v_r0_hasKept v_r0_steps v_r0_letters v_r0_numbers v_r0_harvest v_r0_fraction v_r0_now_weights v_r0_now_goes v_r0_now_things v_r0_now_fields v_r0_now_done r0_now_days r0_now_figures r0_now_hampers r0_now_kinds r0_refusals) (w_H_lightest cI a_r0 a_r0_now a_r0_now_figures a_r0_now_hampers a_r0_now_kinds a_r0_refusals v_r0_kept v_r0_trial v_r0_hasKept v_r0_steps v_r0_letters v_r0_numbers v_r0_harvest v_r0_fraction v_r0_now_weights v_r0_now_goes v_r0_now_things v_r0_now_fields v_r0_now_done r0_now_days r0_now_figures r0_now_hampers r0_now_kinds o.2) o.1 := by
  unfold F_H_lightest at hr
  refine ⟨rfl, fun sz => ct_of (w0 := (w_H_lightest cI a_r0 a_r0_now a_r0_now_figures a_r0_now_hampers a_r0_now_kinds a_r0_refusals v_r0_kept v_r0_trial v_r0_hasKept v_r0_steps v_r0_letters v_r0_numbers v_r0_harvest v_r0_fraction v_r0_now_weights v_r0_now_goes v_r0_now_things v_r0_now_fields v_r0_now_done r0_now_days r0_now_figures r0_now_hampers r0_now_kinds r0_refusals)) (Qc := fun A => qI D (w_H_lightest cI a_r0 a_r0_now a_r0_now_figures a_r0_now_hampers a_r0_now_kinds a_r0_refusals v_r0_kept v_r0_trial v_r0_hasKept v_r0_steps v_r0_letters v_r0_numbers v_r0_harvest v_r0_fraction v_r0_now_weights v_r0_now_goes v_r0_now_things v_r0_now_fields v_r0_now_done r0_now_days r0_now_figures r0_now_hampers r0_now_kinds o.2) o.1 A) rfl (Nat.le_of_ble_eq_true rfl) ?_ sz⟩
  intro p e s m below meth c A hA C hret ls hl hW
  have C : cx p s m ([.ref a_r0, .int x1] : List Value).toArray meth c b_H_lightest 3 R_H D (kTy cI cS) (Cond.code y_H_lightest b_H_lightest 3 (some FieldType.int)) := C
  obtain ⟨hx, hb, hml, hown, hts, hK, hlk, hN⟩ := id C
  have hl : lv_has ls 3 [(0, .ref a_r0), (1, .int x1)] := hl
  obtain ⟨Q, hQ⟩ : ∃ Q, Q = MQ below (qI D (w_H_lightest cI a_r0 a_r0_now a_r0_now_figures a_r0_now_hampers a_r0_now_kinds a_r0_refusals v_r0_kept v_r0_trial v_r0_hasKept v_r0_steps v_r0_letters v_r0_numbers v_r0_harvest v_r0_fraction v_r0_now_weights v_r0_now_goes v_r0_now_things v_r0_now_fields v_r0_now_done r0_now_days r0_now_figures r0_now_hampers r0_now_kinds o.2) o.1 A) ([.ref a_r0, .int x1] : List Value).toArray s 0 0 A := ⟨_, rfl⟩
  rw [← hQ]
  refine lv_iload_n hx hb d_H_lightest_0 rfl (lv_at hl 1 rfl) ?_
  have hJ_2 : ∀ (_ : Unit), F_H_lightest_J16_2 r0_now_days r0_now_figures r0_now_hampers r0_now_kinds r0_refusals x1 = some o → ∀ (H : Heap) (locs : List Loc) (ls : Array Slot), wd A s.heap D (w_H_lightest cI a_r0 a_r0_now a_r0_now_figures a_r0_now_hampers a_r0_now_kinds a_r0_refusals v_r0_kept v_r0_trial v_r0_hasKept v_r0_steps v_r0_letters v_r0_numbers v_r0_harvest v_r0_fraction v_r0_now_weights v_r0_now_goes v_r0_now_things v_r0_now_fields v_r0_now_done r0_now_days r0_now_figures r0_now_hampers r0_now_kinds r0_refusals) H locs → lv_has ls 3 [(0, .ref a_r0), (1, .int x1)] → W p l e (rmd 3) s m ([.ref a_r0, .int x1] : List Value).toArray below meth c H locs 0 0 Q (F0 m 16 ls []) := by
    intro _ hr H locs ls hW hl
    unfold F_H_lightest_J16_2 at hr
    refine lv_aload_n hx hb d_H_lightest_16 rfl (lv_at hl 0 rfl) ?_
    refine k_get i_H C hW 0 rfl rfl 0 (by decide) qf_H_10 rfl rfl d_H_lightest_17 ?_
    obtain ⟨q_3, hc_3, hr⟩ := ob hr
    have ct_3 := C_Dia_lightestDay l D cI cS a_r0_now a_r0_now_figures a_r0_now_hampers a_r0_now_kinds v_r0_now_weights v_r0_now_goes v_r0_now_things v_r0_now_fields v_r0_now_done r0_now_days r0_now_figures r0_now_hampers r0_now_kinds q_3 hc_3
    refine k_goIp hA hW [1, 2, 3, 4] rfl rfl (k_runS C hA hW mw_Dia_lightestDay ms_Dia_lightestDay (ct_3.2 _) [1, 2, 3, 4] rfl rfl qm_H_314 ⟨Nat.le_of_ble_eq_true rfl, Nat.le_of_ble_eq_true rfl, Nat.zero_le _, Nat.zero_le _⟩ rfl rfl (Nat.le_of_ble_eq_true rfl) hl.1 d_H_lightest_20) (fun H locs hW => ?_)
    refine lv_istore_n (lv' := [(2, .int q_3), (0, .ref a_r0), (1, .int x1)]) hx hb d_H_lightest_23 rfl hl (by decide) rfl (fun ls hl => ?_)
    refine lv_iload_n hx hb d_H_lightest_24 rfl (lv_at hl 2 rfl) ?_
    refine lv_if_eq (tgt := 32) hx hb d_H_lightest_25 (by decide) (fun c_4 => ?_) (fun c_4 => ?_)
    · replace hr := ip c_4 hr
      refine lv_iload_n hx hb d_H_lightest_32 rfl (lv_at hl 0 rfl) ?_
      refine lv_goto (tgt := 51) hx hb d_H_lightest_33 (by decide) ?_
      obtain rfl := Option.some.inj hr
      rw [hQ]; exact k_iret C hret hW d_H_lightest_51
    · replace hr := iN c_4 hr
      refine lv_iload_n hx hb d_H_lightest_28 rfl (lv_at hl 0 rfl) ?_
      refine lv_if_ge (tgt := 36) hx hb d_H_lightest_29 (by decide) (fun c_5 => ?_) (fun c_5 => ?_)
      · replace hr := ip c_5 hr
        refine lv_aload_n hx hb d_H_lightest_36 rfl (lv_at hl 1 rfl) ?_
        refine k_get i_H C hW 0 rfl rfl 0 (by decide) qf_H_10 rfl rfl d_H_lightest_37 ?_
        refine lv_aload_n hx hb d_H_lightest_40 rfl (lv_at hl 1 rfl) ?_
        refine k_get i_H C hW 0 rfl rfl 0 (by decide) qf_H_10 rfl rfl d_H_lightest_41 ?_
        refine lv_iload_n hx hb d_H_lightest_44 rfl (lv_at hl 0 rfl) ?_
        obtain ⟨q_6, hc_6, hr⟩ := ob hr
        have ct_6 := C_Sta_hamperOf l D cI cS a_r0_now a_r0_now_hampers v_r0_now_weights (Value.ref a_r0_now_kinds) (Value.ref a_r0_now_figures) v_r0_now_goes v_r0_now_things v_r0_now_fields v_r0_now_done r0_now_days r0_now_hampers q_3 q_6 hc_6
        refine k_goIp hA hW [1, 3] rfl rfl (k_runV C hA hW mw_Sta_hamperOf mv_Sta_hamperOf (ct_6.2 _) [1, 3] rfl rfl 1 rfl rfl qm_H_317 ⟨Nat.le_of_ble_eq_true rfl, Nat.le_of_ble_eq_true rfl, Nat.zero_le _, Nat.zero_le _⟩ rfl rfl (Nat.le_of_ble_eq_true rfl) hl.1 d_H_lightest_45) (fun H locs hW => ?_)
        obtain ⟨q_7, hc_7, hr⟩ := ob hr
        have ct_7 := C_Sta_heavyOf l D cI cS a_r0_now a_r0_now_figures a_r0_now_kinds v_r0_now_weights v_r0_now_goes v_r0_now_things (Value.ref a_r0_now_hampers) (Value.int r0_now_days) v_r0_now_fields v_r0_now_done r0_now_figures r0_now_kinds q_6 q_7 hc_7
        refine k_goIp hA hW [1, 2, 4] rfl rfl (k_runV C hA hW mw_Sta_heavyOf mv_Sta_heavyOf (ct_7.2 _) [1, 2, 4] rfl rfl 1 rfl rfl qm_H_119 ⟨Nat.le_of_ble_eq_true rfl, Nat.le_of_ble_eq_true rfl, Nat.zero_le _, Nat.zero_le _⟩ rfl rfl (Nat.le_of_ble_eq_true rfl) hl.1 d_H_lightest_48) (fun H locs hW => ?_)
        obtain rfl := Option.some.inj hr
        rw [hQ]; exact k_iret C hret hW d_H_lightest_51
      · replace hr := iN c_5 hr
        refine lv_iload_n hx hb d_H_lightest_32 rfl (lv_at hl 0 rfl) ?_
        refine lv_goto (tgt := 51) hx hb d_H_lightest_33 (by decide) ?_
        obtain rfl := Option.some.inj hr
        rw [hQ]; exact k_iret C hret hW d_H_lightest_51
  refine lv_if_eq (tgt := 16) hx hb d_H_lightest_1 (by decide) (fun c_1 => ?_) (fun c_1 => ?_)
  · replace hr := ip c_1 hr
    exact hJ_2 () hr _ _ _ hW (lv_sub hl [0, 1] rfl)
  · replace hr := iN c_1 hr
    refine lv_iload_n hx hb d_H_lightest_4 rfl (lv_at hl 1 rfl) ?_
    refine lv_iconst (v := 1) hx hb d_H_lightest_5 (by decide) ?_
    refine lv_icmp_eq (tgt := 16) hx hb d_H_lightest_6 (by decide) (fun c_8 => ?_) (fun c_8 => ?_)
    · replace hr := ip c_8 hr
      exact hJ_2 () hr _ _ _ hW (lv_sub hl [0, 1] rfl)
    · replace hr := iN c_8 hr
      refine lv_aload_n hx hb d_H_lightest_9 rfl (lv_at hl 0 rfl) ?_
      refine lv_bipush (v := (-2)) hx hb d_H_lightest_10 (by decide) ?_
      obtain ⟨q_9, hc_9, hr⟩ := ob hr
      have ct_9 := C_H_refused l D cI cS a_r0 a_r0_refusals (Value.ref a_r0_now) v_r0_kept v_r0_trial v_r0_hasKept v_r0_steps v_r0_letters v_r0_numbers v_r0_harvest v_r0_fraction r0_refusals (-2) q_9 hc_9
      refine k_goI hA hW [0, 5] rfl ct_9.1 (ws' := (w_H_lightest cI a_r0 a_r0_now a_r0_now_figures a_r0_now_hampers a_r0_now_kinds a_r0_refusals v_r0_kept v_r0_trial v_r0_hasKept v_r0_steps v_r0_letters v_r0_numbers v_r0_harvest v_r0_fraction v_r0_now_weights v_r0_now_goes v_r0_now_things v_r0_now_fields v_r0_now_done r0_now_days r0_now_figures r0_now_hampers r0_now_kinds q_9.2)) rfl (k_runV C hA hW mw_H_refused mv_H_refused (ct_9.2 _) [0, 5] rfl rfl 0 rfl rfl qm_H_65 ⟨Nat.le_of_ble_eq_true rfl, Nat.le_of_ble_eq_true rfl, Nat.zero_le _, Nat.zero_le _⟩ rfl rfl (Nat.le_of_ble_eq_true rfl) hl.1 d_H_lightest_12) (fun H locs hW => ?_)
      obtain rfl := Option.some.inj hr
      rw [hQ]; exact k_iret C hret hW d_H_lightest_15
def w_H_looks (cI : ClassId) (a_r0 a_r0_now a_r0_now_goes a_r0_now_hampers a_r0_refusals : Nat) (v_r0_kept v_r0_trial v_r0_hasKept v_r0_steps v_r0_letters v_r0_numbers v_r0_harvest v_r0_fraction v_r0_now_weights v_r0_now_kinds v_r0_now_figures v_r0_now_fields v_r0_now_done : Value) (r0_now_days : Int32) (r0_now_things : Int32) (r0_now_goes : Nat → Int32) (r0_now_hampers : Nat → Int32) (r0_refusals : Nat → Int32) : va_W := [(a_r0, .inr (0, [.ref a_r0_now, v_r0_kept, v_r0_trial, v_r0_hasKept, v_r0_steps, v_r0_letters, v_r0_numbers, v_r0_harvest, v_r0_fraction, .ref a_r0_refusals])), (a_r0_now, .inr (1, [v_r0_now_weights, v_r0_now_kinds, v_r0_now_figures, .ref a_r0_now_goes, .int r0_now_things, .ref a_r0_now_hampers, .int r0_now_days, v_r0_now_fields, v_r0_now_done])), (a_r0_now_goes, .inl (cI, 8, .inl r0_now_goes)), (a_r0_now_hampers, .inl (cI, 8, .inl r0_now_hampers)), (a_r0_refusals, .inl (cI, 7, .inl r0_refusals))]
def F_H_looks (r0_now_days : Int32) (r0_now_things : Int32) (r0_now_goes : Nat → Int32) (r0_now_hampers : Nat → Int32) (r0_refusals : Nat → Int32) (x1 : Int32) : Option (Int32 × (Nat → Int32)) :=
  ((F_Sta_hasDay r0_now_days x1).bind (fun q_1 => (if q_1 = 0 then ((F_H_refused r0_refusals ((-1) : Int32)).bind (fun q_6 => (some (q_6.1, q_6.2)))) else (ck x1 8 ((F_Sta_couldBe r0_now_goes (r0_now_hampers (Int32.toNatClampNeg x1))).bind (fun q_4 => ((F_Set_fewest r0_now_things r0_now_goes (r0_now_hampers (Int32.toNatClampNeg x1)) q_4).bind (fun q_5 => (some (q_5, r0_refusals))))))))))
set_option maxHeartbeats 4000000 in
set_option maxRecDepth 100000 in
theorem C_H_looks (l : Launch) (D : va_G) (cI cS : ClassId) (a_r0 a_r0_now a_r0_now_goes a_r0_now_hampers a_r0_refusals : Nat) (v_r0_kept v_r0_trial v_r0_hasKept v_r0_steps v_r0_letters v_r0_numbers v_r0_harvest v_r0_fraction v_r0_now_weights v_r0_now_kinds v_r0_now_figures v_r0_now_fields v_r0_now_done : Value) (r0_now_days : Int32) (r0_now_things : Int32) (r0_now_goes : Nat → Int32) (r0_now_hampers : Nat → Int32) (r0_refusals : Nat → Int32) (x1 : Int32) (o : Int32 × (Nat → Int32)) (hr : F_H_looks r0_now_days r0_now_things r0_now_goes r0_now_hampers r0_refusals x1 = some o) : ctI l y_H_looks (Cond.code y_H_looks b_H_looks 3 (some FieldType.int)) (rmd 3) D (kTy cI cS) [.ref a_r0, .int x1] (w_H_looks cI a_r0 a_r0_now a_r0_now_goes a_r0_now_hampers a_r0_refusals v_r0_kept v_r0_trial v_r0_hasKept v_r0_steps v_r0_letters v_r0_numbers v_r0_harvest v_r0_fraction v_r0_now_weights v_r0_now_kinds v_r0_now_figures v_r0_now_fields v_r0_now_done r0_now_days r0_now_things r0_now_goes r0_now_hampers r0_refusals) (w_H_looks cI a_r0 a_r0_now a_r0_now_goes a_r0_now_hampers a_r0_refusals v_r0_kept v_r0_trial v_r0_hasKept v_r0_steps v_r0_letters v_r0_numbers v_r0_harvest v_r0_fraction v_r0_now_weights v_r0_now_kinds v_r0_now_figures v_r0_now_fields v_r0_now_done r0_now_days r0_now_things r0_now_goes r0_now_hampers o.2) o.1 := by
  unfold F_H_looks at hr
  refine ⟨rfl, fun sz => ct_of (w0 := (w_H_looks cI a_r0 a_r0_now a_r0_now_goes a_r0_now_hampers a_r0_refusals v_r0_kept v_r0_trial v_r0_hasKept v_r0_steps v_r0_letters v_r0_numbers v_r0_harvest v_r0_fraction v_r0_now_weights v_r0_now_kinds v_r0_now_figures v_r0_now_fields v_r0_now_done r0_now_days r0_now_things r0_now_goes r0_now_hampers r0_refusals)) (Qc := fun A => qI D (w_H_looks cI a_r0 a_r0_now a_r0_now_goes a_r0_now_hampers a_r0_refusals v_r0_kept v_r0_trial v_r0_hasKept v_r0_steps v_r0_letters v_r0_numbers v_r0_harvest v_r0_fraction v_r0_now_weights v_r0_now_kinds v_r0_now_figures v_r0_now_fields v_r0_now_done r0_now_days r0_now_things r0_now_goes r0_now_hampers o.2) o.1 A) rfl (Nat.le_of_ble_eq_true rfl) ?_ sz⟩
  intro p e s m below meth c A hA C hret ls hl hW
  have C : cx p s m ([.ref a_r0, .int x1] : List Value).toArray meth c b_H_looks 3 R_H D (kTy cI cS) (Cond.code y_H_looks b_H_looks 3 (some FieldType.int)) := C
  obtain ⟨hx, hb, hml, hown, hts, hK, hlk, hN⟩ := id C
  have hl : lv_has ls 3 [(0, .ref a_r0), (1, .int x1)] := hl
  obtain ⟨Q, hQ⟩ : ∃ Q, Q = MQ below (qI D (w_H_looks cI a_r0 a_r0_now a_r0_now_goes a_r0_now_hampers a_r0_refusals v_r0_kept v_r0_trial v_r0_hasKept v_r0_steps v_r0_letters v_r0_numbers v_r0_harvest v_r0_fraction v_r0_now_weights v_r0_now_kinds v_r0_now_figures v_r0_now_fields v_r0_now_done r0_now_days r0_now_things r0_now_goes r0_now_hampers o.2) o.1 A) ([.ref a_r0, .int x1] : List Value).toArray s 0 0 A := ⟨_, rfl⟩
  rw [← hQ]
  refine lv_aload_n hx hb d_H_looks_0 rfl (lv_at hl 0 rfl) ?_
  refine k_get i_H C hW 0 rfl rfl 0 (by decide) qf_H_10 rfl rfl d_H_looks_1 ?_
  refine lv_iload_n hx hb d_H_looks_4 rfl (lv_at hl 1 rfl) ?_
  obtain ⟨q_1, hc_1, hr⟩ := ob hr
  have ct_1 := C_Sta_hasDay l D cI cS a_r0_now v_r0_now_weights v_r0_now_kinds v_r0_now_figures (Value.ref a_r0_now_goes) (Value.int r0_now_things) (Value.ref a_r0_now_hampers) v_r0_now_fields v_r0_now_done r0_now_days x1 q_1 hc_1
  refine k_goIp hA hW [1] rfl rfl (k_runV C hA hW mw_Sta_hasDay mv_Sta_hasDay (ct_1.2 _) [1] rfl rfl 1 rfl rfl qm_H_107 ⟨Nat.le_of_ble_eq_true rfl, Nat.le_of_ble_eq_true rfl, Nat.zero_le _, Nat.zero_le _⟩ rfl rfl (Nat.le_of_ble_eq_true rfl) hl.1 d_H_looks_5) (fun H locs hW => ?_)
  refine lv_if_ne (tgt := 17) hx hb d_H_looks_8 (by decide) (fun c_2 => ?_) (fun c_2 => ?_)
  · replace hr := iN c_2 hr
    refine lv_aload_n hx hb d_H_looks_17 rfl (lv_at hl 0 rfl) ?_
    refine k_get i_H C hW 0 rfl rfl 0 (by decide) qf_H_10 rfl rfl d_H_looks_18 ?_
    refine k_getN i_Sta C hW 1 rfl rfl 5 (by decide) qf_H_110 rfl rfl d_H_looks_21 ?_
    refine lv_iload_n hx hb d_H_looks_24 rfl (lv_at hl 1 rfl) ?_
    obtain ⟨h_3, hr⟩ := ck_some hr
    refine k_iald C hW 3 rfl h_3 d_H_looks_25 ?_
    refine lv_istore_n (lv' := [(2, .int (r0_now_hampers (Int32.toNatClampNeg x1))), (0, .ref a_r0), (1, .int x1)]) hx hb d_H_looks_26 rfl hl (by decide) rfl (fun ls hl => ?_)
    refine lv_aload_n hx hb d_H_looks_27 rfl (lv_at hl 1 rfl) ?_
    refine k_get i_H C hW 0 rfl rfl 0 (by decide) qf_H_10 rfl rfl d_H_looks_28 ?_
    refine lv_iload_n hx hb d_H_looks_31 rfl (lv_at hl 0 rfl) ?_
    refine lv_aload_n hx hb d_H_looks_32 rfl (lv_at hl 1 rfl) ?_
    refine k_get i_H C hW 0 rfl rfl 0 (by decide) qf_H_10 rfl rfl d_H_looks_33 ?_
    refine lv_iload_n hx hb d_H_looks_36 rfl (lv_at hl 0 rfl) ?_
    obtain ⟨q_4, hc_4, hr⟩ := ob hr
    have ct_4 := C_Sta_couldBe l D cI cS a_r0_now a_r0_now_goes v_r0_now_weights v_r0_now_kinds v_r0_now_figures (Value.int r0_now_things) (Value.ref a_r0_now_hampers) (Value.int r0_now_days) v_r0_now_fields v_r0_now_done r0_now_goes (r0_now_hampers (Int32.toNatClampNeg x1)) q_4 hc_4
    refine k_goIp hA hW [1, 2] rfl rfl (k_runV C hA hW mw_Sta_couldBe mv_Sta_couldBe (ct_4.2 _) [1, 2] rfl rfl 1 rfl rfl qm_H_113 ⟨Nat.le_of_ble_eq_true rfl, Nat.le_of_ble_eq_true rfl, Nat.zero_le _, Nat.zero_le _⟩ rfl rfl (Nat.le_of_ble_eq_true rfl) hl.1 d_H_looks_37) (fun H locs hW => ?_)
    obtain ⟨q_5, hc_5, hr⟩ := ob hr
    have ct_5 := C_Set_fewest l D cI cS a_r0_now a_r0_now_goes v_r0_now_weights v_r0_now_kinds v_r0_now_figures (Value.ref a_r0_now_hampers) (Value.int r0_now_days) v_r0_now_fields v_r0_now_done r0_now_things r0_now_goes (r0_now_hampers (Int32.toNatClampNeg x1)) q_4 q_5 hc_5
    refine k_goIp hA hW [1, 2] rfl rfl (k_runS C hA hW mw_Set_fewest ms_Set_fewest (ct_5.2 _) [1, 2] rfl rfl qm_H_228 ⟨Nat.le_of_ble_eq_true rfl, Nat.le_of_ble_eq_true rfl, Nat.zero_le _, Nat.zero_le _⟩ rfl rfl (Nat.le_of_ble_eq_true rfl) hl.1 d_H_looks_40) (fun H locs hW => ?_)
    obtain rfl := Option.some.inj hr
    rw [hQ]; exact k_iret C hret hW d_H_looks_43
  · replace hr := ip c_2 hr
    refine lv_aload_n hx hb d_H_looks_11 rfl (lv_at hl 0 rfl) ?_
    refine lv_iconst (v := (-1)) hx hb d_H_looks_12 (by decide) ?_
    obtain ⟨q_6, hc_6, hr⟩ := ob hr
    have ct_6 := C_H_refused l D cI cS a_r0 a_r0_refusals (Value.ref a_r0_now) v_r0_kept v_r0_trial v_r0_hasKept v_r0_steps v_r0_letters v_r0_numbers v_r0_harvest v_r0_fraction r0_refusals (-1) q_6 hc_6
    refine k_goI hA hW [0, 4] rfl ct_6.1 (ws' := (w_H_looks cI a_r0 a_r0_now a_r0_now_goes a_r0_now_hampers a_r0_refusals v_r0_kept v_r0_trial v_r0_hasKept v_r0_steps v_r0_letters v_r0_numbers v_r0_harvest v_r0_fraction v_r0_now_weights v_r0_now_kinds v_r0_now_figures v_r0_now_fields v_r0_now_done r0_now_days r0_now_things r0_now_goes r0_now_hampers q_6.2)) rfl (k_runV C hA hW mw_H_refused mv_H_refused (ct_6.2 _) [0, 4] rfl rfl 0 rfl rfl qm_H_65 ⟨Nat.le_of_ble_eq_true rfl, Nat.le_of_ble_eq_true rfl, Nat.zero_le _, Nat.zero_le _⟩ rfl rfl (Nat.le_of_ble_eq_true rfl) hl.1 d_H_looks_13) (fun H locs hW => ?_)
    obtain rfl := Option.some.inj hr
    rw [hQ]; exact k_iret C hret hW d_H_looks_16
def w_H_lots (cI : ClassId) (a_r0 a_r0_harvest a_r0_harvest_fields a_r0_harvest_fields_lefts a_r0_harvest_fields_wishes a_r0_now a_r0_now_fields a_r0_now_fields_lefts a_r0_now_fields_wishes a_r0_now_goes a_r0_now_weights a_r0_refusals : Nat) (v_r0_kept v_r0_trial v_r0_hasKept v_r0_steps v_r0_letters v_r0_numbers v_r0_fraction v_r0_harvest_weathers v_r0_harvest_days v_r0_harvest_path v_r0_harvest_best v_r0_harvest_counted v_r0_harvest_atMost v_r0_harvest_most v_r0_harvest_oneIn v_r0_now_kinds v_r0_now_figures v_r0_now_hampers v_r0_now_days v_r0_now_done : Value) (r0_harvest_lotsDone : Int32) (r0_harvest_lotsNone : Int32) (r0_harvest_fields_lefts : Nat → Int32) (r0_harvest_fields_wishes : Nat → Int32) (r0_now_things : Int32) (r0_now_fields_lefts : Nat → Int32) (r0_now_fields_wishes : Nat → Int32) (r0_now_goes : Nat → Int32) (r0_now_weights : Nat → Int32) (r0_refusals : Nat → Int32) : va_W := [(a_r0, .inr (0, [.ref a_r0_now, v_r0_kept, v_r0_trial, v_r0_hasKept, v_r0_steps, v_r0_letters, v_r0_numbers, .ref a_r0_harvest, v_r0_fraction, .ref a_r0_refusals])), (a_r0_harvest, .inr (7, [.ref a_r0_harvest_fields, v_r0_harvest_weathers, v_r0_harvest_days, v_r0_harvest_path, v_r0_harvest_best, v_r0_harvest_counted, v_r0_harvest_atMost, v_r0_harvest_most, v_r0_harvest_oneIn, .int r0_harvest_lotsDone, .int r0_harvest_lotsNone])), (a_r0_harvest_fields, .inr (2, [.ref a_r0_harvest_fields_wishes, .ref a_r0_harvest_fields_lefts])), (a_r0_harvest_fields_lefts, .inl (cI, 4, .inl r0_harvest_fields_lefts)), (a_r0_harvest_fields_wishes, .inl (cI, 4, .inl r0_harvest_fields_wishes)), (a_r0_now, .inr (1, [.ref a_r0_now_weights, v_r0_now_kinds, v_r0_now_figures, .ref a_r0_now_goes, .int r0_now_things, v_r0_now_hampers, v_r0_now_days, .ref a_r0_now_fields, v_r0_now_done])), (a_r0_now_fields, .inr (2, [.ref a_r0_now_fields_wishes, .ref a_r0_now_fields_lefts])), (a_r0_now_fields_lefts, .inl (cI, 4, .inl r0_now_fields_lefts)), (a_r0_now_fields_wishes, .inl (cI, 4, .inl r0_now_fields_wishes)), (a_r0_now_goes, .inl (cI, 8, .inl r0_now_goes)), (a_r0_now_weights, .inl (cI, 6, .inl r0_now_weights)), (a_r0_refusals, .inl (cI, 7, .inl r0_refusals))]
def F_H_lots_J41_4 (r0_harvest_fields_lefts : Nat → Int32) (r0_harvest_fields_wishes : Nat → Int32) (r0_now_things : Int32) (r0_now_fields_lefts : Nat → Int32) (r0_now_fields_wishes : Nat → Int32) (r0_now_goes : Nat → Int32) (r0_now_weights : Nat → Int32) (r0_refusals : Nat → Int32) (x1 : Int32) (x2 : Int32) (x3 : Int32) : Option (Int32 × (Int32) × (Int32) × (Nat → Int32) × (Nat → Int32) × (Nat → Int32)) :=
  ((F_Har_summersByLot r0_harvest_fields_lefts r0_harvest_fields_wishes r0_now_things r0_now_fields_lefts r0_now_fields_wishes r0_now_goes r0_now_weights x1 x2).bind (fun q_5 => (if x3 = 0 then (some (q_5.1, q_5.1, q_5.2.1, q_5.2.2.1, q_5.2.2.2, r0_refusals)) else (some (q_5.2.1, q_5.1, q_5.2.1, q_5.2.2.1, q_5.2.2.2, r0_refusals)))))
def F_H_lots (r0_harvest_lotsDone : Int32) (r0_harvest_lotsNone : Int32) (r0_harvest_fields_lefts : Nat → Int32) (r0_harvest_fields_wishes : Nat → Int32) (r0_now_things : Int32) (r0_now_fields_lefts : Nat → Int32) (r0_now_fields_wishes : Nat → Int32) (r0_now_goes : Nat → Int32) (r0_now_weights : Nat → Int32) (r0_refusals : Nat → Int32) (x1 : Int32) (x2 : Int32) (x3 : Int32) : Option (Int32 × (Int32) × (Int32) × (Nat → Int32) × (Nat → Int32) × (Nat → Int32)) :=
  (if (1 : Int32) ≤ x1 then (if x1 ≤ 20 then (if x3 = 0 then (F_H_lots_J41_4 r0_harvest_fields_lefts r0_harvest_fields_wishes r0_now_things r0_now_fields_lefts r0_now_fields_wishes r0_now_goes r0_now_weights r0_refusals x1 x2 x3) else (if x3 = 1 then (F_H_lots_J41_4 r0_harvest_fields_lefts r0_harvest_fields_wishes r0_now_things r0_now_fields_lefts r0_now_fields_wishes r0_now_goes r0_now_weights r0_refusals x1 x2 x3) else ((F_H_refused r0_refusals ((-2) : Int32)).bind (fun q_8 => (some (q_8.1, r0_harvest_lotsDone, r0_harvest_lotsNone, r0_harvest_fields_lefts, r0_harvest_fields_wishes, q_8.2)))))) else ((F_H_refused r0_refusals ((-6) : Int32)).bind (fun q_9 => (some (q_9.1, r0_harvest_lotsDone, r0_harvest_lotsNone, r0_harvest_fields_lefts, r0_harvest_fields_wishes, q_9.2))))) else ((F_H_refused r0_refusals ((-4) : Int32)).bind (fun q_10 => (some (q_10.1, r0_harvest_lotsDone, r0_harvest_lotsNone, r0_harvest_fields_lefts, r0_harvest_fields_wishes, q_10.2)))))
set_option maxHeartbeats 4000000 in
set_option maxRecDepth 100000 in
theorem C_H_lots (l : Launch) (D : va_G) (cI cS : ClassId) (a_r0 a_r0_harvest a_r0_harvest_fields a_r0_harvest_fields_lefts a_r0_harvest_fields_wishes a_r0_now a_r0_now_fields a_r0_now_fields_lefts a_r0_now_fields_wishes a_r0_now_goes a_r0_now_weights a_r0_refusals : Nat) (v_r0_kept v_r0_trial v_r0_hasKept v_r0_steps v_r0_letters v_r0_numbers v_r0_fraction v_r0_harvest_weathers v_r0_harvest_days v_r0_harvest_path v_r0_harvest_best v_r0_harvest_counted v_r0_harvest_atMost v_r0_harvest_most v_r0_harvest_oneIn v_r0_now_kinds v_r0_now_figures v_r0_now_hampers v_r0_now_days v_r0_now_done : Value) (r0_harvest_lotsDone : Int32) (r0_harvest_lotsNone : Int32) (r0_harvest_fields_lefts : Nat → Int32) (r0_harvest_fields_wishes : Nat → Int32) (r0_now_things : Int32) (r0_now_fields_lefts : Nat → Int32) (r0_now_fields_wishes : Nat → Int32) (r0_now_goes : Nat → Int32) (r0_now_weights : Nat → Int32) (r0_refusals : Nat → Int32) (x1 : Int32) (x2 : Int32) (x3 : Int32) (o : Int32 × (Int32) × (Int32) × (Nat → Int32) × (Nat → Int32) × (Nat → Int32)) (hr : F_H_lots r0_harvest_lotsDone r0_harvest_lotsNone r0_harvest_fields_lefts r0_harvest_fields_wishes r0_now_things r0_now_fields_lefts r0_now_fields_wishes r0_now_goes r0_now_weights r0_refusals x1 x2 x3 = some o) : ctI l y_H_lots (Cond.code y_H_lots b_H_lots 4 (some FieldType.int)) (rmd 4) D (kTy cI cS) [.ref a_r0, .int x1, .int x2, .int x3] (w_H_lots cI a_r0 a_r0_harvest a_r0_harvest_fields a_r0_harvest_fields_lefts a_r0_harvest_fields_wishes a_r0_now a_r0_now_fields a_r0_now_fields_lefts a_r0_now_fields_wishes a_r0_now_goes a_r0_now_weights a_r0_refusals v_r0_kept v_r0_trial v_r0_hasKept v_r0_steps v_r0_letters v_r0_numbers v_r0_fraction v_r0_harvest_weathers v_r0_harvest_days v_r0_harvest_path v_r0_harvest_best v_r0_harvest_counted v_r0_harvest_atMost v_r0_harvest_most v_r0_harvest_oneIn v_r0_now_kinds v_r0_now_figures v_r0_now_hampers v_r0_now_days v_r0_now_done r0_harvest_lotsDone r0_harvest_lotsNone r0_harvest_fields_lefts r0_harvest_fields_wishes r0_now_things r0_now_fields_lefts r0_now_fields_wishes r0_now_goes r0_now_weights r0_refusals) (w_H_lots cI a_r0 a_r0_harvest a_r0_harvest_fields a_r0_harvest_fields_lefts a_r0_harvest_fields_wishes a_r0_now a_r0_now_fields a_r0_now_fields_lefts a_r0_now_fields_wishes a_r0_now_goes a_r0_now_weights a_r0_refusals v_r0_kept v_r0_trial v_r0_hasKept v_r0_steps v_r0_letters v_r0_numbers v_r0_fraction v_r0_harvest_weathers v_r0_harvest_days v_r0_harvest_path v_r0_harvest_best v_r0_harvest_counted v_r0_harvest_atMost v_r0_harvest_most v_r0_harvest_oneIn v_r0_now_kinds v_r0_now_figures v_r0_now_hampers v_r0_now_days v_r0_now_done o.2.1 o.2.2.1 o.2.2.2.1 o.2.2.2.2.1 r0_now_things r0_now_fields_lefts r0_now_fields_wishes r0_now_goes r0_now_weights o.2.2.2.2.2) o.1 := by
  unfold F_H_lots at hr
  refine ⟨rfl, fun sz => ct_of (w0 := (w_H_lots cI a_r0 a_r0_harvest a_r0_harvest_fields a_r0_harvest_fields_lefts a_r0_harvest_fields_wishes a_r0_now a_r0_now_fields a_r0_now_fields_lefts a_r0_now_fields_wishes a_r0_now_goes a_r0_now_weights a_r0_refusals v_r0_kept v_r0_trial v_r0_hasKept v_r0_steps v_r0_letters v_r0_numbers v_r0_fraction v_r0_harvest_weathers v_r0_harvest_days v_r0_harvest_path v_r0_harvest_best v_r0_harvest_counted v_r0_harvest_atMost v_r0_harvest_most v_r0_harvest_oneIn v_r0_now_kinds v_r0_now_figures v_r0_now_hampers v_r0_now_days v_r0_now_done r0_harvest_lotsDone r0_harvest_lotsNone r0_harvest_fields_lefts r0_harvest_fields_wishes r0_now_things r0_now_fields_lefts r0_now_fields_wishes r0_now_goes r0_now_weights r0_refusals)) (Qc := fun A => qI D (w_H_lots cI a_r0 a_r0_harvest a_r0_harvest_fields a_r0_harvest_fields_lefts a_r0_harvest_fields_wishes a_r0_now a_r0_now_fields a_r0_now_fields_lefts a_r0_now_fields_wishes a_r0_now_goes a_r0_now_weights a_r0_refusals v_r0_kept v_r0_trial v_r0_hasKept v_r0_steps v_r0_letters v_r0_numbers v_r0_fraction v_r0_harvest_weathers v_r0_harvest_days v_r0_harvest_path v_r0_harvest_best v_r0_harvest_counted v_r0_harvest_atMost v_r0_harvest_most v_r0_harvest_oneIn v_r0_now_kinds v_r0_now_figures v_r0_now_hampers v_r0_now_days v_r0_now_done o.2.1 o.2.2.1 o.2.2.2.1 o.2.2.2.2.1 r0_now_things r0_now_fields_lefts r0_now_fields_wishes r0_now_goes r0_now_weights o.2.2.2.2.2) o.1 A) rfl (Nat.le_of_ble_eq_true rfl) ?_ sz⟩
  intro p e s m below meth c A hA C hret ls hl hW
  have C : cx p s m ([.ref a_r0, .int x1, .int x2, .int x3] : List Value).toArray meth c b_H_lots 4 R_H D (kTy cI cS) (Cond.code y_H_lots b_H_lots 4 (some FieldType.int)) := C
  obtain ⟨hx, hb, hml, hown, hts, hK, hlk, hN⟩ := id C
  have hl : lv_has ls 4 [(0, .ref a_r0), (1, .int x1), (2, .int x2), (3, .int x3)] := hl
  obtain ⟨Q, hQ⟩ : ∃ Q, Q = MQ below (qI D (w_H_lots cI a_r0 a_r0_harvest a_r0_harvest_fields a_r0_harvest_fields_lefts a_r0_harvest_fields_wishes a_r0_now a_r0_now_fields a_r0_now_fields_lefts a_r0_now_fields_wishes a_r0_now_goes a_r0_now_weights a_r0_refusals v_r0_kept v_r0_trial v_r0_hasKept v_r0_steps v_r0_letters v_r0_numbers v_r0_fraction v_r0_harvest_weathers v_r0_harvest_days v_r0_harvest_path v_r0_harvest_best v_r0_harvest_counted v_r0_harvest_atMost v_r0_harvest_most v_r0_harvest_oneIn v_r0_now_kinds v_r0_now_figures v_r0_now_hampers v_r0_now_days v_r0_now_done o.2.1 o.2.2.1 o.2.2.2.1 o.2.2.2.2.1 r0_now_things r0_now_fields_lefts r0_now_fields_wishes r0_now_goes r0_now_weights o.2.2.2.2.2) o.1 A) ([.ref a_r0, .int x1, .int x2, .int x3] : List Value).toArray s 0 0 A := ⟨_, rfl⟩
  rw [← hQ]
  refine lv_iload_n hx hb d_H_lots_0 rfl (lv_at hl 1 rfl) ?_
  refine lv_iconst (v := 1) hx hb d_H_lots_1 (by decide) ?_
  refine lv_icmp_ge (tgt := 12) hx hb d_H_lots_2 (by decide) (fun c_1 => ?_) (fun c_1 => ?_)
  · replace hr := ip c_1 hr
    refine lv_iload_n hx hb d_H_lots_12 rfl (lv_at hl 1 rfl) ?_
    refine lv_bipush (v := 20) hx hb d_H_lots_13 (by decide) ?_
    refine lv_icmp_le (tgt := 25) hx hb d_H_lots_15 (by decide) (fun c_2 => ?_) (fun c_2 => ?_)
    · replace hr := ip c_2 hr
      refine lv_iload_n hx hb d_H_lots_25 rfl (lv_at hl 3 rfl) ?_
      have hJ_4 : ∀ (_ : Unit), F_H_lots_J41_4 r0_harvest_fields_lefts r0_harvest_fields_wishes r0_now_things r0_now_fields_lefts r0_now_fields_wishes r0_now_goes r0_now_weights r0_refusals x1 x2 x3 = some o → ∀ (H : Heap) (locs : List Loc) (ls : Array Slot), wd A s.heap D (w_H_lots cI a_r0 a_r0_harvest a_r0_harvest_fields a_r0_harvest_fields_lefts a_r0_harvest_fields_wishes a_r0_now a_r0_now_fields a_r0_now_fields_lefts a_r0_now_fields_wishes a_r0_now_goes a_r0_now_weights a_r0_refusals v_r0_kept v_r0_trial v_r0_hasKept v_r0_steps v_r0_letters v_r0_numbers v_r0_fraction v_r0_harvest_weathers v_r0_harvest_days v_r0_harvest_path v_r0_harvest_best v_r0_harvest_counted v_r0_harvest_atMost v_r0_harvest_most v_r0_harvest_oneIn v_r0_now_kinds v_r0_now_figures v_r0_now_hampers v_r0_now_days v_r0_now_done r0_harvest_lotsDone r0_harvest_lotsNone r0_harvest_fields_lefts r0_harvest_fields_wishes r0_now_things r0_now_fields_lefts r0_now_fields_wishes r0_now_goes r0_now_weights r0_refusals) H locs → lv_has ls 4 [(0, .ref a_r0), (1, .int x1), (2, .int x2), (3, .int x3)] → W p l e (rmd 4) s m ([.ref a_r0, .int x1, .int x2, .int x3] : List Value).toArray below meth c H locs 0 0 Q (F0 m 41 ls []) := by
        intro _ hr H locs ls hW hl
        unfold F_H_lots_J41_4 at hr
        refine lv_aload_n hx hb d_H_lots_41 rfl (lv_at hl 0 rfl) ?_
        refine k_get i_H C hW 0 rfl rfl 7 (by decide) qf_H_50 rfl rfl d_H_lots_42 ?_
        refine lv_aload_n hx hb d_H_lots_45 rfl (lv_at hl 0 rfl) ?_
        refine k_get i_H C hW 0 rfl rfl 0 (by decide) qf_H_10 rfl rfl d_H_lots_46 ?_
        refine lv_iload_n hx hb d_H_lots_49 rfl (lv_at hl 1 rfl) ?_
        refine lv_iload_n hx hb d_H_lots_50 rfl (lv_at hl 2 rfl) ?_
        obtain ⟨q_5, hc_5, hr⟩ := ob hr
        have ct_5 := C_Har_summersByLot l D cI cS a_r0_harvest a_r0_harvest_fields a_r0_harvest_fields_lefts a_r0_harvest_fields_wishes a_r0_now a_r0_now_fields a_r0_now_fields_lefts a_r0_now_fields_wishes a_r0_now_goes a_r0_now_weights v_r0_harvest_weathers v_r0_harvest_days v_r0_harvest_path v_r0_harvest_best v_r0_harvest_counted v_r0_harvest_atMost v_r0_harvest_most v_r0_harvest_oneIn v_r0_now_kinds v_r0_now_figures v_r0_now_hampers v_r0_now_days v_r0_now_done r0_harvest_lotsDone r0_harvest_lotsNone r0_harvest_fields_lefts r0_harvest_fields_wishes r0_now_things r0_now_fields_lefts r0_now_fields_wishes r0_now_goes r0_now_weights x1 x2 q_5 hc_5
        refine k_goV hA hW [1, 2, 3, 4, 5, 6, 7, 8, 9, 10] rfl ct_5.1 (ws' := (w_H_lots cI a_r0 a_r0_harvest a_r0_harvest_fields a_r0_harvest_fields_lefts a_r0_harvest_fields_wishes a_r0_now a_r0_now_fields a_r0_now_fields_lefts a_r0_now_fields_wishes a_r0_now_goes a_r0_now_weights a_r0_refusals v_r0_kept v_r0_trial v_r0_hasKept v_r0_steps v_r0_letters v_r0_numbers v_r0_fraction v_r0_harvest_weathers v_r0_harvest_days v_r0_harvest_path v_r0_harvest_best v_r0_harvest_counted v_r0_harvest_atMost v_r0_harvest_most v_r0_harvest_oneIn v_r0_now_kinds v_r0_now_figures v_r0_now_hampers v_r0_now_days v_r0_now_done q_5.1 q_5.2.1 q_5.2.2.1 q_5.2.2.2 r0_now_things r0_now_fields_lefts r0_now_fields_wishes r0_now_goes r0_now_weights r0_refusals)) rfl (k_runV C hA hW mw_Har_summersByLot mv_Har_summersByLot (ct_5.2 _) [1, 2, 3, 4, 5, 6, 7, 8, 9, 10] rfl rfl 1 rfl rfl qm_H_352 ⟨Nat.le_of_ble_eq_true rfl, Nat.le_of_ble_eq_true rfl, Nat.zero_le _, Nat.zero_le _⟩ rfl rfl (Nat.le_of_ble_eq_true rfl) hl.1 d_H_lots_51) (fun H locs hW => ?_)
        refine lv_iload_n hx hb d_H_lots_54 rfl (lv_at hl 3 rfl) ?_
        refine lv_if_ne (tgt := 68) hx hb d_H_lots_55 (by decide) (fun c_6 => ?_) (fun c_6 => ?_)
        · replace hr := iN c_6 hr
          refine lv_aload_n hx hb d_H_lots_68 rfl (lv_at hl 0 rfl) ?_
          refine k_get i_H C hW 0 rfl rfl 7 (by decide) qf_H_50 rfl rfl d_H_lots_69 ?_
          refine k_getN i_Har C hW 1 rfl rfl 10 (by decide) qf_H_359 rfl rfl d_H_lots_72 ?_
          obtain rfl := Option.some.inj hr
          rw [hQ]; exact k_iret C hret hW d_H_lots_75
        · replace hr := ip c_6 hr
          refine lv_aload_n hx hb d_H_lots_58 rfl (lv_at hl 0 rfl) ?_
          refine k_get i_H C hW 0 rfl rfl 7 (by decide) qf_H_50 rfl rfl d_H_lots_59 ?_
          refine k_getN i_Har C hW 1 rfl rfl 9 (by decide) qf_H_356 rfl rfl d_H_lots_62 ?_
          refine lv_goto (tgt := 75) hx hb d_H_lots_65 (by decide) ?_
          obtain rfl := Option.some.inj hr
          rw [hQ]; exact k_iret C hret hW d_H_lots_75
      refine lv_if_eq (tgt := 41) hx hb d_H_lots_26 (by decide) (fun c_3 => ?_) (fun c_3 => ?_)
      · replace hr := ip c_3 hr
        exact hJ_4 () hr _ _ _ hW (lv_sub hl [0, 1, 2, 3] rfl)
      · replace hr := iN c_3 hr
        refine lv_iload_n hx hb d_H_lots_29 rfl (lv_at hl 3 rfl) ?_
        refine lv_iconst (v := 1) hx hb d_H_lots_30 (by decide) ?_
        refine lv_icmp_eq (tgt := 41) hx hb d_H_lots_31 (by decide) (fun c_7 => ?_) (fun c_7 => ?_)
        · replace hr := ip c_7 hr
          exact hJ_4 () hr _ _ _ hW (lv_sub hl [0, 1, 2, 3] rfl)
        · replace hr := iN c_7 hr
          refine lv_aload_n hx hb d_H_lots_34 rfl (lv_at hl 0 rfl) ?_
          refine lv_bipush (v := (-2)) hx hb d_H_lots_35 (by decide) ?_
          obtain ⟨q_8, hc_8, hr⟩ := ob hr
          have ct_8 := C_H_refused l D cI cS a_r0 a_r0_refusals (Value.ref a_r0_now) v_r0_kept v_r0_trial v_r0_hasKept v_r0_steps v_r0_letters v_r0_numbers (Value.ref a_r0_harvest) v_r0_fraction r0_refusals (-2) q_8 hc_8
          refine k_goI hA hW [0, 11] rfl ct_8.1 (ws' := (w_H_lots cI a_r0 a_r0_harvest a_r0_harvest_fields a_r0_harvest_fields_lefts a_r0_harvest_fields_wishes a_r0_now a_r0_now_fields a_r0_now_fields_lefts a_r0_now_fields_wishes a_r0_now_goes a_r0_now_weights a_r0_refusals v_r0_kept v_r0_trial v_r0_hasKept v_r0_steps v_r0_letters v_r0_numbers v_r0_fraction v_r0_harvest_weathers v_r0_harvest_days v_r0_harvest_path v_r0_harvest_best v_r0_harvest_counted v_r0_harvest_atMost v_r0_harvest_most v_r0_harvest_oneIn v_r0_now_kinds v_r0_now_figures v_r0_now_hampers v_r0_now_days v_r0_now_done r0_harvest_lotsDone r0_harvest_lotsNone r0_harvest_fields_lefts r0_harvest_fields_wishes r0_now_things r0_now_fields_lefts r0_now_fields_wishes r0_now_goes r0_now_weights q_8.2)) rfl (k_runV C hA hW mw_H_refused mv_H_refused (ct_8.2 _) [0, 11] rfl rfl 0 rfl rfl qm_H_65 ⟨Nat.le_of_ble_eq_true rfl, Nat.le_of_ble_eq_true rfl, Nat.zero_le _, Nat.zero_le _⟩ rfl rfl (Nat.le_of_ble_eq_true rfl) hl.1 d_H_lots_37) (fun H locs hW => ?_)
          obtain rfl := Option.some.inj hr
          rw [hQ]; exact k_iret C hret hW d_H_lots_40
    · replace hr := iN c_2 hr
      refine lv_aload_n hx hb d_H_lots_18 rfl (lv_at hl 0 rfl) ?_
      refine lv_bipush (v := (-6)) hx hb d_H_lots_19 (by decide) ?_
      obtain ⟨q_9, hc_9, hr⟩ := ob hr
      have ct_9 := C_H_refused l D cI cS a_r0 a_r0_refusals (Value.ref a_r0_now) v_r0_kept v_r0_trial v_r0_hasKept v_r0_steps v_r0_letters v_r0_numbers (Value.ref a_r0_harvest) v_r0_fraction r0_refusals (-6) q_9 hc_9
      refine k_goI hA hW [0, 11] rfl ct_9.1 (ws' := (w_H_lots cI a_r0 a_r0_harvest a_r0_harvest_fields a_r0_harvest_fields_lefts a_r0_harvest_fields_wishes a_r0_now a_r0_now_fields a_r0_now_fields_lefts a_r0_now_fields_wishes a_r0_now_goes a_r0_now_weights a_r0_refusals v_r0_kept v_r0_trial v_r0_hasKept v_r0_steps v_r0_letters v_r0_numbers v_r0_fraction v_r0_harvest_weathers v_r0_harvest_days v_r0_harvest_path v_r0_harvest_best v_r0_harvest_counted v_r0_harvest_atMost v_r0_harvest_most v_r0_harvest_oneIn v_r0_now_kinds v_r0_now_figures v_r0_now_hampers v_r0_now_days v_r0_now_done r0_harvest_lotsDone r0_harvest_lotsNone r0_harvest_fields_lefts r0_harvest_fields_wishes r0_now_things r0_now_fields_lefts r0_now_fields_wishes r0_now_goes r0_now_weights q_9.2)) rfl (k_runV C hA hW mw_H_refused mv_H_refused (ct_9.2 _) [0, 11] rfl rfl 0 rfl rfl qm_H_65 ⟨Nat.le_of_ble_eq_true rfl, Nat.le_of_ble_eq_true rfl, Nat.zero_le _, Nat.zero_le _⟩ rfl rfl (Nat.le_of_ble_eq_true rfl) hl.1 d_H_lots_21) (fun H locs hW => ?_)
      obtain rfl := Option.some.inj hr
      rw [hQ]; exact k_iret C hret hW d_H_lots_24
  · replace hr := iN c_1 hr
    refine lv_aload_n hx hb d_H_lots_5 rfl (lv_at hl 0 rfl) ?_
    refine lv_bipush (v := (-4)) hx hb d_H_lots_6 (by decide) ?_
    obtain ⟨q_10, hc_10, hr⟩ := ob hr
    have ct_10 := C_H_refused l D cI cS a_r0 a_r0_refusals (Value.ref a_r0_now) v_r0_kept v_r0_trial v_r0_hasKept v_r0_steps v_r0_letters v_r0_numbers (Value.ref a_r0_harvest) v_r0_fraction r0_refusals (-4) q_10 hc_10
    refine k_goI hA hW [0, 11] rfl ct_10.1 (ws' := (w_H_lots cI a_r0 a_r0_harvest a_r0_harvest_fields a_r0_harvest_fields_lefts a_r0_harvest_fields_wishes a_r0_now a_r0_now_fields a_r0_now_fields_lefts a_r0_now_fields_wishes a_r0_now_goes a_r0_now_weights a_r0_refusals v_r0_kept v_r0_trial v_r0_hasKept v_r0_steps v_r0_letters v_r0_numbers v_r0_fraction v_r0_harvest_weathers v_r0_harvest_days v_r0_harvest_path v_r0_harvest_best v_r0_harvest_counted v_r0_harvest_atMost v_r0_harvest_most v_r0_harvest_oneIn v_r0_now_kinds v_r0_now_figures v_r0_now_hampers v_r0_now_days v_r0_now_done r0_harvest_lotsDone r0_harvest_lotsNone r0_harvest_fields_lefts r0_harvest_fields_wishes r0_now_things r0_now_fields_lefts r0_now_fields_wishes r0_now_goes r0_now_weights q_10.2)) rfl (k_runV C hA hW mw_H_refused mv_H_refused (ct_10.2 _) [0, 11] rfl rfl 0 rfl rfl qm_H_65 ⟨Nat.le_of_ble_eq_true rfl, Nat.le_of_ble_eq_true rfl, Nat.zero_le _, Nat.zero_le _⟩ rfl rfl (Nat.le_of_ble_eq_true rfl) hl.1 d_H_lots_8) (fun H locs hW => ?_)
    obtain rfl := Option.some.inj hr
    rw [hQ]; exact k_iret C hret hW d_H_lots_11
def w_H_refusedLong (cI : ClassId) (a_r0 a_r0_refusals : Nat) (v_r0_now v_r0_kept v_r0_trial v_r0_hasKept v_r0_steps v_r0_letters v_r0_numbers v_r0_harvest v_r0_fraction : Value) (r0_refusals : Nat → Int32) : va_W := [(a_r0, .inr (0, [v_r0_now, v_r0_kept, v_r0_trial, v_r0_hasKept, v_r0_steps, v_r0_letters, v_r0_numbers, v_r0_harvest, v_r0_fraction, .ref a_r0_refusals])), (a_r0_refusals, .inl (cI, 7, .inl r0_refusals))]
def F_H_refusedLong (r0_refusals : Nat → Int32) (x1 : Int32) : Option (Int64 × (Nat → Int32)) :=
  ((F_H_refused r0_refusals x1).bind (fun q_1 => (some ((((4000000000000000000 : Int64) : Int64) - (Int32.toInt64 q_1.1)), q_1.2))))
set_option maxHeartbeats 4000000 in
set_option maxRecDepth 100000 in
theorem C_H_refusedLong (l : Launch) (D : va_G) (cI cS : ClassId) (a_r0 a_r0_refusals : Nat) (v_r0_now v_r0_kept v_r0_trial v_r0_hasKept v_r0_steps v_r0_letters v_r0_numbers v_r0_harvest v_r0_fraction : Value) (r0_refusals : Nat → Int32) (x1 : Int32) (o : Int64 × (Nat → Int32)) (hr : F_H_refusedLong r0_refusals x1 = some o) : ctL l y_H_refusedLong (Cond.code y_H_refusedLong b_H_refusedLong 2 (some FieldType.long)) (rmd 1) D (kTy cI cS) [.ref a_r0, .int x1] (w_H_refusedLong cI a_r0 a_r0_refusals v_r0_now v_r0_kept v_r0_trial v_r0_hasKept v_r0_steps v_r0_letters v_r0_numbers v_r0_harvest v_r0_fraction r0_refusals) (w_H_refusedLong cI a_r0 a_r0_refusals v_r0_now v_r0_kept v_r0_trial v_r0_hasKept v_r0_steps v_r0_letters v_r0_numbers v_r0_harvest v_r0_fraction o.2) o.1 := by
  unfold F_H_refusedLong at hr
  refine ⟨rfl, fun sz => ct_of (w0 := (w_H_refusedLong cI a_r0 a_r0_refusals v_r0_now v_r0_kept v_r0_trial v_r0_hasKept v_r0_steps v_r0_letters v_r0_numbers v_r0_harvest v_r0_fraction r0_refusals)) (Qc := fun A => qL D (w_H_refusedLong cI a_r0 a_r0_refusals v_r0_now v_r0_kept v_r0_trial v_r0_hasKept v_r0_steps v_r0_letters v_r0_numbers v_r0_harvest v_r0_fraction o.2) o.1 A) rfl (Nat.le_of_ble_eq_true rfl) ?_ sz⟩
  intro p e s m below meth c A hA C hret ls hl hW
  have C : cx p s m ([.ref a_r0, .int x1] : List Value).toArray meth c b_H_refusedLong 2 R_H D (kTy cI cS) (Cond.code y_H_refusedLong b_H_refusedLong 2 (some FieldType.long)) := C
  obtain ⟨hx, hb, hml, hown, hts, hK, hlk, hN⟩ := id C
  have hl : lv_has ls 2 [(0, .ref a_r0), (1, .int x1)] := hl
  obtain ⟨Q, hQ⟩ : ∃ Q, Q = MQ below (qL D (w_H_refusedLong cI a_r0 a_r0_refusals v_r0_now v_r0_kept v_r0_trial v_r0_hasKept v_r0_steps v_r0_letters v_r0_numbers v_r0_harvest v_r0_fraction o.2) o.1 A) ([.ref a_r0, .int x1] : List Value).toArray s 0 0 A := ⟨_, rfl⟩
  rw [← hQ]
  refine lv_ldc2 (v := 4000000000000000000) hx hb hown (hts _ (List.mem_cons_of_mem _ (qc_H_371))) d_H_refusedLong_0 ?_
  refine lv_aload_n hx hb d_H_refusedLong_3 rfl (lv_at hl 0 rfl) ?_
  refine lv_iload_n hx hb d_H_refusedLong_4 rfl (lv_at hl 1 rfl) ?_
  obtain ⟨q_1, hc_1, hr⟩ := ob hr
  have ct_1 := C_H_refused l D cI cS a_r0 a_r0_refusals v_r0_now v_r0_kept v_r0_trial v_r0_hasKept v_r0_steps v_r0_letters v_r0_numbers v_r0_harvest v_r0_fraction r0_refusals x1 q_1 hc_1
  refine k_goI hA hW [0, 1] rfl ct_1.1 (ws' := (w_H_refusedLong cI a_r0 a_r0_refusals v_r0_now v_r0_kept v_r0_trial v_r0_hasKept v_r0_steps v_r0_letters v_r0_numbers v_r0_harvest v_r0_fraction q_1.2)) rfl (k_runV C hA hW mw_H_refused mv_H_refused (ct_1.2 _) [0, 1] rfl rfl 0 rfl rfl qm_H_65 ⟨Nat.le_of_ble_eq_true rfl, Nat.le_of_ble_eq_true rfl, Nat.zero_le _, Nat.zero_le _⟩ rfl rfl (Nat.le_of_ble_eq_true rfl) hl.1 d_H_refusedLong_5) (fun H locs hW => ?_)
  refine lv_i2l hx hb d_H_refusedLong_8 rfl ?_
  refine lv_lsub hx hb d_H_refusedLong_9 ?_
  obtain rfl := Option.some.inj hr
  rw [hQ]; exact k_lret C hret hW d_H_refusedLong_10
def w_H_mean (cI : ClassId) (a_r0 a_r0_fraction a_r0_now a_r0_now_figures a_r0_now_hampers a_r0_now_kinds a_r0_refusals : Nat) (v_r0_kept v_r0_trial v_r0_hasKept v_r0_steps v_r0_letters v_r0_numbers v_r0_harvest v_r0_now_weights v_r0_now_goes v_r0_now_things v_r0_now_fields v_r0_now_done : Value) (r0_fraction_above : Int64) (r0_fraction_below : Int64) (r0_now_days : Int32) (r0_now_figures : Nat → Int32) (r0_now_hampers : Nat → Int32) (r0_now_kinds : Nat → Int32) (r0_refusals : Nat → Int32) : va_W := [(a_r0, .inr (0, [.ref a_r0_now, v_r0_kept, v_r0_trial, v_r0_hasKept, v_r0_steps, v_r0_letters, v_r0_numbers, v_r0_harvest, .ref a_r0_fraction, .ref a_r0_refusals])), (a_r0_fraction, .inr (8, [.long r0_fraction_above, .long r0_fraction_below])), (a_r0_now, .inr (1, [v_r0_now_weights, .ref a_r0_now_kinds, .ref a_r0_now_figures, v_r0_now_goes, v_r0_now_things, .ref a_r0_now_hampers, .int r0_now_days, v_r0_now_fields, v_r0_now_done])), (a_r0_now_figures, .inl (cI, 8, .inl r0_now_figures)), (a_r0_now_hampers, .inl (cI, 8, .inl r0_now_hampers)), (a_r0_now_kinds, .inl (cI, 8, .inl r0_now_kinds)), (a_r0_refusals, .inl (cI, 7, .inl r0_refusals))]
def F_H_mean (r0_fraction_above : Int64) (r0_fraction_below : Int64) (r0_now_days : Int32) (r0_now_figures : Nat → Int32) (r0_now_hampers : Nat → Int32) (r0_now_kinds : Nat → Int32) (r0_refusals : Nat → Int32) (x1 : Int32) : Option (Int64 × (Int64) × (Int64) × (Nat → Int32)) :=
  ((F_H_isPart x1).bind (fun q_1 => (if q_1 = 0 then ((F_H_refusedLong r0_refusals ((-2) : Int32)).bind (fun q_6 => (some (q_6.1, r0_fraction_above, r0_fraction_below, q_6.2)))) else ((F_Dia_heavyOfAll r0_now_days r0_now_figures r0_now_hampers r0_now_kinds).bind (fun q_3 => ((F_Frc_become (Int32.toInt64 q_3) (Int32.toInt64 r0_now_days)).bind (fun q_4 => ((F_Frc_told q_4.1 q_4.2 x1).bind (fun q_5 => (some (q_5, q_4.1, q_4.2, r0_refusals)))))))))))
set_option maxHeartbeats 4000000 in
set_option maxRecDepth 100000 in
theorem C_H_mean (l : Launch) (D : va_G) (cI cS : ClassId) (a_r0 a_r0_fraction a_r0_now a_r0_now_figures a_r0_now_hampers a_r0_now_kinds a_r0_refusals : Nat) (v_r0_kept v_r0_trial v_r0_hasKept v_r0_steps v_r0_letters v_r0_numbers v_r0_harvest v_r0_now_weights v_r0_now_goes v_r0_now_things v_r0_now_fields v_r0_now_done : Value) (r0_fraction_above : Int64) (r0_fraction_below : Int64) (r0_now_days : Int32) (r0_now_figures : Nat → Int32) (r0_now_hampers : Nat → Int32) (r0_now_kinds : Nat → Int32) (r0_refusals : Nat → Int32) (x1 : Int32) (o : Int64 × (Int64) × (Int64) × (Nat → Int32)) (hr : F_H_mean r0_fraction_above r0_fraction_below r0_now_days r0_now_figures r0_now_hampers r0_now_kinds r0_refusals x1 = some o) : ctL l y_H_mean (Cond.code y_H_mean b_H_mean 2 (some FieldType.long)) (rmd 3) D (kTy cI cS) [.ref a_r0, .int x1] (w_H_mean cI a_r0 a_r0_fraction a_r0_now a_r0_now_figures a_r0_now_hampers a_r0_now_kinds a_r0_refusals v_r0_kept v_r0_trial v_r0_hasKept v_r0_steps v_r0_letters v_r0_numbers v_r0_harvest v_r0_now_weights v_r0_now_goes v_r0_now_things v_r0_now_fields v_r0_now_done r0_fraction_above r0_fraction_below r0_now_days r0_now_figures r0_now_hampers r0_now_kinds r0_refusals) (w_H_mean cI a_r0 a_r0_fraction a_r0_now a_r0_now_figures a_r0_now_hampers a_r0_now_kinds a_r0_refusals v_r0_kept v_r0_trial v_r0_hasKept v_r0_steps v_r0_letters v_r0_numbers v_r0_harvest v_r0_now_weights v_r0_now_goes v_r0_now_things v_r0_now_fields v_r0_now_done o.2.1 o.2.2.1 r0_now_days r0_now_figures r0_now_hampers r0_now_kinds o.2.2.2) o.1 := by
  unfold F_H_mean at hr
  refine ⟨rfl, fun sz => ct_of (w0 := (w_H_mean cI a_r0 a_r0_fraction a_r0_now a_r0_now_figures a_r0_now_hampers a_r0_now_kinds a_r0_refusals v_r0_kept v_r0_trial v_r0_hasKept v_r0_steps v_r0_letters v_r0_numbers v_r0_harvest v_r0_now_weights v_r0_now_goes v_r0_now_things v_r0_now_fields v_r0_now_done r0_fraction_above r0_fraction_below r0_now_days r0_now_figures r0_now_hampers r0_now_kinds r0_refusals)) (Qc := fun A => qL D (w_H_mean cI a_r0 a_r0_fraction a_r0_now a_r0_now_figures a_r0_now_hampers a_r0_now_kinds a_r0_refusals v_r0_kept v_r0_trial v_r0_hasKept v_r0_steps v_r0_letters v_r0_numbers v_r0_harvest v_r0_now_weights v_r0_now_goes v_r0_now_things v_r0_now_fields v_r0_now_done o.2.1 o.2.2.1 r0_now_days r0_now_figures r0_now_hampers r0_now_kinds o.2.2.2) o.1 A) rfl (Nat.le_of_ble_eq_true rfl) ?_ sz⟩
  intro p e s m below meth c A hA C hret ls hl hW
  have C : cx p s m ([.ref a_r0, .int x1] : List Value).toArray meth c b_H_mean 2 R_H D (kTy cI cS) (Cond.code y_H_mean b_H_mean 2 (some FieldType.long)) := C
  obtain ⟨hx, hb, hml, hown, hts, hK, hlk, hN⟩ := id C
  have hl : lv_has ls 2 [(0, .ref a_r0), (1, .int x1)] := hl
  obtain ⟨Q, hQ⟩ : ∃ Q, Q = MQ below (qL D (w_H_mean cI a_r0 a_r0_fraction a_r0_now a_r0_now_figures a_r0_now_hampers a_r0_now_kinds a_r0_refusals v_r0_kept v_r0_trial v_r0_hasKept v_r0_steps v_r0_letters v_r0_numbers v_r0_harvest v_r0_now_weights v_r0_now_goes v_r0_now_things v_r0_now_fields v_r0_now_done o.2.1 o.2.2.1 r0_now_days r0_now_figures r0_now_hampers r0_now_kinds o.2.2.2) o.1 A) ([.ref a_r0, .int x1] : List Value).toArray s 0 0 A := ⟨_, rfl⟩
  rw [← hQ]
  refine lv_iload_n hx hb d_H_mean_0 rfl (lv_at hl 1 rfl) ?_
  obtain ⟨q_1, hc_1, hr⟩ := ob hr
  have ct_1 := C_H_isPart l D cI cS x1 q_1 hc_1
  refine k_goIp hA hW [] rfl rfl (k_runS C hA hW mw_H_isPart ms_H_isPart (ct_1.2 _) [] rfl rfl qm_H_212 ⟨Nat.le_of_ble_eq_true rfl, Nat.le_of_ble_eq_true rfl, Nat.zero_le _, Nat.zero_le _⟩ rfl rfl (Nat.le_of_ble_eq_true rfl) hl.1 d_H_mean_1) (fun H locs hW => ?_)
  refine lv_if_ne (tgt := 14) hx hb d_H_mean_4 (by decide) (fun c_2 => ?_) (fun c_2 => ?_)
  · replace hr := iN c_2 hr
    refine lv_aload_n hx hb d_H_mean_14 rfl (lv_at hl 0 rfl) ?_
    refine k_get i_H C hW 0 rfl rfl 8 (by decide) qf_H_57 rfl rfl d_H_mean_15 ?_
    refine lv_aload_n hx hb d_H_mean_18 rfl (lv_at hl 0 rfl) ?_
    refine k_get i_H C hW 0 rfl rfl 0 (by decide) qf_H_10 rfl rfl d_H_mean_19 ?_
    obtain ⟨q_3, hc_3, hr⟩ := ob hr
    have ct_3 := C_Dia_heavyOfAll l D cI cS a_r0_now a_r0_now_figures a_r0_now_hampers a_r0_now_kinds v_r0_now_weights v_r0_now_goes v_r0_now_things v_r0_now_fields v_r0_now_done r0_now_days r0_now_figures r0_now_hampers r0_now_kinds q_3 hc_3
    refine k_goIp hA hW [2, 3, 4, 5] rfl rfl (k_runS C hA hW mw_Dia_heavyOfAll ms_Dia_heavyOfAll (ct_3.2 _) [2, 3, 4, 5] rfl rfl qm_H_332 ⟨Nat.le_of_ble_eq_true rfl, Nat.le_of_ble_eq_true rfl, Nat.zero_le _, Nat.zero_le _⟩ rfl rfl (Nat.le_of_ble_eq_true rfl) hl.1 d_H_mean_22) (fun H locs hW => ?_)
    refine lv_i2l hx hb d_H_mean_25 rfl ?_
    refine lv_aload_n hx hb d_H_mean_26 rfl (lv_at hl 0 rfl) ?_
    refine k_get i_H C hW 0 rfl rfl 0 (by decide) qf_H_10 rfl rfl d_H_mean_27 ?_
    refine k_getN i_Sta C hW 2 rfl rfl 6 (by decide) qf_H_272 rfl rfl d_H_mean_30 ?_
    refine lv_i2l hx hb d_H_mean_33 rfl ?_
    obtain ⟨q_4, hc_4, hr⟩ := ob hr
    have ct_4 := C_Frc_become l D cI cS a_r0_fraction r0_fraction_above r0_fraction_below (Int32.toInt64 q_3) (Int32.toInt64 r0_now_days) q_4 hc_4
    refine k_goV hA hW [1] rfl ct_4.1 (ws' := (w_H_mean cI a_r0 a_r0_fraction a_r0_now a_r0_now_figures a_r0_now_hampers a_r0_now_kinds a_r0_refusals v_r0_kept v_r0_trial v_r0_hasKept v_r0_steps v_r0_letters v_r0_numbers v_r0_harvest v_r0_now_weights v_r0_now_goes v_r0_now_things v_r0_now_fields v_r0_now_done q_4.1 q_4.2 r0_now_days r0_now_figures r0_now_hampers r0_now_kinds r0_refusals)) rfl (k_runV C hA hW mw_Frc_become mv_Frc_become (ct_4.2 _) [1] rfl rfl 1 rfl rfl qm_H_222 ⟨Nat.le_of_ble_eq_true rfl, Nat.le_of_ble_eq_true rfl, Nat.zero_le _, Nat.zero_le _⟩ rfl rfl (Nat.le_of_ble_eq_true rfl) hl.1 d_H_mean_34) (fun H locs hW => ?_)
    refine lv_aload_n hx hb d_H_mean_37 rfl (lv_at hl 0 rfl) ?_
    refine k_get i_H C hW 0 rfl rfl 8 (by decide) qf_H_57 rfl rfl d_H_mean_38 ?_
    refine lv_iload_n hx hb d_H_mean_41 rfl (lv_at hl 1 rfl) ?_
    obtain ⟨q_5, hc_5, hr⟩ := ob hr
    have ct_5 := C_Frc_told l D cI cS a_r0_fraction q_4.1 q_4.2 x1 q_5 hc_5
    refine k_goLp hA hW [1] rfl rfl (k_runV C hA hW mw_Frc_told mv_Frc_told (ct_5.2 _) [1] rfl rfl 1 rfl rfl qm_H_225 ⟨Nat.le_of_ble_eq_true rfl, Nat.le_of_ble_eq_true rfl, Nat.zero_le _, Nat.zero_le _⟩ rfl rfl (Nat.le_of_ble_eq_true rfl) hl.1 d_H_mean_42) (fun H locs hW => ?_)
    obtain rfl := Option.some.inj hr
    rw [hQ]; exact k_lret C hret hW d_H_mean_45
  · replace hr := ip c_2 hr
    refine lv_aload_n hx hb d_H_mean_7 rfl (lv_at hl 0 rfl) ?_
    refine lv_bipush (v := (-2)) hx hb d_H_mean_8 (by decide) ?_
    obtain ⟨q_6, hc_6, hr⟩ := ob hr
    have ct_6 := C_H_refusedLong l D cI cS a_r0 a_r0_refusals (Value.ref a_r0_now) v_r0_kept v_r0_trial v_r0_hasKept v_r0_steps v_r0_letters v_r0_numbers v_r0_harvest (Value.ref a_r0_fraction) r0_refusals (-2) q_6 hc_6
    refine k_goL hA hW [0, 6] rfl ct_6.1 (ws' := (w_H_mean cI a_r0 a_r0_fraction a_r0_now a_r0_now_figures a_r0_now_hampers a_r0_now_kinds a_r0_refusals v_r0_kept v_r0_trial v_r0_hasKept v_r0_steps v_r0_letters v_r0_numbers v_r0_harvest v_r0_now_weights v_r0_now_goes v_r0_now_things v_r0_now_fields v_r0_now_done r0_fraction_above r0_fraction_below r0_now_days r0_now_figures r0_now_hampers r0_now_kinds q_6.2)) rfl (k_runV C hA hW mw_H_refusedLong mv_H_refusedLong (ct_6.2 _) [0, 6] rfl rfl 0 rfl rfl qm_H_208 ⟨Nat.le_of_ble_eq_true rfl, Nat.le_of_ble_eq_true rfl, Nat.zero_le _, Nat.zero_le _⟩ rfl rfl (Nat.le_of_ble_eq_true rfl) hl.1 d_H_mean_10) (fun H locs hW => ?_)
    obtain rfl := Option.some.inj hr
    rw [hQ]; exact k_lret C hret hW d_H_mean_13
def w_H_need (cI : ClassId) (a_r0 a_r0_now a_r0_now_fields a_r0_now_fields_lefts a_r0_refusals : Nat) (v_r0_kept v_r0_trial v_r0_hasKept v_r0_steps v_r0_letters v_r0_numbers v_r0_harvest v_r0_fraction v_r0_now_weights v_r0_now_kinds v_r0_now_figures v_r0_now_goes v_r0_now_things v_r0_now_hampers v_r0_now_days v_r0_now_done v_r0_now_fields_wishes : Value) (r0_now_fields_lefts : Nat → Int32) (r0_refusals : Nat → Int32) : va_W := [(a_r0, .inr (0, [.ref a_r0_now, v_r0_kept, v_r0_trial, v_r0_hasKept, v_r0_steps, v_r0_letters, v_r0_numbers, v_r0_harvest, v_r0_fraction, .ref a_r0_refusals])), (a_r0_now, .inr (1, [v_r0_now_weights, v_r0_now_kinds, v_r0_now_figures, v_r0_now_goes, v_r0_now_things, v_r0_now_hampers, v_r0_now_days, .ref a_r0_now_fields, v_r0_now_done])), (a_r0_now_fields, .inr (2, [v_r0_now_fields_wishes, .ref a_r0_now_fields_lefts])), (a_r0_now_fields_lefts, .inl (cI, 4, .inl r0_now_fields_lefts)), (a_r0_refusals, .inl (cI, 7, .inl r0_refusals))]
def F_H_need (r0_now_fields_lefts : Nat → Int32) (r0_refusals : Nat → Int32) (x1 : Int32) : Option (Int32 × (Nat → Int32)) :=
  ((F_Fld_neediest r0_now_fields_lefts).bind (fun q_1 => (if x1 = 0 then (some (q_1, r0_refusals)) else (if x1 = 1 then ((F_Fld_leftOf r0_now_fields_lefts q_1).bind (fun q_4 => (some (q_4, r0_refusals)))) else (if x1 = 2 then ((F_Fld_allLeft r0_now_fields_lefts).bind (fun q_6 => (some (q_6, r0_refusals)))) else ((F_H_refused r0_refusals ((-2) : Int32)).bind (fun q_7 => (some (q_7.1, q_7.2)))))))))
set_option maxHeartbeats 4000000 in
set_option maxRecDepth 100000 in
theorem C_H_need (l : Launch) (D : va_G) (cI cS : ClassId) (a_r0 a_r0_now a_r0_now_fields a_r0_now_fields_lefts a_r0_refusals : Nat) (v_r0_kept v_r0_trial v_r0_hasKept v_r0_steps v_r0_letters v_r0_numbers v_r0_harvest v_r0_fraction v_r0_now_weights v_r0_now_kinds v_r0_now_figures v_r0_now_goes v_r0_now_things v_r0_now_hampers v_r0_now_days v_r0_now_done v_r0_now_fields_wishes : Value) (r0_now_fields_lefts : Nat → Int32) (r0_refusals : Nat → Int32) (x1 : Int32) (o : Int32 × (Nat → Int32)) (hr : F_H_need r0_now_fields_lefts r0_refusals x1 = some o) : ctI l y_H_need (Cond.code y_H_need b_H_need 3 (some FieldType.int)) (rmd 3) D (kTy cI cS) [.ref a_r0, .int x1] (w_H_need cI a_r0 a_r0_now a_r0_now_fields a_r0_now_fields_lefts a_r0_refusals v_r0_kept v_r0_trial v_r0_hasKept v_r0_steps v_r0_letters v_r0_numbers v_r0_harvest v_r0_fraction v_r0_now_weights v_r0_now_kinds v_r0_now_figures v_r0_now_goes v_r0_now_things v_r0_now_hampers v_r0_now_days v_r0_now_done v_r0_now_fields_wishes r0_now_fields_lefts r0_refusals) (w_H_need cI a_r0 a_r0_now a_r0_now_fields a_r0_now_fields_lefts a_r0_refusals v_r0_kept v_r0_trial v_r0_hasKept v_r0_steps v_r0_letters v_r0_numbers v_r0_harvest v_r0_fraction v_r0_now_weights v_r0_now_kinds v_r0_now_figures v_r0_now_goes v_r0_now_things v_r0_now_hampers v_r0_now_days v_r0_now_done v_r0_now_fields_wishes r0_now_fields_lefts o.2) o.1 := by
  unfold F_H_need at hr
  refine ⟨rfl, fun sz => ct_of (w0 := (w_H_need cI a_r0 a_r0_now a_r0_now_fields a_r0_now_fields_lefts a_r0_refusals v_r0_kept v_r0_trial v_r0_hasKept v_r0_steps v_r0_letters v_r0_numbers v_r0_harvest v_r0_fraction v_r0_now_weights v_r0_now_kinds v_r0_now_figures v_r0_now_goes v_r0_now_things v_r0_now_hampers v_r0_now_days v_r0_now_done v_r0_now_fields_wishes r0_now_fields_lefts r0_refusals)) (Qc := fun A => qI D (w_H_need cI a_r0 a_r0_now a_r0_now_fields a_r0_now_fields_lefts a_r0_refusals v_r0_kept v_r0_trial v_r0_hasKept v_r0_steps v_r0_letters v_r0_numbers v_r0_harvest v_r0_fraction v_r0_now_weights v_r0_now_kinds v_r0_now_figures v_r0_now_goes v_r0_now_things v_r0_now_hampers v_r0_now_days v_r0_now_done v_r0_now_fields_wishes r0_now_fields_lefts o.2) o.1 A) rfl (Nat.le_of_ble_eq_true rfl) ?_ sz⟩
  intro p e s m below meth c A hA C hret ls hl hW
  have C : cx p s m ([.ref a_r0, .int x1] : List Value).toArray meth c b_H_need 3 R_H D (kTy cI cS) (Cond.code y_H_need b_H_need 3 (some FieldType.int)) := C
  obtain ⟨hx, hb, hml, hown, hts, hK, hlk, hN⟩ := id C
  have hl : lv_has ls 3 [(0, .ref a_r0), (1, .int x1)] := hl
  obtain ⟨Q, hQ⟩ : ∃ Q, Q = MQ below (qI D (w_H_need cI a_r0 a_r0_now a_r0_now_fields a_r0_now_fields_lefts a_r0_refusals v_r0_kept v_r0_trial v_r0_hasKept v_r0_steps v_r0_letters v_r0_numbers v_r0_harvest v_r0_fraction v_r0_now_weights v_r0_now_kinds v_r0_now_figures v_r0_now_goes v_r0_now_things v_r0_now_hampers v_r0_now_days v_r0_now_done v_r0_now_fields_wishes r0_now_fields_lefts o.2) o.1 A) ([.ref a_r0, .int x1] : List Value).toArray s 0 0 A := ⟨_, rfl⟩
  rw [← hQ]
  refine lv_aload_n hx hb d_H_need_0 rfl (lv_at hl 0 rfl) ?_
  refine k_get i_H C hW 0 rfl rfl 0 (by decide) qf_H_10 rfl rfl d_H_need_1 ?_
  refine k_getN i_Sta C hW 1 rfl rfl 7 (by decide) qf_H_128 rfl rfl d_H_need_4 ?_
  obtain ⟨q_1, hc_1, hr⟩ := ob hr
  have ct_1 := C_Fld_neediest l D cI cS a_r0_now_fields a_r0_now_fields_lefts v_r0_now_fields_wishes r0_now_fields_lefts q_1 hc_1
  refine k_goIp hA hW [2, 3] rfl rfl (k_runV C hA hW mw_Fld_neediest mv_Fld_neediest (ct_1.2 _) [2, 3] rfl rfl 2 rfl rfl qm_H_335 ⟨Nat.le_of_ble_eq_true rfl, Nat.le_of_ble_eq_true rfl, Nat.zero_le _, Nat.zero_le _⟩ rfl rfl (Nat.le_of_ble_eq_true rfl) hl.1 d_H_need_7) (fun H locs hW => ?_)
  refine lv_istore_n (lv' := [(2, .int q_1), (0, .ref a_r0), (1, .int x1)]) hx hb d_H_need_10 rfl hl (by decide) rfl (fun ls hl => ?_)
  refine lv_iload_n hx hb d_H_need_11 rfl (lv_at hl 2 rfl) ?_
  by_cases c_2 : x1 = 0
  · replace hr := ip c_2 hr
    refine k_tabIn (tgt := 40) (off := 28) c_2 hx hb d_H_need_12 (by decide) (by decide) (by decide) (by decide) ?_
    refine lv_iload_n hx hb d_H_need_40 rfl (lv_at hl 0 rfl) ?_
    obtain rfl := Option.some.inj hr
    rw [hQ]; exact k_iret C hret hW d_H_need_41
  · replace hr := iN c_2 hr
    by_cases c_3 : x1 = 1
    · replace hr := ip c_3 hr
      refine k_tabIn (tgt := 42) (off := 30) c_3 hx hb d_H_need_12 (by decide) (by decide) (by decide) (by decide) ?_
      refine lv_aload_n hx hb d_H_need_42 rfl (lv_at hl 1 rfl) ?_
      refine k_get i_H C hW 0 rfl rfl 0 (by decide) qf_H_10 rfl rfl d_H_need_43 ?_
      refine k_getN i_Sta C hW 1 rfl rfl 7 (by decide) qf_H_128 rfl rfl d_H_need_46 ?_
      refine lv_iload_n hx hb d_H_need_49 rfl (lv_at hl 0 rfl) ?_
      obtain ⟨q_4, hc_4, hr⟩ := ob hr
      have ct_4 := C_Fld_leftOf l D cI cS a_r0_now_fields a_r0_now_fields_lefts v_r0_now_fields_wishes r0_now_fields_lefts q_1 q_4 hc_4
      refine k_goIp hA hW [2, 3] rfl rfl (k_runV C hA hW mw_Fld_leftOf mv_Fld_leftOf (ct_4.2 _) [2, 3] rfl rfl 2 rfl rfl qm_H_338 ⟨Nat.le_of_ble_eq_true rfl, Nat.le_of_ble_eq_true rfl, Nat.zero_le _, Nat.zero_le _⟩ rfl rfl (Nat.le_of_ble_eq_true rfl) hl.1 d_H_need_50) (fun H locs hW => ?_)
      obtain rfl := Option.some.inj hr
      rw [hQ]; exact k_iret C hret hW d_H_need_53
    · replace hr := iN c_3 hr
      by_cases c_5 : x1 = 2
      · replace hr := ip c_5 hr
        refine k_tabIn (tgt := 54) (off := 42) c_5 hx hb d_H_need_12 (by decide) (by decide) (by decide) (by decide) ?_
        refine lv_aload_n hx hb d_H_need_54 rfl (lv_at hl 1 rfl) ?_
        refine k_get i_H C hW 0 rfl rfl 0 (by decide) qf_H_10 rfl rfl d_H_need_55 ?_
        refine k_getN i_Sta C hW 1 rfl rfl 7 (by decide) qf_H_128 rfl rfl d_H_need_58 ?_
        obtain ⟨q_6, hc_6, hr⟩ := ob hr
        have ct_6 := C_Fld_allLeft l D cI cS a_r0_now_fields a_r0_now_fields_lefts v_r0_now_fields_wishes r0_now_fields_lefts q_6 hc_6
        refine k_goIp hA hW [2, 3] rfl rfl (k_runV C hA hW mw_Fld_allLeft mv_Fld_allLeft (ct_6.2 _) [2, 3] rfl rfl 2 rfl rfl qm_H_341 ⟨Nat.le_of_ble_eq_true rfl, Nat.le_of_ble_eq_true rfl, Nat.zero_le _, Nat.zero_le _⟩ rfl rfl (Nat.le_of_ble_eq_true rfl) hl.1 d_H_need_61) (fun H locs hW => ?_)
        obtain rfl := Option.some.inj hr
        rw [hQ]; exact k_iret C hret hW d_H_need_64
      · replace hr := iN c_5 hr
        refine k_tabDef (tgt := 65) [0, 1, 2] (by decide +kernel) (by simp only [List.forall_mem_cons]; exact ⟨c_2, c_3, c_5, fun _ h => absurd h List.not_mem_nil⟩) hx hb d_H_need_12 (by decide) ?_
        refine lv_aload_n hx hb d_H_need_65 rfl (lv_at hl 1 rfl) ?_
        refine lv_bipush (v := (-2)) hx hb d_H_need_66 (by decide) ?_
        obtain ⟨q_7, hc_7, hr⟩ := ob hr
        have ct_7 := C_H_refused l D cI cS a_r0 a_r0_refusals (Value.ref a_r0_now) v_r0_kept v_r0_trial v_r0_hasKept v_r0_steps v_r0_letters v_r0_numbers v_r0_harvest v_r0_fraction r0_refusals (-2) q_7 hc_7
        refine k_goI hA hW [0, 4] rfl ct_7.1 (ws' := (w_H_need cI a_r0 a_r0_now a_r0_now_fields a_r0_now_fields_lefts a_r0_refusals v_r0_kept v_r0_trial v_r0_hasKept v_r0_steps v_r0_letters v_r0_numbers v_r0_harvest v_r0_fraction v_r0_now_weights v_r0_now_kinds v_r0_now_figures v_r0_now_goes v_r0_now_things v_r0_now_hampers v_r0_now_days v_r0_now_done v_r0_now_fields_wishes r0_now_fields_lefts q_7.2)) rfl (k_runV C hA hW mw_H_refused mv_H_refused (ct_7.2 _) [0, 4] rfl rfl 0 rfl rfl qm_H_65 ⟨Nat.le_of_ble_eq_true rfl, Nat.le_of_ble_eq_true rfl, Nat.zero_le _, Nat.zero_le _⟩ rfl rfl (Nat.le_of_ble_eq_true rfl) hl.1 d_H_need_68) (fun H locs hW => ?_)
        obtain rfl := Option.some.inj hr
        rw [hQ]; exact k_iret C hret hW d_H_need_71
def w_H_odds (cI : ClassId) (a_r0 a_r0_fraction a_r0_now a_r0_now_goes a_r0_now_hampers a_r0_now_weights a_r0_refusals : Nat) (v_r0_kept v_r0_trial v_r0_hasKept v_r0_steps v_r0_letters v_r0_numbers v_r0_harvest v_r0_now_kinds v_r0_now_figures v_r0_now_things v_r0_now_fields v_r0_now_done : Value) (r0_fraction_above : Int64) (r0_fraction_below : Int64) (r0_now_days : Int32) (r0_now_goes : Nat → Int32) (r0_now_hampers : Nat → Int32) (r0_now_weights : Nat → Int32) (r0_refusals : Nat → Int32) : va_W := [(a_r0, .inr (0, [.ref a_r0_now, v_r0_kept, v_r0_trial, v_r0_hasKept, v_r0_steps, v_r0_letters, v_r0_numbers, v_r0_harvest, .ref a_r0_fraction, .ref a_r0_refusals])), (a_r0_fraction, .inr (8, [.long r0_fraction_above, .long r0_fraction_below])), (a_r0_now, .inr (1, [.ref a_r0_now_weights, v_r0_now_kinds, v_r0_now_figures, .ref a_r0_now_goes, v_r0_now_things, .ref a_r0_now_hampers, .int r0_now_days, v_r0_now_fields, v_r0_now_done])), (a_r0_now_goes, .inl (cI, 8, .inl r0_now_goes)), (a_r0_now_hampers, .inl (cI, 8, .inl r0_now_hampers)), (a_r0_now_weights, .inl (cI, 6, .inl r0_now_weights)), (a_r0_refusals, .inl (cI, 7, .inl r0_refusals))]
def F_H_odds_J18_3 (r0_fraction_above : Int64) (r0_fraction_below : Int64) (r0_refusals : Nat → Int32) : Option (Int64 × (Int64) × (Int64) × (Nat → Int32)) :=
  ((F_H_refusedLong r0_refusals ((-1) : Int32)).bind (fun q_4 => (some (q_4.1, r0_fraction_above, r0_fraction_below, q_4.2))))
def F_H_odds_J77_13 (r0_now_weights : Nat → Int32) (r0_refusals : Nat → Int32) (q_10 : Int32) (x3 : Int32) (s0_13 : Int32) : Option (Int64 × (Int64) × (Int64) × (Nat → Int32)) :=
  ((F_Sta_weightOfAll r0_now_weights q_10).bind (fun q_14 => ((F_Frc_become (Int32.toInt64 s0_13) (Int32.toInt64 q_14)).bind (fun q_15 => ((F_Frc_told q_15.1 q_15.2 x3).bind (fun q_16 => (some (q_16, q_15.1, q_15.2, r0_refusals))))))))
def F_H_odds (r0_fraction_above : Int64) (r0_fraction_below : Int64) (r0_now_days : Int32) (r0_now_goes : Nat → Int32) (r0_now_hampers : Nat → Int32) (r0_now_weights : Nat → Int32) (r0_refusals : Nat → Int32) (x1 : Int32) (x2 : Int32) (x3 : Int32) : Option (Int64 × (Int64) × (Int64) × (Nat → Int32)) :=
  ((F_Sta_hasDay r0_now_days x1).bind (fun q_1 => (if q_1 = 0 then (F_H_odds_J18_3 r0_fraction_above r0_fraction_below r0_refusals) else ((F_H_isWeather x2).bind (fun q_5 => (if q_5 = 0 then (F_H_odds_J18_3 r0_fraction_above r0_fraction_below r0_refusals) else ((F_H_isPart x3).bind (fun q_7 => (if q_7 = 0 then ((F_H_refusedLong r0_refusals ((-2) : Int32)).bind (fun q_18 => (some (q_18.1, r0_fraction_above, r0_fraction_below, q_18.2)))) else (ck x1 8 ((F_Sta_couldBe r0_now_goes (r0_now_hampers (Int32.toNatClampNeg x1))).bind (fun q_10 => ((F_H_holds q_10 x2).bind (fun q_11 => (if q_11 = 0 then (F_H_odds_J77_13 r0_now_weights r0_refusals q_10 x3 0) else ((F_Sta_weightOf r0_now_weights x2).bind (fun q_17 => (F_H_odds_J77_13 r0_now_weights r0_refusals q_10 x3 q_17))))))))))))))))))
set_option maxHeartbeats 4000000 in
set_option maxRecDepth 100000 in
theorem C_H_odds (l : Launch) (D : va_G) (cI cS : ClassId) (a_r0 a_r0_fraction a_r0_now a_r0_now_goes a_r0_now_hampers a_r0_now_weights a_r0_refusals : Nat) (v_r0_kept v_r0_trial v_r0_hasKept v_r0_steps v_r0_letters v_r0_numbers v_r0_harvest v_r0_now_kinds v_r0_now_figures v_r0_now_things v_r0_now_fields v_r0_now_done : Value) (r0_fraction_above : Int64) (r0_fraction_below : Int64) (r0_now_days : Int32) (r0_now_goes : Nat → Int32) (r0_now_hampers : Nat → Int32) (r0_now_weights : Nat → Int32) (r0_refusals : Nat → Int32) (x1 : Int32) (x2 : Int32) (x3 : Int32) (o : Int64 × (Int64) × (Int64) × (Nat → Int32)) (hr : F_H_odds r0_fraction_above r0_fraction_below r0_now_days r0_now_goes r0_now_hampers r0_now_weights r0_refusals x1 x2 x3 = some o) : ctL l y_H_odds (Cond.code y_H_odds b_H_odds 6 (some FieldType.long)) (rmd 2) D (kTy cI cS) [.ref a_r0, .int x1, .int x2, .int x3] (w_H_odds cI a_r0 a_r0_fraction a_r0_now a_r0_now_goes a_r0_now_hampers a_r0_now_weights a_r0_refusals v_r0_kept v_r0_trial v_r0_hasKept v_r0_steps v_r0_letters v_r0_numbers v_r0_harvest v_r0_now_kinds v_r0_now_figures v_r0_now_things v_r0_now_fields v_r0_now_done r0_fraction_above r0_fraction_below r0_now_days r0_now_goes r0_now_hampers r0_now_weights r0_refusals) (w_H_odds cI a_r0 a_r0_fraction a_r0_now a_r0_now_goes a_r0_now_hampers a_r0_now_weights a_r0_refusals v_r0_kept v_r0_trial v_r0_hasKept v_r0_steps v_r0_letters v_r0_numbers v_r0_harvest v_r0_now_kinds v_r0_now_figures v_r0_now_things v_r0_now_fields v_r0_now_done o.2.1 o.2.2.1 r0_now_days r0_now_goes r0_now_hampers r0_now_weights o.2.2.2) o.1 := by
  unfold F_H_odds at hr
  refine ⟨rfl, fun sz => ct_of (w0 := (w_H_odds cI a_r0 a_r0_fraction a_r0_now a_r0_now_goes a_r0_now_hampers a_r0_now_weights a_r0_refusals v_r0_kept v_r0_trial v_r0_hasKept v_r0_steps v_r0_letters v_r0_numbers v_r0_harvest v_r0_now_kinds v_r0_now_figures v_r0_now_things v_r0_now_fields v_r0_now_done r0_fraction_above r0_fraction_below r0_now_days r0_now_goes r0_now_hampers r0_now_weights r0_refusals)) (Qc := fun A => qL D (w_H_odds cI a_r0 a_r0_fraction a_r0_now a_r0_now_goes a_r0_now_hampers a_r0_now_weights a_r0_refusals v_r0_kept v_r0_trial v_r0_hasKept v_r0_steps v_r0_letters v_r0_numbers v_r0_harvest v_r0_now_kinds v_r0_now_figures v_r0_now_things v_r0_now_fields v_r0_now_done o.2.1 o.2.2.1 r0_now_days r0_now_goes r0_now_hampers r0_now_weights o.2.2.2) o.1 A) rfl (Nat.le_of_ble_eq_true rfl) ?_ sz⟩
  intro p e s m below meth c A hA C hret ls hl hW
  have C : cx p s m ([.ref a_r0, .int x1, .int x2, .int x3] : List Value).toArray meth c b_H_odds 6 R_H D (kTy cI cS) (Cond.code y_H_odds b_H_odds 6 (some FieldType.long)) := C
  obtain ⟨hx, hb, hml, hown, hts, hK, hlk, hN⟩ := id C
  have hl : lv_has ls 6 [(0, .ref a_r0), (1, .int x1), (2, .int x2), (3, .int x3)] := hl
  obtain ⟨Q, hQ⟩ : ∃ Q, Q = MQ below (qL D (w_H_odds cI a_r0 a_r0_fraction a_r0_now a_r0_now_goes a_r0_now_hampers a_r0_now_weights a_r0_refusals v_r0_kept v_r0_trial v_r0_hasKept v_r0_steps v_r0_letters v_r0_numbers v_r0_harvest v_r0_now_kinds v_r0_now_figures v_r0_now_things v_r0_now_fields v_r0_now_done o.2.1 o.2.2.1 r0_now_days r0_now_goes r0_now_hampers r0_now_weights o.2.2.2) o.1 A) ([.ref a_r0, .int x1, .int x2, .int x3] : List Value).toArray s 0 0 A := ⟨_, rfl⟩
  rw [← hQ]
  refine lv_aload_n hx hb d_H_odds_0 rfl (lv_at hl 0 rfl) ?_
  refine k_get i_H C hW 0 rfl rfl 0 (by decide) qf_H_10 rfl rfl d_H_odds_1 ?_
  refine lv_iload_n hx hb d_H_odds_4 rfl (lv_at hl 1 rfl) ?_
  obtain ⟨q_1, hc_1, hr⟩ := ob hr
  have ct_1 := C_Sta_hasDay l D cI cS a_r0_now (Value.ref a_r0_now_weights) v_r0_now_kinds v_r0_now_figures (Value.ref a_r0_now_goes) v_r0_now_things (Value.ref a_r0_now_hampers) v_r0_now_fields v_r0_now_done r0_now_days x1 q_1 hc_1
  refine k_goIp hA hW [2] rfl rfl (k_runV C hA hW mw_Sta_hasDay mv_Sta_hasDay (ct_1.2 _) [2] rfl rfl 2 rfl rfl qm_H_107 ⟨Nat.le_of_ble_eq_true rfl, Nat.le_of_ble_eq_true rfl, Nat.zero_le _, Nat.zero_le _⟩ rfl rfl (Nat.le_of_ble_eq_true rfl) hl.1 d_H_odds_5) (fun H locs hW => ?_)
  have hJ_3 : ∀ (_ : Unit), F_H_odds_J18_3 r0_fraction_above r0_fraction_below r0_refusals = some o → ∀ (H : Heap) (locs : List Loc) (ls : Array Slot), wd A s.heap D (w_H_odds cI a_r0 a_r0_fraction a_r0_now a_r0_now_goes a_r0_now_hampers a_r0_now_weights a_r0_refusals v_r0_kept v_r0_trial v_r0_hasKept v_r0_steps v_r0_letters v_r0_numbers v_r0_harvest v_r0_now_kinds v_r0_now_figures v_r0_now_things v_r0_now_fields v_r0_now_done r0_fraction_above r0_fraction_below r0_now_days r0_now_goes r0_now_hampers r0_now_weights r0_refusals) H locs → lv_has ls 6 [(0, .ref a_r0)] → W p l e (rmd 2) s m ([.ref a_r0, .int x1, .int x2, .int x3] : List Value).toArray below meth c H locs 0 0 Q (F0 m 18 ls []) := by
    intro _ hr H locs ls hW hl
    unfold F_H_odds_J18_3 at hr
    refine lv_aload_n hx hb d_H_odds_18 rfl (lv_at hl 0 rfl) ?_
    refine lv_iconst (v := (-1)) hx hb d_H_odds_19 (by decide) ?_
    obtain ⟨q_4, hc_4, hr⟩ := ob hr
    have ct_4 := C_H_refusedLong l D cI cS a_r0 a_r0_refusals (Value.ref a_r0_now) v_r0_kept v_r0_trial v_r0_hasKept v_r0_steps v_r0_letters v_r0_numbers v_r0_harvest (Value.ref a_r0_fraction) r0_refusals (-1) q_4 hc_4
    refine k_goL hA hW [0, 6] rfl ct_4.1 (ws' := (w_H_odds cI a_r0 a_r0_fraction a_r0_now a_r0_now_goes a_r0_now_hampers a_r0_now_weights a_r0_refusals v_r0_kept v_r0_trial v_r0_hasKept v_r0_steps v_r0_letters v_r0_numbers v_r0_harvest v_r0_now_kinds v_r0_now_figures v_r0_now_things v_r0_now_fields v_r0_now_done r0_fraction_above r0_fraction_below r0_now_days r0_now_goes r0_now_hampers r0_now_weights q_4.2)) rfl (k_runV C hA hW mw_H_refusedLong mv_H_refusedLong (ct_4.2 _) [0, 6] rfl rfl 0 rfl rfl qm_H_208 ⟨Nat.le_of_ble_eq_true rfl, Nat.le_of_ble_eq_true rfl, Nat.zero_le _, Nat.zero_le _⟩ rfl rfl (Nat.le_of_ble_eq_true rfl) hl.1 d_H_odds_20) (fun H locs hW => ?_)
    obtain rfl := Option.some.inj hr
    rw [hQ]; exact k_lret C hret hW d_H_odds_23
  refine lv_if_eq (tgt := 18) hx hb d_H_odds_8 (by decide) (fun c_2 => ?_) (fun c_2 => ?_)
  · replace hr := ip c_2 hr
    exact hJ_3 () hr _ _ _ hW (lv_sub hl [0] rfl)
  · replace hr := iN c_2 hr
    refine lv_iload_n hx hb d_H_odds_11 rfl (lv_at hl 2 rfl) ?_
    obtain ⟨q_5, hc_5, hr⟩ := ob hr
    have ct_5 := C_H_isWeather l D cI cS x2 q_5 hc_5
    refine k_goIp hA hW [] rfl rfl (k_runS C hA hW mw_H_isWeather ms_H_isWeather (ct_5.2 _) [] rfl rfl qm_H_140 ⟨Nat.le_of_ble_eq_true rfl, Nat.le_of_ble_eq_true rfl, Nat.zero_le _, Nat.zero_le _⟩ rfl rfl (Nat.le_of_ble_eq_true rfl) hl.1 d_H_odds_12) (fun H locs hW => ?_)
    refine lv_if_ne (tgt := 24) hx hb d_H_odds_15 (by decide) (fun c_6 => ?_) (fun c_6 => ?_)
    · replace hr := iN c_6 hr
      refine lv_iload_n hx hb d_H_odds_24 rfl (lv_at hl 3 rfl) ?_
      obtain ⟨q_7, hc_7, hr⟩ := ob hr
      have ct_7 := C_H_isPart l D cI cS x3 q_7 hc_7
      refine k_goIp hA hW [] rfl rfl (k_runS C hA hW mw_H_isPart ms_H_isPart (ct_7.2 _) [] rfl rfl qm_H_212 ⟨Nat.le_of_ble_eq_true rfl, Nat.le_of_ble_eq_true rfl, Nat.zero_le _, Nat.zero_le _⟩ rfl rfl (Nat.le_of_ble_eq_true rfl) hl.1 d_H_odds_25) (fun H locs hW => ?_)
      refine lv_if_ne (tgt := 38) hx hb d_H_odds_28 (by decide) (fun c_8 => ?_) (fun c_8 => ?_)
      · replace hr := iN c_8 hr
        refine lv_aload_n hx hb d_H_odds_38 rfl (lv_at hl 0 rfl) ?_
        refine k_get i_H C hW 0 rfl rfl 0 (by decide) qf_H_10 rfl rfl d_H_odds_39 ?_
        refine lv_aload_n hx hb d_H_odds_42 rfl (lv_at hl 0 rfl) ?_
        refine k_get i_H C hW 0 rfl rfl 0 (by decide) qf_H_10 rfl rfl d_H_odds_43 ?_
        refine k_getN i_Sta C hW 2 rfl rfl 5 (by decide) qf_H_110 rfl rfl d_H_odds_46 ?_
        refine lv_iload_n hx hb d_H_odds_49 rfl (lv_at hl 1 rfl) ?_
        obtain ⟨h_9, hr⟩ := ck_some hr
        refine k_iald C hW 4 rfl h_9 d_H_odds_50 ?_
        obtain ⟨q_10, hc_10, hr⟩ := ob hr
        have ct_10 := C_Sta_couldBe l D cI cS a_r0_now a_r0_now_goes (Value.ref a_r0_now_weights) v_r0_now_kinds v_r0_now_figures v_r0_now_things (Value.ref a_r0_now_hampers) (Value.int r0_now_days) v_r0_now_fields v_r0_now_done r0_now_goes (r0_now_hampers (Int32.toNatClampNeg x1)) q_10 hc_10
        refine k_goIp hA hW [2, 3] rfl rfl (k_runV C hA hW mw_Sta_couldBe mv_Sta_couldBe (ct_10.2 _) [2, 3] rfl rfl 2 rfl rfl qm_H_113 ⟨Nat.le_of_ble_eq_true rfl, Nat.le_of_ble_eq_true rfl, Nat.zero_le _, Nat.zero_le _⟩ rfl rfl (Nat.le_of_ble_eq_true rfl) hl.1 d_H_odds_51) (fun H locs hW => ?_)
        refine lv_istore (lv' := [(4, .int q_10), (0, .ref a_r0), (1, .int x1), (2, .int x2), (3, .int x3)]) hx hb d_H_odds_54 hl (by decide) rfl (fun ls hl => ?_)
        refine lv_iload hx hb d_H_odds_56 (lv_at hl 0 rfl) ?_
        refine lv_iload_n hx hb d_H_odds_58 rfl (lv_at hl 3 rfl) ?_
        obtain ⟨q_11, hc_11, hr⟩ := ob hr
        have ct_11 := C_H_holds l D cI cS q_10 x2 q_11 hc_11
        refine k_goIp hA hW [] rfl rfl (k_runS C hA hW mw_H_holds ms_H_holds (ct_11.2 _) [] rfl rfl qm_H_215 ⟨Nat.le_of_ble_eq_true rfl, Nat.le_of_ble_eq_true rfl, Nat.zero_le _, Nat.zero_le _⟩ rfl rfl (Nat.le_of_ble_eq_true rfl) hl.1 d_H_odds_59) (fun H locs hW => ?_)
        have hJ_13 : ∀ (s0_13 : Int32), F_H_odds_J77_13 r0_now_weights r0_refusals q_10 x3 s0_13 = some o → ∀ (H : Heap) (locs : List Loc) (ls : Array Slot), wd A s.heap D (w_H_odds cI a_r0 a_r0_fraction a_r0_now a_r0_now_goes a_r0_now_hampers a_r0_now_weights a_r0_refusals v_r0_kept v_r0_trial v_r0_hasKept v_r0_steps v_r0_letters v_r0_numbers v_r0_harvest v_r0_now_kinds v_r0_now_figures v_r0_now_things v_r0_now_fields v_r0_now_done r0_fraction_above r0_fraction_below r0_now_days r0_now_goes r0_now_hampers r0_now_weights r0_refusals) H locs → lv_has ls 6 [(0, .ref a_r0), (3, .int x3), (4, .int q_10)] → W p l e (rmd 2) s m ([.ref a_r0, .int x1, .int x2, .int x3] : List Value).toArray below meth c H locs 0 0 Q (F0 m 77 ls [.int s0_13]) := by
          intro s0_13 hr H locs ls hW hl
          unfold F_H_odds_J77_13 at hr
          refine lv_istore (lv' := [(5, .int s0_13), (0, .ref a_r0), (3, .int x3), (4, .int q_10)]) hx hb d_H_odds_77 hl (by decide) rfl (fun ls hl => ?_)
          refine lv_aload_n hx hb d_H_odds_79 rfl (lv_at hl 1 rfl) ?_
          refine k_get i_H C hW 0 rfl rfl 8 (by decide) qf_H_57 rfl rfl d_H_odds_80 ?_
          refine lv_iload hx hb d_H_odds_83 (lv_at hl 0 rfl) ?_
          refine lv_i2l hx hb d_H_odds_85 rfl ?_
          refine lv_aload_n hx hb d_H_odds_86 rfl (lv_at hl 1 rfl) ?_
          refine k_get i_H C hW 0 rfl rfl 0 (by decide) qf_H_10 rfl rfl d_H_odds_87 ?_
          refine lv_iload hx hb d_H_odds_90 (lv_at hl 3 rfl) ?_
          obtain ⟨q_14, hc_14, hr⟩ := ob hr
          have ct_14 := C_Sta_weightOfAll l D cI cS a_r0_now a_r0_now_weights v_r0_now_kinds v_r0_now_figures (Value.ref a_r0_now_goes) v_r0_now_things (Value.ref a_r0_now_hampers) (Value.int r0_now_days) v_r0_now_fields v_r0_now_done r0_now_weights q_10 q_14 hc_14
          refine k_goIp hA hW [2, 5] rfl rfl (k_runV C hA hW mw_Sta_weightOfAll mv_Sta_weightOfAll (ct_14.2 _) [2, 5] rfl rfl 2 rfl rfl qm_H_219 ⟨Nat.le_of_ble_eq_true rfl, Nat.le_of_ble_eq_true rfl, Nat.zero_le _, Nat.zero_le _⟩ rfl rfl (Nat.le_of_ble_eq_true rfl) hl.1 d_H_odds_92) (fun H locs hW => ?_)
          refine lv_i2l hx hb d_H_odds_95 rfl ?_
          obtain ⟨q_15, hc_15, hr⟩ := ob hr
          have ct_15 := C_Frc_become l D cI cS a_r0_fraction r0_fraction_above r0_fraction_below (Int32.toInt64 s0_13) (Int32.toInt64 q_14) q_15 hc_15
          refine k_goV hA hW [1] rfl ct_15.1 (ws' := (w_H_odds cI a_r0 a_r0_fraction a_r0_now a_r0_now_goes a_r0_now_hampers a_r0_now_weights a_r0_refusals v_r0_kept v_r0_trial v_r0_hasKept v_r0_steps v_r0_letters v_r0_numbers v_r0_harvest v_r0_now_kinds v_r0_now_figures v_r0_now_things v_r0_now_fields v_r0_now_done q_15.1 q_15.2 r0_now_days r0_now_goes r0_now_hampers r0_now_weights r0_refusals)) rfl (k_runV C hA hW mw_Frc_become mv_Frc_become (ct_15.2 _) [1] rfl rfl 1 rfl rfl qm_H_222 ⟨Nat.le_of_ble_eq_true rfl, Nat.le_of_ble_eq_true rfl, Nat.zero_le _, Nat.zero_le _⟩ rfl rfl (Nat.le_of_ble_eq_true rfl) hl.1 d_H_odds_96) (fun H locs hW => ?_)
          refine lv_aload_n hx hb d_H_odds_99 rfl (lv_at hl 1 rfl) ?_
          refine k_get i_H C hW 0 rfl rfl 8 (by decide) qf_H_57 rfl rfl d_H_odds_100 ?_
          refine lv_iload_n hx hb d_H_odds_103 rfl (lv_at hl 2 rfl) ?_
          obtain ⟨q_16, hc_16, hr⟩ := ob hr
          have ct_16 := C_Frc_told l D cI cS a_r0_fraction q_15.1 q_15.2 x3 q_16 hc_16
          refine k_goLp hA hW [1] rfl rfl (k_runV C hA hW mw_Frc_told mv_Frc_told (ct_16.2 _) [1] rfl rfl 1 rfl rfl qm_H_225 ⟨Nat.le_of_ble_eq_true rfl, Nat.le_of_ble_eq_true rfl, Nat.zero_le _, Nat.zero_le _⟩ rfl rfl (Nat.le_of_ble_eq_true rfl) hl.1 d_H_odds_104) (fun H locs hW => ?_)
          obtain rfl := Option.some.inj hr
          rw [hQ]; exact k_lret C hret hW d_H_odds_107
        refine lv_if_eq (tgt := 76) hx hb d_H_odds_62 (by decide) (fun c_12 => ?_) (fun c_12 => ?_)
        · replace hr := ip c_12 hr
          refine lv_iconst (v := 0) hx hb d_H_odds_76 (by decide) ?_
          exact hJ_13 0 hr _ _ _ hW (lv_sub hl [1, 4, 0] rfl)
        · replace hr := iN c_12 hr
          refine lv_aload_n hx hb d_H_odds_65 rfl (lv_at hl 1 rfl) ?_
          refine k_get i_H C hW 0 rfl rfl 0 (by decide) qf_H_10 rfl rfl d_H_odds_66 ?_
          refine lv_iload_n hx hb d_H_odds_69 rfl (lv_at hl 3 rfl) ?_
          obtain ⟨q_17, hc_17, hr⟩ := ob hr
          have ct_17 := C_Sta_weightOf l D cI cS a_r0_now a_r0_now_weights v_r0_now_kinds v_r0_now_figures (Value.ref a_r0_now_goes) v_r0_now_things (Value.ref a_r0_now_hampers) (Value.int r0_now_days) v_r0_now_fields v_r0_now_done r0_now_weights x2 q_17 hc_17
          refine k_goIp hA hW [2, 5] rfl rfl (k_runV C hA hW mw_Sta_weightOf mv_Sta_weightOf (ct_17.2 _) [2, 5] rfl rfl 2 rfl rfl qm_H_161 ⟨Nat.le_of_ble_eq_true rfl, Nat.le_of_ble_eq_true rfl, Nat.zero_le _, Nat.zero_le _⟩ rfl rfl (Nat.le_of_ble_eq_true rfl) hl.1 d_H_odds_70) (fun H locs hW => ?_)
          refine lv_goto (tgt := 77) hx hb d_H_odds_73 (by decide) ?_
          exact hJ_13 q_17 hr _ _ _ hW (lv_sub hl [1, 4, 0] rfl)
      · replace hr := ip c_8 hr
        refine lv_aload_n hx hb d_H_odds_31 rfl (lv_at hl 0 rfl) ?_
        refine lv_bipush (v := (-2)) hx hb d_H_odds_32 (by decide) ?_
        obtain ⟨q_18, hc_18, hr⟩ := ob hr
        have ct_18 := C_H_refusedLong l D cI cS a_r0 a_r0_refusals (Value.ref a_r0_now) v_r0_kept v_r0_trial v_r0_hasKept v_r0_steps v_r0_letters v_r0_numbers v_r0_harvest (Value.ref a_r0_fraction) r0_refusals (-2) q_18 hc_18
        refine k_goL hA hW [0, 6] rfl ct_18.1 (ws' := (w_H_odds cI a_r0 a_r0_fraction a_r0_now a_r0_now_goes a_r0_now_hampers a_r0_now_weights a_r0_refusals v_r0_kept v_r0_trial v_r0_hasKept v_r0_steps v_r0_letters v_r0_numbers v_r0_harvest v_r0_now_kinds v_r0_now_figures v_r0_now_things v_r0_now_fields v_r0_now_done r0_fraction_above r0_fraction_below r0_now_days r0_now_goes r0_now_hampers r0_now_weights q_18.2)) rfl (k_runV C hA hW mw_H_refusedLong mv_H_refusedLong (ct_18.2 _) [0, 6] rfl rfl 0 rfl rfl qm_H_208 ⟨Nat.le_of_ble_eq_true rfl, Nat.le_of_ble_eq_true rfl, Nat.zero_le _, Nat.zero_le _⟩ rfl rfl (Nat.le_of_ble_eq_true rfl) hl.1 d_H_odds_34) (fun H locs hW => ?_)
        obtain rfl := Option.some.inj hr
        rw [hQ]; exact k_lret C hret hW d_H_odds_37
    · replace hr := ip c_6 hr
      exact hJ_3 () hr _ _ _ hW (lv_sub hl [0] rfl)
def w_H_often (cI : ClassId) (a_r0 a_r0_now a_r0_now_hampers a_r0_refusals : Nat) (v_r0_kept v_r0_trial v_r0_hasKept v_r0_steps v_r0_letters v_r0_numbers v_r0_harvest v_r0_fraction v_r0_now_weights v_r0_now_kinds v_r0_now_figures v_r0_now_goes v_r0_now_fields v_r0_now_done : Value) (r0_now_days : Int32) (r0_now_things : Int32) (r0_now_hampers : Nat → Int32) (r0_refusals : Nat → Int32) : va_W := [(a_r0, .inr (0, [.ref a_r0_now, v_r0_kept, v_r0_trial, v_r0_hasKept, v_r0_steps, v_r0_letters, v_r0_numbers, v_r0_harvest, v_r0_fraction, .ref a_r0_refusals])), (a_r0_now, .inr (1, [v_r0_now_weights, v_r0_now_kinds, v_r0_now_figures, v_r0_now_goes, .int r0_now_things, .ref a_r0_now_hampers, .int r0_now_days, v_r0_now_fields, v_r0_now_done])), (a_r0_now_hampers, .inl (cI, 8, .inl r0_now_hampers)), (a_r0_refusals, .inl (cI, 7, .inl r0_refusals))]
def F_H_often_J16_2 (r0_now_days : Int32) (r0_now_things : Int32) (r0_now_hampers : Nat → Int32) (r0_refusals : Nat → Int32) (x1 : Int32) : Option (Int32 × (Nat → Int32)) :=
  ((F_Dia_mostPacked r0_now_days r0_now_things r0_now_hampers).bind (fun q_3 => (if x1 = 0 then (some (q_3, r0_refusals)) else ((F_Dia_timesPacked r0_now_days r0_now_hampers q_3).bind (fun q_5 => (some (q_5, r0_refusals)))))))
def F_H_often (r0_now_days : Int32) (r0_now_things : Int32) (r0_now_hampers : Nat → Int32) (r0_refusals : Nat → Int32) (x1 : Int32) : Option (Int32 × (Nat → Int32)) :=
  (if x1 = 0 then (F_H_often_J16_2 r0_now_days r0_now_things r0_now_hampers r0_refusals x1) else (if x1 = 1 then (F_H_often_J16_2 r0_now_days r0_now_things r0_now_hampers r0_refusals x1) else ((F_H_refused r0_refusals ((-2) : Int32)).bind (fun q_7 => (some (q_7.1, q_7.2))))))
set_option maxHeartbeats 4000000 in
set_option maxRecDepth 100000 in
theorem C_H_often (l : Launch) (D : va_G) (cI cS : ClassId) (a_r0 a_r0_now a_r0_now_hampers a_r0_refusals : Nat) (v_r0_kept v_r0_trial v_r0_hasKept v_r0_steps v_r0_letters v_r0_numbers v_r0_harvest v_r0_fraction v_r0_now_weights v_r0_now_kinds v_r0_now_figures v_r0_now_goes v_r0_now_fields v_r0_now_done : Value) (r0_now_days : Int32) (r0_now_things : Int32) (r0_now_hampers : Nat → Int32) (r0_refusals : Nat → Int32) (x1 : Int32) (o : Int32 × (Nat → Int32)) (hr : F_H_often r0_now_days r0_now_things r0_now_hampers r0_refusals x1 = some o) : ctI l y_H_often (Cond.code y_H_often b_H_often 3 (some FieldType.int)) (rmd 4) D (kTy cI cS) [.ref a_r0, .int x1] (w_H_often cI a_r0 a_r0_now a_r0_now_hampers a_r0_refusals v_r0_kept v_r0_trial v_r0_hasKept v_r0_steps v_r0_letters v_r0_numbers v_r0_harvest v_r0_fraction v_r0_now_weights v_r0_now_kinds v_r0_now_figures v_r0_now_goes v_r0_now_fields v_r0_now_done r0_now_days r0_now_things r0_now_hampers r0_refusals) (w_H_often cI a_r0 a_r0_now a_r0_now_hampers a_r0_refusals v_r0_kept v_r0_trial v_r0_hasKept v_r0_steps v_r0_letters v_r0_numbers v_r0_harvest v_r0_fraction v_r0_now_weights v_r0_now_kinds v_r0_now_figures v_r0_now_goes v_r0_now_fields v_r0_now_done r0_now_days r0_now_things r0_now_hampers o.2) o.1 := by
  unfold F_H_often at hr
  refine ⟨rfl, fun sz => ct_of (w0 := (w_H_often cI a_r0 a_r0_now a_r0_now_hampers a_r0_refusals v_r0_kept v_r0_trial v_r0_hasKept v_r0_steps v_r0_letters v_r0_numbers v_r0_harvest v_r0_fraction v_r0_now_weights v_r0_now_kinds v_r0_now_figures v_r0_now_goes v_r0_now_fields v_r0_now_done r0_now_days r0_now_things r0_now_hampers r0_refusals)) (Qc := fun A => qI D (w_H_often cI a_r0 a_r0_now a_r0_now_hampers a_r0_refusals v_r0_kept v_r0_trial v_r0_hasKept v_r0_steps v_r0_letters v_r0_numbers v_r0_harvest v_r0_fraction v_r0_now_weights v_r0_now_kinds v_r0_now_figures v_r0_now_goes v_r0_now_fields v_r0_now_done r0_now_days r0_now_things r0_now_hampers o.2) o.1 A) rfl (Nat.le_of_ble_eq_true rfl) ?_ sz⟩
  intro p e s m below meth c A hA C hret ls hl hW
  have C : cx p s m ([.ref a_r0, .int x1] : List Value).toArray meth c b_H_often 3 R_H D (kTy cI cS) (Cond.code y_H_often b_H_often 3 (some FieldType.int)) := C
  obtain ⟨hx, hb, hml, hown, hts, hK, hlk, hN⟩ := id C
  have hl : lv_has ls 3 [(0, .ref a_r0), (1, .int x1)] := hl
  obtain ⟨Q, hQ⟩ : ∃ Q, Q = MQ below (qI D (w_H_often cI a_r0 a_r0_now a_r0_now_hampers a_r0_refusals v_r0_kept v_r0_trial v_r0_hasKept v_r0_steps v_r0_letters v_r0_numbers v_r0_harvest v_r0_fraction v_r0_now_weights v_r0_now_kinds v_r0_now_figures v_r0_now_goes v_r0_now_fields v_r0_now_done r0_now_days r0_now_things r0_now_hampers o.2) o.1 A) ([.ref a_r0, .int x1] : List Value).toArray s 0 0 A := ⟨_, rfl⟩
  rw [← hQ]
  refine lv_iload_n hx hb d_H_often_0 rfl (lv_at hl 1 rfl) ?_
  have hJ_2 : ∀ (_ : Unit), F_H_often_J16_2 r0_now_days r0_now_things r0_now_hampers r0_refusals x1 = some o → ∀ (H : Heap) (locs : List Loc) (ls : Array Slot), wd A s.heap D (w_H_often cI a_r0 a_r0_now a_r0_now_hampers a_r0_refusals v_r0_kept v_r0_trial v_r0_hasKept v_r0_steps v_r0_letters v_r0_numbers v_r0_harvest v_r0_fraction v_r0_now_weights v_r0_now_kinds v_r0_now_figures v_r0_now_goes v_r0_now_fields v_r0_now_done r0_now_days r0_now_things r0_now_hampers r0_refusals) H locs → lv_has ls 3 [(0, .ref a_r0), (1, .int x1)] → W p l e (rmd 4) s m ([.ref a_r0, .int x1] : List Value).toArray below meth c H locs 0 0 Q (F0 m 16 ls []) := by
    intro _ hr H locs ls hW hl
    unfold F_H_often_J16_2 at hr
    refine lv_aload_n hx hb d_H_often_16 rfl (lv_at hl 0 rfl) ?_
    refine k_get i_H C hW 0 rfl rfl 0 (by decide) qf_H_10 rfl rfl d_H_often_17 ?_
    obtain ⟨q_3, hc_3, hr⟩ := ob hr
    have ct_3 := C_Dia_mostPacked l D cI cS a_r0_now a_r0_now_hampers v_r0_now_weights v_r0_now_kinds v_r0_now_figures v_r0_now_goes v_r0_now_fields v_r0_now_done r0_now_days r0_now_things r0_now_hampers q_3 hc_3
    refine k_goIp hA hW [1, 2] rfl rfl (k_runS C hA hW mw_Dia_mostPacked ms_Dia_mostPacked (ct_3.2 _) [1, 2] rfl rfl qm_H_323 ⟨Nat.le_of_ble_eq_true rfl, Nat.le_of_ble_eq_true rfl, Nat.zero_le _, Nat.zero_le _⟩ rfl rfl (Nat.le_of_ble_eq_true rfl) hl.1 d_H_often_20) (fun H locs hW => ?_)
    refine lv_istore_n (lv' := [(2, .int q_3), (0, .ref a_r0), (1, .int x1)]) hx hb d_H_often_23 rfl hl (by decide) rfl (fun ls hl => ?_)
    refine lv_iload_n hx hb d_H_often_24 rfl (lv_at hl 2 rfl) ?_
    refine lv_if_ne (tgt := 32) hx hb d_H_often_25 (by decide) (fun c_4 => ?_) (fun c_4 => ?_)
    · replace hr := iN c_4 hr
      refine lv_aload_n hx hb d_H_often_32 rfl (lv_at hl 1 rfl) ?_
      refine k_get i_H C hW 0 rfl rfl 0 (by decide) qf_H_10 rfl rfl d_H_often_33 ?_
      refine lv_iload_n hx hb d_H_often_36 rfl (lv_at hl 0 rfl) ?_
      obtain ⟨q_5, hc_5, hr⟩ := ob hr
      have ct_5 := C_Dia_timesPacked l D cI cS a_r0_now a_r0_now_hampers v_r0_now_weights v_r0_now_kinds v_r0_now_figures v_r0_now_goes (Value.int r0_now_things) v_r0_now_fields v_r0_now_done r0_now_days r0_now_hampers q_3 q_5 hc_5
      refine k_goIp hA hW [1, 2] rfl rfl (k_runS C hA hW mw_Dia_timesPacked ms_Dia_timesPacked (ct_5.2 _) [1, 2] rfl rfl qm_H_326 ⟨Nat.le_of_ble_eq_true rfl, Nat.le_of_ble_eq_true rfl, Nat.zero_le _, Nat.zero_le _⟩ rfl rfl (Nat.le_of_ble_eq_true rfl) hl.1 d_H_often_37) (fun H locs hW => ?_)
      obtain rfl := Option.some.inj hr
      rw [hQ]; exact k_iret C hret hW d_H_often_40
    · replace hr := ip c_4 hr
      refine lv_iload_n hx hb d_H_often_28 rfl (lv_at hl 0 rfl) ?_
      refine lv_goto (tgt := 40) hx hb d_H_often_29 (by decide) ?_
      obtain rfl := Option.some.inj hr
      rw [hQ]; exact k_iret C hret hW d_H_often_40
  refine lv_if_eq (tgt := 16) hx hb d_H_often_1 (by decide) (fun c_1 => ?_) (fun c_1 => ?_)
  · replace hr := ip c_1 hr
    exact hJ_2 () hr _ _ _ hW (lv_sub hl [0, 1] rfl)
  · replace hr := iN c_1 hr
    refine lv_iload_n hx hb d_H_often_4 rfl (lv_at hl 1 rfl) ?_
    refine lv_iconst (v := 1) hx hb d_H_often_5 (by decide) ?_
    refine lv_icmp_eq (tgt := 16) hx hb d_H_often_6 (by decide) (fun c_6 => ?_) (fun c_6 => ?_)
    · replace hr := ip c_6 hr
      exact hJ_2 () hr _ _ _ hW (lv_sub hl [0, 1] rfl)
    · replace hr := iN c_6 hr
      refine lv_aload_n hx hb d_H_often_9 rfl (lv_at hl 0 rfl) ?_
      refine lv_bipush (v := (-2)) hx hb d_H_often_10 (by decide) ?_
      obtain ⟨q_7, hc_7, hr⟩ := ob hr
      have ct_7 := C_H_refused l D cI cS a_r0 a_r0_refusals (Value.ref a_r0_now) v_r0_kept v_r0_trial v_r0_hasKept v_r0_steps v_r0_letters v_r0_numbers v_r0_harvest v_r0_fraction r0_refusals (-2) q_7 hc_7
      refine k_goI hA hW [0, 3] rfl ct_7.1 (ws' := (w_H_often cI a_r0 a_r0_now a_r0_now_hampers a_r0_refusals v_r0_kept v_r0_trial v_r0_hasKept v_r0_steps v_r0_letters v_r0_numbers v_r0_harvest v_r0_fraction v_r0_now_weights v_r0_now_kinds v_r0_now_figures v_r0_now_goes v_r0_now_fields v_r0_now_done r0_now_days r0_now_things r0_now_hampers q_7.2)) rfl (k_runV C hA hW mw_H_refused mv_H_refused (ct_7.2 _) [0, 3] rfl rfl 0 rfl rfl qm_H_65 ⟨Nat.le_of_ble_eq_true rfl, Nat.le_of_ble_eq_true rfl, Nat.zero_le _, Nat.zero_le _⟩ rfl rfl (Nat.le_of_ble_eq_true rfl) hl.1 d_H_often_12) (fun H locs hW => ?_)
      obtain rfl := Option.some.inj hr
      rw [hQ]; exact k_iret C hret hW d_H_often_15
def w_H_order (cI : ClassId) (a_r0 a_r0_harvest a_r0_harvest_best a_r0_harvest_fields a_r0_harvest_fields_lefts a_r0_harvest_fields_wishes a_r0_harvest_path a_r0_harvest_weathers a_r0_now a_r0_now_fields a_r0_now_fields_lefts a_r0_now_fields_wishes a_r0_now_goes a_r0_now_hampers a_r0_now_weights a_r0_refusals : Nat) (v_r0_kept v_r0_trial v_r0_hasKept v_r0_steps v_r0_letters v_r0_numbers v_r0_fraction v_r0_harvest_oneIn v_r0_harvest_lotsDone v_r0_harvest_lotsNone v_r0_now_kinds v_r0_now_figures v_r0_now_things v_r0_now_done : Value) (r0_harvest_atMost : Int32) (r0_harvest_counted : Int32) (r0_harvest_days : Int32) (r0_harvest_most : Int32) (r0_harvest_best : Nat → Int32) (r0_harvest_fields_lefts : Nat → Int32) (r0_harvest_fields_wishes : Nat → Int32) (r0_harvest_path : Nat → Int32) (r0_harvest_weathers : Nat → Int32) (r0_now_days : Int32) (r0_now_fields_lefts : Nat → Int32) (r0_now_fields_wishes : Nat → Int32) (r0_now_goes : Nat → Int32) (r0_now_hampers : Nat → Int32) (r0_now_weights : Nat → Int32) (r0_refusals : Nat → Int32) : va_W := [(a_r0, .inr (0, [.ref a_r0_now, v_r0_kept, v_r0_trial, v_r0_hasKept, v_r0_steps, v_r0_letters, v_r0_numbers, .ref a_r0_harvest, v_r0_fraction, .ref a_r0_refusals])), (a_r0_harvest, .inr (7, [.ref a_r0_harvest_fields, .ref a_r0_harvest_weathers, .int r0_harvest_days, .ref a_r0_harvest_path, .ref a_r0_harvest_best, .int r0_harvest_counted, .int r0_harvest_atMost, .int r0_harvest_most, v_r0_harvest_oneIn, v_r0_harvest_lotsDone, v_r0_harvest_lotsNone])), (a_r0_harvest_best, .inl (cI, 8, .inl r0_harvest_best)), (a_r0_harvest_fields, .inr (2, [.ref a_r0_harvest_fields_wishes, .ref a_r0_harvest_fields_lefts])), (a_r0_harvest_fields_lefts, .inl (cI, 4, .inl r0_harvest_fields_lefts)), (a_r0_harvest_fields_wishes, .inl (cI, 4, .inl r0_harvest_fields_wishes)), (a_r0_harvest_path, .inl (cI, 8, .inl r0_harvest_path)), (a_r0_harvest_weathers, .inl (cI, 8, .inl r0_harvest_weathers)), (a_r0_now, .inr (1, [.ref a_r0_now_weights, v_r0_now_kinds, v_r0_now_figures, .ref a_r0_now_goes, v_r0_now_things, .ref a_r0_now_hampers, .int r0_now_days, .ref a_r0_now_fields, v_r0_now_done])), (a_r0_now_fields, .inr (2, [.ref a_r0_now_fields_wishes, .ref a_r0_now_fields_lefts])), (a_r0_now_fields_lefts, .inl (cI, 4, .inl r0_now_fields_lefts)), (a_r0_now_fields_wishes, .inl (cI, 4, .inl r0_now_fields_wishes)), (a_r0_now_goes, .inl (cI, 8, .inl r0_now_goes)), (a_r0_now_hampers, .inl (cI, 8, .inl r0_now_hampers)), (a_r0_now_weights, .inl (cI, 6, .inl r0_now_weights)), (a_r0_refusals, .inl (cI, 7, .inl r0_refusals))]
def F_H_order_J10_2 (r0_harvest_atMost : Int32) (r0_harvest_counted : Int32) (r0_harvest_days : Int32) (r0_harvest_most : Int32) (r0_harvest_best : Nat → Int32) (r0_harvest_fields_lefts : Nat → Int32) (r0_harvest_fields_wishes : Nat → Int32) (r0_harvest_path : Nat → Int32) (r0_harvest_weathers : Nat → Int32) (r0_refusals : Nat → Int32) : Option (Int32 × (Int32) × (Int32) × (Int32) × (Int32) × (Nat → Int32) × (Nat → Int32) × (Nat → Int32) × (Nat → Int32) × (Nat → Int32) × (Nat → Int32)) :=
  ((F_H_refused r0_refusals ((-4) : Int32)).bind (fun q_3 => (some (q_3.1, r0_harvest_atMost, r0_harvest_counted, r0_harvest_days, r0_harvest_most, r0_harvest_best, r0_harvest_fields_lefts, r0_harvest_fields_wishes, r0_harvest_path, r0_harvest_weathers, q_3.2))))
def F_H_order (r0_harvest_atMost : Int32) (r0_harvest_counted : Int32) (r0_harvest_days : Int32) (r0_harvest_most : Int32) (r0_harvest_best : Nat → Int32) (r0_harvest_fields_lefts : Nat → Int32) (r0_harvest_fields_wishes : Nat → Int32) (r0_harvest_path : Nat → Int32) (r0_harvest_weathers : Nat → Int32) (r0_now_days : Int32) (r0_now_fields_lefts : Nat → Int32) (r0_now_fields_wishes : Nat → Int32) (r0_now_goes : Nat → Int32) (r0_now_hampers : Nat → Int32) (r0_now_weights : Nat → Int32) (r0_refusals : Nat → Int32) (x1 : Int32) (x2 : Int32) : Option (Int32 × (Int32) × (Int32) × (Int32) × (Int32) × (Nat → Int32) × (Nat → Int32) × (Nat → Int32) × (Nat → Int32) × (Nat → Int32) × (Nat → Int32)) :=
  (if x1 < 1 then (F_H_order_J10_2 r0_harvest_atMost r0_harvest_counted r0_harvest_days r0_harvest_most r0_harvest_best r0_harvest_fields_lefts r0_harvest_fields_wishes r0_harvest_path r0_harvest_weathers r0_refusals) else (if ((-1) : Int32) ≤ x2 then (if x1 ≤ 8 then (if r0_now_days ≤ 7 then ((F_Har_findOrder r0_harvest_best r0_harvest_fields_lefts r0_harvest_fields_wishes r0_harvest_path r0_harvest_weathers r0_now_days r0_now_fields_lefts r0_now_fields_wishes r0_now_goes r0_now_hampers r0_now_weights x1).bind (fun q_7 => (if x2 = (-1) then (some (q_7.2.2.2.1, q_7.1, q_7.2.1, q_7.2.2.1, q_7.2.2.2.1, q_7.2.2.2.2.1, q_7.2.2.2.2.2.1, q_7.2.2.2.2.2.2.1, q_7.2.2.2.2.2.2.2.1, q_7.2.2.2.2.2.2.2.2, r0_refusals)) else ((F_Har_orderedDay q_7.2.2.1 q_7.2.2.2.2.1 x2).bind (fun q_9 => (some (q_9, q_7.1, q_7.2.1, q_7.2.2.1, q_7.2.2.2.1, q_7.2.2.2.2.1, q_7.2.2.2.2.2.1, q_7.2.2.2.2.2.2.1, q_7.2.2.2.2.2.2.2.1, q_7.2.2.2.2.2.2.2.2, r0_refusals))))))) else ((F_H_refused r0_refusals ((-3) : Int32)).bind (fun q_10 => (some (q_10.1, r0_harvest_atMost, r0_harvest_counted, r0_harvest_days, r0_harvest_most, r0_harvest_best, r0_harvest_fields_lefts, r0_harvest_fields_wishes, r0_harvest_path, r0_harvest_weathers, q_10.2))))) else ((F_H_refused r0_refusals ((-6) : Int32)).bind (fun q_11 => (some (q_11.1, r0_harvest_atMost, r0_harvest_counted, r0_harvest_days, r0_harvest_most, r0_harvest_best, r0_harvest_fields_lefts, r0_harvest_fields_wishes, r0_harvest_path, r0_harvest_weathers, q_11.2))))) else (F_H_order_J10_2 r0_harvest_atMost r0_harvest_counted r0_harvest_days r0_harvest_most r0_harvest_best r0_harvest_fields_lefts r0_harvest_fields_wishes r0_harvest_path r0_harvest_weathers r0_refusals)))
set_option maxHeartbeats 4000000 in
set_option maxRecDepth 100000 in
theorem C_H_order (l : Launch) (D : va_G) (cI cS : ClassId) (a_r0 a_r0_harvest a_r0_harvest_best a_r0_harvest_fields a_r0_harvest_fields_lefts a_r0_harvest_fields_wishes a_r0_harvest_path a_r0_harvest_weathers a_r0_now a_r0_now_fields a_r0_now_fields_lefts a_r0_now_fields_wishes a_r0_now_goes a_r0_now_hampers a_r0_now_weights a_r0_refusals : Nat) (v_r0_kept v_r0_trial v_r0_hasKept v_r0_steps v_r0_letters v_r0_numbers v_r0_fraction v_r0_harvest_oneIn v_r0_harvest_lotsDone v_r0_harvest_lotsNone v_r0_now_kinds v_r0_now_figures v_r0_now_things v_r0_now_done : Value) (r0_harvest_atMost : Int32) (r0_harvest_counted : Int32) (r0_harvest_days : Int32) (r0_harvest_most : Int32) (r0_harvest_best : Nat → Int32) (r0_harvest_fields_lefts : Nat → Int32) (r0_harvest_fields_wishes : Nat → Int32) (r0_harvest_path : Nat → Int32) (r0_harvest_weathers : Nat → Int32) (r0_now_days : Int32) (r0_now_fields_lefts : Nat → Int32) (r0_now_fields_wishes : Nat → Int32) (r0_now_goes : Nat → Int32) (r0_now_hampers : Nat → Int32) (r0_now_weights : Nat → Int32) (r0_refusals : Nat → Int32) (x1 : Int32) (x2 : Int32) (o : Int32 × (Int32) × (Int32) × (Int32) × (Int32) × (Nat → Int32) × (Nat → Int32) × (Nat → Int32) × (Nat → Int32) × (Nat → Int32) × (Nat → Int32)) (hr : F_H_order r0_harvest_atMost r0_harvest_counted r0_harvest_days r0_harvest_most r0_harvest_best r0_harvest_fields_lefts r0_harvest_fields_wishes r0_harvest_path r0_harvest_weathers r0_now_days r0_now_fields_lefts r0_now_fields_wishes r0_now_goes r0_now_hampers r0_now_weights r0_refusals x1 x2 = some o) : ctI l y_H_order (Cond.code y_H_order b_H_order 3 (some FieldType.int)) (rmd 15) D (kTy cI cS) [.ref a_r0, .int x1, .int x2] (w_H_order cI a_r0 a_r0_harvest a_r0_harvest_best a_r0_harvest_fields a_r0_harvest_fields_lefts a_r0_harvest_fields_wishes a_r0_harvest_path a_r0_harvest_weathers a_r0_now a_r0_now_fields a_r0_now_fields_lefts a_r0_now_fields_wishes a_r0_now_goes a_r0_now_hampers a_r0_now_weights a_r0_refusals v_r0_kept v_r0_trial v_r0_hasKept v_r0_steps v_r0_letters v_r0_numbers v_r0_fraction v_r0_harvest_oneIn v_r0_harvest_lotsDone v_r0_harvest_lotsNone v_r0_now_kinds v_r0_now_figures v_r0_now_things v_r0_now_done r0_harvest_atMost r0_harvest_counted r0_harvest_days r0_harvest_most r0_harvest_best r0_harvest_fields_lefts r0_harvest_fields_wishes r0_harvest_path r0_harvest_weathers r0_now_days r0_now_fields_lefts r0_now_fields_wishes r0_now_goes r0_now_hampers r0_now_weights r0_refusals) (w_H_order cI a_r0 a_r0_harvest a_r0_harvest_best a_r0_harvest_fields a_r0_harvest_fields_lefts a_r0_harvest_fields_wishes a_r0_harvest_path a_r0_harvest_weathers a_r0_now a_r0_now_fields a_r0_now_fields_lefts a_r0_now_fields_wishes a_r0_now_goes a_r0_now_hampers a_r0_now_weights a_r0_refusals v_r0_kept v_r0_trial v_r0_hasKept v_r0_steps v_r0_letters v_r0_numbers v_r0_fraction v_r0_harvest_oneIn v_r0_harvest_lotsDone v_r0_harvest_lotsNone v_r0_now_kinds v_r0_now_figures v_r0_now_things v_r0_now_done o.2.1 o.2.2.1 o.2.2.2.1 o.2.2.2.2.1 o.2.2.2.2.2.1 o.2.2.2.2.2.2.1 o.2.2.2.2.2.2.2.1 o.2.2.2.2.2.2.2.2.1 o.2.2.2.2.2.2.2.2.2.1 r0_now_days r0_now_fields_lefts r0_now_fields_wishes r0_now_goes r0_now_hampers r0_now_weights o.2.2.2.2.2.2.2.2.2.2) o.1 := by
  unfold F_H_order at hr
  refine ⟨rfl, fun sz => ct_of (w0 := (w_H_order cI a_r0 a_r0_harvest a_r0_harvest_best a_r0_harvest_fields a_r0_harvest_fields_lefts a_r0_harvest_fields_wishes a_r0_harvest_path a_r0_harvest_weathers a_r0_now a_r0_now_fields a_r0_now_fields_lefts a_r0_now_fields_wishes a_r0_now_goes a_r0_now_hampers a_r0_now_weights a_r0_refusals v_r0_kept v_r0_trial v_r0_hasKept v_r0_steps v_r0_letters v_r0_numbers v_r0_fraction v_r0_harvest_oneIn v_r0_harvest_lotsDone v_r0_harvest_lotsNone v_r0_now_kinds v_r0_now_figures v_r0_now_things v_r0_now_done r0_harvest_atMost r0_harvest_counted r0_harvest_days r0_harvest_most r0_harvest_best r0_harvest_fields_lefts r0_harvest_fields_wishes r0_harvest_path r0_harvest_weathers r0_now_days r0_now_fields_lefts r0_now_fields_wishes r0_now_goes r0_now_hampers r0_now_weights r0_refusals)) (Qc := fun A => qI D (w_H_order cI a_r0 a_r0_harvest a_r0_harvest_best a_r0_harvest_fields a_r0_harvest_fields_lefts a_r0_harvest_fields_wishes a_r0_harvest_path a_r0_harvest_weathers a_r0_now a_r0_now_fields a_r0_now_fields_lefts a_r0_now_fields_wishes a_r0_now_goes a_r0_now_hampers a_r0_now_weights a_r0_refusals v_r0_kept v_r0_trial v_r0_hasKept v_r0_steps v_r0_letters v_r0_numbers v_r0_fraction v_r0_harvest_oneIn v_r0_harvest_lotsDone v_r0_harvest_lotsNone v_r0_now_kinds v_r0_now_figures v_r0_now_things v_r0_now_done o.2.1 o.2.2.1 o.2.2.2.1 o.2.2.2.2.1 o.2.2.2.2.2.1 o.2.2.2.2.2.2.1 o.2.2.2.2.2.2.2.1 o.2.2.2.2.2.2.2.2.1 o.2.2.2.2.2.2.2.2.2.1 r0_now_days r0_now_fields_lefts r0_now_fields_wishes r0_now_goes r0_now_hampers r0_now_weights o.2.2.2.2.2.2.2.2.2.2) o.1 A) rfl (Nat.le_of_ble_eq_true rfl) ?_ sz⟩
  intro p e s m below meth c A hA C hret ls hl hW
  have C : cx p s m ([.ref a_r0, .int x1, .int x2] : List Value).toArray meth c b_H_order 3 R_H D (kTy cI cS) (Cond.code y_H_order b_H_order 3 (some FieldType.int)) := C
  obtain ⟨hx, hb, hml, hown, hts, hK, hlk, hN⟩ := id C
  have hl : lv_has ls 3 [(0, .ref a_r0), (1, .int x1), (2, .int x2)] := hl
  obtain ⟨Q, hQ⟩ : ∃ Q, Q = MQ below (qI D (w_H_order cI a_r0 a_r0_harvest a_r0_harvest_best a_r0_harvest_fields a_r0_harvest_fields_lefts a_r0_harvest_fields_wishes a_r0_harvest_path a_r0_harvest_weathers a_r0_now a_r0_now_fields a_r0_now_fields_lefts a_r0_now_fields_wishes a_r0_now_goes a_r0_now_hampers a_r0_now_weights a_r0_refusals v_r0_kept v_r0_trial v_r0_hasKept v_r0_steps v_r0_letters v_r0_numbers v_r0_fraction v_r0_harvest_oneIn v_r0_harvest_lotsDone v_r0_harvest_lotsNone v_r0_now_kinds v_r0_now_figures v_r0_now_things v_r0_now_done o.2.1 o.2.2.1 o.2.2.2.1 o.2.2.2.2.1 o.2.2.2.2.2.1 o.2.2.2.2.2.2.1 o.2.2.2.2.2.2.2.1 o.2.2.2.2.2.2.2.2.1 o.2.2.2.2.2.2.2.2.2.1 r0_now_days r0_now_fields_lefts r0_now_fields_wishes r0_now_goes r0_now_hampers r0_now_weights o.2.2.2.2.2.2.2.2.2.2) o.1 A) ([.ref a_r0, .int x1, .int x2] : List Value).toArray s 0 0 A := ⟨_, rfl⟩
  rw [← hQ]
  refine lv_iload_n hx hb d_H_order_0 rfl (lv_at hl 1 rfl) ?_
  refine lv_iconst (v := 1) hx hb d_H_order_1 (by decide) ?_
  have hJ_2 : ∀ (_ : Unit), F_H_order_J10_2 r0_harvest_atMost r0_harvest_counted r0_harvest_days r0_harvest_most r0_harvest_best r0_harvest_fields_lefts r0_harvest_fields_wishes r0_harvest_path r0_harvest_weathers r0_refusals = some o → ∀ (H : Heap) (locs : List Loc) (ls : Array Slot), wd A s.heap D (w_H_order cI a_r0 a_r0_harvest a_r0_harvest_best a_r0_harvest_fields a_r0_harvest_fields_lefts a_r0_harvest_fields_wishes a_r0_harvest_path a_r0_harvest_weathers a_r0_now a_r0_now_fields a_r0_now_fields_lefts a_r0_now_fields_wishes a_r0_now_goes a_r0_now_hampers a_r0_now_weights a_r0_refusals v_r0_kept v_r0_trial v_r0_hasKept v_r0_steps v_r0_letters v_r0_numbers v_r0_fraction v_r0_harvest_oneIn v_r0_harvest_lotsDone v_r0_harvest_lotsNone v_r0_now_kinds v_r0_now_figures v_r0_now_things v_r0_now_done r0_harvest_atMost r0_harvest_counted r0_harvest_days r0_harvest_most r0_harvest_best r0_harvest_fields_lefts r0_harvest_fields_wishes r0_harvest_path r0_harvest_weathers r0_now_days r0_now_fields_lefts r0_now_fields_wishes r0_now_goes r0_now_hampers r0_now_weights r0_refusals) H locs → lv_has ls 3 [(0, .ref a_r0)] → W p l e (rmd 15) s m ([.ref a_r0, .int x1, .int x2] : List Value).toArray below meth c H locs 0 0 Q (F0 m 10 ls []) := by
    intro _ hr H locs ls hW hl
    unfold F_H_order_J10_2 at hr
    refine lv_aload_n hx hb d_H_order_10 rfl (lv_at hl 0 rfl) ?_
    refine lv_bipush (v := (-4)) hx hb d_H_order_11 (by decide) ?_
    obtain ⟨q_3, hc_3, hr⟩ := ob hr
    have ct_3 := C_H_refused l D cI cS a_r0 a_r0_refusals (Value.ref a_r0_now) v_r0_kept v_r0_trial v_r0_hasKept v_r0_steps v_r0_letters v_r0_numbers (Value.ref a_r0_harvest) v_r0_fraction r0_refusals (-4) q_3 hc_3
    refine k_goI hA hW [0, 15] rfl ct_3.1 (ws' := (w_H_order cI a_r0 a_r0_harvest a_r0_harvest_best a_r0_harvest_fields a_r0_harvest_fields_lefts a_r0_harvest_fields_wishes a_r0_harvest_path a_r0_harvest_weathers a_r0_now a_r0_now_fields a_r0_now_fields_lefts a_r0_now_fields_wishes a_r0_now_goes a_r0_now_hampers a_r0_now_weights a_r0_refusals v_r0_kept v_r0_trial v_r0_hasKept v_r0_steps v_r0_letters v_r0_numbers v_r0_fraction v_r0_harvest_oneIn v_r0_harvest_lotsDone v_r0_harvest_lotsNone v_r0_now_kinds v_r0_now_figures v_r0_now_things v_r0_now_done r0_harvest_atMost r0_harvest_counted r0_harvest_days r0_harvest_most r0_harvest_best r0_harvest_fields_lefts r0_harvest_fields_wishes r0_harvest_path r0_harvest_weathers r0_now_days r0_now_fields_lefts r0_now_fields_wishes r0_now_goes r0_now_hampers r0_now_weights q_3.2)) rfl (k_runV C hA hW mw_H_refused mv_H_refused (ct_3.2 _) [0, 15] rfl rfl 0 rfl rfl qm_H_65 ⟨Nat.le_of_ble_eq_true rfl, Nat.le_of_ble_eq_true rfl, Nat.zero_le _, Nat.zero_le _⟩ rfl rfl (Nat.le_of_ble_eq_true rfl) hl.1 d_H_order_13) (fun H locs hW => ?_)
    obtain rfl := Option.some.inj hr
    rw [hQ]; exact k_iret C hret hW d_H_order_16
  refine lv_icmp_lt (tgt := 10) hx hb d_H_order_2 (by decide) (fun c_1 => ?_) (fun c_1 => ?_)
  · replace hr := ip c_1 hr
    exact hJ_2 () hr _ _ _ hW (lv_sub hl [0] rfl)
  · replace hr := iN c_1 hr
    refine lv_iload_n hx hb d_H_order_5 rfl (lv_at hl 2 rfl) ?_
    refine lv_iconst (v := (-1)) hx hb d_H_order_6 (by decide) ?_
    refine lv_icmp_ge (tgt := 17) hx hb d_H_order_7 (by decide) (fun c_4 => ?_) (fun c_4 => ?_)
    · replace hr := ip c_4 hr
      refine lv_iload_n hx hb d_H_order_17 rfl (lv_at hl 1 rfl) ?_
      refine lv_bipush (v := 8) hx hb d_H_order_18 (by decide) ?_
      refine lv_icmp_le (tgt := 30) hx hb d_H_order_20 (by decide) (fun c_5 => ?_) (fun c_5 => ?_)
      · replace hr := ip c_5 hr
        refine lv_aload_n hx hb d_H_order_30 rfl (lv_at hl 0 rfl) ?_
        refine k_get i_H C hW 0 rfl rfl 0 (by decide) qf_H_10 rfl rfl d_H_order_31 ?_
        refine k_getN i_Sta C hW 8 rfl rfl 6 (by decide) qf_H_272 rfl rfl d_H_order_34 ?_
        refine lv_bipush (v := 7) hx hb d_H_order_37 (by decide) ?_
        refine lv_icmp_le (tgt := 49) hx hb d_H_order_39 (by decide) (fun c_6 => ?_) (fun c_6 => ?_)
        · replace hr := ip c_6 hr
          refine lv_aload_n hx hb d_H_order_49 rfl (lv_at hl 0 rfl) ?_
          refine k_get i_H C hW 0 rfl rfl 7 (by decide) qf_H_50 rfl rfl d_H_order_50 ?_
          refine lv_aload_n hx hb d_H_order_53 rfl (lv_at hl 0 rfl) ?_
          refine k_get i_H C hW 0 rfl rfl 0 (by decide) qf_H_10 rfl rfl d_H_order_54 ?_
          refine lv_iload_n hx hb d_H_order_57 rfl (lv_at hl 1 rfl) ?_
          obtain ⟨q_7, hc_7, hr⟩ := ob hr
          have ct_7 := C_Har_findOrder l D cI cS a_r0_harvest a_r0_harvest_best a_r0_harvest_fields a_r0_harvest_fields_lefts a_r0_harvest_fields_wishes a_r0_harvest_path a_r0_harvest_weathers a_r0_now a_r0_now_fields a_r0_now_fields_lefts a_r0_now_fields_wishes a_r0_now_goes a_r0_now_hampers a_r0_now_weights v_r0_harvest_oneIn v_r0_harvest_lotsDone v_r0_harvest_lotsNone v_r0_now_kinds v_r0_now_figures v_r0_now_things v_r0_now_done r0_harvest_atMost r0_harvest_counted r0_harvest_days r0_harvest_most r0_harvest_best r0_harvest_fields_lefts r0_harvest_fields_wishes r0_harvest_path r0_harvest_weathers r0_now_days r0_now_fields_lefts r0_now_fields_wishes r0_now_goes r0_now_hampers r0_now_weights x1 q_7 hc_7
          refine k_goV hA hW [1, 2, 3, 4, 5, 6, 7, 8, 9, 10, 11, 12, 13, 14] rfl ct_7.1 (ws' := (w_H_order cI a_r0 a_r0_harvest a_r0_harvest_best a_r0_harvest_fields a_r0_harvest_fields_lefts a_r0_harvest_fields_wishes a_r0_harvest_path a_r0_harvest_weathers a_r0_now a_r0_now_fields a_r0_now_fields_lefts a_r0_now_fields_wishes a_r0_now_goes a_r0_now_hampers a_r0_now_weights a_r0_refusals v_r0_kept v_r0_trial v_r0_hasKept v_r0_steps v_r0_letters v_r0_numbers v_r0_fraction v_r0_harvest_oneIn v_r0_harvest_lotsDone v_r0_harvest_lotsNone v_r0_now_kinds v_r0_now_figures v_r0_now_things v_r0_now_done q_7.1 q_7.2.1 q_7.2.2.1 q_7.2.2.2.1 q_7.2.2.2.2.1 q_7.2.2.2.2.2.1 q_7.2.2.2.2.2.2.1 q_7.2.2.2.2.2.2.2.1 q_7.2.2.2.2.2.2.2.2 r0_now_days r0_now_fields_lefts r0_now_fields_wishes r0_now_goes r0_now_hampers r0_now_weights r0_refusals)) rfl (k_runV C hA hW mw_Har_findOrder mv_Har_findOrder (ct_7.2 _) [1, 2, 3, 4, 5, 6, 7, 8, 9, 10, 11, 12, 13, 14] rfl rfl 1 rfl rfl qm_H_275 ⟨Nat.le_of_ble_eq_true rfl, Nat.le_of_ble_eq_true rfl, Nat.zero_le _, Nat.zero_le _⟩ rfl rfl (Nat.le_of_ble_eq_true rfl) hl.1 d_H_order_58) (fun H locs hW => ?_)
          refine lv_iload_n hx hb d_H_order_61 rfl (lv_at hl 2 rfl) ?_
          refine lv_iconst (v := (-1)) hx hb d_H_order_62 (by decide) ?_
          refine lv_icmp_ne (tgt := 76) hx hb d_H_order_63 (by decide) (fun c_8 => ?_) (fun c_8 => ?_)
          · replace hr := iN c_8 hr
            refine lv_aload_n hx hb d_H_order_76 rfl (lv_at hl 0 rfl) ?_
            refine k_get i_H C hW 0 rfl rfl 7 (by decide) qf_H_50 rfl rfl d_H_order_77 ?_
            refine lv_iload_n hx hb d_H_order_80 rfl (lv_at hl 2 rfl) ?_
            obtain ⟨q_9, hc_9, hr⟩ := ob hr
            have ct_9 := C_Har_orderedDay l D cI cS a_r0_harvest a_r0_harvest_best (Value.ref a_r0_harvest_fields) (Value.ref a_r0_harvest_weathers) (Value.ref a_r0_harvest_path) (Value.int q_7.2.1) (Value.int q_7.1) (Value.int q_7.2.2.2.1) v_r0_harvest_oneIn v_r0_harvest_lotsDone v_r0_harvest_lotsNone q_7.2.2.1 q_7.2.2.2.2.1 x2 q_9 hc_9
            refine k_goIp hA hW [1, 2] rfl rfl (k_runV C hA hW mw_Har_orderedDay mv_Har_orderedDay (ct_9.2 _) [1, 2] rfl rfl 1 rfl rfl qm_H_281 ⟨Nat.le_of_ble_eq_true rfl, Nat.le_of_ble_eq_true rfl, Nat.zero_le _, Nat.zero_le _⟩ rfl rfl (Nat.le_of_ble_eq_true rfl) hl.1 d_H_order_81) (fun H locs hW => ?_)
            obtain rfl := Option.some.inj hr
            rw [hQ]; exact k_iret C hret hW d_H_order_84
          · replace hr := ip c_8 hr
            refine lv_aload_n hx hb d_H_order_66 rfl (lv_at hl 0 rfl) ?_
            refine k_get i_H C hW 0 rfl rfl 7 (by decide) qf_H_50 rfl rfl d_H_order_67 ?_
            refine k_getN i_Har C hW 1 rfl rfl 7 (by decide) qf_H_278 rfl rfl d_H_order_70 ?_
            refine lv_goto (tgt := 84) hx hb d_H_order_73 (by decide) ?_
            obtain rfl := Option.some.inj hr
            rw [hQ]; exact k_iret C hret hW d_H_order_84
        · replace hr := iN c_6 hr
          refine lv_aload_n hx hb d_H_order_42 rfl (lv_at hl 0 rfl) ?_
          refine lv_bipush (v := (-3)) hx hb d_H_order_43 (by decide) ?_
          obtain ⟨q_10, hc_10, hr⟩ := ob hr
          have ct_10 := C_H_refused l D cI cS a_r0 a_r0_refusals (Value.ref a_r0_now) v_r0_kept v_r0_trial v_r0_hasKept v_r0_steps v_r0_letters v_r0_numbers (Value.ref a_r0_harvest) v_r0_fraction r0_refusals (-3) q_10 hc_10
          refine k_goI hA hW [0, 15] rfl ct_10.1 (ws' := (w_H_order cI a_r0 a_r0_harvest a_r0_harvest_best a_r0_harvest_fields a_r0_harvest_fields_lefts a_r0_harvest_fields_wishes a_r0_harvest_path a_r0_harvest_weathers a_r0_now a_r0_now_fields a_r0_now_fields_lefts a_r0_now_fields_wishes a_r0_now_goes a_r0_now_hampers a_r0_now_weights a_r0_refusals v_r0_kept v_r0_trial v_r0_hasKept v_r0_steps v_r0_letters v_r0_numbers v_r0_fraction v_r0_harvest_oneIn v_r0_harvest_lotsDone v_r0_harvest_lotsNone v_r0_now_kinds v_r0_now_figures v_r0_now_things v_r0_now_done r0_harvest_atMost r0_harvest_counted r0_harvest_days r0_harvest_most r0_harvest_best r0_harvest_fields_lefts r0_harvest_fields_wishes r0_harvest_path r0_harvest_weathers r0_now_days r0_now_fields_lefts r0_now_fields_wishes r0_now_goes r0_now_hampers r0_now_weights q_10.2)) rfl (k_runV C hA hW mw_H_refused mv_H_refused (ct_10.2 _) [0, 15] rfl rfl 0 rfl rfl qm_H_65 ⟨Nat.le_of_ble_eq_true rfl, Nat.le_of_ble_eq_true rfl, Nat.zero_le _, Nat.zero_le _⟩ rfl rfl (Nat.le_of_ble_eq_true rfl) hl.1 d_H_order_45) (fun H locs hW => ?_)
          obtain rfl := Option.some.inj hr
          rw [hQ]; exact k_iret C hret hW d_H_order_48
      · replace hr := iN c_5 hr
        refine lv_aload_n hx hb d_H_order_23 rfl (lv_at hl 0 rfl) ?_
        refine lv_bipush (v := (-6)) hx hb d_H_order_24 (by decide) ?_
        obtain ⟨q_11, hc_11, hr⟩ := ob hr
        have ct_11 := C_H_refused l D cI cS a_r0 a_r0_refusals (Value.ref a_r0_now) v_r0_kept v_r0_trial v_r0_hasKept v_r0_steps v_r0_letters v_r0_numbers (Value.ref a_r0_harvest) v_r0_fraction r0_refusals (-6) q_11 hc_11
        refine k_goI hA hW [0, 15] rfl ct_11.1 (ws' := (w_H_order cI a_r0 a_r0_harvest a_r0_harvest_best a_r0_harvest_fields a_r0_harvest_fields_lefts a_r0_harvest_fields_wishes a_r0_harvest_path a_r0_harvest_weathers a_r0_now a_r0_now_fields a_r0_now_fields_lefts a_r0_now_fields_wishes a_r0_now_goes a_r0_now_hampers a_r0_now_weights a_r0_refusals v_r0_kept v_r0_trial v_r0_hasKept v_r0_steps v_r0_letters v_r0_numbers v_r0_fraction v_r0_harvest_oneIn v_r0_harvest_lotsDone v_r0_harvest_lotsNone v_r0_now_kinds v_r0_now_figures v_r0_now_things v_r0_now_done r0_harvest_atMost r0_harvest_counted r0_harvest_days r0_harvest_most r0_harvest_best r0_harvest_fields_lefts r0_harvest_fields_wishes r0_harvest_path r0_harvest_weathers r0_now_days r0_now_fields_lefts r0_now_fields_wishes r0_now_goes r0_now_hampers r0_now_weights q_11.2)) rfl (k_runV C hA hW mw_H_refused mv_H_refused (ct_11.2 _) [0, 15] rfl rfl 0 rfl rfl qm_H_65 ⟨Nat.le_of_ble_eq_true rfl, Nat.le_of_ble_eq_true rfl, Nat.zero_le _, Nat.zero_le _⟩ rfl rfl (Nat.le_of_ble_eq_true rfl) hl.1 d_H_order_26) (fun H locs hW => ?_)
        obtain rfl := Option.some.inj hr
        rw [hQ]; exact k_iret C hret hW d_H_order_29
    · replace hr := iN c_4 hr
      exact hJ_2 () hr _ _ _ hW (lv_sub hl [0] rfl)
def w_H_pack (cI : ClassId) (a_r0 a_r0_now a_r0_now_figures a_r0_now_goes a_r0_now_kinds a_r0_refusals : Nat) (v_r0_kept v_r0_trial v_r0_hasKept v_r0_steps v_r0_letters v_r0_numbers v_r0_harvest v_r0_fraction v_r0_now_weights v_r0_now_hampers v_r0_now_days v_r0_now_fields v_r0_now_done : Value) (r0_now_things : Int32) (r0_now_figures : Nat → Int32) (r0_now_goes : Nat → Int32) (r0_now_kinds : Nat → Int32) (r0_refusals : Nat → Int32) : va_W := [(a_r0, .inr (0, [.ref a_r0_now, v_r0_kept, v_r0_trial, v_r0_hasKept, v_r0_steps, v_r0_letters, v_r0_numbers, v_r0_harvest, v_r0_fraction, .ref a_r0_refusals])), (a_r0_now, .inr (1, [v_r0_now_weights, .ref a_r0_now_kinds, .ref a_r0_now_figures, .ref a_r0_now_goes, .int r0_now_things, v_r0_now_hampers, v_r0_now_days, v_r0_now_fields, v_r0_now_done])), (a_r0_now_figures, .inl (cI, 8, .inl r0_now_figures)), (a_r0_now_goes, .inl (cI, 8, .inl r0_now_goes)), (a_r0_now_kinds, .inl (cI, 8, .inl r0_now_kinds)), (a_r0_refusals, .inl (cI, 7, .inl r0_refusals))]
def F_H_pack (r0_now_things : Int32) (r0_now_figures : Nat → Int32) (r0_now_goes : Nat → Int32) (r0_now_kinds : Nat → Int32) (r0_refusals : Nat → Int32) (x1 : Int32) (x2 : Int32) : Option (Int32 × (Nat → Int32)) :=
  ((F_H_isWeather x1).bind (fun q_1 => (if q_1 = 0 then ((F_H_refused r0_refusals ((-1) : Int32)).bind (fun q_8 => (some (q_8.1, q_8.2)))) else (if x2 = 0 then ((F_Set_leastHeavy r0_now_things r0_now_figures r0_now_goes r0_now_kinds ((1 : Int32) <<< ((x1 : Int32) &&& 31))).bind (fun q_4 => (some (q_4, r0_refusals)))) else (if x2 = 1 then ((F_Set_mostDear r0_now_things r0_now_figures r0_now_goes r0_now_kinds ((1 : Int32) <<< ((x1 : Int32) &&& 31))).bind (fun q_6 => (some (q_6, r0_refusals)))) else ((F_H_refused r0_refusals ((-2) : Int32)).bind (fun q_7 => (some (q_7.1, q_7.2)))))))))
set_option maxHeartbeats 4000000 in
set_option maxRecDepth 100000 in
theorem C_H_pack (l : Launch) (D : va_G) (cI cS : ClassId) (a_r0 a_r0_now a_r0_now_figures a_r0_now_goes a_r0_now_kinds a_r0_refusals : Nat) (v_r0_kept v_r0_trial v_r0_hasKept v_r0_steps v_r0_letters v_r0_numbers v_r0_harvest v_r0_fraction v_r0_now_weights v_r0_now_hampers v_r0_now_days v_r0_now_fields v_r0_now_done : Value) (r0_now_things : Int32) (r0_now_figures : Nat → Int32) (r0_now_goes : Nat → Int32) (r0_now_kinds : Nat → Int32) (r0_refusals : Nat → Int32) (x1 : Int32) (x2 : Int32) (o : Int32 × (Nat → Int32)) (hr : F_H_pack r0_now_things r0_now_figures r0_now_goes r0_now_kinds r0_refusals x1 x2 = some o) : ctI l y_H_pack (Cond.code y_H_pack b_H_pack 3 (some FieldType.int)) (rmd 4) D (kTy cI cS) [.ref a_r0, .int x1, .int x2] (w_H_pack cI a_r0 a_r0_now a_r0_now_figures a_r0_now_goes a_r0_now_kinds a_r0_refusals v_r0_kept v_r0_trial v_r0_hasKept v_r0_steps v_r0_letters v_r0_numbers v_r0_harvest v_r0_fraction v_r0_now_weights v_r0_now_hampers v_r0_now_days v_r0_now_fields v_r0_now_done r0_now_things r0_now_figures r0_now_goes r0_now_kinds r0_refusals) (w_H_pack cI a_r0 a_r0_now a_r0_now_figures a_r0_now_goes a_r0_now_kinds a_r0_refusals v_r0_kept v_r0_trial v_r0_hasKept v_r0_steps v_r0_letters v_r0_numbers v_r0_harvest v_r0_fraction v_r0_now_weights v_r0_now_hampers v_r0_now_days v_r0_now_fields v_r0_now_done r0_now_things r0_now_figures r0_now_goes r0_now_kinds o.2) o.1 := by
  unfold F_H_pack at hr
  refine ⟨rfl, fun sz => ct_of (w0 := (w_H_pack cI a_r0 a_r0_now a_r0_now_figures a_r0_now_goes a_r0_now_kinds a_r0_refusals v_r0_kept v_r0_trial v_r0_hasKept v_r0_steps v_r0_letters v_r0_numbers v_r0_harvest v_r0_fraction v_r0_now_weights v_r0_now_hampers v_r0_now_days v_r0_now_fields v_r0_now_done r0_now_things r0_now_figures r0_now_goes r0_now_kinds r0_refusals)) (Qc := fun A => qI D (w_H_pack cI a_r0 a_r0_now a_r0_now_figures a_r0_now_goes a_r0_now_kinds a_r0_refusals v_r0_kept v_r0_trial v_r0_hasKept v_r0_steps v_r0_letters v_r0_numbers v_r0_harvest v_r0_fraction v_r0_now_weights v_r0_now_hampers v_r0_now_days v_r0_now_fields v_r0_now_done r0_now_things r0_now_figures r0_now_goes r0_now_kinds o.2) o.1 A) rfl (Nat.le_of_ble_eq_true rfl) ?_ sz⟩
  intro p e s m below meth c A hA C hret ls hl hW
  have C : cx p s m ([.ref a_r0, .int x1, .int x2] : List Value).toArray meth c b_H_pack 3 R_H D (kTy cI cS) (Cond.code y_H_pack b_H_pack 3 (some FieldType.int)) := C
  obtain ⟨hx, hb, hml, hown, hts, hK, hlk, hN⟩ := id C
  have hl : lv_has ls 3 [(0, .ref a_r0), (1, .int x1), (2, .int x2)] := hl
  obtain ⟨Q, hQ⟩ : ∃ Q, Q = MQ below (qI D (w_H_pack cI a_r0 a_r0_now a_r0_now_figures a_r0_now_goes a_r0_now_kinds a_r0_refusals v_r0_kept v_r0_trial v_r0_hasKept v_r0_steps v_r0_letters v_r0_numbers v_r0_harvest v_r0_fraction v_r0_now_weights v_r0_now_hampers v_r0_now_days v_r0_now_fields v_r0_now_done r0_now_things r0_now_figures r0_now_goes r0_now_kinds o.2) o.1 A) ([.ref a_r0, .int x1, .int x2] : List Value).toArray s 0 0 A := ⟨_, rfl⟩
  rw [← hQ]
  refine lv_iload_n hx hb d_H_pack_0 rfl (lv_at hl 1 rfl) ?_
  obtain ⟨q_1, hc_1, hr⟩ := ob hr
  have ct_1 := C_H_isWeather l D cI cS x1 q_1 hc_1
  refine k_goIp hA hW [] rfl rfl (k_runS C hA hW mw_H_isWeather ms_H_isWeather (ct_1.2 _) [] rfl rfl qm_H_140 ⟨Nat.le_of_ble_eq_true rfl, Nat.le_of_ble_eq_true rfl, Nat.zero_le _, Nat.zero_le _⟩ rfl rfl (Nat.le_of_ble_eq_true rfl) hl.1 d_H_pack_1) (fun H locs hW => ?_)
  refine lv_if_ne (tgt := 13) hx hb d_H_pack_4 (by decide) (fun c_2 => ?_) (fun c_2 => ?_)
  · replace hr := iN c_2 hr
    refine lv_iload_n hx hb d_H_pack_13 rfl (lv_at hl 2 rfl) ?_
    by_cases c_3 : x2 = 0
    · replace hr := ip c_3 hr
      refine k_lookIn (tgt := 40) (off := 26) c_3 hx hb d_H_pack_14 (by decide) (by decide) (by decide) ?_
      refine lv_aload_n hx hb d_H_pack_40 rfl (lv_at hl 0 rfl) ?_
      refine k_get i_H C hW 0 rfl rfl 0 (by decide) qf_H_10 rfl rfl d_H_pack_41 ?_
      refine lv_iconst (v := 1) hx hb d_H_pack_44 (by decide) ?_
      refine lv_iload_n hx hb d_H_pack_45 rfl (lv_at hl 1 rfl) ?_
      refine lv_ishl hx hb d_H_pack_46 ?_
      obtain ⟨q_4, hc_4, hr⟩ := ob hr
      have ct_4 := C_Set_leastHeavy l D cI cS a_r0_now a_r0_now_figures a_r0_now_goes a_r0_now_kinds v_r0_now_weights v_r0_now_hampers v_r0_now_days v_r0_now_fields v_r0_now_done r0_now_things r0_now_figures r0_now_goes r0_now_kinds ((1 : Int32) <<< ((x1 : Int32) &&& 31)) q_4 hc_4
      refine k_goIp hA hW [1, 2, 3, 4] rfl rfl (k_runS C hA hW mw_Set_leastHeavy ms_Set_leastHeavy (ct_4.2 _) [1, 2, 3, 4] rfl rfl qm_H_234 ⟨Nat.le_of_ble_eq_true rfl, Nat.le_of_ble_eq_true rfl, Nat.zero_le _, Nat.zero_le _⟩ rfl rfl (Nat.le_of_ble_eq_true rfl) hl.1 d_H_pack_47) (fun H locs hW => ?_)
      obtain rfl := Option.some.inj hr
      rw [hQ]; exact k_iret C hret hW d_H_pack_50
    · replace hr := iN c_3 hr
      by_cases c_5 : x2 = 1
      · replace hr := ip c_5 hr
        refine k_lookIn (tgt := 51) (off := 37) c_5 hx hb d_H_pack_14 (by decide) (by decide) (by decide) ?_
        refine lv_aload_n hx hb d_H_pack_51 rfl (lv_at hl 0 rfl) ?_
        refine k_get i_H C hW 0 rfl rfl 0 (by decide) qf_H_10 rfl rfl d_H_pack_52 ?_
        refine lv_iconst (v := 1) hx hb d_H_pack_55 (by decide) ?_
        refine lv_iload_n hx hb d_H_pack_56 rfl (lv_at hl 1 rfl) ?_
        refine lv_ishl hx hb d_H_pack_57 ?_
        obtain ⟨q_6, hc_6, hr⟩ := ob hr
        have ct_6 := C_Set_mostDear l D cI cS a_r0_now a_r0_now_figures a_r0_now_goes a_r0_now_kinds v_r0_now_weights v_r0_now_hampers v_r0_now_days v_r0_now_fields v_r0_now_done r0_now_things r0_now_figures r0_now_goes r0_now_kinds ((1 : Int32) <<< ((x1 : Int32) &&& 31)) q_6 hc_6
        refine k_goIp hA hW [1, 2, 3, 4] rfl rfl (k_runS C hA hW mw_Set_mostDear ms_Set_mostDear (ct_6.2 _) [1, 2, 3, 4] rfl rfl qm_H_238 ⟨Nat.le_of_ble_eq_true rfl, Nat.le_of_ble_eq_true rfl, Nat.zero_le _, Nat.zero_le _⟩ rfl rfl (Nat.le_of_ble_eq_true rfl) hl.1 d_H_pack_58) (fun H locs hW => ?_)
        obtain rfl := Option.some.inj hr
        rw [hQ]; exact k_iret C hret hW d_H_pack_61
      · replace hr := iN c_5 hr
        refine lv_lookup (tgt := 62) (off := 48) hx hb d_H_pack_14 (by decide) (look_out _ [0, 1] (by decide +kernel) (by simp only [List.forall_mem_cons]; exact ⟨c_3, c_5, fun _ h => absurd h List.not_mem_nil⟩)) (by decide) ?_
        refine lv_aload_n hx hb d_H_pack_62 rfl (lv_at hl 0 rfl) ?_
        refine lv_bipush (v := (-2)) hx hb d_H_pack_63 (by decide) ?_
        obtain ⟨q_7, hc_7, hr⟩ := ob hr
        have ct_7 := C_H_refused l D cI cS a_r0 a_r0_refusals (Value.ref a_r0_now) v_r0_kept v_r0_trial v_r0_hasKept v_r0_steps v_r0_letters v_r0_numbers v_r0_harvest v_r0_fraction r0_refusals (-2) q_7 hc_7
        refine k_goI hA hW [0, 5] rfl ct_7.1 (ws' := (w_H_pack cI a_r0 a_r0_now a_r0_now_figures a_r0_now_goes a_r0_now_kinds a_r0_refusals v_r0_kept v_r0_trial v_r0_hasKept v_r0_steps v_r0_letters v_r0_numbers v_r0_harvest v_r0_fraction v_r0_now_weights v_r0_now_hampers v_r0_now_days v_r0_now_fields v_r0_now_done r0_now_things r0_now_figures r0_now_goes r0_now_kinds q_7.2)) rfl (k_runV C hA hW mw_H_refused mv_H_refused (ct_7.2 _) [0, 5] rfl rfl 0 rfl rfl qm_H_65 ⟨Nat.le_of_ble_eq_true rfl, Nat.le_of_ble_eq_true rfl, Nat.zero_le _, Nat.zero_le _⟩ rfl rfl (Nat.le_of_ble_eq_true rfl) hl.1 d_H_pack_65) (fun H locs hW => ?_)
        obtain rfl := Option.some.inj hr
        rw [hQ]; exact k_iret C hret hW d_H_pack_68
  · replace hr := ip c_2 hr
    refine lv_aload_n hx hb d_H_pack_7 rfl (lv_at hl 0 rfl) ?_
    refine lv_iconst (v := (-1)) hx hb d_H_pack_8 (by decide) ?_
    obtain ⟨q_8, hc_8, hr⟩ := ob hr
    have ct_8 := C_H_refused l D cI cS a_r0 a_r0_refusals (Value.ref a_r0_now) v_r0_kept v_r0_trial v_r0_hasKept v_r0_steps v_r0_letters v_r0_numbers v_r0_harvest v_r0_fraction r0_refusals (-1) q_8 hc_8
    refine k_goI hA hW [0, 5] rfl ct_8.1 (ws' := (w_H_pack cI a_r0 a_r0_now a_r0_now_figures a_r0_now_goes a_r0_now_kinds a_r0_refusals v_r0_kept v_r0_trial v_r0_hasKept v_r0_steps v_r0_letters v_r0_numbers v_r0_harvest v_r0_fraction v_r0_now_weights v_r0_now_hampers v_r0_now_days v_r0_now_fields v_r0_now_done r0_now_things r0_now_figures r0_now_goes r0_now_kinds q_8.2)) rfl (k_runV C hA hW mw_H_refused mv_H_refused (ct_8.2 _) [0, 5] rfl rfl 0 rfl rfl qm_H_65 ⟨Nat.le_of_ble_eq_true rfl, Nat.le_of_ble_eq_true rfl, Nat.zero_le _, Nat.zero_le _⟩ rfl rfl (Nat.le_of_ble_eq_true rfl) hl.1 d_H_pack_9) (fun H locs hW => ?_)
    obtain rfl := Option.some.inj hr
    rw [hQ]; exact k_iret C hret hW d_H_pack_12
def w_H_plan (cI : ClassId) (a_r0 a_r0_harvest a_r0_harvest_fields a_r0_harvest_fields_lefts a_r0_harvest_fields_wishes a_r0_harvest_weathers a_r0_now a_r0_now_fields a_r0_now_fields_lefts a_r0_now_fields_wishes a_r0_now_goes a_r0_now_hampers a_r0_now_weights : Nat) (v_r0_kept v_r0_trial v_r0_hasKept v_r0_steps v_r0_letters v_r0_numbers v_r0_fraction v_r0_refusals v_r0_harvest_path v_r0_harvest_best v_r0_harvest_counted v_r0_harvest_atMost v_r0_harvest_most v_r0_harvest_oneIn v_r0_harvest_lotsDone v_r0_harvest_lotsNone v_r0_now_kinds v_r0_now_figures v_r0_now_things v_r0_now_done : Value) (r0_harvest_days : Int32) (r0_harvest_fields_lefts : Nat → Int32) (r0_harvest_fields_wishes : Nat → Int32) (r0_harvest_weathers : Nat → Int32) (r0_now_days : Int32) (r0_now_fields_lefts : Nat → Int32) (r0_now_fields_wishes : Nat → Int32) (r0_now_goes : Nat → Int32) (r0_now_hampers : Nat → Int32) (r0_now_weights : Nat → Int32) : va_W := [(a_r0, .inr (0, [.ref a_r0_now, v_r0_kept, v_r0_trial, v_r0_hasKept, v_r0_steps, v_r0_letters, v_r0_numbers, .ref a_r0_harvest, v_r0_fraction, v_r0_refusals])), (a_r0_harvest, .inr (7, [.ref a_r0_harvest_fields, .ref a_r0_harvest_weathers, .int r0_harvest_days, v_r0_harvest_path, v_r0_harvest_best, v_r0_harvest_counted, v_r0_harvest_atMost, v_r0_harvest_most, v_r0_harvest_oneIn, v_r0_harvest_lotsDone, v_r0_harvest_lotsNone])), (a_r0_harvest_fields, .inr (2, [.ref a_r0_harvest_fields_wishes, .ref a_r0_harvest_fields_lefts])), (a_r0_harvest_fields_lefts, .inl (cI, 4, .inl r0_harvest_fields_lefts)), (a_r0_harvest_fields_wishes, .inl (cI, 4, .inl r0_harvest_fields_wishes)), (a_r0_harvest_weathers, .inl (cI, 8, .inl r0_harvest_weathers)), (a_r0_now, .inr (1, [.ref a_r0_now_weights, v_r0_now_kinds, v_r0_now_figures, .ref a_r0_now_goes, v_r0_now_things, .ref a_r0_now_hampers, .int r0_now_days, .ref a_r0_now_fields, v_r0_now_done])), (a_r0_now_fields, .inr (2, [.ref a_r0_now_fields_wishes, .ref a_r0_now_fields_lefts])), (a_r0_now_fields_lefts, .inl (cI, 4, .inl r0_now_fields_lefts)), (a_r0_now_fields_wishes, .inl (cI, 4, .inl r0_now_fields_wishes)), (a_r0_now_goes, .inl (cI, 8, .inl r0_now_goes)), (a_r0_now_hampers, .inl (cI, 8, .inl r0_now_hampers)), (a_r0_now_weights, .inl (cI, 6, .inl r0_now_weights))]
def F_H_plan (r0_harvest_fields_lefts : Nat → Int32) (r0_harvest_fields_wishes : Nat → Int32) (r0_harvest_weathers : Nat → Int32) (r0_now_days : Int32) (r0_now_fields_lefts : Nat → Int32) (r0_now_fields_wishes : Nat → Int32) (r0_now_goes : Nat → Int32) (r0_now_hampers : Nat → Int32) (r0_now_weights : Nat → Int32) : Option (Int32 × (Int32) × (Nat → Int32) × (Nat → Int32) × (Nat → Int32)) :=
  ((F_Har_mostByPlan r0_harvest_fields_lefts r0_harvest_fields_wishes r0_harvest_weathers r0_now_days r0_now_fields_lefts r0_now_fields_wishes r0_now_goes r0_now_hampers r0_now_weights).bind (fun q_1 => (some (q_1.1, q_1.2.1, q_1.2.2.1, q_1.2.2.2.1, q_1.2.2.2.2))))
set_option maxHeartbeats 4000000 in
set_option maxRecDepth 100000 in
theorem C_H_plan (l : Launch) (D : va_G) (cI cS : ClassId) (a_r0 a_r0_harvest a_r0_harvest_fields a_r0_harvest_fields_lefts a_r0_harvest_fields_wishes a_r0_harvest_weathers a_r0_now a_r0_now_fields a_r0_now_fields_lefts a_r0_now_fields_wishes a_r0_now_goes a_r0_now_hampers a_r0_now_weights : Nat) (v_r0_kept v_r0_trial v_r0_hasKept v_r0_steps v_r0_letters v_r0_numbers v_r0_fraction v_r0_refusals v_r0_harvest_path v_r0_harvest_best v_r0_harvest_counted v_r0_harvest_atMost v_r0_harvest_most v_r0_harvest_oneIn v_r0_harvest_lotsDone v_r0_harvest_lotsNone v_r0_now_kinds v_r0_now_figures v_r0_now_things v_r0_now_done : Value) (r0_harvest_days : Int32) (r0_harvest_fields_lefts : Nat → Int32) (r0_harvest_fields_wishes : Nat → Int32) (r0_harvest_weathers : Nat → Int32) (r0_now_days : Int32) (r0_now_fields_lefts : Nat → Int32) (r0_now_fields_wishes : Nat → Int32) (r0_now_goes : Nat → Int32) (r0_now_hampers : Nat → Int32) (r0_now_weights : Nat → Int32) (o : Int32 × (Int32) × (Nat → Int32) × (Nat → Int32) × (Nat → Int32)) (hr : F_H_plan r0_harvest_fields_lefts r0_harvest_fields_wishes r0_harvest_weathers r0_now_days r0_now_fields_lefts r0_now_fields_wishes r0_now_goes r0_now_hampers r0_now_weights = some o) : ctI l y_H_plan (Cond.code y_H_plan b_H_plan 1 (some FieldType.int)) (rmd 6) D (kTy cI cS) [.ref a_r0] (w_H_plan cI a_r0 a_r0_harvest a_r0_harvest_fields a_r0_harvest_fields_lefts a_r0_harvest_fields_wishes a_r0_harvest_weathers a_r0_now a_r0_now_fields a_r0_now_fields_lefts a_r0_now_fields_wishes a_r0_now_goes a_r0_now_hampers a_r0_now_weights v_r0_kept v_r0_trial v_r0_hasKept v_r0_steps v_r0_letters v_r0_numbers v_r0_fraction v_r0_refusals v_r0_harvest_path v_r0_harvest_best v_r0_harvest_counted v_r0_harvest_atMost v_r0_harvest_most v_r0_harvest_oneIn v_r0_harvest_lotsDone v_r0_harvest_lotsNone v_r0_now_kinds v_r0_now_figures v_r0_now_things v_r0_now_done r0_harvest_days r0_harvest_fields_lefts r0_harvest_fields_wishes r0_harvest_weathers r0_now_days r0_now_fields_lefts r0_now_fields_wishes r0_now_goes r0_now_hampers r0_now_weights) (w_H_plan cI a_r0 a_r0_harvest a_r0_harvest_fields a_r0_harvest_fields_lefts a_r0_harvest_fields_wishes a_r0_harvest_weathers a_r0_now a_r0_now_fields a_r0_now_fields_lefts a_r0_now_fields_wishes a_r0_now_goes a_r0_now_hampers a_r0_now_weights v_r0_kept v_r0_trial v_r0_hasKept v_r0_steps v_r0_letters v_r0_numbers v_r0_fraction v_r0_refusals v_r0_harvest_path v_r0_harvest_best v_r0_harvest_counted v_r0_harvest_atMost v_r0_harvest_most v_r0_harvest_oneIn v_r0_harvest_lotsDone v_r0_harvest_lotsNone v_r0_now_kinds v_r0_now_figures v_r0_now_things v_r0_now_done o.2.1 o.2.2.1 o.2.2.2.1 o.2.2.2.2 r0_now_days r0_now_fields_lefts r0_now_fields_wishes r0_now_goes r0_now_hampers r0_now_weights) o.1 := by
  unfold F_H_plan at hr
  refine ⟨rfl, fun sz => ct_of (w0 := (w_H_plan cI a_r0 a_r0_harvest a_r0_harvest_fields a_r0_harvest_fields_lefts a_r0_harvest_fields_wishes a_r0_harvest_weathers a_r0_now a_r0_now_fields a_r0_now_fields_lefts a_r0_now_fields_wishes a_r0_now_goes a_r0_now_hampers a_r0_now_weights v_r0_kept v_r0_trial v_r0_hasKept v_r0_steps v_r0_letters v_r0_numbers v_r0_fraction v_r0_refusals v_r0_harvest_path v_r0_harvest_best v_r0_harvest_counted v_r0_harvest_atMost v_r0_harvest_most v_r0_harvest_oneIn v_r0_harvest_lotsDone v_r0_harvest_lotsNone v_r0_now_kinds v_r0_now_figures v_r0_now_things v_r0_now_done r0_harvest_days r0_harvest_fields_lefts r0_harvest_fields_wishes r0_harvest_weathers r0_now_days r0_now_fields_lefts r0_now_fields_wishes r0_now_goes r0_now_hampers r0_now_weights)) (Qc := fun A => qI D (w_H_plan cI a_r0 a_r0_harvest a_r0_harvest_fields a_r0_harvest_fields_lefts a_r0_harvest_fields_wishes a_r0_harvest_weathers a_r0_now a_r0_now_fields a_r0_now_fields_lefts a_r0_now_fields_wishes a_r0_now_goes a_r0_now_hampers a_r0_now_weights v_r0_kept v_r0_trial v_r0_hasKept v_r0_steps v_r0_letters v_r0_numbers v_r0_fraction v_r0_refusals v_r0_harvest_path v_r0_harvest_best v_r0_harvest_counted v_r0_harvest_atMost v_r0_harvest_most v_r0_harvest_oneIn v_r0_harvest_lotsDone v_r0_harvest_lotsNone v_r0_now_kinds v_r0_now_figures v_r0_now_things v_r0_now_done o.2.1 o.2.2.1 o.2.2.2.1 o.2.2.2.2 r0_now_days r0_now_fields_lefts r0_now_fields_wishes r0_now_goes r0_now_hampers r0_now_weights) o.1 A) rfl (Nat.le_of_ble_eq_true rfl) ?_ sz⟩
  intro p e s m below meth c A hA C hret ls hl hW
  have C : cx p s m ([.ref a_r0] : List Value).toArray meth c b_H_plan 1 R_H D (kTy cI cS) (Cond.code y_H_plan b_H_plan 1 (some FieldType.int)) := C
  obtain ⟨hx, hb, hml, hown, hts, hK, hlk, hN⟩ := id C
  have hl : lv_has ls 1 [(0, .ref a_r0)] := hl
  obtain ⟨Q, hQ⟩ : ∃ Q, Q = MQ below (qI D (w_H_plan cI a_r0 a_r0_harvest a_r0_harvest_fields a_r0_harvest_fields_lefts a_r0_harvest_fields_wishes a_r0_harvest_weathers a_r0_now a_r0_now_fields a_r0_now_fields_lefts a_r0_now_fields_wishes a_r0_now_goes a_r0_now_hampers a_r0_now_weights v_r0_kept v_r0_trial v_r0_hasKept v_r0_steps v_r0_letters v_r0_numbers v_r0_fraction v_r0_refusals v_r0_harvest_path v_r0_harvest_best v_r0_harvest_counted v_r0_harvest_atMost v_r0_harvest_most v_r0_harvest_oneIn v_r0_harvest_lotsDone v_r0_harvest_lotsNone v_r0_now_kinds v_r0_now_figures v_r0_now_things v_r0_now_done o.2.1 o.2.2.1 o.2.2.2.1 o.2.2.2.2 r0_now_days r0_now_fields_lefts r0_now_fields_wishes r0_now_goes r0_now_hampers r0_now_weights) o.1 A) ([.ref a_r0] : List Value).toArray s 0 0 A := ⟨_, rfl⟩
  rw [← hQ]
  refine lv_aload_n hx hb d_H_plan_0 rfl (lv_at hl 0 rfl) ?_
  refine k_get i_H C hW 0 rfl rfl 7 (by decide) qf_H_50 rfl rfl d_H_plan_1 ?_
  refine lv_aload_n hx hb d_H_plan_4 rfl (lv_at hl 0 rfl) ?_
  refine k_get i_H C hW 0 rfl rfl 0 (by decide) qf_H_10 rfl rfl d_H_plan_5 ?_
  obtain ⟨q_1, hc_1, hr⟩ := ob hr
  have ct_1 := C_Har_mostByPlan l D cI cS a_r0_harvest a_r0_harvest_fields a_r0_harvest_fields_lefts a_r0_harvest_fields_wishes a_r0_harvest_weathers a_r0_now a_r0_now_fields a_r0_now_fields_lefts a_r0_now_fields_wishes a_r0_now_goes a_r0_now_hampers a_r0_now_weights v_r0_harvest_path v_r0_harvest_best v_r0_harvest_counted v_r0_harvest_atMost v_r0_harvest_most v_r0_harvest_oneIn v_r0_harvest_lotsDone v_r0_harvest_lotsNone v_r0_now_kinds v_r0_now_figures v_r0_now_things v_r0_now_done r0_harvest_days r0_harvest_fields_lefts r0_harvest_fields_wishes r0_harvest_weathers r0_now_days r0_now_fields_lefts r0_now_fields_wishes r0_now_goes r0_now_hampers r0_now_weights q_1 hc_1
  refine k_goI hA hW [1, 2, 3, 4, 5, 6, 7, 8, 9, 10, 11, 12] rfl ct_1.1 (ws' := (w_H_plan cI a_r0 a_r0_harvest a_r0_harvest_fields a_r0_harvest_fields_lefts a_r0_harvest_fields_wishes a_r0_harvest_weathers a_r0_now a_r0_now_fields a_r0_now_fields_lefts a_r0_now_fields_wishes a_r0_now_goes a_r0_now_hampers a_r0_now_weights v_r0_kept v_r0_trial v_r0_hasKept v_r0_steps v_r0_letters v_r0_numbers v_r0_fraction v_r0_refusals v_r0_harvest_path v_r0_harvest_best v_r0_harvest_counted v_r0_harvest_atMost v_r0_harvest_most v_r0_harvest_oneIn v_r0_harvest_lotsDone v_r0_harvest_lotsNone v_r0_now_kinds v_r0_now_figures v_r0_now_things v_r0_now_done q_1.2.1 q_1.2.2.1 q_1.2.2.2.1 q_1.2.2.2.2 r0_now_days r0_now_fields_lefts r0_now_fields_wishes r0_now_goes r0_now_hampers r0_now_weights)) rfl (k_runV C hA hW mw_Har_mostByPlan mv_Har_mostByPlan (ct_1.2 _) [1, 2, 3, 4, 5, 6, 7, 8, 9, 10, 11, 12] rfl rfl 1 rfl rfl qm_H_284 ⟨Nat.le_of_ble_eq_true rfl, Nat.le_of_ble_eq_true rfl, Nat.zero_le _, Nat.zero_le _⟩ rfl rfl (Nat.le_of_ble_eq_true rfl) hl.1 d_H_plan_8) (fun H locs hW => ?_)
  obtain rfl := Option.some.inj hr
  rw [hQ]; exact k_iret C hret hW d_H_plan_11
def F_H_power_L5 (x0 : Int32) (x1 : Int32) (y2_1 : Int64) (y4_1 : Int32) : Option (((Int64) × (Int32)) ⊕ ((Int64))) :=
  (if x1 ≤ y4_1 then (some (.inr y2_1)) else (some (.inl ((y2_1 * (Int32.toInt64 x0)), (y4_1 + 1)))))
def F_H_power (x0 : Int32) (x1 : Int32) : Option (Int64) :=
  ((wh (fun (s : (Int64) × (Int32)) => F_H_power_L5 x0 x1 s.1 s.2) 400 ((1 : Int64), (0 : Int32))).bind (fun e_1 => (some e_1)))
set_option maxHeartbeats 4000000 in
set_option maxRecDepth 100000 in
theorem C_H_power (l : Launch) (D : va_G) (cI cS : ClassId) (x0 : Int32) (x1 : Int32) (o : Int64) (hr : F_H_power x0 x1 = some o) : ctL l y_H_power (Cond.code y_H_power b_H_power 5 (some FieldType.long)) (rmd 0) D (kTy cI cS) [.int x0, .int x1] [] [] o := by
  unfold F_H_power at hr
  refine ⟨rfl, fun sz => ct_of (w0 := []) (Qc := fun A => qL D [] o A) rfl (Nat.le_of_ble_eq_true rfl) ?_ sz⟩
  intro p e s m below meth c A hA C hret ls hl hW
  have C : cx p s m ([.int x0, .int x1] : List Value).toArray meth c b_H_power 5 R_H D (kTy cI cS) (Cond.code y_H_power b_H_power 5 (some FieldType.long)) := C
  obtain ⟨hx, hb, hml, hown, hts, hK, hlk, hN⟩ := id C
  have hl : lv_has ls 5 [(0, .int x0), (1, .int x1)] := hl
  obtain ⟨Q, hQ⟩ : ∃ Q, Q = MQ below (qL D [] o A) ([.int x0, .int x1] : List Value).toArray s 0 0 A := ⟨_, rfl⟩
  rw [← hQ]
  refine lv_lconst (v := 1) hx hb d_H_power_0 (by decide) ?_
  refine lv_lstore_n (lv' := [(2, .long 1), (0, .int x0), (1, .int x1)]) hx hb d_H_power_1 rfl hl (by decide) rfl (fun ls hl => ?_)
  refine lv_iconst (v := 0) hx hb d_H_power_2 (by decide) ?_
  refine lv_istore (lv' := [(4, .int 0), (2, .long 1), (0, .int x0), (1, .int x1)]) hx hb d_H_power_3 hl (by decide) rfl (fun ls hl => ?_)
  obtain ⟨ex_1, hw_1, hk_1⟩ := ob hr
  have hx_1 : ∀ (e_1 : (Int64)), e_1 = ex_1 → ∀ (H : Heap) (locs : List Loc) (ls : Array Slot), wd A s.heap D [] H locs → lv_has ls 5 [(2, .long e_1)] → W p l e (rmd 0) s m ([.int x0, .int x1] : List Value).toArray below meth c H locs 0 0 Q (F0 m 22 ls []) := by
    intro e_1 hE H locs ls hW hl
    subst hE; have hr := hk_1
    refine lv_lload_n hx hb d_H_power_22 rfl (lv_at hl 0 rfl) ?_
    obtain rfl := Option.some.inj hr
    rw [hQ]; exact k_lret C hret hW d_H_power_23
  have hl_1 : ∀ (k : Nat) (y2_1 : Int64) (y4_1 : Int32), wh (fun (s : (Int64) × (Int32)) => F_H_power_L5 x0 x1 s.1 s.2) k (y2_1, y4_1) = some ex_1 → ∀ (H : Heap) (locs : List Loc) (ls : Array Slot), wd A s.heap D [] H locs → lv_has ls 5 [(0, .int x0), (1, .int x1), (2, .long y2_1), (4, .int y4_1)] → W p l e (rmd 0) s m ([.int x0, .int x1] : List Value).toArray below meth c H locs 0 0 Q (F0 m 5 ls []) := by
    intro k
    induction k with
    | zero => intro y2_1 y4_1 hw; exact absurd hw wh_0
    | succ k ih_1 =>
      intro y2_1 y4_1 hw H locs ls hW hl
      obtain ⟨z_1, hr, hz1_1, hz2_1⟩ := wh_s hw
      have hr : F_H_power_L5 x0 x1 y2_1 y4_1 = some z_1 := hr
      unfold F_H_power_L5 at hr
      refine lv_iload hx hb d_H_power_5 (lv_at hl 3 rfl) ?_
      refine lv_iload_n hx hb d_H_power_7 rfl (lv_at hl 1 rfl) ?_
      refine lv_icmp_ge (tgt := 22) hx hb d_H_power_8 (by decide) (fun c_2 => ?_) (fun c_2 => ?_)
      · replace hr := ip c_2 hr
        exact hx_1 _ (hz2_1 _ (Option.some.inj hr).symm) _ _ _ hW (lv_sub hl [2] rfl)
      · replace hr := iN c_2 hr
        refine lv_lload_n hx hb d_H_power_11 rfl (lv_at hl 2 rfl) ?_
        refine lv_iload_n hx hb d_H_power_12 rfl (lv_at hl 0 rfl) ?_
        refine lv_i2l hx hb d_H_power_13 rfl ?_
        refine lv_lmul hx hb d_H_power_14 ?_
        refine lv_lstore_n (lv' := [(2, .long (y2_1 * (Int32.toInt64 x0))), (0, .int x0), (1, .int x1), (4, .int y4_1)]) hx hb d_H_power_15 rfl hl (by decide) rfl (fun ls hl => ?_)
        refine lv_iinc (v := (y4_1 + 1)) (lv' := [(4, .int (y4_1 + 1)), (2, .long (y2_1 * (Int32.toInt64 x0))), (0, .int x0), (1, .int x1)]) hx hb d_H_power_16 hl (k := 3) rfl rfl (by decide) rfl (fun ls hl => ?_)
        refine lv_goto (tgt := 5) hx hb d_H_power_19 (by decide) ?_
        exact ih_1 (y2_1 * (Int32.toInt64 x0)) (y4_1 + 1) (hz1_1 _ (Option.some.inj hr).symm) _ _ _ hW (lv_sub hl [2, 3, 1, 0] rfl)
  exact hl_1 _ 1 0 hw_1 _ _ _ hW (lv_sub hl [2, 3, 1, 0] rfl)
