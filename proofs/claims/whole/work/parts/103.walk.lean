def w_Let_tellInto (cI : ClassId) (a_r0 : Nat) (a_r0_letters : Nat) (a_r1 : Nat) (a_r1_fields : Nat) (a_r1_fields_lefts : Nat) (a_r1_fields_wishes : Nat) (a_r1_figures : Nat) (a_r1_goes : Nat) (a_r1_hampers : Nat) (a_r1_kinds : Nat) (a_r1_weights : Nat) (a_r2 : Nat) (a_r2_fields : Nat) (a_r2_fields_lefts : Nat) (a_r2_fields_wishes : Nat) (a_r2_figures : Nat) (a_r2_goes : Nat) (a_r2_hampers : Nat) (a_r2_kinds : Nat) (a_r2_weights : Nat) (r0_count : Int32) (r0_letters : Nat → Int32) (r1_days : Int32) (r1_done : Int32) (r1_things : Int32) (r1_fields_lefts : Nat → Int32) (r1_fields_wishes : Nat → Int32) (r1_figures : Nat → Int32) (r1_goes : Nat → Int32) (r1_hampers : Nat → Int32) (r1_kinds : Nat → Int32) (r1_weights : Nat → Int32) (r2_days : Int32) (r2_done : Int32) (r2_things : Int32) (r2_fields_lefts : Nat → Int32) (r2_fields_wishes : Nat → Int32) (r2_figures : Nat → Int32) (r2_goes : Nat → Int32) (r2_hampers : Nat → Int32) (r2_kinds : Nat → Int32) (r2_weights : Nat → Int32) : va_W := [(a_r0, .inr (5, [.ref a_r0_letters, .int r0_count])), (a_r0_letters, .inl (cI, 96, .inl r0_letters)), (a_r1, .inr (1, [.ref a_r1_weights, .ref a_r1_kinds, .ref a_r1_figures, .ref a_r1_goes, .int r1_things, .ref a_r1_hampers, .int r1_days, .ref a_r1_fields, .int r1_done])), (a_r1_fields, .inr (2, [.ref a_r1_fields_wishes, .ref a_r1_fields_lefts])), (a_r1_fields_lefts, .inl (cI, 4, .inl r1_fields_lefts)), (a_r1_fields_wishes, .inl (cI, 4, .inl r1_fields_wishes)), (a_r1_figures, .inl (cI, 8, .inl r1_figures)), (a_r1_goes, .inl (cI, 8, .inl r1_goes)), (a_r1_hampers, .inl (cI, 8, .inl r1_hampers)), (a_r1_kinds, .inl (cI, 8, .inl r1_kinds)), (a_r1_weights, .inl (cI, 6, .inl r1_weights)), (a_r2, .inr (1, [.ref a_r2_weights, .ref a_r2_kinds, .ref a_r2_figures, .ref a_r2_goes, .int r2_things, .ref a_r2_hampers, .int r2_days, .ref a_r2_fields, .int r2_done])), (a_r2_fields, .inr (2, [.ref a_r2_fields_wishes, .ref a_r2_fields_lefts])), (a_r2_fields_lefts, .inl (cI, 4, .inl r2_fields_lefts)), (a_r2_fields_wishes, .inl (cI, 4, .inl r2_fields_wishes)), (a_r2_figures, .inl (cI, 8, .inl r2_figures)), (a_r2_goes, .inl (cI, 8, .inl r2_goes)), (a_r2_hampers, .inl (cI, 8, .inl r2_hampers)), (a_r2_kinds, .inl (cI, 8, .inl r2_kinds)), (a_r2_weights, .inl (cI, 6, .inl r2_weights))]
def F_Let_tellInto_L29 (r0_count : Int32) (r0_letters : Nat → Int32) (y4_4 : Int32) (y5_4 : Int32) (y6_4 : Int32) (r1_days_4 : Int32) (r1_done_4 : Int32) (r1_things_4 : Int32) (r1_fields_lefts_4 : Nat → Int32) (r1_fields_wishes_4 : Nat → Int32) (r1_figures_4 : Nat → Int32) (r1_goes_4 : Nat → Int32) (r1_hampers_4 : Nat → Int32) (r1_kinds_4 : Nat → Int32) (r1_weights_4 : Nat → Int32) : Option (((Int32) × (Int32) × (Int32) × (Int32) × (Int32) × (Int32) × (Nat → Int32) × (Nat → Int32) × (Nat → Int32) × (Nat → Int32) × (Nat → Int32) × (Nat → Int32) × (Nat → Int32)) ⊕ ((((Int32) × (Int32) × (Int32) × (Int32) × (Nat → Int32) × (Nat → Int32) × (Nat → Int32) × (Nat → Int32) × (Nat → Int32) × (Nat → Int32) × (Nat → Int32)) ⊕ (Int32 × (Int32) × (Int32) × (Int32) × (Nat → Int32) × (Nat → Int32) × (Nat → Int32) × (Nat → Int32) × (Nat → Int32) × (Nat → Int32) × (Nat → Int32))))) :=
  (if r0_count ≤ y6_4 then (some (.inr (.inl (y4_4, r1_days_4, r1_done_4, r1_things_4, r1_fields_lefts_4, r1_fields_wishes_4, r1_figures_4, r1_goes_4, r1_hampers_4, r1_kinds_4, r1_weights_4)))) else ((F_Let_letterAt r0_count r0_letters y6_4).bind (fun q_6 => (if q_6 = 59 then ((F_Let_refusalAt r0_count r0_letters r1_days_4 r1_things_4 y5_4).bind (fun q_8 => (if q_8 = 0 then ((F_Let_bring r0_count r0_letters r1_days_4 r1_done_4 r1_things_4 r1_fields_lefts_4 r1_fields_wishes_4 r1_figures_4 r1_goes_4 r1_hampers_4 r1_kinds_4 r1_weights_4 y5_4).bind (fun q_10 => (some (.inl ((y4_4 + 1), (y6_4 + 1), (y6_4 + 1), q_10.1, q_10.2.1, q_10.2.2.1, q_10.2.2.2.1, q_10.2.2.2.2.1, q_10.2.2.2.2.2.1, q_10.2.2.2.2.2.2.1, q_10.2.2.2.2.2.2.2.1, q_10.2.2.2.2.2.2.2.2.1, q_10.2.2.2.2.2.2.2.2.2))))) else (some (.inr (.inr ((((-2000) : Int32) - y5_4), r1_days_4, r1_done_4, r1_things_4, r1_fields_lefts_4, r1_fields_wishes_4, r1_figures_4, r1_goes_4, r1_hampers_4, r1_kinds_4, r1_weights_4))))))) else (some (.inl (y4_4, y5_4, (y6_4 + 1), r1_days_4, r1_done_4, r1_things_4, r1_fields_lefts_4, r1_fields_wishes_4, r1_figures_4, r1_goes_4, r1_hampers_4, r1_kinds_4, r1_weights_4)))))))
def F_Let_tellInto (r0_count : Int32) (r0_letters : Nat → Int32) (r1_days : Int32) (r1_done : Int32) (r1_things : Int32) (r1_fields_lefts : Nat → Int32) (r1_fields_wishes : Nat → Int32) (r1_figures : Nat → Int32) (r1_goes : Nat → Int32) (r1_hampers : Nat → Int32) (r1_kinds : Nat → Int32) (r1_weights : Nat → Int32) (r2_days : Int32) (r2_done : Int32) (r2_things : Int32) (r2_fields_lefts : Nat → Int32) (r2_fields_wishes : Nat → Int32) (r2_figures : Nat → Int32) (r2_goes : Nat → Int32) (r2_hampers : Nat → Int32) (r2_kinds : Nat → Int32) (r2_weights : Nat → Int32) : Option (Int32 × (Int32) × (Int32) × (Int32) × (Nat → Int32) × (Nat → Int32) × (Nat → Int32) × (Nat → Int32) × (Nat → Int32) × (Nat → Int32) × (Nat → Int32)) :=
  ((F_Let_firstUnfit r0_count r0_letters).bind (fun q_1 => (if q_1 < 0 then ((F_Sta_copyFrom r1_fields_lefts r1_fields_wishes r1_figures r1_goes r1_hampers r1_kinds r1_weights r2_days r2_done r2_things r2_fields_lefts r2_fields_wishes r2_figures r2_goes r2_hampers r2_kinds r2_weights).bind (fun q_3 => ((wh (fun (s : (Int32) × (Int32) × (Int32) × (Int32) × (Int32) × (Int32) × (Nat → Int32) × (Nat → Int32) × (Nat → Int32) × (Nat → Int32) × (Nat → Int32) × (Nat → Int32) × (Nat → Int32)) => F_Let_tellInto_L29 r0_count r0_letters s.1 s.2.1 s.2.2.1 s.2.2.2.1 s.2.2.2.2.1 s.2.2.2.2.2.1 s.2.2.2.2.2.2.1 s.2.2.2.2.2.2.2.1 s.2.2.2.2.2.2.2.2.1 s.2.2.2.2.2.2.2.2.2.1 s.2.2.2.2.2.2.2.2.2.2.1 s.2.2.2.2.2.2.2.2.2.2.2.1 s.2.2.2.2.2.2.2.2.2.2.2.2) 400 ((0 : Int32), (0 : Int32), (0 : Int32), q_3.1, q_3.2.1, q_3.2.2.1, q_3.2.2.2.1, q_3.2.2.2.2.1, q_3.2.2.2.2.2.1, q_3.2.2.2.2.2.2.1, q_3.2.2.2.2.2.2.2.1, q_3.2.2.2.2.2.2.2.2.1, q_3.2.2.2.2.2.2.2.2.2)).bind (sx (fun e_4 => (some (e_4.1, e_4.2.1, e_4.2.2.1, e_4.2.2.2.1, e_4.2.2.2.2.1, e_4.2.2.2.2.2.1, e_4.2.2.2.2.2.2.1, e_4.2.2.2.2.2.2.2.1, e_4.2.2.2.2.2.2.2.2.1, e_4.2.2.2.2.2.2.2.2.2.1, e_4.2.2.2.2.2.2.2.2.2.2))) (fun o => some o))))) else (some ((((-1000) : Int32) - q_1), r1_days, r1_done, r1_things, r1_fields_lefts, r1_fields_wishes, r1_figures, r1_goes, r1_hampers, r1_kinds, r1_weights)))))
set_option maxHeartbeats 4000000 in
set_option maxRecDepth 100000 in
theorem C_Let_tellInto (l : Launch) (D : va_G) (cI cS : ClassId) (a_r0 : Nat) (a_r0_letters : Nat) (a_r1 : Nat) (a_r1_fields : Nat) (a_r1_fields_lefts : Nat) (a_r1_fields_wishes : Nat) (a_r1_figures : Nat) (a_r1_goes : Nat) (a_r1_hampers : Nat) (a_r1_kinds : Nat) (a_r1_weights : Nat) (a_r2 : Nat) (a_r2_fields : Nat) (a_r2_fields_lefts : Nat) (a_r2_fields_wishes : Nat) (a_r2_figures : Nat) (a_r2_goes : Nat) (a_r2_hampers : Nat) (a_r2_kinds : Nat) (a_r2_weights : Nat) (r0_count : Int32) (r0_letters : Nat → Int32) (r1_days : Int32) (r1_done : Int32) (r1_things : Int32) (r1_fields_lefts : Nat → Int32) (r1_fields_wishes : Nat → Int32) (r1_figures : Nat → Int32) (r1_goes : Nat → Int32) (r1_hampers : Nat → Int32) (r1_kinds : Nat → Int32) (r1_weights : Nat → Int32) (r2_days : Int32) (r2_done : Int32) (r2_things : Int32) (r2_fields_lefts : Nat → Int32) (r2_fields_wishes : Nat → Int32) (r2_figures : Nat → Int32) (r2_goes : Nat → Int32) (r2_hampers : Nat → Int32) (r2_kinds : Nat → Int32) (r2_weights : Nat → Int32) (o : Int32 × (Int32) × (Int32) × (Int32) × (Nat → Int32) × (Nat → Int32) × (Nat → Int32) × (Nat → Int32) × (Nat → Int32) × (Nat → Int32) × (Nat → Int32)) (hr : F_Let_tellInto r0_count r0_letters r1_days r1_done r1_things r1_fields_lefts r1_fields_wishes r1_figures r1_goes r1_hampers r1_kinds r1_weights r2_days r2_done r2_things r2_fields_lefts r2_fields_wishes r2_figures r2_goes r2_hampers r2_kinds r2_weights = some o) : ctI l y_Let_tellInto (Cond.code y_Let_tellInto b_Let_tellInto 7 (some FieldType.int)) (rmd 5) D (kTy cI cS) [.ref a_r0, .ref a_r1, .ref a_r2] (w_Let_tellInto cI a_r0 a_r0_letters a_r1 a_r1_fields a_r1_fields_lefts a_r1_fields_wishes a_r1_figures a_r1_goes a_r1_hampers a_r1_kinds a_r1_weights a_r2 a_r2_fields a_r2_fields_lefts a_r2_fields_wishes a_r2_figures a_r2_goes a_r2_hampers a_r2_kinds a_r2_weights r0_count r0_letters r1_days r1_done r1_things r1_fields_lefts r1_fields_wishes r1_figures r1_goes r1_hampers r1_kinds r1_weights r2_days r2_done r2_things r2_fields_lefts r2_fields_wishes r2_figures r2_goes r2_hampers r2_kinds r2_weights) (w_Let_tellInto cI a_r0 a_r0_letters a_r1 a_r1_fields a_r1_fields_lefts a_r1_fields_wishes a_r1_figures a_r1_goes a_r1_hampers a_r1_kinds a_r1_weights a_r2 a_r2_fields a_r2_fields_lefts a_r2_fields_wishes a_r2_figures a_r2_goes a_r2_hampers a_r2_kinds a_r2_weights r0_count r0_letters o.2.1 o.2.2.1 o.2.2.2.1 o.2.2.2.2.1 o.2.2.2.2.2.1 o.2.2.2.2.2.2.1 o.2.2.2.2.2.2.2.1 o.2.2.2.2.2.2.2.2.1 o.2.2.2.2.2.2.2.2.2.1 o.2.2.2.2.2.2.2.2.2.2 r2_days r2_done r2_things r2_fields_lefts r2_fields_wishes r2_figures r2_goes r2_hampers r2_kinds r2_weights) o.1 := by
  unfold F_Let_tellInto at hr
  refine ⟨rfl, fun sz => ct_of (w0 := (w_Let_tellInto cI a_r0 a_r0_letters a_r1 a_r1_fields a_r1_fields_lefts a_r1_fields_wishes a_r1_figures a_r1_goes a_r1_hampers a_r1_kinds a_r1_weights a_r2 a_r2_fields a_r2_fields_lefts a_r2_fields_wishes a_r2_figures a_r2_goes a_r2_hampers a_r2_kinds a_r2_weights r0_count r0_letters r1_days r1_done r1_things r1_fields_lefts r1_fields_wishes r1_figures r1_goes r1_hampers r1_kinds r1_weights r2_days r2_done r2_things r2_fields_lefts r2_fields_wishes r2_figures r2_goes r2_hampers r2_kinds r2_weights)) (Qc := fun A => qI D (w_Let_tellInto cI a_r0 a_r0_letters a_r1 a_r1_fields a_r1_fields_lefts a_r1_fields_wishes a_r1_figures a_r1_goes a_r1_hampers a_r1_kinds a_r1_weights a_r2 a_r2_fields a_r2_fields_lefts a_r2_fields_wishes a_r2_figures a_r2_goes a_r2_hampers a_r2_kinds a_r2_weights r0_count r0_letters o.2.1 o.2.2.1 o.2.2.2.1 o.2.2.2.2.1 o.2.2.2.2.2.1 o.2.2.2.2.2.2.1 o.2.2.2.2.2.2.2.1 o.2.2.2.2.2.2.2.2.1 o.2.2.2.2.2.2.2.2.2.1 o.2.2.2.2.2.2.2.2.2.2 r2_days r2_done r2_things r2_fields_lefts r2_fields_wishes r2_figures r2_goes r2_hampers r2_kinds r2_weights) o.1 A) rfl (Nat.le_of_ble_eq_true rfl) ?_ sz⟩
  intro p e s m below meth c A hA C hret ls hl hW
  have C : cx p s m ([.ref a_r0, .ref a_r1, .ref a_r2] : List Value).toArray meth c b_Let_tellInto 7 R_Let D (kTy cI cS) (Cond.code y_Let_tellInto b_Let_tellInto 7 (some FieldType.int)) := C
  obtain ⟨hx, hb, hml, hown, hts, hK, hlk, hN⟩ := id C
  have hl : lv_has ls 7 [(0, .ref a_r0), (1, .ref a_r1), (2, .ref a_r2)] := hl
  obtain ⟨Q, hQ⟩ : ∃ Q, Q = MQ below (qI D (w_Let_tellInto cI a_r0 a_r0_letters a_r1 a_r1_fields a_r1_fields_lefts a_r1_fields_wishes a_r1_figures a_r1_goes a_r1_hampers a_r1_kinds a_r1_weights a_r2 a_r2_fields a_r2_fields_lefts a_r2_fields_wishes a_r2_figures a_r2_goes a_r2_hampers a_r2_kinds a_r2_weights r0_count r0_letters o.2.1 o.2.2.1 o.2.2.2.1 o.2.2.2.2.1 o.2.2.2.2.2.1 o.2.2.2.2.2.2.1 o.2.2.2.2.2.2.2.1 o.2.2.2.2.2.2.2.2.1 o.2.2.2.2.2.2.2.2.2.1 o.2.2.2.2.2.2.2.2.2.2 r2_days r2_done r2_things r2_fields_lefts r2_fields_wishes r2_figures r2_goes r2_hampers r2_kinds r2_weights) o.1 A) ([.ref a_r0, .ref a_r1, .ref a_r2] : List Value).toArray s 0 0 A := ⟨_, rfl⟩
  rw [← hQ]
  refine lv_aload_n hx hb d_Let_tellInto_0 rfl (lv_at hl 0 rfl) ?_
  obtain ⟨q_1, hc_1, hr⟩ := ob hr
  have ct_1 := C_Let_firstUnfit l D cI cS a_r0 a_r0_letters r0_count r0_letters q_1 hc_1
  refine k_goIp hA hW [0, 1] rfl rfl (k_runV C hA hW mw_Let_firstUnfit mv_Let_firstUnfit (ct_1.2 _) [0, 1] rfl rfl 0 rfl rfl qm_Let_19 ⟨Nat.le_of_ble_eq_true rfl, Nat.le_of_ble_eq_true rfl, Nat.zero_le _, Nat.zero_le _⟩ rfl rfl (Nat.le_of_ble_eq_true rfl) hl.1 d_Let_tellInto_1) (fun H locs hW => ?_)
  refine lv_istore_n (lv' := [(3, .int q_1), (0, .ref a_r0), (1, .ref a_r1), (2, .ref a_r2)]) hx hb d_Let_tellInto_4 rfl hl (by decide) rfl (fun ls hl => ?_)
  refine lv_iload_n hx hb d_Let_tellInto_5 rfl (lv_at hl 0 rfl) ?_
  refine lv_if_lt (tgt := 15) hx hb d_Let_tellInto_6 (by decide) (fun c_2 => ?_) (fun c_2 => ?_)
  · replace hr := ip c_2 hr
    refine lv_aload_n hx hb d_Let_tellInto_15 rfl (lv_at hl 2 rfl) ?_
    refine lv_aload_n hx hb d_Let_tellInto_16 rfl (lv_at hl 3 rfl) ?_
    obtain ⟨q_3, hc_3, hr⟩ := ob hr
    have ct_3 := C_Sta_copyFrom l D cI cS a_r1 a_r1_fields a_r1_fields_lefts a_r1_fields_wishes a_r1_figures a_r1_goes a_r1_hampers a_r1_kinds a_r1_weights a_r2 a_r2_fields a_r2_fields_lefts a_r2_fields_wishes a_r2_figures a_r2_goes a_r2_hampers a_r2_kinds a_r2_weights r1_days r1_done r1_things r1_fields_lefts r1_fields_wishes r1_figures r1_goes r1_hampers r1_kinds r1_weights r2_days r2_done r2_things r2_fields_lefts r2_fields_wishes r2_figures r2_goes r2_hampers r2_kinds r2_weights q_3 hc_3
    refine k_goV hA hW [2, 3, 4, 5, 6, 7, 8, 9, 10, 11, 12, 13, 14, 15, 16, 17, 18, 19] rfl ct_3.1 (ws' := (w_Let_tellInto cI a_r0 a_r0_letters a_r1 a_r1_fields a_r1_fields_lefts a_r1_fields_wishes a_r1_figures a_r1_goes a_r1_hampers a_r1_kinds a_r1_weights a_r2 a_r2_fields a_r2_fields_lefts a_r2_fields_wishes a_r2_figures a_r2_goes a_r2_hampers a_r2_kinds a_r2_weights r0_count r0_letters q_3.1 q_3.2.1 q_3.2.2.1 q_3.2.2.2.1 q_3.2.2.2.2.1 q_3.2.2.2.2.2.1 q_3.2.2.2.2.2.2.1 q_3.2.2.2.2.2.2.2.1 q_3.2.2.2.2.2.2.2.2.1 q_3.2.2.2.2.2.2.2.2.2 r2_days r2_done r2_things r2_fields_lefts r2_fields_wishes r2_figures r2_goes r2_hampers r2_kinds r2_weights)) rfl (k_runV C hA hW mw_Sta_copyFrom mv_Sta_copyFrom (ct_3.2 _) [2, 3, 4, 5, 6, 7, 8, 9, 10, 11, 12, 13, 14, 15, 16, 17, 18, 19] rfl rfl 2 rfl rfl qm_Let_23 ⟨Nat.le_of_ble_eq_true rfl, Nat.le_of_ble_eq_true rfl, Nat.zero_le _, Nat.zero_le _⟩ rfl rfl (Nat.le_of_ble_eq_true rfl) hl.1 d_Let_tellInto_17) (fun H locs hW => ?_)
    refine lv_iconst (v := 0) hx hb d_Let_tellInto_20 (by decide) ?_
    refine lv_istore (lv' := [(4, .int 0), (3, .int q_1), (0, .ref a_r0), (1, .ref a_r1), (2, .ref a_r2)]) hx hb d_Let_tellInto_21 hl (by decide) rfl (fun ls hl => ?_)
    refine lv_iconst (v := 0) hx hb d_Let_tellInto_23 (by decide) ?_
    refine lv_istore (lv' := [(5, .int 0), (4, .int 0), (3, .int q_1), (0, .ref a_r0), (1, .ref a_r1), (2, .ref a_r2)]) hx hb d_Let_tellInto_24 hl (by decide) rfl (fun ls hl => ?_)
    refine lv_iconst (v := 0) hx hb d_Let_tellInto_26 (by decide) ?_
    refine lv_istore (lv' := [(6, .int 0), (5, .int 0), (4, .int 0), (3, .int q_1), (0, .ref a_r0), (1, .ref a_r1), (2, .ref a_r2)]) hx hb d_Let_tellInto_27 hl (by decide) rfl (fun ls hl => ?_)
    obtain ⟨ex_4, hw_4, hk_4⟩ := ob hr
    have hx_4 : ∀ (e_4 : (Int32) × (Int32) × (Int32) × (Int32) × (Nat → Int32) × (Nat → Int32) × (Nat → Int32) × (Nat → Int32) × (Nat → Int32) × (Nat → Int32) × (Nat → Int32)), Sum.inl e_4 = ex_4 → ∀ (H : Heap) (locs : List Loc) (ls : Array Slot), wd A s.heap D (w_Let_tellInto cI a_r0 a_r0_letters a_r1 a_r1_fields a_r1_fields_lefts a_r1_fields_wishes a_r1_figures a_r1_goes a_r1_hampers a_r1_kinds a_r1_weights a_r2 a_r2_fields a_r2_fields_lefts a_r2_fields_wishes a_r2_figures a_r2_goes a_r2_hampers a_r2_kinds a_r2_weights r0_count r0_letters e_4.2.1 e_4.2.2.1 e_4.2.2.2.1 e_4.2.2.2.2.1 e_4.2.2.2.2.2.1 e_4.2.2.2.2.2.2.1 e_4.2.2.2.2.2.2.2.1 e_4.2.2.2.2.2.2.2.2.1 e_4.2.2.2.2.2.2.2.2.2.1 e_4.2.2.2.2.2.2.2.2.2.2 r2_days r2_done r2_things r2_fields_lefts r2_fields_wishes r2_figures r2_goes r2_hampers r2_kinds r2_weights) H locs → lv_has ls 7 [(4, .int e_4.1)] → W p l e (rmd 5) s m ([.ref a_r0, .ref a_r1, .ref a_r2] : List Value).toArray below meth c H locs 0 0 Q (F0 m 88 ls []) := by
      intro e_4 hE H locs ls hW hl
      have hr := sx_l hE.symm hk_4
      refine lv_iload hx hb d_Let_tellInto_88 (lv_at hl 0 rfl) ?_
      obtain rfl := Option.some.inj hr
      rw [hQ]; exact k_iret C hret hW d_Let_tellInto_90
    have hl_4 : ∀ (k : Nat) (y4_4 : Int32) (y5_4 : Int32) (y6_4 : Int32) (r1_days_4 : Int32) (r1_done_4 : Int32) (r1_things_4 : Int32) (r1_fields_lefts_4 : Nat → Int32) (r1_fields_wishes_4 : Nat → Int32) (r1_figures_4 : Nat → Int32) (r1_goes_4 : Nat → Int32) (r1_hampers_4 : Nat → Int32) (r1_kinds_4 : Nat → Int32) (r1_weights_4 : Nat → Int32), wh (fun (s : (Int32) × (Int32) × (Int32) × (Int32) × (Int32) × (Int32) × (Nat → Int32) × (Nat → Int32) × (Nat → Int32) × (Nat → Int32) × (Nat → Int32) × (Nat → Int32) × (Nat → Int32)) => F_Let_tellInto_L29 r0_count r0_letters s.1 s.2.1 s.2.2.1 s.2.2.2.1 s.2.2.2.2.1 s.2.2.2.2.2.1 s.2.2.2.2.2.2.1 s.2.2.2.2.2.2.2.1 s.2.2.2.2.2.2.2.2.1 s.2.2.2.2.2.2.2.2.2.1 s.2.2.2.2.2.2.2.2.2.2.1 s.2.2.2.2.2.2.2.2.2.2.2.1 s.2.2.2.2.2.2.2.2.2.2.2.2) k (y4_4, y5_4, y6_4, r1_days_4, r1_done_4, r1_things_4, r1_fields_lefts_4, r1_fields_wishes_4, r1_figures_4, r1_goes_4, r1_hampers_4, r1_kinds_4, r1_weights_4) = some ex_4 → ∀ (H : Heap) (locs : List Loc) (ls : Array Slot), wd A s.heap D (w_Let_tellInto cI a_r0 a_r0_letters a_r1 a_r1_fields a_r1_fields_lefts a_r1_fields_wishes a_r1_figures a_r1_goes a_r1_hampers a_r1_kinds a_r1_weights a_r2 a_r2_fields a_r2_fields_lefts a_r2_fields_wishes a_r2_figures a_r2_goes a_r2_hampers a_r2_kinds a_r2_weights r0_count r0_letters r1_days_4 r1_done_4 r1_things_4 r1_fields_lefts_4 r1_fields_wishes_4 r1_figures_4 r1_goes_4 r1_hampers_4 r1_kinds_4 r1_weights_4 r2_days r2_done r2_things r2_fields_lefts r2_fields_wishes r2_figures r2_goes r2_hampers r2_kinds r2_weights) H locs → lv_has ls 7 [(0, .ref a_r0), (1, .ref a_r1), (4, .int y4_4), (5, .int y5_4), (6, .int y6_4)] → W p l e (rmd 5) s m ([.ref a_r0, .ref a_r1, .ref a_r2] : List Value).toArray below meth c H locs 0 0 Q (F0 m 29 ls []) := by
      intro k
      induction k with
      | zero => intro y4_4 y5_4 y6_4 r1_days_4 r1_done_4 r1_things_4 r1_fields_lefts_4 r1_fields_wishes_4 r1_figures_4 r1_goes_4 r1_hampers_4 r1_kinds_4 r1_weights_4 hw; exact absurd hw wh_0
      | succ k ih_4 =>
        intro y4_4 y5_4 y6_4 r1_days_4 r1_done_4 r1_things_4 r1_fields_lefts_4 r1_fields_wishes_4 r1_figures_4 r1_goes_4 r1_hampers_4 r1_kinds_4 r1_weights_4 hw H locs ls hW hl
        obtain ⟨z_4, hr, hz1_4, hz2_4⟩ := wh_s hw
        have hr : F_Let_tellInto_L29 r0_count r0_letters y4_4 y5_4 y6_4 r1_days_4 r1_done_4 r1_things_4 r1_fields_lefts_4 r1_fields_wishes_4 r1_figures_4 r1_goes_4 r1_hampers_4 r1_kinds_4 r1_weights_4 = some z_4 := hr
        unfold F_Let_tellInto_L29 at hr
        refine lv_iload hx hb d_Let_tellInto_29 (lv_at hl 4 rfl) ?_
        refine lv_aload_n hx hb d_Let_tellInto_31 rfl (lv_at hl 0 rfl) ?_
        refine k_get i_Let C hW 0 rfl rfl 1 (by decide) qf_Let_15 rfl rfl d_Let_tellInto_32 ?_
        refine lv_icmp_ge (tgt := 88) hx hb d_Let_tellInto_35 (by decide) (fun c_5 => ?_) (fun c_5 => ?_)
        · replace hr := ip c_5 hr
          exact hx_4 _ (hz2_4 _ (Option.some.inj hr).symm) _ _ _ hW (lv_sub hl [2] rfl)
        · replace hr := iN c_5 hr
          refine lv_aload_n hx hb d_Let_tellInto_38 rfl (lv_at hl 0 rfl) ?_
          refine lv_iload hx hb d_Let_tellInto_39 (lv_at hl 4 rfl) ?_
          obtain ⟨q_6, hc_6, hr⟩ := ob hr
          have ct_6 := C_Let_letterAt l D cI cS a_r0 a_r0_letters r0_count r0_letters y6_4 q_6 hc_6
          refine k_goIp hA hW [0, 1] rfl rfl (k_runV C hA hW mw_Let_letterAt mv_Let_letterAt (ct_6.2 _) [0, 1] rfl rfl 0 rfl rfl qm_Let_29 ⟨Nat.le_of_ble_eq_true rfl, Nat.le_of_ble_eq_true rfl, Nat.zero_le _, Nat.zero_le _⟩ rfl rfl (Nat.le_of_ble_eq_true rfl) hl.1 d_Let_tellInto_41) (fun H locs hW => ?_)
          refine lv_bipush (v := 59) hx hb d_Let_tellInto_44 (by decide) ?_
          refine lv_icmp_ne (tgt := 82) hx hb d_Let_tellInto_46 (by decide) (fun c_7 => ?_) (fun c_7 => ?_)
          · replace hr := iN c_7 hr
            refine lv_iinc (v := (y6_4 + 1)) (lv' := [(6, .int (y6_4 + 1)), (0, .ref a_r0), (1, .ref a_r1), (4, .int y4_4), (5, .int y5_4)]) hx hb d_Let_tellInto_82 hl (k := 4) rfl rfl (by decide) rfl (fun ls hl => ?_)
            refine lv_goto (tgt := 29) hx hb d_Let_tellInto_85 (by decide) ?_
            exact ih_4 y4_4 y5_4 (y6_4 + 1) r1_days_4 r1_done_4 r1_things_4 r1_fields_lefts_4 r1_fields_wishes_4 r1_figures_4 r1_goes_4 r1_hampers_4 r1_kinds_4 r1_weights_4 (hz1_4 _ (Option.some.inj hr).symm) _ _ _ hW (lv_sub hl [1, 2, 3, 4, 0] rfl)
          · replace hr := ip c_7 hr
            refine lv_aload_n hx hb d_Let_tellInto_49 rfl (lv_at hl 0 rfl) ?_
            refine lv_aload_n hx hb d_Let_tellInto_50 rfl (lv_at hl 1 rfl) ?_
            refine lv_iload hx hb d_Let_tellInto_51 (lv_at hl 3 rfl) ?_
            obtain ⟨q_8, hc_8, hr⟩ := ob hr
            have ct_8 := C_Let_refusalAt l D cI cS a_r0 a_r0_letters a_r1 (Value.ref a_r1_weights) (Value.ref a_r1_kinds) (Value.ref a_r1_figures) (Value.ref a_r1_goes) (Value.ref a_r1_hampers) (Value.ref a_r1_fields) (Value.int r1_done_4) r0_count r0_letters r1_days_4 r1_things_4 y5_4 q_8 hc_8
            refine k_goIp hA hW [0, 1, 2] rfl rfl (k_runV C hA hW mw_Let_refusalAt mv_Let_refusalAt (ct_8.2 _) [0, 1, 2] rfl rfl 0 rfl rfl qm_Let_33 ⟨Nat.le_of_ble_eq_true rfl, Nat.le_of_ble_eq_true rfl, Nat.zero_le _, Nat.zero_le _⟩ rfl rfl (Nat.le_of_ble_eq_true rfl) hl.1 d_Let_tellInto_53) (fun H locs hW => ?_)
            refine lv_if_eq (tgt := 66) hx hb d_Let_tellInto_56 (by decide) (fun c_9 => ?_) (fun c_9 => ?_)
            · replace hr := ip c_9 hr
              refine lv_aload_n hx hb d_Let_tellInto_66 rfl (lv_at hl 0 rfl) ?_
              refine lv_aload_n hx hb d_Let_tellInto_67 rfl (lv_at hl 1 rfl) ?_
              refine lv_iload hx hb d_Let_tellInto_68 (lv_at hl 3 rfl) ?_
              obtain ⟨q_10, hc_10, hr⟩ := ob hr
              have ct_10 := C_Let_bring l D cI cS a_r0 a_r0_letters a_r1 a_r1_fields a_r1_fields_lefts a_r1_fields_wishes a_r1_figures a_r1_goes a_r1_hampers a_r1_kinds a_r1_weights r0_count r0_letters r1_days_4 r1_done_4 r1_things_4 r1_fields_lefts_4 r1_fields_wishes_4 r1_figures_4 r1_goes_4 r1_hampers_4 r1_kinds_4 r1_weights_4 y5_4 q_10 hc_10
              refine k_goV hA hW [0, 1, 2, 3, 4, 5, 6, 7, 8, 9, 10] rfl ct_10.1 (ws' := (w_Let_tellInto cI a_r0 a_r0_letters a_r1 a_r1_fields a_r1_fields_lefts a_r1_fields_wishes a_r1_figures a_r1_goes a_r1_hampers a_r1_kinds a_r1_weights a_r2 a_r2_fields a_r2_fields_lefts a_r2_fields_wishes a_r2_figures a_r2_goes a_r2_hampers a_r2_kinds a_r2_weights r0_count r0_letters q_10.1 q_10.2.1 q_10.2.2.1 q_10.2.2.2.1 q_10.2.2.2.2.1 q_10.2.2.2.2.2.1 q_10.2.2.2.2.2.2.1 q_10.2.2.2.2.2.2.2.1 q_10.2.2.2.2.2.2.2.2.1 q_10.2.2.2.2.2.2.2.2.2 r2_days r2_done r2_things r2_fields_lefts r2_fields_wishes r2_figures r2_goes r2_hampers r2_kinds r2_weights)) rfl (k_runV C hA hW mw_Let_bring mv_Let_bring (ct_10.2 _) [0, 1, 2, 3, 4, 5, 6, 7, 8, 9, 10] rfl rfl 0 rfl rfl qm_Let_37 ⟨Nat.le_of_ble_eq_true rfl, Nat.le_of_ble_eq_true rfl, Nat.zero_le _, Nat.zero_le _⟩ rfl rfl (Nat.le_of_ble_eq_true rfl) hl.1 d_Let_tellInto_70) (fun H locs hW => ?_)
              refine lv_iinc (v := (y4_4 + 1)) (lv' := [(4, .int (y4_4 + 1)), (0, .ref a_r0), (1, .ref a_r1), (5, .int y5_4), (6, .int y6_4)]) hx hb d_Let_tellInto_73 hl (k := 2) rfl rfl (by decide) rfl (fun ls hl => ?_)
              refine lv_iload hx hb d_Let_tellInto_76 (lv_at hl 4 rfl) ?_
              refine lv_iconst (v := 1) hx hb d_Let_tellInto_78 (by decide) ?_
              refine lv_iadd hx hb d_Let_tellInto_79 ?_
              refine lv_istore (lv' := [(5, .int (y6_4 + 1)), (4, .int (y4_4 + 1)), (0, .ref a_r0), (1, .ref a_r1), (6, .int y6_4)]) hx hb d_Let_tellInto_80 hl (by decide) rfl (fun ls hl => ?_)
              refine lv_iinc (v := (y6_4 + 1)) (lv' := [(6, .int (y6_4 + 1)), (5, .int (y6_4 + 1)), (4, .int (y4_4 + 1)), (0, .ref a_r0), (1, .ref a_r1)]) hx hb d_Let_tellInto_82 hl (k := 4) rfl rfl (by decide) rfl (fun ls hl => ?_)
              refine lv_goto (tgt := 29) hx hb d_Let_tellInto_85 (by decide) ?_
              exact ih_4 (y4_4 + 1) (y6_4 + 1) (y6_4 + 1) q_10.1 q_10.2.1 q_10.2.2.1 q_10.2.2.2.1 q_10.2.2.2.2.1 q_10.2.2.2.2.2.1 q_10.2.2.2.2.2.2.1 q_10.2.2.2.2.2.2.2.1 q_10.2.2.2.2.2.2.2.2.1 q_10.2.2.2.2.2.2.2.2.2 (hz1_4 _ (Option.some.inj hr).symm) _ _ _ hW (lv_sub hl [3, 4, 2, 1, 0] rfl)
            · replace hr := iN c_9 hr
              refine lv_sipush (v := (-2000)) hx hb d_Let_tellInto_59 (by decide) ?_
              refine lv_iload hx hb d_Let_tellInto_62 (lv_at hl 3 rfl) ?_
              refine lv_isub hx hb d_Let_tellInto_64 ?_
              have hr := sx_r (hz2_4 _ (Option.some.inj hr).symm).symm hk_4
              obtain rfl := Option.some.inj hr
              rw [hQ]; exact k_iret C hret hW d_Let_tellInto_65
    exact hl_4 _ 0 0 0 q_3.1 q_3.2.1 q_3.2.2.1 q_3.2.2.2.1 q_3.2.2.2.2.1 q_3.2.2.2.2.2.1 q_3.2.2.2.2.2.2.1 q_3.2.2.2.2.2.2.2.1 q_3.2.2.2.2.2.2.2.2.1 q_3.2.2.2.2.2.2.2.2.2 hw_4 _ _ _ hW (lv_sub hl [4, 5, 2, 1, 0] rfl)
  · replace hr := iN c_2 hr
    refine lv_sipush (v := (-1000)) hx hb d_Let_tellInto_9 (by decide) ?_
    refine lv_iload_n hx hb d_Let_tellInto_12 rfl (lv_at hl 0 rfl) ?_
    refine lv_isub hx hb d_Let_tellInto_13 ?_
    obtain rfl := Option.some.inj hr
    rw [hQ]; exact k_iret C hret hW d_Let_tellInto_14
def w_Num_append (cI : ClassId) (a_r0 : Nat) (a_r0_numbers : Nat) (r0_count : Int32) (r0_numbers : Nat → Int32) : va_W := [(a_r0, .inr (6, [.ref a_r0_numbers, .int r0_count])), (a_r0_numbers, .inl (cI, 12, .inl r0_numbers))]
def F_Num_append (r0_count : Int32) (r0_numbers : Nat → Int32) (x1 : Int32) : Option (Int32 × (Int32) × (Nat → Int32)) :=
  (if (12 : Int32) ≤ r0_count then (some (r0_count, r0_count, r0_numbers)) else (ck r0_count 12 (some ((r0_count + 1), (r0_count + 1), (upd r0_numbers (Int32.toNatClampNeg r0_count) x1)))))
set_option maxHeartbeats 4000000 in
set_option maxRecDepth 100000 in
theorem C_Num_append (l : Launch) (D : va_G) (cI cS : ClassId) (a_r0 : Nat) (a_r0_numbers : Nat) (r0_count : Int32) (r0_numbers : Nat → Int32) (x1 : Int32) (o : Int32 × (Int32) × (Nat → Int32)) (hr : F_Num_append r0_count r0_numbers x1 = some o) : ctI l y_Num_append (Cond.code y_Num_append b_Num_append 2 (some FieldType.int)) (rmd 0) D (kTy cI cS) [.ref a_r0, .int x1] (w_Num_append cI a_r0 a_r0_numbers r0_count r0_numbers) (w_Num_append cI a_r0 a_r0_numbers o.2.1 o.2.2) o.1 := by
  unfold F_Num_append at hr
  refine ⟨rfl, fun sz => ct_of (w0 := (w_Num_append cI a_r0 a_r0_numbers r0_count r0_numbers)) (Qc := fun A => qI D (w_Num_append cI a_r0 a_r0_numbers o.2.1 o.2.2) o.1 A) rfl (Nat.le_of_ble_eq_true rfl) ?_ sz⟩
  intro p e s m below meth c A hA C hret ls hl hW
  have C : cx p s m ([.ref a_r0, .int x1] : List Value).toArray meth c b_Num_append 2 R_Num D (kTy cI cS) (Cond.code y_Num_append b_Num_append 2 (some FieldType.int)) := C
  obtain ⟨hx, hb, hml, hown, hts, hK, hlk, hN⟩ := id C
  have hl : lv_has ls 2 [(0, .ref a_r0), (1, .int x1)] := hl
  obtain ⟨Q, hQ⟩ : ∃ Q, Q = MQ below (qI D (w_Num_append cI a_r0 a_r0_numbers o.2.1 o.2.2) o.1 A) ([.ref a_r0, .int x1] : List Value).toArray s 0 0 A := ⟨_, rfl⟩
  rw [← hQ]
  refine lv_aload_n hx hb d_Num_append_0 rfl (lv_at hl 0 rfl) ?_
  refine k_get i_Num C hW 0 rfl rfl 1 (by decide) qf_Num_15 rfl rfl d_Num_append_1 ?_
  refine lv_bipush (v := 12) hx hb d_Num_append_4 (by decide) ?_
  refine lv_icmp_ge (tgt := 29) hx hb d_Num_append_6 (by decide) (fun c_1 => ?_) (fun c_1 => ?_)
  · replace hr := ip c_1 hr
    refine lv_aload_n hx hb d_Num_append_29 rfl (lv_at hl 0 rfl) ?_
    refine k_get i_Num C hW 0 rfl rfl 1 (by decide) qf_Num_15 rfl rfl d_Num_append_30 ?_
    obtain rfl := Option.some.inj hr
    rw [hQ]; exact k_iret C hret hW d_Num_append_33
  · replace hr := iN c_1 hr
    refine lv_aload_n hx hb d_Num_append_9 rfl (lv_at hl 0 rfl) ?_
    refine k_get i_Num C hW 0 rfl rfl 0 (by decide) qf_Num_9 rfl rfl d_Num_append_10 ?_
    refine lv_aload_n hx hb d_Num_append_13 rfl (lv_at hl 0 rfl) ?_
    refine k_get i_Num C hW 0 rfl rfl 1 (by decide) qf_Num_15 rfl rfl d_Num_append_14 ?_
    refine lv_iload_n hx hb d_Num_append_17 rfl (lv_at hl 1 rfl) ?_
    obtain ⟨h_2, hr⟩ := ck_some hr
    refine k_iast C hW 1 rfl h_2 (ws' := (w_Num_append cI a_r0 a_r0_numbers r0_count (upd r0_numbers (Int32.toNatClampNeg r0_count) x1))) rfl d_Num_append_18 (fun H locs hW => ?_)
    refine lv_aload_n hx hb d_Num_append_19 rfl (lv_at hl 0 rfl) ?_
    refine lv_dup hx hb d_Num_append_20 rfl ?_
    refine k_get i_Num C hW 0 rfl rfl 1 (by decide) qf_Num_15 rfl rfl d_Num_append_21 ?_
    refine lv_iconst (v := 1) hx hb d_Num_append_24 (by decide) ?_
    refine lv_iadd hx hb d_Num_append_25 ?_
    refine k_put i_Num t_Num_ok n_Num C hW 0 rfl rfl 1 (by decide) qf_Num_15 rfl rfl (ty := .int) rfl rfl rfl (Nat.le_of_ble_eq_true rfl) (ws' := (w_Num_append cI a_r0 a_r0_numbers (r0_count + 1) (upd r0_numbers (Int32.toNatClampNeg r0_count) x1))) rfl d_Num_append_26 (fun H locs hW => ?_)
    refine lv_aload_n hx hb d_Num_append_29 rfl (lv_at hl 0 rfl) ?_
    refine k_get i_Num C hW 0 rfl rfl 1 (by decide) qf_Num_15 rfl rfl d_Num_append_30 ?_
    obtain rfl := Option.some.inj hr
    rw [hQ]; exact k_iret C hret hW d_Num_append_33
def w_Num_isSo (cI : ClassId) (a_r0 : Nat) (a_r0_numbers : Nat) (r0_count : Int32) (r0_numbers : Nat → Int32) : va_W := [(a_r0, .inr (6, [.ref a_r0_numbers, .int r0_count])), (a_r0_numbers, .inl (cI, 12, .inl r0_numbers))]
def F_Num_isSo_J30_6 (r0_numbers : Nat → Int32) (y3_1 : Int32) (s0_6 : Int32) : Option (((Int32)) ⊕ (((Unit) ⊕ (Int32)))) :=
  (ck y3_1 12 (if (r0_numbers (Int32.toNatClampNeg y3_1)) = 2 then (some (.inl (y3_1 + 1))) else (ck y3_1 12 (if (r0_numbers (Int32.toNatClampNeg y3_1)) = s0_6 then (some (.inl (y3_1 + 1))) else (some (.inr (.inr 0)))))))
def F_Num_isSo_L2 (r0_count : Int32) (r0_numbers : Nat → Int32) (x1 : Int32) (x2 : Int32) (y3_1 : Int32) : Option (((Int32)) ⊕ (((Unit) ⊕ (Int32)))) :=
  (if (12 : Int32) ≤ y3_1 then (some (.inr (.inl ()))) else (if r0_count ≤ y3_1 then (some (.inr (.inl ()))) else ((F_Kin_goesWith x1 x2 y3_1).bind (fun q_4 => (if q_4 = 0 then (F_Num_isSo_J30_6 r0_numbers y3_1 0) else (F_Num_isSo_J30_6 r0_numbers y3_1 1))))))
def F_Num_isSo (r0_count : Int32) (r0_numbers : Nat → Int32) (x1 : Int32) (x2 : Int32) : Option (Int32) :=
  ((wh (fun (s : (Int32)) => F_Num_isSo_L2 r0_count r0_numbers x1 x2 s) 400 (0 : Int32)).bind (sx (fun e_1 => (some 1)) (fun o => some o)))
set_option maxHeartbeats 4000000 in
set_option maxRecDepth 100000 in
theorem C_Num_isSo (l : Launch) (D : va_G) (cI cS : ClassId) (a_r0 : Nat) (a_r0_numbers : Nat) (r0_count : Int32) (r0_numbers : Nat → Int32) (x1 : Int32) (x2 : Int32) (o : Int32) (hr : F_Num_isSo r0_count r0_numbers x1 x2 = some o) : ctI l y_Num_isSo (Cond.code y_Num_isSo b_Num_isSo 5 (some FieldType.boolean)) (rmd 2) D (kTy cI cS) [.ref a_r0, .int x1, .int x2] (w_Num_isSo cI a_r0 a_r0_numbers r0_count r0_numbers) (w_Num_isSo cI a_r0 a_r0_numbers r0_count r0_numbers) o := by
  unfold F_Num_isSo at hr
  refine ⟨rfl, fun sz => ct_of (w0 := (w_Num_isSo cI a_r0 a_r0_numbers r0_count r0_numbers)) (Qc := fun A => qI D (w_Num_isSo cI a_r0 a_r0_numbers r0_count r0_numbers) o A) rfl (Nat.le_of_ble_eq_true rfl) ?_ sz⟩
  intro p e s m below meth c A hA C hret ls hl hW
  have C : cx p s m ([.ref a_r0, .int x1, .int x2] : List Value).toArray meth c b_Num_isSo 5 R_Num D (kTy cI cS) (Cond.code y_Num_isSo b_Num_isSo 5 (some FieldType.boolean)) := C
  obtain ⟨hx, hb, hml, hown, hts, hK, hlk, hN⟩ := id C
  have hl : lv_has ls 5 [(0, .ref a_r0), (1, .int x1), (2, .int x2)] := hl
  obtain ⟨Q, hQ⟩ : ∃ Q, Q = MQ below (qI D (w_Num_isSo cI a_r0 a_r0_numbers r0_count r0_numbers) o A) ([.ref a_r0, .int x1, .int x2] : List Value).toArray s 0 0 A := ⟨_, rfl⟩
  rw [← hQ]
  refine lv_iconst (v := 0) hx hb d_Num_isSo_0 (by decide) ?_
  refine lv_istore_n (lv' := [(3, .int 0), (0, .ref a_r0), (1, .int x1), (2, .int x2)]) hx hb d_Num_isSo_1 rfl hl (by decide) rfl (fun ls hl => ?_)
  obtain ⟨ex_1, hw_1, hk_1⟩ := ob hr
  have hx_1 : ∀ (e_1 : Unit), Sum.inl e_1 = ex_1 → ∀ (H : Heap) (locs : List Loc) (ls : Array Slot), wd A s.heap D (w_Num_isSo cI a_r0 a_r0_numbers r0_count r0_numbers) H locs → lv_has ls 5 [] → W p l e (rmd 2) s m ([.ref a_r0, .int x1, .int x2] : List Value).toArray below meth c H locs 0 0 Q (F0 m 61 ls []) := by
    intro e_1 hE H locs ls hW hl
    have hr := sx_l hE.symm hk_1
    refine lv_iconst (v := 1) hx hb d_Num_isSo_61 (by decide) ?_
    obtain rfl := Option.some.inj hr
    rw [hQ]; exact k_zret C hret nar1 hW d_Num_isSo_62
  have hl_1 : ∀ (k : Nat) (y3_1 : Int32), wh (fun (s : (Int32)) => F_Num_isSo_L2 r0_count r0_numbers x1 x2 s) k y3_1 = some ex_1 → ∀ (H : Heap) (locs : List Loc) (ls : Array Slot), wd A s.heap D (w_Num_isSo cI a_r0 a_r0_numbers r0_count r0_numbers) H locs → lv_has ls 5 [(0, .ref a_r0), (1, .int x1), (2, .int x2), (3, .int y3_1)] → W p l e (rmd 2) s m ([.ref a_r0, .int x1, .int x2] : List Value).toArray below meth c H locs 0 0 Q (F0 m 2 ls []) := by
    intro k
    induction k with
    | zero => intro y3_1 hw; exact absurd hw wh_0
    | succ k ih_1 =>
      intro y3_1 hw H locs ls hW hl
      obtain ⟨z_1, hr, hz1_1, hz2_1⟩ := wh_s hw
      have hr : F_Num_isSo_L2 r0_count r0_numbers x1 x2 y3_1 = some z_1 := hr
      unfold F_Num_isSo_L2 at hr
      refine lv_iload_n hx hb d_Num_isSo_2 rfl (lv_at hl 3 rfl) ?_
      refine lv_bipush (v := 12) hx hb d_Num_isSo_3 (by decide) ?_
      refine lv_icmp_ge (tgt := 61) hx hb d_Num_isSo_5 (by decide) (fun c_2 => ?_) (fun c_2 => ?_)
      · replace hr := ip c_2 hr
        exact hx_1 _ (hz2_1 _ (Option.some.inj hr).symm) _ _ _ hW (lv_sub hl [] rfl)
      · replace hr := iN c_2 hr
        refine lv_iload_n hx hb d_Num_isSo_8 rfl (lv_at hl 3 rfl) ?_
        refine lv_aload_n hx hb d_Num_isSo_9 rfl (lv_at hl 0 rfl) ?_
        refine k_get i_Num C hW 0 rfl rfl 1 (by decide) qf_Num_15 rfl rfl d_Num_isSo_10 ?_
        refine lv_icmp_ge (tgt := 61) hx hb d_Num_isSo_13 (by decide) (fun c_3 => ?_) (fun c_3 => ?_)
        · replace hr := ip c_3 hr
          exact hx_1 _ (hz2_1 _ (Option.some.inj hr).symm) _ _ _ hW (lv_sub hl [] rfl)
        · replace hr := iN c_3 hr
          refine lv_iload_n hx hb d_Num_isSo_16 rfl (lv_at hl 1 rfl) ?_
          refine lv_iload_n hx hb d_Num_isSo_17 rfl (lv_at hl 2 rfl) ?_
          refine lv_iload_n hx hb d_Num_isSo_18 rfl (lv_at hl 3 rfl) ?_
          obtain ⟨q_4, hc_4, hr⟩ := ob hr
          have ct_4 := C_Kin_goesWith l D cI cS x1 x2 y3_1 q_4 hc_4
          refine k_goIp hA hW [] rfl rfl (k_runS C hA hW mw_Kin_goesWith ms_Kin_goesWith (ct_4.2 _) [] rfl rfl qm_Num_19 ⟨Nat.le_of_ble_eq_true rfl, Nat.le_of_ble_eq_true rfl, Nat.zero_le _, Nat.zero_le _⟩ rfl rfl (Nat.le_of_ble_eq_true rfl) hl.1 d_Num_isSo_19) (fun H locs hW => ?_)
          have hJ_6 : ∀ (s0_6 : Int32), F_Num_isSo_J30_6 r0_numbers y3_1 s0_6 = some z_1 → ∀ (H : Heap) (locs : List Loc) (ls : Array Slot), wd A s.heap D (w_Num_isSo cI a_r0 a_r0_numbers r0_count r0_numbers) H locs → lv_has ls 5 [(0, .ref a_r0), (1, .int x1), (2, .int x2), (3, .int y3_1)] → W p l e (rmd 2) s m ([.ref a_r0, .int x1, .int x2] : List Value).toArray below meth c H locs 0 0 Q (F0 m 30 ls [.int s0_6]) := by
            intro s0_6 hr H locs ls hW hl
            unfold F_Num_isSo_J30_6 at hr
            refine lv_istore (lv' := [(4, .int s0_6), (0, .ref a_r0), (1, .int x1), (2, .int x2), (3, .int y3_1)]) hx hb d_Num_isSo_30 hl (by decide) rfl (fun ls hl => ?_)
            refine lv_aload_n hx hb d_Num_isSo_32 rfl (lv_at hl 1 rfl) ?_
            refine k_get i_Num C hW 0 rfl rfl 0 (by decide) qf_Num_9 rfl rfl d_Num_isSo_33 ?_
            refine lv_iload_n hx hb d_Num_isSo_36 rfl (lv_at hl 4 rfl) ?_
            obtain ⟨h_7, hr⟩ := ck_some hr
            refine k_iald C hW 1 rfl h_7 d_Num_isSo_37 ?_
            refine lv_iconst (v := 2) hx hb d_Num_isSo_38 (by decide) ?_
            refine lv_icmp_eq (tgt := 55) hx hb d_Num_isSo_39 (by decide) (fun c_8 => ?_) (fun c_8 => ?_)
            · replace hr := ip c_8 hr
              refine lv_iinc (v := (y3_1 + 1)) (lv' := [(3, .int (y3_1 + 1)), (4, .int s0_6), (0, .ref a_r0), (1, .int x1), (2, .int x2)]) hx hb d_Num_isSo_55 hl (k := 4) rfl rfl (by decide) rfl (fun ls hl => ?_)
              refine lv_goto (tgt := 2) hx hb d_Num_isSo_58 (by decide) ?_
              exact ih_1 (y3_1 + 1) (hz1_1 _ (Option.some.inj hr).symm) _ _ _ hW (lv_sub hl [2, 3, 4, 0] rfl)
            · replace hr := iN c_8 hr
              refine lv_aload_n hx hb d_Num_isSo_42 rfl (lv_at hl 1 rfl) ?_
              refine k_get i_Num C hW 0 rfl rfl 0 (by decide) qf_Num_9 rfl rfl d_Num_isSo_43 ?_
              refine lv_iload_n hx hb d_Num_isSo_46 rfl (lv_at hl 4 rfl) ?_
              obtain ⟨h_9, hr⟩ := ck_some hr
              refine k_iald C hW 1 rfl h_9 d_Num_isSo_47 ?_
              refine lv_iload hx hb d_Num_isSo_48 (lv_at hl 0 rfl) ?_
              refine lv_icmp_eq (tgt := 55) hx hb d_Num_isSo_50 (by decide) (fun c_10 => ?_) (fun c_10 => ?_)
              · replace hr := ip c_10 hr
                refine lv_iinc (v := (y3_1 + 1)) (lv' := [(3, .int (y3_1 + 1)), (4, .int s0_6), (0, .ref a_r0), (1, .int x1), (2, .int x2)]) hx hb d_Num_isSo_55 hl (k := 4) rfl rfl (by decide) rfl (fun ls hl => ?_)
                refine lv_goto (tgt := 2) hx hb d_Num_isSo_58 (by decide) ?_
                exact ih_1 (y3_1 + 1) (hz1_1 _ (Option.some.inj hr).symm) _ _ _ hW (lv_sub hl [2, 3, 4, 0] rfl)
              · replace hr := iN c_10 hr
                refine lv_iconst (v := 0) hx hb d_Num_isSo_53 (by decide) ?_
                have hr := sx_r (hz2_1 _ (Option.some.inj hr).symm).symm hk_1
                obtain rfl := Option.some.inj hr
                rw [hQ]; exact k_zret C hret nar0 hW d_Num_isSo_54
          refine lv_if_eq (tgt := 29) hx hb d_Num_isSo_22 (by decide) (fun c_5 => ?_) (fun c_5 => ?_)
          · replace hr := ip c_5 hr
            refine lv_iconst (v := 0) hx hb d_Num_isSo_29 (by decide) ?_
            exact hJ_6 0 hr _ _ _ hW (lv_sub hl [0, 1, 2, 3] rfl)
          · replace hr := iN c_5 hr
            refine lv_iconst (v := 1) hx hb d_Num_isSo_25 (by decide) ?_
            refine lv_goto (tgt := 30) hx hb d_Num_isSo_26 (by decide) ?_
            exact hJ_6 1 hr _ _ _ hW (lv_sub hl [0, 1, 2, 3] rfl)
  exact hl_1 _ 0 hw_1 _ _ _ hW (lv_sub hl [1, 2, 3, 0] rfl)
def w_Num_figuresSo (cI : ClassId) (a_r0 : Nat) (a_r0_numbers : Nat) (r0_count : Int32) (r0_numbers : Nat → Int32) : va_W := [(a_r0, .inr (6, [.ref a_r0_numbers, .int r0_count])), (a_r0_numbers, .inl (cI, 12, .inl r0_numbers))]
def F_Num_figuresSo_L4 (r0_count : Int32) (r0_numbers : Nat → Int32) (x1 : Int32) (y2_1 : Int32) (y3_1 : Int32) : Option (((Int32) × (Int32)) ⊕ ((Int32))) :=
  (if (9 : Int32) < y3_1 then (some (.inr y2_1)) else ((F_Num_isSo r0_count r0_numbers x1 y3_1).bind (fun q_3 => (if q_3 = 0 then (some (.inl (y2_1, (y3_1 + 1)))) else (some (.inl ((y2_1 ||| ((1 : Int32) <<< ((y3_1 : Int32) &&& 31))), (y3_1 + 1))))))))
def F_Num_figuresSo (r0_count : Int32) (r0_numbers : Nat → Int32) (x1 : Int32) : Option (Int32) :=
  ((wh (fun (s : (Int32) × (Int32)) => F_Num_figuresSo_L4 r0_count r0_numbers x1 s.1 s.2) 400 ((0 : Int32), (0 : Int32))).bind (fun e_1 => (some e_1)))
set_option maxHeartbeats 4000000 in
set_option maxRecDepth 100000 in
theorem C_Num_figuresSo (l : Launch) (D : va_G) (cI cS : ClassId) (a_r0 : Nat) (a_r0_numbers : Nat) (r0_count : Int32) (r0_numbers : Nat → Int32) (x1 : Int32) (o : Int32) (hr : F_Num_figuresSo r0_count r0_numbers x1 = some o) : ctI l y_Num_figuresSo (Cond.code y_Num_figuresSo b_Num_figuresSo 4 (some FieldType.int)) (rmd 3) D (kTy cI cS) [.ref a_r0, .int x1] (w_Num_figuresSo cI a_r0 a_r0_numbers r0_count r0_numbers) (w_Num_figuresSo cI a_r0 a_r0_numbers r0_count r0_numbers) o := by
  unfold F_Num_figuresSo at hr
  refine ⟨rfl, fun sz => ct_of (w0 := (w_Num_figuresSo cI a_r0 a_r0_numbers r0_count r0_numbers)) (Qc := fun A => qI D (w_Num_figuresSo cI a_r0 a_r0_numbers r0_count r0_numbers) o A) rfl (Nat.le_of_ble_eq_true rfl) ?_ sz⟩
  intro p e s m below meth c A hA C hret ls hl hW
  have C : cx p s m ([.ref a_r0, .int x1] : List Value).toArray meth c b_Num_figuresSo 4 R_Num D (kTy cI cS) (Cond.code y_Num_figuresSo b_Num_figuresSo 4 (some FieldType.int)) := C
  obtain ⟨hx, hb, hml, hown, hts, hK, hlk, hN⟩ := id C
  have hl : lv_has ls 4 [(0, .ref a_r0), (1, .int x1)] := hl
  obtain ⟨Q, hQ⟩ : ∃ Q, Q = MQ below (qI D (w_Num_figuresSo cI a_r0 a_r0_numbers r0_count r0_numbers) o A) ([.ref a_r0, .int x1] : List Value).toArray s 0 0 A := ⟨_, rfl⟩
  rw [← hQ]
  refine lv_iconst (v := 0) hx hb d_Num_figuresSo_0 (by decide) ?_
  refine lv_istore_n (lv' := [(2, .int 0), (0, .ref a_r0), (1, .int x1)]) hx hb d_Num_figuresSo_1 rfl hl (by decide) rfl (fun ls hl => ?_)
  refine lv_iconst (v := 0) hx hb d_Num_figuresSo_2 (by decide) ?_
  refine lv_istore_n (lv' := [(3, .int 0), (2, .int 0), (0, .ref a_r0), (1, .int x1)]) hx hb d_Num_figuresSo_3 rfl hl (by decide) rfl (fun ls hl => ?_)
  obtain ⟨ex_1, hw_1, hk_1⟩ := ob hr
  have hx_1 : ∀ (e_1 : (Int32)), e_1 = ex_1 → ∀ (H : Heap) (locs : List Loc) (ls : Array Slot), wd A s.heap D (w_Num_figuresSo cI a_r0 a_r0_numbers r0_count r0_numbers) H locs → lv_has ls 4 [(2, .int e_1)] → W p l e (rmd 3) s m ([.ref a_r0, .int x1] : List Value).toArray below meth c H locs 0 0 Q (F0 m 31 ls []) := by
    intro e_1 hE H locs ls hW hl
    subst hE; have hr := hk_1
    refine lv_iload_n hx hb d_Num_figuresSo_31 rfl (lv_at hl 0 rfl) ?_
    obtain rfl := Option.some.inj hr
    rw [hQ]; exact k_iret C hret hW d_Num_figuresSo_32
  have hl_1 : ∀ (k : Nat) (y2_1 : Int32) (y3_1 : Int32), wh (fun (s : (Int32) × (Int32)) => F_Num_figuresSo_L4 r0_count r0_numbers x1 s.1 s.2) k (y2_1, y3_1) = some ex_1 → ∀ (H : Heap) (locs : List Loc) (ls : Array Slot), wd A s.heap D (w_Num_figuresSo cI a_r0 a_r0_numbers r0_count r0_numbers) H locs → lv_has ls 4 [(0, .ref a_r0), (1, .int x1), (2, .int y2_1), (3, .int y3_1)] → W p l e (rmd 3) s m ([.ref a_r0, .int x1] : List Value).toArray below meth c H locs 0 0 Q (F0 m 4 ls []) := by
    intro k
    induction k with
    | zero => intro y2_1 y3_1 hw; exact absurd hw wh_0
    | succ k ih_1 =>
      intro y2_1 y3_1 hw H locs ls hW hl
      obtain ⟨z_1, hr, hz1_1, hz2_1⟩ := wh_s hw
      have hr : F_Num_figuresSo_L4 r0_count r0_numbers x1 y2_1 y3_1 = some z_1 := hr
      unfold F_Num_figuresSo_L4 at hr
      refine lv_iload_n hx hb d_Num_figuresSo_4 rfl (lv_at hl 3 rfl) ?_
      refine lv_bipush (v := 9) hx hb d_Num_figuresSo_5 (by decide) ?_
      refine lv_icmp_gt (tgt := 31) hx hb d_Num_figuresSo_7 (by decide) (fun c_2 => ?_) (fun c_2 => ?_)
      · replace hr := ip c_2 hr
        exact hx_1 _ (hz2_1 _ (Option.some.inj hr).symm) _ _ _ hW (lv_sub hl [2] rfl)
      · replace hr := iN c_2 hr
        refine lv_aload_n hx hb d_Num_figuresSo_10 rfl (lv_at hl 0 rfl) ?_
        refine lv_iload_n hx hb d_Num_figuresSo_11 rfl (lv_at hl 1 rfl) ?_
        refine lv_iload_n hx hb d_Num_figuresSo_12 rfl (lv_at hl 3 rfl) ?_
        obtain ⟨q_3, hc_3, hr⟩ := ob hr
        have ct_3 := C_Num_isSo l D cI cS a_r0 a_r0_numbers r0_count r0_numbers x1 y3_1 q_3 hc_3
        refine k_goIp hA hW [0, 1] rfl rfl (k_runV C hA hW mw_Num_isSo mv_Num_isSo (ct_3.2 _) [0, 1] rfl rfl 0 rfl rfl qm_Num_25 ⟨Nat.le_of_ble_eq_true rfl, Nat.le_of_ble_eq_true rfl, Nat.zero_le _, Nat.zero_le _⟩ rfl rfl (Nat.le_of_ble_eq_true rfl) hl.1 d_Num_figuresSo_13) (fun H locs hW => ?_)
        refine lv_if_eq (tgt := 25) hx hb d_Num_figuresSo_16 (by decide) (fun c_4 => ?_) (fun c_4 => ?_)
        · replace hr := ip c_4 hr
          refine lv_iinc (v := (y3_1 + 1)) (lv' := [(3, .int (y3_1 + 1)), (0, .ref a_r0), (1, .int x1), (2, .int y2_1)]) hx hb d_Num_figuresSo_25 hl (k := 3) rfl rfl (by decide) rfl (fun ls hl => ?_)
          refine lv_goto (tgt := 4) hx hb d_Num_figuresSo_28 (by decide) ?_
          exact ih_1 y2_1 (y3_1 + 1) (hz1_1 _ (Option.some.inj hr).symm) _ _ _ hW (lv_sub hl [1, 2, 3, 0] rfl)
        · replace hr := iN c_4 hr
          refine lv_iload_n hx hb d_Num_figuresSo_19 rfl (lv_at hl 2 rfl) ?_
          refine lv_iconst (v := 1) hx hb d_Num_figuresSo_20 (by decide) ?_
          refine lv_iload_n hx hb d_Num_figuresSo_21 rfl (lv_at hl 3 rfl) ?_
          refine lv_ishl hx hb d_Num_figuresSo_22 ?_
          refine lv_ior hx hb d_Num_figuresSo_23 ?_
          refine lv_istore_n (lv' := [(2, .int (y2_1 ||| ((1 : Int32) <<< ((y3_1 : Int32) &&& 31)))), (0, .ref a_r0), (1, .int x1), (3, .int y3_1)]) hx hb d_Num_figuresSo_24 rfl hl (by decide) rfl (fun ls hl => ?_)
          refine lv_iinc (v := (y3_1 + 1)) (lv' := [(3, .int (y3_1 + 1)), (2, .int (y2_1 ||| ((1 : Int32) <<< ((y3_1 : Int32) &&& 31)))), (0, .ref a_r0), (1, .int x1)]) hx hb d_Num_figuresSo_25 hl (k := 3) rfl rfl (by decide) rfl (fun ls hl => ?_)
          refine lv_goto (tgt := 4) hx hb d_Num_figuresSo_28 (by decide) ?_
          exact ih_1 (y2_1 ||| ((1 : Int32) <<< ((y3_1 : Int32) &&& 31))) (y3_1 + 1) (hz1_1 _ (Option.some.inj hr).symm) _ _ _ hW (lv_sub hl [2, 3, 1, 0] rfl)
  exact hl_1 _ 0 0 hw_1 _ _ _ hW (lv_sub hl [2, 3, 1, 0] rfl)
def w_Num_firstWrong (cI : ClassId) (a_r0 : Nat) (a_r0_numbers : Nat) (a_r1 : Nat) (a_r1_goes : Nat) (a_r1_hampers : Nat) (a_r1_weights : Nat) (v_r1_kinds v_r1_figures v_r1_things v_r1_fields v_r1_done : Value) (r0_count : Int32) (r0_numbers : Nat → Int32) (r1_days : Int32) (r1_goes : Nat → Int32) (r1_hampers : Nat → Int32) (r1_weights : Nat → Int32) : va_W := [(a_r0, .inr (6, [.ref a_r0_numbers, .int r0_count])), (a_r0_numbers, .inl (cI, 12, .inl r0_numbers)), (a_r1, .inr (1, [.ref a_r1_weights, v_r1_kinds, v_r1_figures, .ref a_r1_goes, v_r1_things, .ref a_r1_hampers, .int r1_days, v_r1_fields, v_r1_done])), (a_r1_goes, .inl (cI, 8, .inl r1_goes)), (a_r1_hampers, .inl (cI, 8, .inl r1_hampers)), (a_r1_weights, .inl (cI, 6, .inl r1_weights))]
def F_Num_firstWrong_J34_6 (r0_numbers : Nat → Int32) (r1_days : Int32) (y2_1 : Int32) (s0_6 : Int32) : Option (((Int32)) ⊕ (((Unit) ⊕ (Int32)))) :=
  ((F_Sta_hasDay r1_days y2_1).bind (fun q_7 => (if q_7 = 0 then (some (.inr (.inr y2_1))) else (ck y2_1 12 (if (r0_numbers (Int32.toNatClampNeg y2_1)) = s0_6 then (some (.inl (y2_1 + 1))) else (some (.inr (.inr y2_1))))))))
def F_Num_firstWrong_L2 (r0_count : Int32) (r0_numbers : Nat → Int32) (r1_days : Int32) (r1_goes : Nat → Int32) (r1_hampers : Nat → Int32) (r1_weights : Nat → Int32) (y2_1 : Int32) : Option (((Int32)) ⊕ (((Unit) ⊕ (Int32)))) :=
  (if (12 : Int32) ≤ y2_1 then (some (.inr (.inl ()))) else (if r0_count ≤ y2_1 then (some (.inr (.inl ()))) else ((F_Sta_likeliestOn r1_days r1_goes r1_hampers r1_weights y2_1).bind (fun q_4 => (if q_4 = (-9) then (F_Num_firstWrong_J34_6 r0_numbers r1_days y2_1 9) else (F_Num_firstWrong_J34_6 r0_numbers r1_days y2_1 q_4))))))
def F_Num_firstWrong (r0_count : Int32) (r0_numbers : Nat → Int32) (r1_days : Int32) (r1_goes : Nat → Int32) (r1_hampers : Nat → Int32) (r1_weights : Nat → Int32) : Option (Int32) :=
  ((wh (fun (s : (Int32)) => F_Num_firstWrong_L2 r0_count r0_numbers r1_days r1_goes r1_hampers r1_weights s) 400 (0 : Int32)).bind (sx (fun e_1 => (some (-9))) (fun o => some o)))
set_option maxHeartbeats 4000000 in
set_option maxRecDepth 100000 in
theorem C_Num_firstWrong (l : Launch) (D : va_G) (cI cS : ClassId) (a_r0 : Nat) (a_r0_numbers : Nat) (a_r1 : Nat) (a_r1_goes : Nat) (a_r1_hampers : Nat) (a_r1_weights : Nat) (v_r1_kinds v_r1_figures v_r1_things v_r1_fields v_r1_done : Value) (r0_count : Int32) (r0_numbers : Nat → Int32) (r1_days : Int32) (r1_goes : Nat → Int32) (r1_hampers : Nat → Int32) (r1_weights : Nat → Int32) (o : Int32) (hr : F_Num_firstWrong r0_count r0_numbers r1_days r1_goes r1_hampers r1_weights = some o) : ctI l y_Num_firstWrong (Cond.code y_Num_firstWrong b_Num_firstWrong 5 (some FieldType.int)) (rmd 4) D (kTy cI cS) [.ref a_r0, .ref a_r1] (w_Num_firstWrong cI a_r0 a_r0_numbers a_r1 a_r1_goes a_r1_hampers a_r1_weights v_r1_kinds v_r1_figures v_r1_things v_r1_fields v_r1_done r0_count r0_numbers r1_days r1_goes r1_hampers r1_weights) (w_Num_firstWrong cI a_r0 a_r0_numbers a_r1 a_r1_goes a_r1_hampers a_r1_weights v_r1_kinds v_r1_figures v_r1_things v_r1_fields v_r1_done r0_count r0_numbers r1_days r1_goes r1_hampers r1_weights) o := by
  unfold F_Num_firstWrong at hr
  refine ⟨rfl, fun sz => ct_of (w0 := (w_Num_firstWrong cI a_r0 a_r0_numbers a_r1 a_r1_goes a_r1_hampers a_r1_weights v_r1_kinds v_r1_figures v_r1_things v_r1_fields v_r1_done r0_count r0_numbers r1_days r1_goes r1_hampers r1_weights)) (Qc := fun A => qI D (w_Num_firstWrong cI a_r0 a_r0_numbers a_r1 a_r1_goes a_r1_hampers a_r1_weights v_r1_kinds v_r1_figures v_r1_things v_r1_fields v_r1_done r0_count r0_numbers r1_days r1_goes r1_hampers r1_weights) o A) rfl (Nat.le_of_ble_eq_true rfl) ?_ sz⟩
  intro p e s m below meth c A hA C hret ls hl hW
  have C : cx p s m ([.ref a_r0, .ref a_r1] : List Value).toArray meth c b_Num_firstWrong 5 R_Num D (kTy cI cS) (Cond.code y_Num_firstWrong b_Num_firstWrong 5 (some FieldType.int)) := C
  obtain ⟨hx, hb, hml, hown, hts, hK, hlk, hN⟩ := id C
  have hl : lv_has ls 5 [(0, .ref a_r0), (1, .ref a_r1)] := hl
  obtain ⟨Q, hQ⟩ : ∃ Q, Q = MQ below (qI D (w_Num_firstWrong cI a_r0 a_r0_numbers a_r1 a_r1_goes a_r1_hampers a_r1_weights v_r1_kinds v_r1_figures v_r1_things v_r1_fields v_r1_done r0_count r0_numbers r1_days r1_goes r1_hampers r1_weights) o A) ([.ref a_r0, .ref a_r1] : List Value).toArray s 0 0 A := ⟨_, rfl⟩
  rw [← hQ]
  refine lv_iconst (v := 0) hx hb d_Num_firstWrong_0 (by decide) ?_
  refine lv_istore_n (lv' := [(2, .int 0), (0, .ref a_r0), (1, .ref a_r1)]) hx hb d_Num_firstWrong_1 rfl hl (by decide) rfl (fun ls hl => ?_)
  obtain ⟨ex_1, hw_1, hk_1⟩ := ob hr
  have hx_1 : ∀ (e_1 : Unit), Sum.inl e_1 = ex_1 → ∀ (H : Heap) (locs : List Loc) (ls : Array Slot), wd A s.heap D (w_Num_firstWrong cI a_r0 a_r0_numbers a_r1 a_r1_goes a_r1_hampers a_r1_weights v_r1_kinds v_r1_figures v_r1_things v_r1_fields v_r1_done r0_count r0_numbers r1_days r1_goes r1_hampers r1_weights) H locs → lv_has ls 5 [] → W p l e (rmd 4) s m ([.ref a_r0, .ref a_r1] : List Value).toArray below meth c H locs 0 0 Q (F0 m 63 ls []) := by
    intro e_1 hE H locs ls hW hl
    have hr := sx_l hE.symm hk_1
    refine lv_bipush (v := (-9)) hx hb d_Num_firstWrong_63 (by decide) ?_
    obtain rfl := Option.some.inj hr
    rw [hQ]; exact k_iret C hret hW d_Num_firstWrong_65
  have hl_1 : ∀ (k : Nat) (y2_1 : Int32), wh (fun (s : (Int32)) => F_Num_firstWrong_L2 r0_count r0_numbers r1_days r1_goes r1_hampers r1_weights s) k y2_1 = some ex_1 → ∀ (H : Heap) (locs : List Loc) (ls : Array Slot), wd A s.heap D (w_Num_firstWrong cI a_r0 a_r0_numbers a_r1 a_r1_goes a_r1_hampers a_r1_weights v_r1_kinds v_r1_figures v_r1_things v_r1_fields v_r1_done r0_count r0_numbers r1_days r1_goes r1_hampers r1_weights) H locs → lv_has ls 5 [(0, .ref a_r0), (1, .ref a_r1), (2, .int y2_1)] → W p l e (rmd 4) s m ([.ref a_r0, .ref a_r1] : List Value).toArray below meth c H locs 0 0 Q (F0 m 2 ls []) := by
    intro k
    induction k with
    | zero => intro y2_1 hw; exact absurd hw wh_0
    | succ k ih_1 =>
      intro y2_1 hw H locs ls hW hl
      obtain ⟨z_1, hr, hz1_1, hz2_1⟩ := wh_s hw
      have hr : F_Num_firstWrong_L2 r0_count r0_numbers r1_days r1_goes r1_hampers r1_weights y2_1 = some z_1 := hr
      unfold F_Num_firstWrong_L2 at hr
      refine lv_iload_n hx hb d_Num_firstWrong_2 rfl (lv_at hl 2 rfl) ?_
      refine lv_bipush (v := 12) hx hb d_Num_firstWrong_3 (by decide) ?_
      refine lv_icmp_ge (tgt := 63) hx hb d_Num_firstWrong_5 (by decide) (fun c_2 => ?_) (fun c_2 => ?_)
      · replace hr := ip c_2 hr
        exact hx_1 _ (hz2_1 _ (Option.some.inj hr).symm) _ _ _ hW (lv_sub hl [] rfl)
      · replace hr := iN c_2 hr
        refine lv_iload_n hx hb d_Num_firstWrong_8 rfl (lv_at hl 2 rfl) ?_
        refine lv_aload_n hx hb d_Num_firstWrong_9 rfl (lv_at hl 0 rfl) ?_
        refine k_get i_Num C hW 0 rfl rfl 1 (by decide) qf_Num_15 rfl rfl d_Num_firstWrong_10 ?_
        refine lv_icmp_ge (tgt := 63) hx hb d_Num_firstWrong_13 (by decide) (fun c_3 => ?_) (fun c_3 => ?_)
        · replace hr := ip c_3 hr
          exact hx_1 _ (hz2_1 _ (Option.some.inj hr).symm) _ _ _ hW (lv_sub hl [] rfl)
        · replace hr := iN c_3 hr
          refine lv_aload_n hx hb d_Num_firstWrong_16 rfl (lv_at hl 1 rfl) ?_
          refine lv_iload_n hx hb d_Num_firstWrong_17 rfl (lv_at hl 2 rfl) ?_
          obtain ⟨q_4, hc_4, hr⟩ := ob hr
          have ct_4 := C_Sta_likeliestOn l D cI cS a_r1 a_r1_goes a_r1_hampers a_r1_weights v_r1_kinds v_r1_figures v_r1_things v_r1_fields v_r1_done r1_days r1_goes r1_hampers r1_weights y2_1 q_4 hc_4
          refine k_goIp hA hW [2, 3, 4, 5] rfl rfl (k_runV C hA hW mw_Sta_likeliestOn mv_Sta_likeliestOn (ct_4.2 _) [2, 3, 4, 5] rfl rfl 2 rfl rfl qm_Num_29 ⟨Nat.le_of_ble_eq_true rfl, Nat.le_of_ble_eq_true rfl, Nat.zero_le _, Nat.zero_le _⟩ rfl rfl (Nat.le_of_ble_eq_true rfl) hl.1 d_Num_firstWrong_18) (fun H locs hW => ?_)
          refine lv_istore_n (lv' := [(3, .int q_4), (0, .ref a_r0), (1, .ref a_r1), (2, .int y2_1)]) hx hb d_Num_firstWrong_21 rfl hl (by decide) rfl (fun ls hl => ?_)
          refine lv_iload_n hx hb d_Num_firstWrong_22 rfl (lv_at hl 0 rfl) ?_
          refine lv_bipush (v := (-9)) hx hb d_Num_firstWrong_23 (by decide) ?_
          have hJ_6 : ∀ (s0_6 : Int32), F_Num_firstWrong_J34_6 r0_numbers r1_days y2_1 s0_6 = some z_1 → ∀ (H : Heap) (locs : List Loc) (ls : Array Slot), wd A s.heap D (w_Num_firstWrong cI a_r0 a_r0_numbers a_r1 a_r1_goes a_r1_hampers a_r1_weights v_r1_kinds v_r1_figures v_r1_things v_r1_fields v_r1_done r0_count r0_numbers r1_days r1_goes r1_hampers r1_weights) H locs → lv_has ls 5 [(0, .ref a_r0), (1, .ref a_r1), (2, .int y2_1)] → W p l e (rmd 4) s m ([.ref a_r0, .ref a_r1] : List Value).toArray below meth c H locs 0 0 Q (F0 m 34 ls [.int s0_6]) := by
            intro s0_6 hr H locs ls hW hl
            unfold F_Num_firstWrong_J34_6 at hr
            refine lv_istore (lv' := [(4, .int s0_6), (0, .ref a_r0), (1, .ref a_r1), (2, .int y2_1)]) hx hb d_Num_firstWrong_34 hl (by decide) rfl (fun ls hl => ?_)
            refine lv_aload_n hx hb d_Num_firstWrong_36 rfl (lv_at hl 2 rfl) ?_
            refine lv_iload_n hx hb d_Num_firstWrong_37 rfl (lv_at hl 3 rfl) ?_
            obtain ⟨q_7, hc_7, hr⟩ := ob hr
            have ct_7 := C_Sta_hasDay l D cI cS a_r1 (Value.ref a_r1_weights) v_r1_kinds v_r1_figures (Value.ref a_r1_goes) v_r1_things (Value.ref a_r1_hampers) v_r1_fields v_r1_done r1_days y2_1 q_7 hc_7
            refine k_goIp hA hW [2] rfl rfl (k_runV C hA hW mw_Sta_hasDay mv_Sta_hasDay (ct_7.2 _) [2] rfl rfl 2 rfl rfl qm_Num_35 ⟨Nat.le_of_ble_eq_true rfl, Nat.le_of_ble_eq_true rfl, Nat.zero_le _, Nat.zero_le _⟩ rfl rfl (Nat.le_of_ble_eq_true rfl) hl.1 d_Num_firstWrong_38) (fun H locs hW => ?_)
            refine lv_if_eq (tgt := 55) hx hb d_Num_firstWrong_41 (by decide) (fun c_8 => ?_) (fun c_8 => ?_)
            · replace hr := ip c_8 hr
              refine lv_iload_n hx hb d_Num_firstWrong_55 rfl (lv_at hl 3 rfl) ?_
              have hr := sx_r (hz2_1 _ (Option.some.inj hr).symm).symm hk_1
              obtain rfl := Option.some.inj hr
              rw [hQ]; exact k_iret C hret hW d_Num_firstWrong_56
            · replace hr := iN c_8 hr
              refine lv_aload_n hx hb d_Num_firstWrong_44 rfl (lv_at hl 1 rfl) ?_
              refine k_get i_Num C hW 0 rfl rfl 0 (by decide) qf_Num_9 rfl rfl d_Num_firstWrong_45 ?_
              refine lv_iload_n hx hb d_Num_firstWrong_48 rfl (lv_at hl 3 rfl) ?_
              obtain ⟨h_9, hr⟩ := ck_some hr
              refine k_iald C hW 1 rfl h_9 d_Num_firstWrong_49 ?_
              refine lv_iload hx hb d_Num_firstWrong_50 (lv_at hl 0 rfl) ?_
              refine lv_icmp_eq (tgt := 57) hx hb d_Num_firstWrong_52 (by decide) (fun c_10 => ?_) (fun c_10 => ?_)
              · replace hr := ip c_10 hr
                refine lv_iinc (v := (y2_1 + 1)) (lv' := [(2, .int (y2_1 + 1)), (4, .int s0_6), (0, .ref a_r0), (1, .ref a_r1)]) hx hb d_Num_firstWrong_57 hl (k := 3) rfl rfl (by decide) rfl (fun ls hl => ?_)
                refine lv_goto (tgt := 2) hx hb d_Num_firstWrong_60 (by decide) ?_
                exact ih_1 (y2_1 + 1) (hz1_1 _ (Option.some.inj hr).symm) _ _ _ hW (lv_sub hl [2, 3, 0] rfl)
              · replace hr := iN c_10 hr
                refine lv_iload_n hx hb d_Num_firstWrong_55 rfl (lv_at hl 3 rfl) ?_
                have hr := sx_r (hz2_1 _ (Option.some.inj hr).symm).symm hk_1
                obtain rfl := Option.some.inj hr
                rw [hQ]; exact k_iret C hret hW d_Num_firstWrong_56
          refine lv_icmp_ne (tgt := 33) hx hb d_Num_firstWrong_25 (by decide) (fun c_5 => ?_) (fun c_5 => ?_)
          · replace hr := iN c_5 hr
            refine lv_iload_n hx hb d_Num_firstWrong_33 rfl (lv_at hl 0 rfl) ?_
            exact hJ_6 q_4 hr _ _ _ hW (lv_sub hl [1, 2, 3] rfl)
          · replace hr := ip c_5 hr
            refine lv_bipush (v := 9) hx hb d_Num_firstWrong_28 (by decide) ?_
            refine lv_goto (tgt := 34) hx hb d_Num_firstWrong_30 (by decide) ?_
            exact hJ_6 9 hr _ _ _ hW (lv_sub hl [1, 2, 3] rfl)
  exact hl_1 _ 0 hw_1 _ _ _ hW (lv_sub hl [1, 2, 0] rfl)
def w_Num_kindsSo (cI : ClassId) (a_r0 : Nat) (a_r0_numbers : Nat) (r0_count : Int32) (r0_numbers : Nat → Int32) : va_W := [(a_r0, .inr (6, [.ref a_r0_numbers, .int r0_count])), (a_r0_numbers, .inl (cI, 12, .inl r0_numbers))]
def F_Num_kindsSo_L4 (r0_count : Int32) (r0_numbers : Nat → Int32) (x1 : Int32) (y2_1 : Int32) (y3_1 : Int32) : Option (((Int32) × (Int32)) ⊕ ((Int32))) :=
  (if (6 : Int32) ≤ y3_1 then (some (.inr y2_1)) else ((F_Num_isSo r0_count r0_numbers y3_1 x1).bind (fun q_3 => (if q_3 = 0 then (some (.inl (y2_1, (y3_1 + 1)))) else (some (.inl ((y2_1 ||| ((1 : Int32) <<< ((y3_1 : Int32) &&& 31))), (y3_1 + 1))))))))
def F_Num_kindsSo (r0_count : Int32) (r0_numbers : Nat → Int32) (x1 : Int32) : Option (Int32) :=
  ((wh (fun (s : (Int32) × (Int32)) => F_Num_kindsSo_L4 r0_count r0_numbers x1 s.1 s.2) 400 ((0 : Int32), (0 : Int32))).bind (fun e_1 => (some e_1)))
set_option maxHeartbeats 4000000 in
set_option maxRecDepth 100000 in
theorem C_Num_kindsSo (l : Launch) (D : va_G) (cI cS : ClassId) (a_r0 : Nat) (a_r0_numbers : Nat) (r0_count : Int32) (r0_numbers : Nat → Int32) (x1 : Int32) (o : Int32) (hr : F_Num_kindsSo r0_count r0_numbers x1 = some o) : ctI l y_Num_kindsSo (Cond.code y_Num_kindsSo b_Num_kindsSo 4 (some FieldType.int)) (rmd 3) D (kTy cI cS) [.ref a_r0, .int x1] (w_Num_kindsSo cI a_r0 a_r0_numbers r0_count r0_numbers) (w_Num_kindsSo cI a_r0 a_r0_numbers r0_count r0_numbers) o := by
  unfold F_Num_kindsSo at hr
  refine ⟨rfl, fun sz => ct_of (w0 := (w_Num_kindsSo cI a_r0 a_r0_numbers r0_count r0_numbers)) (Qc := fun A => qI D (w_Num_kindsSo cI a_r0 a_r0_numbers r0_count r0_numbers) o A) rfl (Nat.le_of_ble_eq_true rfl) ?_ sz⟩
  intro p e s m below meth c A hA C hret ls hl hW
  have C : cx p s m ([.ref a_r0, .int x1] : List Value).toArray meth c b_Num_kindsSo 4 R_Num D (kTy cI cS) (Cond.code y_Num_kindsSo b_Num_kindsSo 4 (some FieldType.int)) := C
  obtain ⟨hx, hb, hml, hown, hts, hK, hlk, hN⟩ := id C
  have hl : lv_has ls 4 [(0, .ref a_r0), (1, .int x1)] := hl
  obtain ⟨Q, hQ⟩ : ∃ Q, Q = MQ below (qI D (w_Num_kindsSo cI a_r0 a_r0_numbers r0_count r0_numbers) o A) ([.ref a_r0, .int x1] : List Value).toArray s 0 0 A := ⟨_, rfl⟩
  rw [← hQ]
  refine lv_iconst (v := 0) hx hb d_Num_kindsSo_0 (by decide) ?_
  refine lv_istore_n (lv' := [(2, .int 0), (0, .ref a_r0), (1, .int x1)]) hx hb d_Num_kindsSo_1 rfl hl (by decide) rfl (fun ls hl => ?_)
  refine lv_iconst (v := 0) hx hb d_Num_kindsSo_2 (by decide) ?_
  refine lv_istore_n (lv' := [(3, .int 0), (2, .int 0), (0, .ref a_r0), (1, .int x1)]) hx hb d_Num_kindsSo_3 rfl hl (by decide) rfl (fun ls hl => ?_)
  obtain ⟨ex_1, hw_1, hk_1⟩ := ob hr
  have hx_1 : ∀ (e_1 : (Int32)), e_1 = ex_1 → ∀ (H : Heap) (locs : List Loc) (ls : Array Slot), wd A s.heap D (w_Num_kindsSo cI a_r0 a_r0_numbers r0_count r0_numbers) H locs → lv_has ls 4 [(2, .int e_1)] → W p l e (rmd 3) s m ([.ref a_r0, .int x1] : List Value).toArray below meth c H locs 0 0 Q (F0 m 31 ls []) := by
    intro e_1 hE H locs ls hW hl
    subst hE; have hr := hk_1
    refine lv_iload_n hx hb d_Num_kindsSo_31 rfl (lv_at hl 0 rfl) ?_
    obtain rfl := Option.some.inj hr
    rw [hQ]; exact k_iret C hret hW d_Num_kindsSo_32
  have hl_1 : ∀ (k : Nat) (y2_1 : Int32) (y3_1 : Int32), wh (fun (s : (Int32) × (Int32)) => F_Num_kindsSo_L4 r0_count r0_numbers x1 s.1 s.2) k (y2_1, y3_1) = some ex_1 → ∀ (H : Heap) (locs : List Loc) (ls : Array Slot), wd A s.heap D (w_Num_kindsSo cI a_r0 a_r0_numbers r0_count r0_numbers) H locs → lv_has ls 4 [(0, .ref a_r0), (1, .int x1), (2, .int y2_1), (3, .int y3_1)] → W p l e (rmd 3) s m ([.ref a_r0, .int x1] : List Value).toArray below meth c H locs 0 0 Q (F0 m 4 ls []) := by
    intro k
    induction k with
    | zero => intro y2_1 y3_1 hw; exact absurd hw wh_0
    | succ k ih_1 =>
      intro y2_1 y3_1 hw H locs ls hW hl
      obtain ⟨z_1, hr, hz1_1, hz2_1⟩ := wh_s hw
      have hr : F_Num_kindsSo_L4 r0_count r0_numbers x1 y2_1 y3_1 = some z_1 := hr
      unfold F_Num_kindsSo_L4 at hr
      refine lv_iload_n hx hb d_Num_kindsSo_4 rfl (lv_at hl 3 rfl) ?_
      refine lv_bipush (v := 6) hx hb d_Num_kindsSo_5 (by decide) ?_
      refine lv_icmp_ge (tgt := 31) hx hb d_Num_kindsSo_7 (by decide) (fun c_2 => ?_) (fun c_2 => ?_)
      · replace hr := ip c_2 hr
        exact hx_1 _ (hz2_1 _ (Option.some.inj hr).symm) _ _ _ hW (lv_sub hl [2] rfl)
      · replace hr := iN c_2 hr
        refine lv_aload_n hx hb d_Num_kindsSo_10 rfl (lv_at hl 0 rfl) ?_
        refine lv_iload_n hx hb d_Num_kindsSo_11 rfl (lv_at hl 3 rfl) ?_
        refine lv_iload_n hx hb d_Num_kindsSo_12 rfl (lv_at hl 1 rfl) ?_
        obtain ⟨q_3, hc_3, hr⟩ := ob hr
        have ct_3 := C_Num_isSo l D cI cS a_r0 a_r0_numbers r0_count r0_numbers y3_1 x1 q_3 hc_3
        refine k_goIp hA hW [0, 1] rfl rfl (k_runV C hA hW mw_Num_isSo mv_Num_isSo (ct_3.2 _) [0, 1] rfl rfl 0 rfl rfl qm_Num_25 ⟨Nat.le_of_ble_eq_true rfl, Nat.le_of_ble_eq_true rfl, Nat.zero_le _, Nat.zero_le _⟩ rfl rfl (Nat.le_of_ble_eq_true rfl) hl.1 d_Num_kindsSo_13) (fun H locs hW => ?_)
        refine lv_if_eq (tgt := 25) hx hb d_Num_kindsSo_16 (by decide) (fun c_4 => ?_) (fun c_4 => ?_)
        · replace hr := ip c_4 hr
          refine lv_iinc (v := (y3_1 + 1)) (lv' := [(3, .int (y3_1 + 1)), (0, .ref a_r0), (1, .int x1), (2, .int y2_1)]) hx hb d_Num_kindsSo_25 hl (k := 3) rfl rfl (by decide) rfl (fun ls hl => ?_)
          refine lv_goto (tgt := 4) hx hb d_Num_kindsSo_28 (by decide) ?_
          exact ih_1 y2_1 (y3_1 + 1) (hz1_1 _ (Option.some.inj hr).symm) _ _ _ hW (lv_sub hl [1, 2, 3, 0] rfl)
        · replace hr := iN c_4 hr
          refine lv_iload_n hx hb d_Num_kindsSo_19 rfl (lv_at hl 2 rfl) ?_
          refine lv_iconst (v := 1) hx hb d_Num_kindsSo_20 (by decide) ?_
          refine lv_iload_n hx hb d_Num_kindsSo_21 rfl (lv_at hl 3 rfl) ?_
          refine lv_ishl hx hb d_Num_kindsSo_22 ?_
          refine lv_ior hx hb d_Num_kindsSo_23 ?_
          refine lv_istore_n (lv' := [(2, .int (y2_1 ||| ((1 : Int32) <<< ((y3_1 : Int32) &&& 31)))), (0, .ref a_r0), (1, .int x1), (3, .int y3_1)]) hx hb d_Num_kindsSo_24 rfl hl (by decide) rfl (fun ls hl => ?_)
          refine lv_iinc (v := (y3_1 + 1)) (lv' := [(3, .int (y3_1 + 1)), (2, .int (y2_1 ||| ((1 : Int32) <<< ((y3_1 : Int32) &&& 31)))), (0, .ref a_r0), (1, .int x1)]) hx hb d_Num_kindsSo_25 hl (k := 3) rfl rfl (by decide) rfl (fun ls hl => ?_)
          refine lv_goto (tgt := 4) hx hb d_Num_kindsSo_28 (by decide) ?_
          exact ih_1 (y2_1 ||| ((1 : Int32) <<< ((y3_1 : Int32) &&& 31))) (y3_1 + 1) (hz1_1 _ (Option.some.inj hr).symm) _ _ _ hW (lv_sub hl [2, 3, 1, 0] rfl)
  exact hl_1 _ 0 0 hw_1 _ _ _ hW (lv_sub hl [2, 3, 1, 0] rfl)
def w_Num_tellOfWeathers (cI : ClassId) (a_r0 : Nat) (a_r0_numbers : Nat) (r0_count : Int32) (r0_numbers : Nat → Int32) : va_W := [(a_r0, .inr (6, [.ref a_r0_numbers, .int r0_count])), (a_r0_numbers, .inl (cI, 12, .inl r0_numbers))]
def F_Num_tellOfWeathers_L13 (r0_count : Int32) (r0_numbers : Nat → Int32) (y1_2 : Int32) : Option (((Int32)) ⊕ (((Unit) ⊕ (Int32)))) :=
  (if (12 : Int32) ≤ y1_2 then (some (.inr (.inl ()))) else (if r0_count ≤ y1_2 then (some (.inr (.inl ()))) else (ck y1_2 12 (if (r0_numbers (Int32.toNatClampNeg y1_2)) ≤ 2 then (some (.inl (y1_2 + 1))) else (some (.inr (.inr 0)))))))
def F_Num_tellOfWeathers (r0_count : Int32) (r0_numbers : Nat → Int32) : Option (Int32) :=
  (if r0_count ≤ 6 then ((wh (fun (s : (Int32)) => F_Num_tellOfWeathers_L13 r0_count r0_numbers s) 400 (0 : Int32)).bind (sx (fun e_2 => (some 1)) (fun o => some o))) else (some 0))
set_option maxHeartbeats 4000000 in
set_option maxRecDepth 100000 in
theorem C_Num_tellOfWeathers (l : Launch) (D : va_G) (cI cS : ClassId) (a_r0 : Nat) (a_r0_numbers : Nat) (r0_count : Int32) (r0_numbers : Nat → Int32) (o : Int32) (hr : F_Num_tellOfWeathers r0_count r0_numbers = some o) : ctI l y_Num_tellOfWeathers (Cond.code y_Num_tellOfWeathers b_Num_tellOfWeathers 2 (some FieldType.boolean)) (rmd 0) D (kTy cI cS) [.ref a_r0] (w_Num_tellOfWeathers cI a_r0 a_r0_numbers r0_count r0_numbers) (w_Num_tellOfWeathers cI a_r0 a_r0_numbers r0_count r0_numbers) o := by
  unfold F_Num_tellOfWeathers at hr
  refine ⟨rfl, fun sz => ct_of (w0 := (w_Num_tellOfWeathers cI a_r0 a_r0_numbers r0_count r0_numbers)) (Qc := fun A => qI D (w_Num_tellOfWeathers cI a_r0 a_r0_numbers r0_count r0_numbers) o A) rfl (Nat.le_of_ble_eq_true rfl) ?_ sz⟩
  intro p e s m below meth c A hA C hret ls hl hW
  have C : cx p s m ([.ref a_r0] : List Value).toArray meth c b_Num_tellOfWeathers 2 R_Num D (kTy cI cS) (Cond.code y_Num_tellOfWeathers b_Num_tellOfWeathers 2 (some FieldType.boolean)) := C
  obtain ⟨hx, hb, hml, hown, hts, hK, hlk, hN⟩ := id C
  have hl : lv_has ls 2 [(0, .ref a_r0)] := hl
  obtain ⟨Q, hQ⟩ : ∃ Q, Q = MQ below (qI D (w_Num_tellOfWeathers cI a_r0 a_r0_numbers r0_count r0_numbers) o A) ([.ref a_r0] : List Value).toArray s 0 0 A := ⟨_, rfl⟩
  rw [← hQ]
  refine lv_aload_n hx hb d_Num_tellOfWeathers_0 rfl (lv_at hl 0 rfl) ?_
  refine k_get i_Num C hW 0 rfl rfl 1 (by decide) qf_Num_15 rfl rfl d_Num_tellOfWeathers_1 ?_
  refine lv_bipush (v := 6) hx hb d_Num_tellOfWeathers_4 (by decide) ?_
  refine lv_icmp_le (tgt := 11) hx hb d_Num_tellOfWeathers_6 (by decide) (fun c_1 => ?_) (fun c_1 => ?_)
  · replace hr := ip c_1 hr
    refine lv_iconst (v := 0) hx hb d_Num_tellOfWeathers_11 (by decide) ?_
    refine lv_istore_n (lv' := [(1, .int 0), (0, .ref a_r0)]) hx hb d_Num_tellOfWeathers_12 rfl hl (by decide) rfl (fun ls hl => ?_)
    obtain ⟨ex_2, hw_2, hk_2⟩ := ob hr
    have hx_2 : ∀ (e_2 : Unit), Sum.inl e_2 = ex_2 → ∀ (H : Heap) (locs : List Loc) (ls : Array Slot), wd A s.heap D (w_Num_tellOfWeathers cI a_r0 a_r0_numbers r0_count r0_numbers) H locs → lv_has ls 2 [] → W p l e (rmd 0) s m ([.ref a_r0] : List Value).toArray below meth c H locs 0 0 Q (F0 m 45 ls []) := by
      intro e_2 hE H locs ls hW hl
      have hr := sx_l hE.symm hk_2
      refine lv_iconst (v := 1) hx hb d_Num_tellOfWeathers_45 (by decide) ?_
      obtain rfl := Option.some.inj hr
      rw [hQ]; exact k_zret C hret nar1 hW d_Num_tellOfWeathers_46
    have hl_2 : ∀ (k : Nat) (y1_2 : Int32), wh (fun (s : (Int32)) => F_Num_tellOfWeathers_L13 r0_count r0_numbers s) k y1_2 = some ex_2 → ∀ (H : Heap) (locs : List Loc) (ls : Array Slot), wd A s.heap D (w_Num_tellOfWeathers cI a_r0 a_r0_numbers r0_count r0_numbers) H locs → lv_has ls 2 [(0, .ref a_r0), (1, .int y1_2)] → W p l e (rmd 0) s m ([.ref a_r0] : List Value).toArray below meth c H locs 0 0 Q (F0 m 13 ls []) := by
      intro k
      induction k with
      | zero => intro y1_2 hw; exact absurd hw wh_0
      | succ k ih_2 =>
        intro y1_2 hw H locs ls hW hl
        obtain ⟨z_2, hr, hz1_2, hz2_2⟩ := wh_s hw
        have hr : F_Num_tellOfWeathers_L13 r0_count r0_numbers y1_2 = some z_2 := hr
        unfold F_Num_tellOfWeathers_L13 at hr
        refine lv_iload_n hx hb d_Num_tellOfWeathers_13 rfl (lv_at hl 1 rfl) ?_
        refine lv_bipush (v := 12) hx hb d_Num_tellOfWeathers_14 (by decide) ?_
        refine lv_icmp_ge (tgt := 45) hx hb d_Num_tellOfWeathers_16 (by decide) (fun c_3 => ?_) (fun c_3 => ?_)
        · replace hr := ip c_3 hr
          exact hx_2 _ (hz2_2 _ (Option.some.inj hr).symm) _ _ _ hW (lv_sub hl [] rfl)
        · replace hr := iN c_3 hr
          refine lv_iload_n hx hb d_Num_tellOfWeathers_19 rfl (lv_at hl 1 rfl) ?_
          refine lv_aload_n hx hb d_Num_tellOfWeathers_20 rfl (lv_at hl 0 rfl) ?_
          refine k_get i_Num C hW 0 rfl rfl 1 (by decide) qf_Num_15 rfl rfl d_Num_tellOfWeathers_21 ?_
          refine lv_icmp_ge (tgt := 45) hx hb d_Num_tellOfWeathers_24 (by decide) (fun c_4 => ?_) (fun c_4 => ?_)
          · replace hr := ip c_4 hr
            exact hx_2 _ (hz2_2 _ (Option.some.inj hr).symm) _ _ _ hW (lv_sub hl [] rfl)
          · replace hr := iN c_4 hr
            refine lv_aload_n hx hb d_Num_tellOfWeathers_27 rfl (lv_at hl 0 rfl) ?_
            refine k_get i_Num C hW 0 rfl rfl 0 (by decide) qf_Num_9 rfl rfl d_Num_tellOfWeathers_28 ?_
            refine lv_iload_n hx hb d_Num_tellOfWeathers_31 rfl (lv_at hl 1 rfl) ?_
            obtain ⟨h_5, hr⟩ := ck_some hr
            refine k_iald C hW 1 rfl h_5 d_Num_tellOfWeathers_32 ?_
            refine lv_iconst (v := 2) hx hb d_Num_tellOfWeathers_33 (by decide) ?_
            refine lv_icmp_le (tgt := 39) hx hb d_Num_tellOfWeathers_34 (by decide) (fun c_6 => ?_) (fun c_6 => ?_)
            · replace hr := ip c_6 hr
              refine lv_iinc (v := (y1_2 + 1)) (lv' := [(1, .int (y1_2 + 1)), (0, .ref a_r0)]) hx hb d_Num_tellOfWeathers_39 hl (k := 1) rfl rfl (by decide) rfl (fun ls hl => ?_)
              refine lv_goto (tgt := 13) hx hb d_Num_tellOfWeathers_42 (by decide) ?_
              exact ih_2 (y1_2 + 1) (hz1_2 _ (Option.some.inj hr).symm) _ _ _ hW (lv_sub hl [1, 0] rfl)
            · replace hr := iN c_6 hr
              refine lv_iconst (v := 0) hx hb d_Num_tellOfWeathers_37 (by decide) ?_
              have hr := sx_r (hz2_2 _ (Option.some.inj hr).symm).symm hk_2
              obtain rfl := Option.some.inj hr
              rw [hQ]; exact k_zret C hret nar0 hW d_Num_tellOfWeathers_38
    exact hl_2 _ 0 hw_2 _ _ _ hW (lv_sub hl [1, 0] rfl)
  · replace hr := iN c_1 hr
    refine lv_iconst (v := 0) hx hb d_Num_tellOfWeathers_9 (by decide) ?_
    obtain rfl := Option.some.inj hr
    rw [hQ]; exact k_zret C hret nar0 hW d_Num_tellOfWeathers_10
def w_Sta_weightOfAll (cI : ClassId) (a_r0 : Nat) (a_r0_weights : Nat) (v_r0_kinds v_r0_figures v_r0_goes v_r0_things v_r0_hampers v_r0_days v_r0_fields v_r0_done : Value) (r0_weights : Nat → Int32) : va_W := [(a_r0, .inr (1, [.ref a_r0_weights, v_r0_kinds, v_r0_figures, v_r0_goes, v_r0_things, v_r0_hampers, v_r0_days, v_r0_fields, v_r0_done])), (a_r0_weights, .inl (cI, 6, .inl r0_weights))]
def F_Sta_weightOfAll_L4 (r0_weights : Nat → Int32) (x1 : Int32) (y2_1 : Int32) (y3_1 : Int32) : Option (((Int32) × (Int32)) ⊕ ((Int32))) :=
  (if (6 : Int32) ≤ y3_1 then (some (.inr y2_1)) else ((F_H_holds x1 y3_1).bind (fun q_3 => (if q_3 = 0 then (some (.inl (y2_1, (y3_1 + 1)))) else (ck y3_1 6 (some (.inl ((y2_1 + (r0_weights (Int32.toNatClampNeg y3_1))), (y3_1 + 1)))))))))
def F_Sta_weightOfAll (r0_weights : Nat → Int32) (x1 : Int32) : Option (Int32) :=
  ((wh (fun (s : (Int32) × (Int32)) => F_Sta_weightOfAll_L4 r0_weights x1 s.1 s.2) 400 ((0 : Int32), (0 : Int32))).bind (fun e_1 => (some e_1)))
set_option maxHeartbeats 4000000 in
set_option maxRecDepth 100000 in
theorem C_Sta_weightOfAll (l : Launch) (D : va_G) (cI cS : ClassId) (a_r0 : Nat) (a_r0_weights : Nat) (v_r0_kinds v_r0_figures v_r0_goes v_r0_things v_r0_hampers v_r0_days v_r0_fields v_r0_done : Value) (r0_weights : Nat → Int32) (x1 : Int32) (o : Int32) (hr : F_Sta_weightOfAll r0_weights x1 = some o) : ctI l y_Sta_weightOfAll (Cond.code y_Sta_weightOfAll b_Sta_weightOfAll 4 (some FieldType.int)) (rmd 1) D (kTy cI cS) [.ref a_r0, .int x1] (w_Sta_weightOfAll cI a_r0 a_r0_weights v_r0_kinds v_r0_figures v_r0_goes v_r0_things v_r0_hampers v_r0_days v_r0_fields v_r0_done r0_weights) (w_Sta_weightOfAll cI a_r0 a_r0_weights v_r0_kinds v_r0_figures v_r0_goes v_r0_things v_r0_hampers v_r0_days v_r0_fields v_r0_done r0_weights) o := by
  unfold F_Sta_weightOfAll at hr
  refine ⟨rfl, fun sz => ct_of (w0 := (w_Sta_weightOfAll cI a_r0 a_r0_weights v_r0_kinds v_r0_figures v_r0_goes v_r0_things v_r0_hampers v_r0_days v_r0_fields v_r0_done r0_weights)) (Qc := fun A => qI D (w_Sta_weightOfAll cI a_r0 a_r0_weights v_r0_kinds v_r0_figures v_r0_goes v_r0_things v_r0_hampers v_r0_days v_r0_fields v_r0_done r0_weights) o A) rfl (Nat.le_of_ble_eq_true rfl) ?_ sz⟩
  intro p e s m below meth c A hA C hret ls hl hW
  have C : cx p s m ([.ref a_r0, .int x1] : List Value).toArray meth c b_Sta_weightOfAll 4 R_Sta D (kTy cI cS) (Cond.code y_Sta_weightOfAll b_Sta_weightOfAll 4 (some FieldType.int)) := C
  obtain ⟨hx, hb, hml, hown, hts, hK, hlk, hN⟩ := id C
  have hl : lv_has ls 4 [(0, .ref a_r0), (1, .int x1)] := hl
  obtain ⟨Q, hQ⟩ : ∃ Q, Q = MQ below (qI D (w_Sta_weightOfAll cI a_r0 a_r0_weights v_r0_kinds v_r0_figures v_r0_goes v_r0_things v_r0_hampers v_r0_days v_r0_fields v_r0_done r0_weights) o A) ([.ref a_r0, .int x1] : List Value).toArray s 0 0 A := ⟨_, rfl⟩
  rw [← hQ]
  refine lv_iconst (v := 0) hx hb d_Sta_weightOfAll_0 (by decide) ?_
  refine lv_istore_n (lv' := [(2, .int 0), (0, .ref a_r0), (1, .int x1)]) hx hb d_Sta_weightOfAll_1 rfl hl (by decide) rfl (fun ls hl => ?_)
  refine lv_iconst (v := 0) hx hb d_Sta_weightOfAll_2 (by decide) ?_
  refine lv_istore_n (lv' := [(3, .int 0), (2, .int 0), (0, .ref a_r0), (1, .int x1)]) hx hb d_Sta_weightOfAll_3 rfl hl (by decide) rfl (fun ls hl => ?_)
  obtain ⟨ex_1, hw_1, hk_1⟩ := ob hr
  have hx_1 : ∀ (e_1 : (Int32)), e_1 = ex_1 → ∀ (H : Heap) (locs : List Loc) (ls : Array Slot), wd A s.heap D (w_Sta_weightOfAll cI a_r0 a_r0_weights v_r0_kinds v_r0_figures v_r0_goes v_r0_things v_r0_hampers v_r0_days v_r0_fields v_r0_done r0_weights) H locs → lv_has ls 4 [(2, .int e_1)] → W p l e (rmd 1) s m ([.ref a_r0, .int x1] : List Value).toArray below meth c H locs 0 0 Q (F0 m 33 ls []) := by
    intro e_1 hE H locs ls hW hl
    subst hE; have hr := hk_1
    refine lv_iload_n hx hb d_Sta_weightOfAll_33 rfl (lv_at hl 0 rfl) ?_
    obtain rfl := Option.some.inj hr
    rw [hQ]; exact k_iret C hret hW d_Sta_weightOfAll_34
  have hl_1 : ∀ (k : Nat) (y2_1 : Int32) (y3_1 : Int32), wh (fun (s : (Int32) × (Int32)) => F_Sta_weightOfAll_L4 r0_weights x1 s.1 s.2) k (y2_1, y3_1) = some ex_1 → ∀ (H : Heap) (locs : List Loc) (ls : Array Slot), wd A s.heap D (w_Sta_weightOfAll cI a_r0 a_r0_weights v_r0_kinds v_r0_figures v_r0_goes v_r0_things v_r0_hampers v_r0_days v_r0_fields v_r0_done r0_weights) H locs → lv_has ls 4 [(0, .ref a_r0), (1, .int x1), (2, .int y2_1), (3, .int y3_1)] → W p l e (rmd 1) s m ([.ref a_r0, .int x1] : List Value).toArray below meth c H locs 0 0 Q (F0 m 4 ls []) := by
    intro k
    induction k with
    | zero => intro y2_1 y3_1 hw; exact absurd hw wh_0
    | succ k ih_1 =>
      intro y2_1 y3_1 hw H locs ls hW hl
      obtain ⟨z_1, hr, hz1_1, hz2_1⟩ := wh_s hw
      have hr : F_Sta_weightOfAll_L4 r0_weights x1 y2_1 y3_1 = some z_1 := hr
      unfold F_Sta_weightOfAll_L4 at hr
      refine lv_iload_n hx hb d_Sta_weightOfAll_4 rfl (lv_at hl 3 rfl) ?_
      refine lv_bipush (v := 6) hx hb d_Sta_weightOfAll_5 (by decide) ?_
      refine lv_icmp_ge (tgt := 33) hx hb d_Sta_weightOfAll_7 (by decide) (fun c_2 => ?_) (fun c_2 => ?_)
      · replace hr := ip c_2 hr
        exact hx_1 _ (hz2_1 _ (Option.some.inj hr).symm) _ _ _ hW (lv_sub hl [2] rfl)
      · replace hr := iN c_2 hr
        refine lv_iload_n hx hb d_Sta_weightOfAll_10 rfl (lv_at hl 1 rfl) ?_
        refine lv_iload_n hx hb d_Sta_weightOfAll_11 rfl (lv_at hl 3 rfl) ?_
        obtain ⟨q_3, hc_3, hr⟩ := ob hr
        have ct_3 := C_H_holds l D cI cS x1 y3_1 q_3 hc_3
        refine k_goIp hA hW [] rfl rfl (k_runSN C hA hW mw_H_holds ms_H_holds (ct_3.2 _) [] rfl rfl qm_Sta_77 ⟨Nat.le_of_ble_eq_true rfl, Nat.le_of_ble_eq_true rfl, Nat.zero_le _, Nat.zero_le _⟩ rfl rfl (Nat.le_of_ble_eq_true rfl) hl.1 d_Sta_weightOfAll_12) (fun H locs hW => ?_)
        refine lv_if_eq (tgt := 27) hx hb d_Sta_weightOfAll_15 (by decide) (fun c_4 => ?_) (fun c_4 => ?_)
        · replace hr := ip c_4 hr
          refine lv_iinc (v := (y3_1 + 1)) (lv' := [(3, .int (y3_1 + 1)), (0, .ref a_r0), (1, .int x1), (2, .int y2_1)]) hx hb d_Sta_weightOfAll_27 hl (k := 3) rfl rfl (by decide) rfl (fun ls hl => ?_)
          refine lv_goto (tgt := 4) hx hb d_Sta_weightOfAll_30 (by decide) ?_
          exact ih_1 y2_1 (y3_1 + 1) (hz1_1 _ (Option.some.inj hr).symm) _ _ _ hW (lv_sub hl [1, 2, 3, 0] rfl)
        · replace hr := iN c_4 hr
          refine lv_iload_n hx hb d_Sta_weightOfAll_18 rfl (lv_at hl 2 rfl) ?_
          refine lv_aload_n hx hb d_Sta_weightOfAll_19 rfl (lv_at hl 0 rfl) ?_
          refine k_get i_Sta C hW 0 rfl rfl 0 (by decide) qf_Sta_9 rfl rfl d_Sta_weightOfAll_20 ?_
          refine lv_iload_n hx hb d_Sta_weightOfAll_23 rfl (lv_at hl 3 rfl) ?_
          obtain ⟨h_5, hr⟩ := ck_some hr
          refine k_iald C hW 1 rfl h_5 d_Sta_weightOfAll_24 ?_
          refine lv_iadd hx hb d_Sta_weightOfAll_25 ?_
          refine lv_istore_n (lv' := [(2, .int (y2_1 + (r0_weights (Int32.toNatClampNeg y3_1)))), (0, .ref a_r0), (1, .int x1), (3, .int y3_1)]) hx hb d_Sta_weightOfAll_26 rfl hl (by decide) rfl (fun ls hl => ?_)
          refine lv_iinc (v := (y3_1 + 1)) (lv' := [(3, .int (y3_1 + 1)), (2, .int (y2_1 + (r0_weights (Int32.toNatClampNeg y3_1)))), (0, .ref a_r0), (1, .int x1)]) hx hb d_Sta_weightOfAll_27 hl (k := 3) rfl rfl (by decide) rfl (fun ls hl => ?_)
          refine lv_goto (tgt := 4) hx hb d_Sta_weightOfAll_30 (by decide) ?_
          exact ih_1 (y2_1 + (r0_weights (Int32.toNatClampNeg y3_1))) (y3_1 + 1) (hz1_1 _ (Option.some.inj hr).symm) _ _ _ hW (lv_sub hl [2, 3, 1, 0] rfl)
  exact hl_1 _ 0 0 hw_1 _ _ _ hW (lv_sub hl [2, 3, 1, 0] rfl)
def w_Set_bestTeller (cI : ClassId) (a_r0 : Nat) (a_r0_goes : Nat) (a_r0_weights : Nat) (v_r0_kinds v_r0_figures v_r0_hampers v_r0_days v_r0_fields v_r0_done : Value) (r0_things : Int32) (r0_goes : Nat → Int32) (r0_weights : Nat → Int32) : va_W := [(a_r0, .inr (1, [.ref a_r0_weights, v_r0_kinds, v_r0_figures, .ref a_r0_goes, .int r0_things, v_r0_hampers, v_r0_days, v_r0_fields, v_r0_done])), (a_r0_goes, .inl (cI, 8, .inl r0_goes)), (a_r0_weights, .inl (cI, 6, .inl r0_weights))]
def F_Set_bestTeller_L7 (r0_things : Int32) (r0_goes : Nat → Int32) (r0_weights : Nat → Int32) (y1_1 : Int32) (y2_1 : Int32) (y3_1 : Int32) : Option (((Int32) × (Int32) × (Int32)) ⊕ ((Int32))) :=
  (if (8 : Int32) ≤ y3_1 then (some (.inr y1_1)) else (if r0_things ≤ y3_1 then (some (.inr y1_1)) else (ck y3_1 8 ((F_Sta_weightOfAll r0_weights (r0_goes (Int32.toNatClampNeg y3_1))).bind (fun q_5 => (ck y3_1 8 ((F_Sta_weightOfAll r0_weights ((63 : Int32) &&& ((r0_goes (Int32.toNatClampNeg y3_1)) ^^^ (-1)))).bind (fun q_7 => (if y1_1 = (-9) then (some (.inl (y3_1, (if 0 ≤ (q_5 - q_7) then (q_5 - q_7) else 0 - (q_5 - q_7)), (y3_1 + 1)))) else (if y2_1 ≤ (if 0 ≤ (q_5 - q_7) then (q_5 - q_7) else 0 - (q_5 - q_7)) then (some (.inl (y1_1, y2_1, (y3_1 + 1)))) else (some (.inl (y3_1, (if 0 ≤ (q_5 - q_7) then (q_5 - q_7) else 0 - (q_5 - q_7)), (y3_1 + 1))))))))))))))
def F_Set_bestTeller (r0_things : Int32) (r0_goes : Nat → Int32) (r0_weights : Nat → Int32) : Option (Int32) :=
  ((wh (fun (s : (Int32) × (Int32) × (Int32)) => F_Set_bestTeller_L7 r0_things r0_goes r0_weights s.1 s.2.1 s.2.2) 400 (((-9) : Int32), (0 : Int32), (0 : Int32))).bind (fun e_1 => (some e_1)))
set_option maxHeartbeats 4000000 in
set_option maxRecDepth 100000 in
theorem C_Set_bestTeller (l : Launch) (D : va_G) (cI cS : ClassId) (a_r0 : Nat) (a_r0_goes : Nat) (a_r0_weights : Nat) (v_r0_kinds v_r0_figures v_r0_hampers v_r0_days v_r0_fields v_r0_done : Value) (r0_things : Int32) (r0_goes : Nat → Int32) (r0_weights : Nat → Int32) (o : Int32) (hr : F_Set_bestTeller r0_things r0_goes r0_weights = some o) : ctI l y_Set_bestTeller (Cond.code y_Set_bestTeller b_Set_bestTeller 7 (some FieldType.int)) (rmd 2) D (kTy cI cS) [.ref a_r0] (w_Set_bestTeller cI a_r0 a_r0_goes a_r0_weights v_r0_kinds v_r0_figures v_r0_hampers v_r0_days v_r0_fields v_r0_done r0_things r0_goes r0_weights) (w_Set_bestTeller cI a_r0 a_r0_goes a_r0_weights v_r0_kinds v_r0_figures v_r0_hampers v_r0_days v_r0_fields v_r0_done r0_things r0_goes r0_weights) o := by
  unfold F_Set_bestTeller at hr
  refine ⟨rfl, fun sz => ct_of (w0 := (w_Set_bestTeller cI a_r0 a_r0_goes a_r0_weights v_r0_kinds v_r0_figures v_r0_hampers v_r0_days v_r0_fields v_r0_done r0_things r0_goes r0_weights)) (Qc := fun A => qI D (w_Set_bestTeller cI a_r0 a_r0_goes a_r0_weights v_r0_kinds v_r0_figures v_r0_hampers v_r0_days v_r0_fields v_r0_done r0_things r0_goes r0_weights) o A) rfl (Nat.le_of_ble_eq_true rfl) ?_ sz⟩
  intro p e s m below meth c A hA C hret ls hl hW
  have C : cx p s m ([.ref a_r0] : List Value).toArray meth c b_Set_bestTeller 7 R_Set D (kTy cI cS) (Cond.code y_Set_bestTeller b_Set_bestTeller 7 (some FieldType.int)) := C
  obtain ⟨hx, hb, hml, hown, hts, hK, hlk, hN⟩ := id C
  have hl : lv_has ls 7 [(0, .ref a_r0)] := hl
  obtain ⟨Q, hQ⟩ : ∃ Q, Q = MQ below (qI D (w_Set_bestTeller cI a_r0 a_r0_goes a_r0_weights v_r0_kinds v_r0_figures v_r0_hampers v_r0_days v_r0_fields v_r0_done r0_things r0_goes r0_weights) o A) ([.ref a_r0] : List Value).toArray s 0 0 A := ⟨_, rfl⟩
  rw [← hQ]
  refine lv_bipush (v := (-9)) hx hb d_Set_bestTeller_0 (by decide) ?_
  refine lv_istore_n (lv' := [(1, .int (-9)), (0, .ref a_r0)]) hx hb d_Set_bestTeller_2 rfl hl (by decide) rfl (fun ls hl => ?_)
  refine lv_iconst (v := 0) hx hb d_Set_bestTeller_3 (by decide) ?_
  refine lv_istore_n (lv' := [(2, .int 0), (1, .int (-9)), (0, .ref a_r0)]) hx hb d_Set_bestTeller_4 rfl hl (by decide) rfl (fun ls hl => ?_)
  refine lv_iconst (v := 0) hx hb d_Set_bestTeller_5 (by decide) ?_
  refine lv_istore_n (lv' := [(3, .int 0), (2, .int 0), (1, .int (-9)), (0, .ref a_r0)]) hx hb d_Set_bestTeller_6 rfl hl (by decide) rfl (fun ls hl => ?_)
  obtain ⟨ex_1, hw_1, hk_1⟩ := ob hr
  have hx_1 : ∀ (e_1 : (Int32)), e_1 = ex_1 → ∀ (H : Heap) (locs : List Loc) (ls : Array Slot), wd A s.heap D (w_Set_bestTeller cI a_r0 a_r0_goes a_r0_weights v_r0_kinds v_r0_figures v_r0_hampers v_r0_days v_r0_fields v_r0_done r0_things r0_goes r0_weights) H locs → lv_has ls 7 [(1, .int e_1)] → W p l e (rmd 2) s m ([.ref a_r0] : List Value).toArray below meth c H locs 0 0 Q (F0 m 83 ls []) := by
    intro e_1 hE H locs ls hW hl
    subst hE; have hr := hk_1
    refine lv_iload_n hx hb d_Set_bestTeller_83 rfl (lv_at hl 0 rfl) ?_
    obtain rfl := Option.some.inj hr
    rw [hQ]; exact k_iret C hret hW d_Set_bestTeller_84
  have hl_1 : ∀ (k : Nat) (y1_1 : Int32) (y2_1 : Int32) (y3_1 : Int32), wh (fun (s : (Int32) × (Int32) × (Int32)) => F_Set_bestTeller_L7 r0_things r0_goes r0_weights s.1 s.2.1 s.2.2) k (y1_1, y2_1, y3_1) = some ex_1 → ∀ (H : Heap) (locs : List Loc) (ls : Array Slot), wd A s.heap D (w_Set_bestTeller cI a_r0 a_r0_goes a_r0_weights v_r0_kinds v_r0_figures v_r0_hampers v_r0_days v_r0_fields v_r0_done r0_things r0_goes r0_weights) H locs → lv_has ls 7 [(0, .ref a_r0), (1, .int y1_1), (2, .int y2_1), (3, .int y3_1)] → W p l e (rmd 2) s m ([.ref a_r0] : List Value).toArray below meth c H locs 0 0 Q (F0 m 7 ls []) := by
    intro k
    induction k with
    | zero => intro y1_1 y2_1 y3_1 hw; exact absurd hw wh_0
    | succ k ih_1 =>
      intro y1_1 y2_1 y3_1 hw H locs ls hW hl
      obtain ⟨z_1, hr, hz1_1, hz2_1⟩ := wh_s hw
      have hr : F_Set_bestTeller_L7 r0_things r0_goes r0_weights y1_1 y2_1 y3_1 = some z_1 := hr
      unfold F_Set_bestTeller_L7 at hr
      refine lv_iload_n hx hb d_Set_bestTeller_7 rfl (lv_at hl 3 rfl) ?_
      refine lv_bipush (v := 8) hx hb d_Set_bestTeller_8 (by decide) ?_
      refine lv_icmp_ge (tgt := 83) hx hb d_Set_bestTeller_10 (by decide) (fun c_2 => ?_) (fun c_2 => ?_)
      · replace hr := ip c_2 hr
        exact hx_1 _ (hz2_1 _ (Option.some.inj hr).symm) _ _ _ hW (lv_sub hl [1] rfl)
      · replace hr := iN c_2 hr
        refine lv_iload_n hx hb d_Set_bestTeller_13 rfl (lv_at hl 3 rfl) ?_
        refine lv_aload_n hx hb d_Set_bestTeller_14 rfl (lv_at hl 0 rfl) ?_
        refine k_getN i_Sta C hW 0 rfl rfl 4 (by decide) qf_Set_35 rfl rfl d_Set_bestTeller_15 ?_
        refine lv_icmp_ge (tgt := 83) hx hb d_Set_bestTeller_18 (by decide) (fun c_3 => ?_) (fun c_3 => ?_)
        · replace hr := ip c_3 hr
          exact hx_1 _ (hz2_1 _ (Option.some.inj hr).symm) _ _ _ hW (lv_sub hl [1] rfl)
        · replace hr := iN c_3 hr
          refine lv_aload_n hx hb d_Set_bestTeller_21 rfl (lv_at hl 0 rfl) ?_
          refine lv_aload_n hx hb d_Set_bestTeller_22 rfl (lv_at hl 0 rfl) ?_
          refine k_getN i_Sta C hW 0 rfl rfl 3 (by decide) qf_Set_39 rfl rfl d_Set_bestTeller_23 ?_
          refine lv_iload_n hx hb d_Set_bestTeller_26 rfl (lv_at hl 3 rfl) ?_
          obtain ⟨h_4, hr⟩ := ck_some hr
          refine k_iald C hW 1 rfl h_4 d_Set_bestTeller_27 ?_
          obtain ⟨q_5, hc_5, hr⟩ := ob hr
          have ct_5 := C_Sta_weightOfAll l D cI cS a_r0 a_r0_weights v_r0_kinds v_r0_figures (Value.ref a_r0_goes) (Value.int r0_things) v_r0_hampers v_r0_days v_r0_fields v_r0_done r0_weights (r0_goes (Int32.toNatClampNeg y3_1)) q_5 hc_5
          refine k_goIp hA hW [0, 2] rfl rfl (k_runV C hA hW mw_Sta_weightOfAll mv_Sta_weightOfAll (ct_5.2 _) [0, 2] rfl rfl 0 rfl rfl qm_Set_43 ⟨Nat.le_of_ble_eq_true rfl, Nat.le_of_ble_eq_true rfl, Nat.zero_le _, Nat.zero_le _⟩ rfl rfl (Nat.le_of_ble_eq_true rfl) hl.1 d_Set_bestTeller_28) (fun H locs hW => ?_)
          refine lv_istore (lv' := [(4, .int q_5), (0, .ref a_r0), (1, .int y1_1), (2, .int y2_1), (3, .int y3_1)]) hx hb d_Set_bestTeller_31 hl (by decide) rfl (fun ls hl => ?_)
          refine lv_aload_n hx hb d_Set_bestTeller_33 rfl (lv_at hl 1 rfl) ?_
          refine lv_bipush (v := 63) hx hb d_Set_bestTeller_34 (by decide) ?_
          refine lv_aload_n hx hb d_Set_bestTeller_36 rfl (lv_at hl 1 rfl) ?_
          refine k_getN i_Sta C hW 0 rfl rfl 3 (by decide) qf_Set_39 rfl rfl d_Set_bestTeller_37 ?_
          refine lv_iload_n hx hb d_Set_bestTeller_40 rfl (lv_at hl 4 rfl) ?_
          obtain ⟨h_6, hr⟩ := ck_some hr
          refine k_iald C hW 1 rfl h_6 d_Set_bestTeller_41 ?_
          refine lv_iconst (v := (-1)) hx hb d_Set_bestTeller_42 (by decide) ?_
          refine lv_ixor hx hb d_Set_bestTeller_43 ?_
          refine lv_iand hx hb d_Set_bestTeller_44 ?_
          obtain ⟨q_7, hc_7, hr⟩ := ob hr
          have ct_7 := C_Sta_weightOfAll l D cI cS a_r0 a_r0_weights v_r0_kinds v_r0_figures (Value.ref a_r0_goes) (Value.int r0_things) v_r0_hampers v_r0_days v_r0_fields v_r0_done r0_weights ((63 : Int32) &&& ((r0_goes (Int32.toNatClampNeg y3_1)) ^^^ (-1))) q_7 hc_7
          refine k_goIp hA hW [0, 2] rfl rfl (k_runV C hA hW mw_Sta_weightOfAll mv_Sta_weightOfAll (ct_7.2 _) [0, 2] rfl rfl 0 rfl rfl qm_Set_43 ⟨Nat.le_of_ble_eq_true rfl, Nat.le_of_ble_eq_true rfl, Nat.zero_le _, Nat.zero_le _⟩ rfl rfl (Nat.le_of_ble_eq_true rfl) hl.1 d_Set_bestTeller_45) (fun H locs hW => ?_)
          refine lv_istore (lv' := [(5, .int q_7), (4, .int q_5), (0, .ref a_r0), (1, .int y1_1), (2, .int y2_1), (3, .int y3_1)]) hx hb d_Set_bestTeller_48 hl (by decide) rfl (fun ls hl => ?_)
          refine lv_iload hx hb d_Set_bestTeller_50 (lv_at hl 1 rfl) ?_
          refine lv_iload hx hb d_Set_bestTeller_52 (lv_at hl 0 rfl) ?_
          refine lv_isub hx hb d_Set_bestTeller_54 ?_
          refine k_mabs C qm_Set_46 ⟨Nat.le_of_ble_eq_true rfl, Nat.le_of_ble_eq_true rfl, Nat.zero_le _, Nat.zero_le _⟩ hl.1 d_Set_bestTeller_55 ?_
          refine lv_istore (lv' := [(6, .int (if 0 ≤ (q_5 - q_7) then (q_5 - q_7) else 0 - (q_5 - q_7))), (5, .int q_7), (4, .int q_5), (0, .ref a_r0), (1, .int y1_1), (2, .int y2_1), (3, .int y3_1)]) hx hb d_Set_bestTeller_58 hl (by decide) rfl (fun ls hl => ?_)
          refine lv_iload_n hx hb d_Set_bestTeller_60 rfl (lv_at hl 4 rfl) ?_
          refine lv_bipush (v := (-9)) hx hb d_Set_bestTeller_61 (by decide) ?_
          refine lv_icmp_eq (tgt := 72) hx hb d_Set_bestTeller_63 (by decide) (fun c_8 => ?_) (fun c_8 => ?_)
          · replace hr := ip c_8 hr
            refine lv_iload_n hx hb d_Set_bestTeller_72 rfl (lv_at hl 6 rfl) ?_
            refine lv_istore_n (lv' := [(1, .int y3_1), (6, .int (if 0 ≤ (q_5 - q_7) then (q_5 - q_7) else 0 - (q_5 - q_7))), (5, .int q_7), (4, .int q_5), (0, .ref a_r0), (2, .int y2_1), (3, .int y3_1)]) hx hb d_Set_bestTeller_73 rfl hl (by decide) rfl (fun ls hl => ?_)
            refine lv_iload hx hb d_Set_bestTeller_74 (lv_at hl 1 rfl) ?_
            refine lv_istore_n (lv' := [(2, .int (if 0 ≤ (q_5 - q_7) then (q_5 - q_7) else 0 - (q_5 - q_7))), (1, .int y3_1), (6, .int (if 0 ≤ (q_5 - q_7) then (q_5 - q_7) else 0 - (q_5 - q_7))), (5, .int q_7), (4, .int q_5), (0, .ref a_r0), (3, .int y3_1)]) hx hb d_Set_bestTeller_76 rfl hl (by decide) rfl (fun ls hl => ?_)
            refine lv_iinc (v := (y3_1 + 1)) (lv' := [(3, .int (y3_1 + 1)), (2, .int (if 0 ≤ (q_5 - q_7) then (q_5 - q_7) else 0 - (q_5 - q_7))), (1, .int y3_1), (6, .int (if 0 ≤ (q_5 - q_7) then (q_5 - q_7) else 0 - (q_5 - q_7))), (5, .int q_7), (4, .int q_5), (0, .ref a_r0)]) hx hb d_Set_bestTeller_77 hl (k := 6) rfl rfl (by decide) rfl (fun ls hl => ?_)
            refine lv_goto (tgt := 7) hx hb d_Set_bestTeller_80 (by decide) ?_
            exact ih_1 y3_1 (if 0 ≤ (q_5 - q_7) then (q_5 - q_7) else 0 - (q_5 - q_7)) (y3_1 + 1) (hz1_1 _ (Option.some.inj hr).symm) _ _ _ hW (lv_sub hl [6, 2, 1, 0] rfl)
          · replace hr := iN c_8 hr
            refine lv_iload hx hb d_Set_bestTeller_66 (lv_at hl 0 rfl) ?_
            refine lv_iload_n hx hb d_Set_bestTeller_68 rfl (lv_at hl 5 rfl) ?_
            refine lv_icmp_ge (tgt := 77) hx hb d_Set_bestTeller_69 (by decide) (fun c_9 => ?_) (fun c_9 => ?_)
            · replace hr := ip c_9 hr
              refine lv_iinc (v := (y3_1 + 1)) (lv' := [(3, .int (y3_1 + 1)), (6, .int (if 0 ≤ (q_5 - q_7) then (q_5 - q_7) else 0 - (q_5 - q_7))), (5, .int q_7), (4, .int q_5), (0, .ref a_r0), (1, .int y1_1), (2, .int y2_1)]) hx hb d_Set_bestTeller_77 hl (k := 6) rfl rfl (by decide) rfl (fun ls hl => ?_)
              refine lv_goto (tgt := 7) hx hb d_Set_bestTeller_80 (by decide) ?_
              exact ih_1 y1_1 y2_1 (y3_1 + 1) (hz1_1 _ (Option.some.inj hr).symm) _ _ _ hW (lv_sub hl [4, 5, 6, 0] rfl)
            · replace hr := iN c_9 hr
              refine lv_iload_n hx hb d_Set_bestTeller_72 rfl (lv_at hl 6 rfl) ?_
              refine lv_istore_n (lv' := [(1, .int y3_1), (6, .int (if 0 ≤ (q_5 - q_7) then (q_5 - q_7) else 0 - (q_5 - q_7))), (5, .int q_7), (4, .int q_5), (0, .ref a_r0), (2, .int y2_1), (3, .int y3_1)]) hx hb d_Set_bestTeller_73 rfl hl (by decide) rfl (fun ls hl => ?_)
              refine lv_iload hx hb d_Set_bestTeller_74 (lv_at hl 1 rfl) ?_
              refine lv_istore_n (lv' := [(2, .int (if 0 ≤ (q_5 - q_7) then (q_5 - q_7) else 0 - (q_5 - q_7))), (1, .int y3_1), (6, .int (if 0 ≤ (q_5 - q_7) then (q_5 - q_7) else 0 - (q_5 - q_7))), (5, .int q_7), (4, .int q_5), (0, .ref a_r0), (3, .int y3_1)]) hx hb d_Set_bestTeller_76 rfl hl (by decide) rfl (fun ls hl => ?_)
              refine lv_iinc (v := (y3_1 + 1)) (lv' := [(3, .int (y3_1 + 1)), (2, .int (if 0 ≤ (q_5 - q_7) then (q_5 - q_7) else 0 - (q_5 - q_7))), (1, .int y3_1), (6, .int (if 0 ≤ (q_5 - q_7) then (q_5 - q_7) else 0 - (q_5 - q_7))), (5, .int q_7), (4, .int q_5), (0, .ref a_r0)]) hx hb d_Set_bestTeller_77 hl (k := 6) rfl rfl (by decide) rfl (fun ls hl => ?_)
              refine lv_goto (tgt := 7) hx hb d_Set_bestTeller_80 (by decide) ?_
              exact ih_1 y3_1 (if 0 ≤ (q_5 - q_7) then (q_5 - q_7) else 0 - (q_5 - q_7)) (y3_1 + 1) (hz1_1 _ (Option.some.inj hr).symm) _ _ _ hW (lv_sub hl [6, 2, 1, 0] rfl)
  exact hl_1 _ (-9) 0 0 hw_1 _ _ _ hW (lv_sub hl [3, 2, 1, 0] rfl)
def w_Set_fewest (cI : ClassId) (a_r0 : Nat) (a_r0_goes : Nat) (v_r0_weights v_r0_kinds v_r0_figures v_r0_hampers v_r0_days v_r0_fields v_r0_done : Value) (r0_things : Int32) (r0_goes : Nat → Int32) : va_W := [(a_r0, .inr (1, [v_r0_weights, v_r0_kinds, v_r0_figures, .ref a_r0_goes, .int r0_things, v_r0_hampers, v_r0_days, v_r0_fields, v_r0_done])), (a_r0_goes, .inl (cI, 8, .inl r0_goes))]
def F_Set_fewest_L10 (r0_things : Int32) (r0_goes : Nat → Int32) (x1 : Int32) (x2 : Int32) (y3_1 : Int32) (y4_1 : Int32) (y5_1 : Int32) : Option (((Int32) × (Int32) × (Int32)) ⊕ ((Int32))) :=
  ((F_Sta_allThings r0_things).bind (fun q_2 => (if q_2 < y5_1 then (some (.inr y3_1)) else (if (y5_1 &&& (x1 ^^^ (-1))) = 0 then ((F_Jint_bitCount y5_1).bind (fun q_5 => (if y4_1 ≤ q_5 then (some (.inl (y3_1, y4_1, (y5_1 + 1)))) else ((F_Sta_couldBe r0_goes y5_1).bind (fun q_7 => (if q_7 = x2 then ((F_Jint_bitCount y5_1).bind (fun q_9 => (some (.inl (y5_1, q_9, (y5_1 + 1)))))) else (some (.inl (y3_1, y4_1, (y5_1 + 1)))))))))) else (some (.inl (y3_1, y4_1, (y5_1 + 1))))))))
def F_Set_fewest (r0_things : Int32) (r0_goes : Nat → Int32) (x1 : Int32) (x2 : Int32) : Option (Int32) :=
  ((wh (fun (s : (Int32) × (Int32) × (Int32)) => F_Set_fewest_L10 r0_things r0_goes x1 x2 s.1 s.2.1 s.2.2) 400 (((-9) : Int32), (9 : Int32), (0 : Int32))).bind (fun e_1 => (some e_1)))
set_option maxHeartbeats 4000000 in
set_option maxRecDepth 100000 in
theorem C_Set_fewest (l : Launch) (D : va_G) (cI cS : ClassId) (a_r0 : Nat) (a_r0_goes : Nat) (v_r0_weights v_r0_kinds v_r0_figures v_r0_hampers v_r0_days v_r0_fields v_r0_done : Value) (r0_things : Int32) (r0_goes : Nat → Int32) (x1 : Int32) (x2 : Int32) (o : Int32) (hr : F_Set_fewest r0_things r0_goes x1 x2 = some o) : ctI l y_Set_fewest (Cond.code y_Set_fewest b_Set_fewest 6 (some FieldType.int)) (rmd 2) D (kTy cI cS) [.ref a_r0, .int x1, .int x2] (w_Set_fewest cI a_r0 a_r0_goes v_r0_weights v_r0_kinds v_r0_figures v_r0_hampers v_r0_days v_r0_fields v_r0_done r0_things r0_goes) (w_Set_fewest cI a_r0 a_r0_goes v_r0_weights v_r0_kinds v_r0_figures v_r0_hampers v_r0_days v_r0_fields v_r0_done r0_things r0_goes) o := by
  unfold F_Set_fewest at hr
  refine ⟨rfl, fun sz => ct_of (w0 := (w_Set_fewest cI a_r0 a_r0_goes v_r0_weights v_r0_kinds v_r0_figures v_r0_hampers v_r0_days v_r0_fields v_r0_done r0_things r0_goes)) (Qc := fun A => qI D (w_Set_fewest cI a_r0 a_r0_goes v_r0_weights v_r0_kinds v_r0_figures v_r0_hampers v_r0_days v_r0_fields v_r0_done r0_things r0_goes) o A) rfl (Nat.le_of_ble_eq_true rfl) ?_ sz⟩
  intro p e s m below meth c A hA C hret ls hl hW
  have C : cx p s m ([.ref a_r0, .int x1, .int x2] : List Value).toArray meth c b_Set_fewest 6 R_Set D (kTy cI cS) (Cond.code y_Set_fewest b_Set_fewest 6 (some FieldType.int)) := C
  obtain ⟨hx, hb, hml, hown, hts, hK, hlk, hN⟩ := id C
  have hl : lv_has ls 6 [(0, .ref a_r0), (1, .int x1), (2, .int x2)] := hl
  obtain ⟨Q, hQ⟩ : ∃ Q, Q = MQ below (qI D (w_Set_fewest cI a_r0 a_r0_goes v_r0_weights v_r0_kinds v_r0_figures v_r0_hampers v_r0_days v_r0_fields v_r0_done r0_things r0_goes) o A) ([.ref a_r0, .int x1, .int x2] : List Value).toArray s 0 0 A := ⟨_, rfl⟩
  rw [← hQ]
  refine lv_bipush (v := (-9)) hx hb d_Set_fewest_0 (by decide) ?_
  refine lv_istore_n (lv' := [(3, .int (-9)), (0, .ref a_r0), (1, .int x1), (2, .int x2)]) hx hb d_Set_fewest_2 rfl hl (by decide) rfl (fun ls hl => ?_)
  refine lv_bipush (v := 9) hx hb d_Set_fewest_3 (by decide) ?_
  refine lv_istore (lv' := [(4, .int 9), (3, .int (-9)), (0, .ref a_r0), (1, .int x1), (2, .int x2)]) hx hb d_Set_fewest_5 hl (by decide) rfl (fun ls hl => ?_)
  refine lv_iconst (v := 0) hx hb d_Set_fewest_7 (by decide) ?_
  refine lv_istore (lv' := [(5, .int 0), (4, .int 9), (3, .int (-9)), (0, .ref a_r0), (1, .int x1), (2, .int x2)]) hx hb d_Set_fewest_8 hl (by decide) rfl (fun ls hl => ?_)
  obtain ⟨ex_1, hw_1, hk_1⟩ := ob hr
  have hx_1 : ∀ (e_1 : (Int32)), e_1 = ex_1 → ∀ (H : Heap) (locs : List Loc) (ls : Array Slot), wd A s.heap D (w_Set_fewest cI a_r0 a_r0_goes v_r0_weights v_r0_kinds v_r0_figures v_r0_hampers v_r0_days v_r0_fields v_r0_done r0_things r0_goes) H locs → lv_has ls 6 [(3, .int e_1)] → W p l e (rmd 2) s m ([.ref a_r0, .int x1, .int x2] : List Value).toArray below meth c H locs 0 0 Q (F0 m 64 ls []) := by
    intro e_1 hE H locs ls hW hl
    subst hE; have hr := hk_1
    refine lv_iload_n hx hb d_Set_fewest_64 rfl (lv_at hl 0 rfl) ?_
    obtain rfl := Option.some.inj hr
    rw [hQ]; exact k_iret C hret hW d_Set_fewest_65
  have hl_1 : ∀ (k : Nat) (y3_1 : Int32) (y4_1 : Int32) (y5_1 : Int32), wh (fun (s : (Int32) × (Int32) × (Int32)) => F_Set_fewest_L10 r0_things r0_goes x1 x2 s.1 s.2.1 s.2.2) k (y3_1, y4_1, y5_1) = some ex_1 → ∀ (H : Heap) (locs : List Loc) (ls : Array Slot), wd A s.heap D (w_Set_fewest cI a_r0 a_r0_goes v_r0_weights v_r0_kinds v_r0_figures v_r0_hampers v_r0_days v_r0_fields v_r0_done r0_things r0_goes) H locs → lv_has ls 6 [(0, .ref a_r0), (1, .int x1), (2, .int x2), (3, .int y3_1), (4, .int y4_1), (5, .int y5_1)] → W p l e (rmd 2) s m ([.ref a_r0, .int x1, .int x2] : List Value).toArray below meth c H locs 0 0 Q (F0 m 10 ls []) := by
    intro k
    induction k with
    | zero => intro y3_1 y4_1 y5_1 hw; exact absurd hw wh_0
    | succ k ih_1 =>
      intro y3_1 y4_1 y5_1 hw H locs ls hW hl
      obtain ⟨z_1, hr, hz1_1, hz2_1⟩ := wh_s hw
      have hr : F_Set_fewest_L10 r0_things r0_goes x1 x2 y3_1 y4_1 y5_1 = some z_1 := hr
      unfold F_Set_fewest_L10 at hr
      refine lv_iload hx hb d_Set_fewest_10 (lv_at hl 5 rfl) ?_
      refine lv_aload_n hx hb d_Set_fewest_12 rfl (lv_at hl 0 rfl) ?_
      obtain ⟨q_2, hc_2, hr⟩ := ob hr
      have ct_2 := C_Sta_allThings l D cI cS a_r0 v_r0_weights v_r0_kinds v_r0_figures (Value.ref a_r0_goes) v_r0_hampers v_r0_days v_r0_fields v_r0_done r0_things q_2 hc_2
      refine k_goIp hA hW [0] rfl rfl (k_runV C hA hW mw_Sta_allThings mv_Sta_allThings (ct_2.2 _) [0] rfl rfl 0 rfl rfl qm_Set_9 ⟨Nat.le_of_ble_eq_true rfl, Nat.le_of_ble_eq_true rfl, Nat.zero_le _, Nat.zero_le _⟩ rfl rfl (Nat.le_of_ble_eq_true rfl) hl.1 d_Set_fewest_13) (fun H locs hW => ?_)
      refine lv_icmp_gt (tgt := 64) hx hb d_Set_fewest_16 (by decide) (fun c_3 => ?_) (fun c_3 => ?_)
      · replace hr := ip c_3 hr
        exact hx_1 _ (hz2_1 _ (Option.some.inj hr).symm) _ _ _ hW (lv_sub hl [3] rfl)
      · replace hr := iN c_3 hr
        refine lv_iload hx hb d_Set_fewest_19 (lv_at hl 5 rfl) ?_
        refine lv_iload_n hx hb d_Set_fewest_21 rfl (lv_at hl 1 rfl) ?_
        refine lv_iconst (v := (-1)) hx hb d_Set_fewest_22 (by decide) ?_
        refine lv_ixor hx hb d_Set_fewest_23 ?_
        refine lv_iand hx hb d_Set_fewest_24 ?_
        refine lv_if_ne (tgt := 58) hx hb d_Set_fewest_25 (by decide) (fun c_4 => ?_) (fun c_4 => ?_)
        · replace hr := iN c_4 hr
          refine lv_iinc (v := (y5_1 + 1)) (lv' := [(5, .int (y5_1 + 1)), (0, .ref a_r0), (1, .int x1), (2, .int x2), (3, .int y3_1), (4, .int y4_1)]) hx hb d_Set_fewest_58 hl (k := 5) rfl rfl (by decide) rfl (fun ls hl => ?_)
          refine lv_goto (tgt := 10) hx hb d_Set_fewest_61 (by decide) ?_
          exact ih_1 y3_1 y4_1 (y5_1 + 1) (hz1_1 _ (Option.some.inj hr).symm) _ _ _ hW (lv_sub hl [1, 2, 3, 4, 5, 0] rfl)
        · replace hr := ip c_4 hr
          refine lv_iload hx hb d_Set_fewest_28 (lv_at hl 5 rfl) ?_
          obtain ⟨q_5, hc_5, hr⟩ := ob hr
          have ct_5 := C_Jint_bitCount l D cI cS y5_1 q_5 hc_5
          refine k_goIp hA hW [] rfl rfl (k_runS C hA hW mw_Jint_bitCount ms_Jint_bitCount (ct_5.2 _) [] rfl rfl qm_Set_15 ⟨Nat.le_of_ble_eq_true rfl, Nat.le_of_ble_eq_true rfl, Nat.zero_le _, Nat.zero_le _⟩ rfl rfl (Nat.le_of_ble_eq_true rfl) hl.1 d_Set_fewest_30) (fun H locs hW => ?_)
          refine lv_iload hx hb d_Set_fewest_33 (lv_at hl 4 rfl) ?_
          refine lv_icmp_ge (tgt := 58) hx hb d_Set_fewest_35 (by decide) (fun c_6 => ?_) (fun c_6 => ?_)
          · replace hr := ip c_6 hr
            refine lv_iinc (v := (y5_1 + 1)) (lv' := [(5, .int (y5_1 + 1)), (0, .ref a_r0), (1, .int x1), (2, .int x2), (3, .int y3_1), (4, .int y4_1)]) hx hb d_Set_fewest_58 hl (k := 5) rfl rfl (by decide) rfl (fun ls hl => ?_)
            refine lv_goto (tgt := 10) hx hb d_Set_fewest_61 (by decide) ?_
            exact ih_1 y3_1 y4_1 (y5_1 + 1) (hz1_1 _ (Option.some.inj hr).symm) _ _ _ hW (lv_sub hl [1, 2, 3, 4, 5, 0] rfl)
          · replace hr := iN c_6 hr
            refine lv_aload_n hx hb d_Set_fewest_38 rfl (lv_at hl 0 rfl) ?_
            refine lv_iload hx hb d_Set_fewest_39 (lv_at hl 5 rfl) ?_
            obtain ⟨q_7, hc_7, hr⟩ := ob hr
            have ct_7 := C_Sta_couldBe l D cI cS a_r0 a_r0_goes v_r0_weights v_r0_kinds v_r0_figures (Value.int r0_things) v_r0_hampers v_r0_days v_r0_fields v_r0_done r0_goes y5_1 q_7 hc_7
            refine k_goIp hA hW [0, 1] rfl rfl (k_runV C hA hW mw_Sta_couldBe mv_Sta_couldBe (ct_7.2 _) [0, 1] rfl rfl 0 rfl rfl qm_Set_21 ⟨Nat.le_of_ble_eq_true rfl, Nat.le_of_ble_eq_true rfl, Nat.zero_le _, Nat.zero_le _⟩ rfl rfl (Nat.le_of_ble_eq_true rfl) hl.1 d_Set_fewest_41) (fun H locs hW => ?_)
            refine lv_iload_n hx hb d_Set_fewest_44 rfl (lv_at hl 2 rfl) ?_
            refine lv_icmp_ne (tgt := 58) hx hb d_Set_fewest_45 (by decide) (fun c_8 => ?_) (fun c_8 => ?_)
            · replace hr := iN c_8 hr
              refine lv_iinc (v := (y5_1 + 1)) (lv' := [(5, .int (y5_1 + 1)), (0, .ref a_r0), (1, .int x1), (2, .int x2), (3, .int y3_1), (4, .int y4_1)]) hx hb d_Set_fewest_58 hl (k := 5) rfl rfl (by decide) rfl (fun ls hl => ?_)
              refine lv_goto (tgt := 10) hx hb d_Set_fewest_61 (by decide) ?_
              exact ih_1 y3_1 y4_1 (y5_1 + 1) (hz1_1 _ (Option.some.inj hr).symm) _ _ _ hW (lv_sub hl [1, 2, 3, 4, 5, 0] rfl)
            · replace hr := ip c_8 hr
              refine lv_iload hx hb d_Set_fewest_48 (lv_at hl 5 rfl) ?_
              refine lv_istore_n (lv' := [(3, .int y5_1), (0, .ref a_r0), (1, .int x1), (2, .int x2), (4, .int y4_1), (5, .int y5_1)]) hx hb d_Set_fewest_50 rfl hl (by decide) rfl (fun ls hl => ?_)
              refine lv_iload hx hb d_Set_fewest_51 (lv_at hl 5 rfl) ?_
              obtain ⟨q_9, hc_9, hr⟩ := ob hr
              have ct_9 := C_Jint_bitCount l D cI cS y5_1 q_9 hc_9
              refine k_goIp hA hW [] rfl rfl (k_runS C hA hW mw_Jint_bitCount ms_Jint_bitCount (ct_9.2 _) [] rfl rfl qm_Set_15 ⟨Nat.le_of_ble_eq_true rfl, Nat.le_of_ble_eq_true rfl, Nat.zero_le _, Nat.zero_le _⟩ rfl rfl (Nat.le_of_ble_eq_true rfl) hl.1 d_Set_fewest_53) (fun H locs hW => ?_)
              refine lv_istore (lv' := [(4, .int q_9), (3, .int y5_1), (0, .ref a_r0), (1, .int x1), (2, .int x2), (5, .int y5_1)]) hx hb d_Set_fewest_56 hl (by decide) rfl (fun ls hl => ?_)
              refine lv_iinc (v := (y5_1 + 1)) (lv' := [(5, .int (y5_1 + 1)), (4, .int q_9), (3, .int y5_1), (0, .ref a_r0), (1, .int x1), (2, .int x2)]) hx hb d_Set_fewest_58 hl (k := 5) rfl rfl (by decide) rfl (fun ls hl => ?_)
              refine lv_goto (tgt := 10) hx hb d_Set_fewest_61 (by decide) ?_
              exact ih_1 y5_1 q_9 (y5_1 + 1) (hz1_1 _ (Option.some.inj hr).symm) _ _ _ hW (lv_sub hl [3, 4, 5, 2, 1, 0] rfl)
  exact hl_1 _ (-9) 9 0 hw_1 _ _ _ hW (lv_sub hl [3, 4, 5, 2, 1, 0] rfl)
def w_Set_leastHeavy (cI : ClassId) (a_r0 : Nat) (a_r0_figures : Nat) (a_r0_goes : Nat) (a_r0_kinds : Nat) (v_r0_weights v_r0_hampers v_r0_days v_r0_fields v_r0_done : Value) (r0_things : Int32) (r0_figures : Nat → Int32) (r0_goes : Nat → Int32) (r0_kinds : Nat → Int32) : va_W := [(a_r0, .inr (1, [v_r0_weights, .ref a_r0_kinds, .ref a_r0_figures, .ref a_r0_goes, .int r0_things, v_r0_hampers, v_r0_days, v_r0_fields, v_r0_done])), (a_r0_figures, .inl (cI, 8, .inl r0_figures)), (a_r0_goes, .inl (cI, 8, .inl r0_goes)), (a_r0_kinds, .inl (cI, 8, .inl r0_kinds))]
def F_Set_leastHeavy_J37_5 (r0_goes : Nat → Int32) (y2_1 : Int32) (y3_1 : Int32) (x1 : Int32) (s0_5 : Int32) : Option (((Int32) × (Int32)) ⊕ ((Int32))) :=
  (if s0_5 = 0 then (some (.inl (y2_1, (y3_1 + 1)))) else ((F_Sta_couldBe r0_goes y3_1).bind (fun q_7 => (if q_7 = x1 then (some (.inl (y3_1, (y3_1 + 1)))) else (some (.inl (y2_1, (y3_1 + 1))))))))
def F_Set_leastHeavy_J32_9 (r0_goes : Nat → Int32) (y2_1 : Int32) (y3_1 : Int32) (x1 : Int32) : Option (((Int32) × (Int32)) ⊕ ((Int32))) :=
  (F_Set_leastHeavy_J37_5 r0_goes y2_1 y3_1 x1 1)
def F_Set_leastHeavy_L5 (r0_things : Int32) (r0_figures : Nat → Int32) (r0_goes : Nat → Int32) (r0_kinds : Nat → Int32) (x1 : Int32) (y2_1 : Int32) (y3_1 : Int32) : Option (((Int32) × (Int32)) ⊕ ((Int32))) :=
  ((F_Sta_allThings r0_things).bind (fun q_2 => (if q_2 < y3_1 then (some (.inr y2_1)) else (if y2_1 = (-9) then (F_Set_leastHeavy_J32_9 r0_goes y2_1 y3_1 x1) else ((F_Sta_heavyOf r0_figures r0_kinds y3_1).bind (fun q_10 => ((F_Sta_heavyOf r0_figures r0_kinds y2_1).bind (fun q_11 => (if q_11 ≤ q_10 then (F_Set_leastHeavy_J37_5 r0_goes y2_1 y3_1 x1 0) else (F_Set_leastHeavy_J32_9 r0_goes y2_1 y3_1 x1))))))))))
def F_Set_leastHeavy (r0_things : Int32) (r0_figures : Nat → Int32) (r0_goes : Nat → Int32) (r0_kinds : Nat → Int32) (x1 : Int32) : Option (Int32) :=
  ((wh (fun (s : (Int32) × (Int32)) => F_Set_leastHeavy_L5 r0_things r0_figures r0_goes r0_kinds x1 s.1 s.2) 400 (((-9) : Int32), (0 : Int32))).bind (fun e_1 => (some e_1)))
set_option maxHeartbeats 4000000 in
set_option maxRecDepth 100000 in
theorem C_Set_leastHeavy (l : Launch) (D : va_G) (cI cS : ClassId) (a_r0 : Nat) (a_r0_figures : Nat) (a_r0_goes : Nat) (a_r0_kinds : Nat) (v_r0_weights v_r0_hampers v_r0_days v_r0_fields v_r0_done : Value) (r0_things : Int32) (r0_figures : Nat → Int32) (r0_goes : Nat → Int32) (r0_kinds : Nat → Int32) (x1 : Int32) (o : Int32) (hr : F_Set_leastHeavy r0_things r0_figures r0_goes r0_kinds x1 = some o) : ctI l y_Set_leastHeavy (Cond.code y_Set_leastHeavy b_Set_leastHeavy 5 (some FieldType.int)) (rmd 2) D (kTy cI cS) [.ref a_r0, .int x1] (w_Set_leastHeavy cI a_r0 a_r0_figures a_r0_goes a_r0_kinds v_r0_weights v_r0_hampers v_r0_days v_r0_fields v_r0_done r0_things r0_figures r0_goes r0_kinds) (w_Set_leastHeavy cI a_r0 a_r0_figures a_r0_goes a_r0_kinds v_r0_weights v_r0_hampers v_r0_days v_r0_fields v_r0_done r0_things r0_figures r0_goes r0_kinds) o := by
  unfold F_Set_leastHeavy at hr
  refine ⟨rfl, fun sz => ct_of (w0 := (w_Set_leastHeavy cI a_r0 a_r0_figures a_r0_goes a_r0_kinds v_r0_weights v_r0_hampers v_r0_days v_r0_fields v_r0_done r0_things r0_figures r0_goes r0_kinds)) (Qc := fun A => qI D (w_Set_leastHeavy cI a_r0 a_r0_figures a_r0_goes a_r0_kinds v_r0_weights v_r0_hampers v_r0_days v_r0_fields v_r0_done r0_things r0_figures r0_goes r0_kinds) o A) rfl (Nat.le_of_ble_eq_true rfl) ?_ sz⟩
  intro p e s m below meth c A hA C hret ls hl hW
  have C : cx p s m ([.ref a_r0, .int x1] : List Value).toArray meth c b_Set_leastHeavy 5 R_Set D (kTy cI cS) (Cond.code y_Set_leastHeavy b_Set_leastHeavy 5 (some FieldType.int)) := C
  obtain ⟨hx, hb, hml, hown, hts, hK, hlk, hN⟩ := id C
  have hl : lv_has ls 5 [(0, .ref a_r0), (1, .int x1)] := hl
  obtain ⟨Q, hQ⟩ : ∃ Q, Q = MQ below (qI D (w_Set_leastHeavy cI a_r0 a_r0_figures a_r0_goes a_r0_kinds v_r0_weights v_r0_hampers v_r0_days v_r0_fields v_r0_done r0_things r0_figures r0_goes r0_kinds) o A) ([.ref a_r0, .int x1] : List Value).toArray s 0 0 A := ⟨_, rfl⟩
  rw [← hQ]
  refine lv_bipush (v := (-9)) hx hb d_Set_leastHeavy_0 (by decide) ?_
  refine lv_istore_n (lv' := [(2, .int (-9)), (0, .ref a_r0), (1, .int x1)]) hx hb d_Set_leastHeavy_2 rfl hl (by decide) rfl (fun ls hl => ?_)
  refine lv_iconst (v := 0) hx hb d_Set_leastHeavy_3 (by decide) ?_
  refine lv_istore_n (lv' := [(3, .int 0), (2, .int (-9)), (0, .ref a_r0), (1, .int x1)]) hx hb d_Set_leastHeavy_4 rfl hl (by decide) rfl (fun ls hl => ?_)
  obtain ⟨ex_1, hw_1, hk_1⟩ := ob hr
  have hx_1 : ∀ (e_1 : (Int32)), e_1 = ex_1 → ∀ (H : Heap) (locs : List Loc) (ls : Array Slot), wd A s.heap D (w_Set_leastHeavy cI a_r0 a_r0_figures a_r0_goes a_r0_kinds v_r0_weights v_r0_hampers v_r0_days v_r0_fields v_r0_done r0_things r0_figures r0_goes r0_kinds) H locs → lv_has ls 5 [(2, .int e_1)] → W p l e (rmd 2) s m ([.ref a_r0, .int x1] : List Value).toArray below meth c H locs 0 0 Q (F0 m 61 ls []) := by
    intro e_1 hE H locs ls hW hl
    subst hE; have hr := hk_1
    refine lv_iload_n hx hb d_Set_leastHeavy_61 rfl (lv_at hl 0 rfl) ?_
    obtain rfl := Option.some.inj hr
    rw [hQ]; exact k_iret C hret hW d_Set_leastHeavy_62
  have hl_1 : ∀ (k : Nat) (y2_1 : Int32) (y3_1 : Int32), wh (fun (s : (Int32) × (Int32)) => F_Set_leastHeavy_L5 r0_things r0_figures r0_goes r0_kinds x1 s.1 s.2) k (y2_1, y3_1) = some ex_1 → ∀ (H : Heap) (locs : List Loc) (ls : Array Slot), wd A s.heap D (w_Set_leastHeavy cI a_r0 a_r0_figures a_r0_goes a_r0_kinds v_r0_weights v_r0_hampers v_r0_days v_r0_fields v_r0_done r0_things r0_figures r0_goes r0_kinds) H locs → lv_has ls 5 [(0, .ref a_r0), (1, .int x1), (2, .int y2_1), (3, .int y3_1)] → W p l e (rmd 2) s m ([.ref a_r0, .int x1] : List Value).toArray below meth c H locs 0 0 Q (F0 m 5 ls []) := by
    intro k
    induction k with
    | zero => intro y2_1 y3_1 hw; exact absurd hw wh_0
    | succ k ih_1 =>
      intro y2_1 y3_1 hw H locs ls hW hl
      obtain ⟨z_1, hr, hz1_1, hz2_1⟩ := wh_s hw
      have hr : F_Set_leastHeavy_L5 r0_things r0_figures r0_goes r0_kinds x1 y2_1 y3_1 = some z_1 := hr
      unfold F_Set_leastHeavy_L5 at hr
      refine lv_iload_n hx hb d_Set_leastHeavy_5 rfl (lv_at hl 3 rfl) ?_
      refine lv_aload_n hx hb d_Set_leastHeavy_6 rfl (lv_at hl 0 rfl) ?_
      obtain ⟨q_2, hc_2, hr⟩ := ob hr
      have ct_2 := C_Sta_allThings l D cI cS a_r0 v_r0_weights (Value.ref a_r0_kinds) (Value.ref a_r0_figures) (Value.ref a_r0_goes) v_r0_hampers v_r0_days v_r0_fields v_r0_done r0_things q_2 hc_2
      refine k_goIp hA hW [0] rfl rfl (k_runV C hA hW mw_Sta_allThings mv_Sta_allThings (ct_2.2 _) [0] rfl rfl 0 rfl rfl qm_Set_9 ⟨Nat.le_of_ble_eq_true rfl, Nat.le_of_ble_eq_true rfl, Nat.zero_le _, Nat.zero_le _⟩ rfl rfl (Nat.le_of_ble_eq_true rfl) hl.1 d_Set_leastHeavy_7) (fun H locs hW => ?_)
      refine lv_icmp_gt (tgt := 61) hx hb d_Set_leastHeavy_10 (by decide) (fun c_3 => ?_) (fun c_3 => ?_)
      · replace hr := ip c_3 hr
        exact hx_1 _ (hz2_1 _ (Option.some.inj hr).symm) _ _ _ hW (lv_sub hl [2] rfl)
      · replace hr := iN c_3 hr
        refine lv_iload_n hx hb d_Set_leastHeavy_13 rfl (lv_at hl 2 rfl) ?_
        refine lv_bipush (v := (-9)) hx hb d_Set_leastHeavy_14 (by decide) ?_
        have hJ_5 : ∀ (s0_5 : Int32), F_Set_leastHeavy_J37_5 r0_goes y2_1 y3_1 x1 s0_5 = some z_1 → ∀ (H : Heap) (locs : List Loc) (ls : Array Slot), wd A s.heap D (w_Set_leastHeavy cI a_r0 a_r0_figures a_r0_goes a_r0_kinds v_r0_weights v_r0_hampers v_r0_days v_r0_fields v_r0_done r0_things r0_figures r0_goes r0_kinds) H locs → lv_has ls 5 [(0, .ref a_r0), (1, .int x1), (2, .int y2_1), (3, .int y3_1)] → W p l e (rmd 2) s m ([.ref a_r0, .int x1] : List Value).toArray below meth c H locs 0 0 Q (F0 m 37 ls [.int s0_5]) := by
          intro s0_5 hr H locs ls hW hl
          unfold F_Set_leastHeavy_J37_5 at hr
          refine lv_istore (lv' := [(4, .int s0_5), (0, .ref a_r0), (1, .int x1), (2, .int y2_1), (3, .int y3_1)]) hx hb d_Set_leastHeavy_37 hl (by decide) rfl (fun ls hl => ?_)
          refine lv_iload hx hb d_Set_leastHeavy_39 (lv_at hl 0 rfl) ?_
          refine lv_if_eq (tgt := 55) hx hb d_Set_leastHeavy_41 (by decide) (fun c_6 => ?_) (fun c_6 => ?_)
          · replace hr := ip c_6 hr
            refine lv_iinc (v := (y3_1 + 1)) (lv' := [(3, .int (y3_1 + 1)), (4, .int s0_5), (0, .ref a_r0), (1, .int x1), (2, .int y2_1)]) hx hb d_Set_leastHeavy_55 hl (k := 4) rfl rfl (by decide) rfl (fun ls hl => ?_)
            refine lv_goto (tgt := 5) hx hb d_Set_leastHeavy_58 (by decide) ?_
            exact ih_1 y2_1 (y3_1 + 1) (hz1_1 _ (Option.some.inj hr).symm) _ _ _ hW (lv_sub hl [2, 3, 4, 0] rfl)
          · replace hr := iN c_6 hr
            refine lv_aload_n hx hb d_Set_leastHeavy_44 rfl (lv_at hl 1 rfl) ?_
            refine lv_iload_n hx hb d_Set_leastHeavy_45 rfl (lv_at hl 4 rfl) ?_
            obtain ⟨q_7, hc_7, hr⟩ := ob hr
            have ct_7 := C_Sta_couldBe l D cI cS a_r0 a_r0_goes v_r0_weights (Value.ref a_r0_kinds) (Value.ref a_r0_figures) (Value.int r0_things) v_r0_hampers v_r0_days v_r0_fields v_r0_done r0_goes y3_1 q_7 hc_7
            refine k_goIp hA hW [0, 2] rfl rfl (k_runV C hA hW mw_Sta_couldBe mv_Sta_couldBe (ct_7.2 _) [0, 2] rfl rfl 0 rfl rfl qm_Set_21 ⟨Nat.le_of_ble_eq_true rfl, Nat.le_of_ble_eq_true rfl, Nat.zero_le _, Nat.zero_le _⟩ rfl rfl (Nat.le_of_ble_eq_true rfl) hl.1 d_Set_leastHeavy_46) (fun H locs hW => ?_)
            refine lv_iload_n hx hb d_Set_leastHeavy_49 rfl (lv_at hl 2 rfl) ?_
            refine lv_icmp_ne (tgt := 55) hx hb d_Set_leastHeavy_50 (by decide) (fun c_8 => ?_) (fun c_8 => ?_)
            · replace hr := iN c_8 hr
              refine lv_iinc (v := (y3_1 + 1)) (lv' := [(3, .int (y3_1 + 1)), (4, .int s0_5), (0, .ref a_r0), (1, .int x1), (2, .int y2_1)]) hx hb d_Set_leastHeavy_55 hl (k := 4) rfl rfl (by decide) rfl (fun ls hl => ?_)
              refine lv_goto (tgt := 5) hx hb d_Set_leastHeavy_58 (by decide) ?_
              exact ih_1 y2_1 (y3_1 + 1) (hz1_1 _ (Option.some.inj hr).symm) _ _ _ hW (lv_sub hl [2, 3, 4, 0] rfl)
            · replace hr := ip c_8 hr
              refine lv_iload_n hx hb d_Set_leastHeavy_53 rfl (lv_at hl 4 rfl) ?_
              refine lv_istore_n (lv' := [(2, .int y3_1), (4, .int s0_5), (0, .ref a_r0), (1, .int x1), (3, .int y3_1)]) hx hb d_Set_leastHeavy_54 rfl hl (by decide) rfl (fun ls hl => ?_)
              refine lv_iinc (v := (y3_1 + 1)) (lv' := [(3, .int (y3_1 + 1)), (2, .int y3_1), (4, .int s0_5), (0, .ref a_r0), (1, .int x1)]) hx hb d_Set_leastHeavy_55 hl (k := 4) rfl rfl (by decide) rfl (fun ls hl => ?_)
              refine lv_goto (tgt := 5) hx hb d_Set_leastHeavy_58 (by decide) ?_
              exact ih_1 y3_1 (y3_1 + 1) (hz1_1 _ (Option.some.inj hr).symm) _ _ _ hW (lv_sub hl [3, 4, 1, 0] rfl)
        have hJ_9 : ∀ (_ : Unit), F_Set_leastHeavy_J32_9 r0_goes y2_1 y3_1 x1 = some z_1 → ∀ (H : Heap) (locs : List Loc) (ls : Array Slot), wd A s.heap D (w_Set_leastHeavy cI a_r0 a_r0_figures a_r0_goes a_r0_kinds v_r0_weights v_r0_hampers v_r0_days v_r0_fields v_r0_done r0_things r0_figures r0_goes r0_kinds) H locs → lv_has ls 5 [(0, .ref a_r0), (1, .int x1), (2, .int y2_1), (3, .int y3_1)] → W p l e (rmd 2) s m ([.ref a_r0, .int x1] : List Value).toArray below meth c H locs 0 0 Q (F0 m 32 ls []) := by
          intro _ hr H locs ls hW hl
          unfold F_Set_leastHeavy_J32_9 at hr
          refine lv_iconst (v := 1) hx hb d_Set_leastHeavy_32 (by decide) ?_
          refine lv_goto (tgt := 37) hx hb d_Set_leastHeavy_33 (by decide) ?_
          exact hJ_5 1 hr _ _ _ hW (lv_sub hl [0, 1, 2, 3] rfl)
        refine lv_icmp_eq (tgt := 32) hx hb d_Set_leastHeavy_16 (by decide) (fun c_4 => ?_) (fun c_4 => ?_)
        · replace hr := ip c_4 hr
          exact hJ_9 () hr _ _ _ hW (lv_sub hl [0, 1, 2, 3] rfl)
        · replace hr := iN c_4 hr
          refine lv_aload_n hx hb d_Set_leastHeavy_19 rfl (lv_at hl 0 rfl) ?_
          refine lv_iload_n hx hb d_Set_leastHeavy_20 rfl (lv_at hl 3 rfl) ?_
          obtain ⟨q_10, hc_10, hr⟩ := ob hr
          have ct_10 := C_Sta_heavyOf l D cI cS a_r0 a_r0_figures a_r0_kinds v_r0_weights (Value.ref a_r0_goes) (Value.int r0_things) v_r0_hampers v_r0_days v_r0_fields v_r0_done r0_figures r0_kinds y3_1 q_10 hc_10
          refine k_goIp hA hW [0, 1, 3] rfl rfl (k_runV C hA hW mw_Sta_heavyOf mv_Sta_heavyOf (ct_10.2 _) [0, 1, 3] rfl rfl 0 rfl rfl qm_Set_24 ⟨Nat.le_of_ble_eq_true rfl, Nat.le_of_ble_eq_true rfl, Nat.zero_le _, Nat.zero_le _⟩ rfl rfl (Nat.le_of_ble_eq_true rfl) hl.1 d_Set_leastHeavy_21) (fun H locs hW => ?_)
          refine lv_aload_n hx hb d_Set_leastHeavy_24 rfl (lv_at hl 0 rfl) ?_
          refine lv_iload_n hx hb d_Set_leastHeavy_25 rfl (lv_at hl 2 rfl) ?_
          obtain ⟨q_11, hc_11, hr⟩ := ob hr
          have ct_11 := C_Sta_heavyOf l D cI cS a_r0 a_r0_figures a_r0_kinds v_r0_weights (Value.ref a_r0_goes) (Value.int r0_things) v_r0_hampers v_r0_days v_r0_fields v_r0_done r0_figures r0_kinds y2_1 q_11 hc_11
          refine k_goIp hA hW [0, 1, 3] rfl rfl (k_runV C hA hW mw_Sta_heavyOf mv_Sta_heavyOf (ct_11.2 _) [0, 1, 3] rfl rfl 0 rfl rfl qm_Set_24 ⟨Nat.le_of_ble_eq_true rfl, Nat.le_of_ble_eq_true rfl, Nat.zero_le _, Nat.zero_le _⟩ rfl rfl (Nat.le_of_ble_eq_true rfl) hl.1 d_Set_leastHeavy_26) (fun H locs hW => ?_)
          refine lv_icmp_ge (tgt := 36) hx hb d_Set_leastHeavy_29 (by decide) (fun c_12 => ?_) (fun c_12 => ?_)
          · replace hr := ip c_12 hr
            refine lv_iconst (v := 0) hx hb d_Set_leastHeavy_36 (by decide) ?_
            exact hJ_5 0 hr _ _ _ hW (lv_sub hl [0, 1, 2, 3] rfl)
          · replace hr := iN c_12 hr
            exact hJ_9 () hr _ _ _ hW (lv_sub hl [0, 1, 2, 3] rfl)
  exact hl_1 _ (-9) 0 hw_1 _ _ _ hW (lv_sub hl [2, 3, 1, 0] rfl)
def w_Sta_dearOf (cI : ClassId) (a_r0 : Nat) (a_r0_figures : Nat) (a_r0_kinds : Nat) (v_r0_weights v_r0_goes v_r0_things v_r0_hampers v_r0_days v_r0_fields v_r0_done : Value) (r0_figures : Nat → Int32) (r0_kinds : Nat → Int32) : va_W := [(a_r0, .inr (1, [v_r0_weights, .ref a_r0_kinds, .ref a_r0_figures, v_r0_goes, v_r0_things, v_r0_hampers, v_r0_days, v_r0_fields, v_r0_done])), (a_r0_figures, .inl (cI, 8, .inl r0_figures)), (a_r0_kinds, .inl (cI, 8, .inl r0_kinds))]
def F_Sta_dearOf_L4 (r0_figures : Nat → Int32) (r0_kinds : Nat → Int32) (x1 : Int32) (y2_1 : Int32) (y3_1 : Int32) : Option (((Int32) × (Int32)) ⊕ ((Int32))) :=
  (if (8 : Int32) ≤ y3_1 then (some (.inr y2_1)) else ((F_H_holds x1 y3_1).bind (fun q_3 => (if q_3 = 0 then (some (.inl (y2_1, (y3_1 + 1)))) else (ck y3_1 8 (ck y3_1 8 ((F_Kin_dear (r0_kinds (Int32.toNatClampNeg y3_1)) (r0_figures (Int32.toNatClampNeg y3_1))).bind (fun q_7 => (some (.inl ((y2_1 + q_7), (y3_1 + 1))))))))))))
def F_Sta_dearOf (r0_figures : Nat → Int32) (r0_kinds : Nat → Int32) (x1 : Int32) : Option (Int32) :=
  ((wh (fun (s : (Int32) × (Int32)) => F_Sta_dearOf_L4 r0_figures r0_kinds x1 s.1 s.2) 400 ((0 : Int32), (0 : Int32))).bind (fun e_1 => (some e_1)))
set_option maxHeartbeats 4000000 in
set_option maxRecDepth 100000 in
theorem C_Sta_dearOf (l : Launch) (D : va_G) (cI cS : ClassId) (a_r0 : Nat) (a_r0_figures : Nat) (a_r0_kinds : Nat) (v_r0_weights v_r0_goes v_r0_things v_r0_hampers v_r0_days v_r0_fields v_r0_done : Value) (r0_figures : Nat → Int32) (r0_kinds : Nat → Int32) (x1 : Int32) (o : Int32) (hr : F_Sta_dearOf r0_figures r0_kinds x1 = some o) : ctI l y_Sta_dearOf (Cond.code y_Sta_dearOf b_Sta_dearOf 4 (some FieldType.int)) (rmd 2) D (kTy cI cS) [.ref a_r0, .int x1] (w_Sta_dearOf cI a_r0 a_r0_figures a_r0_kinds v_r0_weights v_r0_goes v_r0_things v_r0_hampers v_r0_days v_r0_fields v_r0_done r0_figures r0_kinds) (w_Sta_dearOf cI a_r0 a_r0_figures a_r0_kinds v_r0_weights v_r0_goes v_r0_things v_r0_hampers v_r0_days v_r0_fields v_r0_done r0_figures r0_kinds) o := by
  unfold F_Sta_dearOf at hr
  refine ⟨rfl, fun sz => ct_of (w0 := (w_Sta_dearOf cI a_r0 a_r0_figures a_r0_kinds v_r0_weights v_r0_goes v_r0_things v_r0_hampers v_r0_days v_r0_fields v_r0_done r0_figures r0_kinds)) (Qc := fun A => qI D (w_Sta_dearOf cI a_r0 a_r0_figures a_r0_kinds v_r0_weights v_r0_goes v_r0_things v_r0_hampers v_r0_days v_r0_fields v_r0_done r0_figures r0_kinds) o A) rfl (Nat.le_of_ble_eq_true rfl) ?_ sz⟩
  intro p e s m below meth c A hA C hret ls hl hW
  have C : cx p s m ([.ref a_r0, .int x1] : List Value).toArray meth c b_Sta_dearOf 4 R_Sta D (kTy cI cS) (Cond.code y_Sta_dearOf b_Sta_dearOf 4 (some FieldType.int)) := C
  obtain ⟨hx, hb, hml, hown, hts, hK, hlk, hN⟩ := id C
  have hl : lv_has ls 4 [(0, .ref a_r0), (1, .int x1)] := hl
  obtain ⟨Q, hQ⟩ : ∃ Q, Q = MQ below (qI D (w_Sta_dearOf cI a_r0 a_r0_figures a_r0_kinds v_r0_weights v_r0_goes v_r0_things v_r0_hampers v_r0_days v_r0_fields v_r0_done r0_figures r0_kinds) o A) ([.ref a_r0, .int x1] : List Value).toArray s 0 0 A := ⟨_, rfl⟩
  rw [← hQ]
  refine lv_iconst (v := 0) hx hb d_Sta_dearOf_0 (by decide) ?_
  refine lv_istore_n (lv' := [(2, .int 0), (0, .ref a_r0), (1, .int x1)]) hx hb d_Sta_dearOf_1 rfl hl (by decide) rfl (fun ls hl => ?_)
  refine lv_iconst (v := 0) hx hb d_Sta_dearOf_2 (by decide) ?_
  refine lv_istore_n (lv' := [(3, .int 0), (2, .int 0), (0, .ref a_r0), (1, .int x1)]) hx hb d_Sta_dearOf_3 rfl hl (by decide) rfl (fun ls hl => ?_)
  obtain ⟨ex_1, hw_1, hk_1⟩ := ob hr
  have hx_1 : ∀ (e_1 : (Int32)), e_1 = ex_1 → ∀ (H : Heap) (locs : List Loc) (ls : Array Slot), wd A s.heap D (w_Sta_dearOf cI a_r0 a_r0_figures a_r0_kinds v_r0_weights v_r0_goes v_r0_things v_r0_hampers v_r0_days v_r0_fields v_r0_done r0_figures r0_kinds) H locs → lv_has ls 4 [(2, .int e_1)] → W p l e (rmd 2) s m ([.ref a_r0, .int x1] : List Value).toArray below meth c H locs 0 0 Q (F0 m 42 ls []) := by
    intro e_1 hE H locs ls hW hl
    subst hE; have hr := hk_1
    refine lv_iload_n hx hb d_Sta_dearOf_42 rfl (lv_at hl 0 rfl) ?_
    obtain rfl := Option.some.inj hr
    rw [hQ]; exact k_iret C hret hW d_Sta_dearOf_43
  have hl_1 : ∀ (k : Nat) (y2_1 : Int32) (y3_1 : Int32), wh (fun (s : (Int32) × (Int32)) => F_Sta_dearOf_L4 r0_figures r0_kinds x1 s.1 s.2) k (y2_1, y3_1) = some ex_1 → ∀ (H : Heap) (locs : List Loc) (ls : Array Slot), wd A s.heap D (w_Sta_dearOf cI a_r0 a_r0_figures a_r0_kinds v_r0_weights v_r0_goes v_r0_things v_r0_hampers v_r0_days v_r0_fields v_r0_done r0_figures r0_kinds) H locs → lv_has ls 4 [(0, .ref a_r0), (1, .int x1), (2, .int y2_1), (3, .int y3_1)] → W p l e (rmd 2) s m ([.ref a_r0, .int x1] : List Value).toArray below meth c H locs 0 0 Q (F0 m 4 ls []) := by
    intro k
    induction k with
    | zero => intro y2_1 y3_1 hw; exact absurd hw wh_0
    | succ k ih_1 =>
      intro y2_1 y3_1 hw H locs ls hW hl
      obtain ⟨z_1, hr, hz1_1, hz2_1⟩ := wh_s hw
      have hr : F_Sta_dearOf_L4 r0_figures r0_kinds x1 y2_1 y3_1 = some z_1 := hr
      unfold F_Sta_dearOf_L4 at hr
      refine lv_iload_n hx hb d_Sta_dearOf_4 rfl (lv_at hl 3 rfl) ?_
      refine lv_bipush (v := 8) hx hb d_Sta_dearOf_5 (by decide) ?_
      refine lv_icmp_ge (tgt := 42) hx hb d_Sta_dearOf_7 (by decide) (fun c_2 => ?_) (fun c_2 => ?_)
      · replace hr := ip c_2 hr
        exact hx_1 _ (hz2_1 _ (Option.some.inj hr).symm) _ _ _ hW (lv_sub hl [2] rfl)
      · replace hr := iN c_2 hr
        refine lv_iload_n hx hb d_Sta_dearOf_10 rfl (lv_at hl 1 rfl) ?_
        refine lv_iload_n hx hb d_Sta_dearOf_11 rfl (lv_at hl 3 rfl) ?_
        obtain ⟨q_3, hc_3, hr⟩ := ob hr
        have ct_3 := C_H_holds l D cI cS x1 y3_1 q_3 hc_3
        refine k_goIp hA hW [] rfl rfl (k_runSN C hA hW mw_H_holds ms_H_holds (ct_3.2 _) [] rfl rfl qm_Sta_77 ⟨Nat.le_of_ble_eq_true rfl, Nat.le_of_ble_eq_true rfl, Nat.zero_le _, Nat.zero_le _⟩ rfl rfl (Nat.le_of_ble_eq_true rfl) hl.1 d_Sta_dearOf_12) (fun H locs hW => ?_)
        refine lv_if_eq (tgt := 36) hx hb d_Sta_dearOf_15 (by decide) (fun c_4 => ?_) (fun c_4 => ?_)
        · replace hr := ip c_4 hr
          refine lv_iinc (v := (y3_1 + 1)) (lv' := [(3, .int (y3_1 + 1)), (0, .ref a_r0), (1, .int x1), (2, .int y2_1)]) hx hb d_Sta_dearOf_36 hl (k := 3) rfl rfl (by decide) rfl (fun ls hl => ?_)
          refine lv_goto (tgt := 4) hx hb d_Sta_dearOf_39 (by decide) ?_
          exact ih_1 y2_1 (y3_1 + 1) (hz1_1 _ (Option.some.inj hr).symm) _ _ _ hW (lv_sub hl [1, 2, 3, 0] rfl)
        · replace hr := iN c_4 hr
          refine lv_iload_n hx hb d_Sta_dearOf_18 rfl (lv_at hl 2 rfl) ?_
          refine lv_aload_n hx hb d_Sta_dearOf_19 rfl (lv_at hl 0 rfl) ?_
          refine k_get i_Sta C hW 0 rfl rfl 1 (by decide) qf_Sta_15 rfl rfl d_Sta_dearOf_20 ?_
          refine lv_iload_n hx hb d_Sta_dearOf_23 rfl (lv_at hl 3 rfl) ?_
          obtain ⟨h_5, hr⟩ := ck_some hr
          refine k_iald C hW 2 rfl h_5 d_Sta_dearOf_24 ?_
          refine lv_aload_n hx hb d_Sta_dearOf_25 rfl (lv_at hl 0 rfl) ?_
          refine k_get i_Sta C hW 0 rfl rfl 2 (by decide) qf_Sta_18 rfl rfl d_Sta_dearOf_26 ?_
          refine lv_iload_n hx hb d_Sta_dearOf_29 rfl (lv_at hl 3 rfl) ?_
          obtain ⟨h_6, hr⟩ := ck_some hr
          refine k_iald C hW 1 rfl h_6 d_Sta_dearOf_30 ?_
          obtain ⟨q_7, hc_7, hr⟩ := ob hr
          have ct_7 := C_Kin_dear l D cI cS (r0_kinds (Int32.toNatClampNeg y3_1)) (r0_figures (Int32.toNatClampNeg y3_1)) q_7 hc_7
          refine k_goIp hA hW [] rfl rfl (k_runS C hA hW mw_Kin_dear ms_Kin_dear (ct_7.2 _) [] rfl rfl qm_Sta_88 ⟨Nat.le_of_ble_eq_true rfl, Nat.le_of_ble_eq_true rfl, Nat.zero_le _, Nat.zero_le _⟩ rfl rfl (Nat.le_of_ble_eq_true rfl) hl.1 d_Sta_dearOf_31) (fun H locs hW => ?_)
          refine lv_iadd hx hb d_Sta_dearOf_34 ?_
          refine lv_istore_n (lv' := [(2, .int (y2_1 + q_7)), (0, .ref a_r0), (1, .int x1), (3, .int y3_1)]) hx hb d_Sta_dearOf_35 rfl hl (by decide) rfl (fun ls hl => ?_)
          refine lv_iinc (v := (y3_1 + 1)) (lv' := [(3, .int (y3_1 + 1)), (2, .int (y2_1 + q_7)), (0, .ref a_r0), (1, .int x1)]) hx hb d_Sta_dearOf_36 hl (k := 3) rfl rfl (by decide) rfl (fun ls hl => ?_)
          refine lv_goto (tgt := 4) hx hb d_Sta_dearOf_39 (by decide) ?_
          exact ih_1 (y2_1 + q_7) (y3_1 + 1) (hz1_1 _ (Option.some.inj hr).symm) _ _ _ hW (lv_sub hl [2, 3, 1, 0] rfl)
  exact hl_1 _ 0 0 hw_1 _ _ _ hW (lv_sub hl [2, 3, 1, 0] rfl)
def w_Set_mostDear (cI : ClassId) (a_r0 : Nat) (a_r0_figures : Nat) (a_r0_goes : Nat) (a_r0_kinds : Nat) (v_r0_weights v_r0_hampers v_r0_days v_r0_fields v_r0_done : Value) (r0_things : Int32) (r0_figures : Nat → Int32) (r0_goes : Nat → Int32) (r0_kinds : Nat → Int32) : va_W := [(a_r0, .inr (1, [v_r0_weights, .ref a_r0_kinds, .ref a_r0_figures, .ref a_r0_goes, .int r0_things, v_r0_hampers, v_r0_days, v_r0_fields, v_r0_done])), (a_r0_figures, .inl (cI, 8, .inl r0_figures)), (a_r0_goes, .inl (cI, 8, .inl r0_goes)), (a_r0_kinds, .inl (cI, 8, .inl r0_kinds))]
def F_Set_mostDear_J37_5 (r0_goes : Nat → Int32) (y2_1 : Int32) (y3_1 : Int32) (x1 : Int32) (s0_5 : Int32) : Option (((Int32) × (Int32)) ⊕ ((Int32))) :=
  (if s0_5 = 0 then (some (.inl (y2_1, (y3_1 + 1)))) else ((F_Sta_couldBe r0_goes y3_1).bind (fun q_7 => (if q_7 = x1 then (some (.inl (y3_1, (y3_1 + 1)))) else (some (.inl (y2_1, (y3_1 + 1))))))))
def F_Set_mostDear_J32_9 (r0_goes : Nat → Int32) (y2_1 : Int32) (y3_1 : Int32) (x1 : Int32) : Option (((Int32) × (Int32)) ⊕ ((Int32))) :=
  (F_Set_mostDear_J37_5 r0_goes y2_1 y3_1 x1 1)
def F_Set_mostDear_L5 (r0_things : Int32) (r0_figures : Nat → Int32) (r0_goes : Nat → Int32) (r0_kinds : Nat → Int32) (x1 : Int32) (y2_1 : Int32) (y3_1 : Int32) : Option (((Int32) × (Int32)) ⊕ ((Int32))) :=
  ((F_Sta_allThings r0_things).bind (fun q_2 => (if q_2 < y3_1 then (some (.inr y2_1)) else (if y2_1 = (-9) then (F_Set_mostDear_J32_9 r0_goes y2_1 y3_1 x1) else ((F_Sta_dearOf r0_figures r0_kinds y3_1).bind (fun q_10 => ((F_Sta_dearOf r0_figures r0_kinds y2_1).bind (fun q_11 => (if q_10 ≤ q_11 then (F_Set_mostDear_J37_5 r0_goes y2_1 y3_1 x1 0) else (F_Set_mostDear_J32_9 r0_goes y2_1 y3_1 x1))))))))))
def F_Set_mostDear (r0_things : Int32) (r0_figures : Nat → Int32) (r0_goes : Nat → Int32) (r0_kinds : Nat → Int32) (x1 : Int32) : Option (Int32) :=
  ((wh (fun (s : (Int32) × (Int32)) => F_Set_mostDear_L5 r0_things r0_figures r0_goes r0_kinds x1 s.1 s.2) 400 (((-9) : Int32), (0 : Int32))).bind (fun e_1 => (some e_1)))
set_option maxHeartbeats 4000000 in
set_option maxRecDepth 100000 in
theorem C_Set_mostDear (l : Launch) (D : va_G) (cI cS : ClassId) (a_r0 : Nat) (a_r0_figures : Nat) (a_r0_goes : Nat) (a_r0_kinds : Nat) (v_r0_weights v_r0_hampers v_r0_days v_r0_fields v_r0_done : Value) (r0_things : Int32) (r0_figures : Nat → Int32) (r0_goes : Nat → Int32) (r0_kinds : Nat → Int32) (x1 : Int32) (o : Int32) (hr : F_Set_mostDear r0_things r0_figures r0_goes r0_kinds x1 = some o) : ctI l y_Set_mostDear (Cond.code y_Set_mostDear b_Set_mostDear 5 (some FieldType.int)) (rmd 3) D (kTy cI cS) [.ref a_r0, .int x1] (w_Set_mostDear cI a_r0 a_r0_figures a_r0_goes a_r0_kinds v_r0_weights v_r0_hampers v_r0_days v_r0_fields v_r0_done r0_things r0_figures r0_goes r0_kinds) (w_Set_mostDear cI a_r0 a_r0_figures a_r0_goes a_r0_kinds v_r0_weights v_r0_hampers v_r0_days v_r0_fields v_r0_done r0_things r0_figures r0_goes r0_kinds) o := by
  unfold F_Set_mostDear at hr
  refine ⟨rfl, fun sz => ct_of (w0 := (w_Set_mostDear cI a_r0 a_r0_figures a_r0_goes a_r0_kinds v_r0_weights v_r0_hampers v_r0_days v_r0_fields v_r0_done r0_things r0_figures r0_goes r0_kinds)) (Qc := fun A => qI D (w_Set_mostDear cI a_r0 a_r0_figures a_r0_goes a_r0_kinds v_r0_weights v_r0_hampers v_r0_days v_r0_fields v_r0_done r0_things r0_figures r0_goes r0_kinds) o A) rfl (Nat.le_of_ble_eq_true rfl) ?_ sz⟩
  intro p e s m below meth c A hA C hret ls hl hW
  have C : cx p s m ([.ref a_r0, .int x1] : List Value).toArray meth c b_Set_mostDear 5 R_Set D (kTy cI cS) (Cond.code y_Set_mostDear b_Set_mostDear 5 (some FieldType.int)) := C
  obtain ⟨hx, hb, hml, hown, hts, hK, hlk, hN⟩ := id C
  have hl : lv_has ls 5 [(0, .ref a_r0), (1, .int x1)] := hl
  obtain ⟨Q, hQ⟩ : ∃ Q, Q = MQ below (qI D (w_Set_mostDear cI a_r0 a_r0_figures a_r0_goes a_r0_kinds v_r0_weights v_r0_hampers v_r0_days v_r0_fields v_r0_done r0_things r0_figures r0_goes r0_kinds) o A) ([.ref a_r0, .int x1] : List Value).toArray s 0 0 A := ⟨_, rfl⟩
  rw [← hQ]
  refine lv_bipush (v := (-9)) hx hb d_Set_mostDear_0 (by decide) ?_
  refine lv_istore_n (lv' := [(2, .int (-9)), (0, .ref a_r0), (1, .int x1)]) hx hb d_Set_mostDear_2 rfl hl (by decide) rfl (fun ls hl => ?_)
  refine lv_iconst (v := 0) hx hb d_Set_mostDear_3 (by decide) ?_
  refine lv_istore_n (lv' := [(3, .int 0), (2, .int (-9)), (0, .ref a_r0), (1, .int x1)]) hx hb d_Set_mostDear_4 rfl hl (by decide) rfl (fun ls hl => ?_)
  obtain ⟨ex_1, hw_1, hk_1⟩ := ob hr
  have hx_1 : ∀ (e_1 : (Int32)), e_1 = ex_1 → ∀ (H : Heap) (locs : List Loc) (ls : Array Slot), wd A s.heap D (w_Set_mostDear cI a_r0 a_r0_figures a_r0_goes a_r0_kinds v_r0_weights v_r0_hampers v_r0_days v_r0_fields v_r0_done r0_things r0_figures r0_goes r0_kinds) H locs → lv_has ls 5 [(2, .int e_1)] → W p l e (rmd 3) s m ([.ref a_r0, .int x1] : List Value).toArray below meth c H locs 0 0 Q (F0 m 61 ls []) := by
    intro e_1 hE H locs ls hW hl
    subst hE; have hr := hk_1
    refine lv_iload_n hx hb d_Set_mostDear_61 rfl (lv_at hl 0 rfl) ?_
    obtain rfl := Option.some.inj hr
    rw [hQ]; exact k_iret C hret hW d_Set_mostDear_62
  have hl_1 : ∀ (k : Nat) (y2_1 : Int32) (y3_1 : Int32), wh (fun (s : (Int32) × (Int32)) => F_Set_mostDear_L5 r0_things r0_figures r0_goes r0_kinds x1 s.1 s.2) k (y2_1, y3_1) = some ex_1 → ∀ (H : Heap) (locs : List Loc) (ls : Array Slot), wd A s.heap D (w_Set_mostDear cI a_r0 a_r0_figures a_r0_goes a_r0_kinds v_r0_weights v_r0_hampers v_r0_days v_r0_fields v_r0_done r0_things r0_figures r0_goes r0_kinds) H locs → lv_has ls 5 [(0, .ref a_r0), (1, .int x1), (2, .int y2_1), (3, .int y3_1)] → W p l e (rmd 3) s m ([.ref a_r0, .int x1] : List Value).toArray below meth c H locs 0 0 Q (F0 m 5 ls []) := by
    intro k
    induction k with
    | zero => intro y2_1 y3_1 hw; exact absurd hw wh_0
    | succ k ih_1 =>
      intro y2_1 y3_1 hw H locs ls hW hl
      obtain ⟨z_1, hr, hz1_1, hz2_1⟩ := wh_s hw
      have hr : F_Set_mostDear_L5 r0_things r0_figures r0_goes r0_kinds x1 y2_1 y3_1 = some z_1 := hr
      unfold F_Set_mostDear_L5 at hr
      refine lv_iload_n hx hb d_Set_mostDear_5 rfl (lv_at hl 3 rfl) ?_
      refine lv_aload_n hx hb d_Set_mostDear_6 rfl (lv_at hl 0 rfl) ?_
      obtain ⟨q_2, hc_2, hr⟩ := ob hr
      have ct_2 := C_Sta_allThings l D cI cS a_r0 v_r0_weights (Value.ref a_r0_kinds) (Value.ref a_r0_figures) (Value.ref a_r0_goes) v_r0_hampers v_r0_days v_r0_fields v_r0_done r0_things q_2 hc_2
      refine k_goIp hA hW [0] rfl rfl (k_runV C hA hW mw_Sta_allThings mv_Sta_allThings (ct_2.2 _) [0] rfl rfl 0 rfl rfl qm_Set_9 ⟨Nat.le_of_ble_eq_true rfl, Nat.le_of_ble_eq_true rfl, Nat.zero_le _, Nat.zero_le _⟩ rfl rfl (Nat.le_of_ble_eq_true rfl) hl.1 d_Set_mostDear_7) (fun H locs hW => ?_)
      refine lv_icmp_gt (tgt := 61) hx hb d_Set_mostDear_10 (by decide) (fun c_3 => ?_) (fun c_3 => ?_)
      · replace hr := ip c_3 hr
        exact hx_1 _ (hz2_1 _ (Option.some.inj hr).symm) _ _ _ hW (lv_sub hl [2] rfl)
      · replace hr := iN c_3 hr
        refine lv_iload_n hx hb d_Set_mostDear_13 rfl (lv_at hl 2 rfl) ?_
        refine lv_bipush (v := (-9)) hx hb d_Set_mostDear_14 (by decide) ?_
        have hJ_5 : ∀ (s0_5 : Int32), F_Set_mostDear_J37_5 r0_goes y2_1 y3_1 x1 s0_5 = some z_1 → ∀ (H : Heap) (locs : List Loc) (ls : Array Slot), wd A s.heap D (w_Set_mostDear cI a_r0 a_r0_figures a_r0_goes a_r0_kinds v_r0_weights v_r0_hampers v_r0_days v_r0_fields v_r0_done r0_things r0_figures r0_goes r0_kinds) H locs → lv_has ls 5 [(0, .ref a_r0), (1, .int x1), (2, .int y2_1), (3, .int y3_1)] → W p l e (rmd 3) s m ([.ref a_r0, .int x1] : List Value).toArray below meth c H locs 0 0 Q (F0 m 37 ls [.int s0_5]) := by
          intro s0_5 hr H locs ls hW hl
          unfold F_Set_mostDear_J37_5 at hr
          refine lv_istore (lv' := [(4, .int s0_5), (0, .ref a_r0), (1, .int x1), (2, .int y2_1), (3, .int y3_1)]) hx hb d_Set_mostDear_37 hl (by decide) rfl (fun ls hl => ?_)
          refine lv_iload hx hb d_Set_mostDear_39 (lv_at hl 0 rfl) ?_
          refine lv_if_eq (tgt := 55) hx hb d_Set_mostDear_41 (by decide) (fun c_6 => ?_) (fun c_6 => ?_)
          · replace hr := ip c_6 hr
            refine lv_iinc (v := (y3_1 + 1)) (lv' := [(3, .int (y3_1 + 1)), (4, .int s0_5), (0, .ref a_r0), (1, .int x1), (2, .int y2_1)]) hx hb d_Set_mostDear_55 hl (k := 4) rfl rfl (by decide) rfl (fun ls hl => ?_)
            refine lv_goto (tgt := 5) hx hb d_Set_mostDear_58 (by decide) ?_
            exact ih_1 y2_1 (y3_1 + 1) (hz1_1 _ (Option.some.inj hr).symm) _ _ _ hW (lv_sub hl [2, 3, 4, 0] rfl)
          · replace hr := iN c_6 hr
            refine lv_aload_n hx hb d_Set_mostDear_44 rfl (lv_at hl 1 rfl) ?_
            refine lv_iload_n hx hb d_Set_mostDear_45 rfl (lv_at hl 4 rfl) ?_
            obtain ⟨q_7, hc_7, hr⟩ := ob hr
            have ct_7 := C_Sta_couldBe l D cI cS a_r0 a_r0_goes v_r0_weights (Value.ref a_r0_kinds) (Value.ref a_r0_figures) (Value.int r0_things) v_r0_hampers v_r0_days v_r0_fields v_r0_done r0_goes y3_1 q_7 hc_7
            refine k_goIp hA hW [0, 2] rfl rfl (k_runV C hA hW mw_Sta_couldBe mv_Sta_couldBe (ct_7.2 _) [0, 2] rfl rfl 0 rfl rfl qm_Set_21 ⟨Nat.le_of_ble_eq_true rfl, Nat.le_of_ble_eq_true rfl, Nat.zero_le _, Nat.zero_le _⟩ rfl rfl (Nat.le_of_ble_eq_true rfl) hl.1 d_Set_mostDear_46) (fun H locs hW => ?_)
            refine lv_iload_n hx hb d_Set_mostDear_49 rfl (lv_at hl 2 rfl) ?_
            refine lv_icmp_ne (tgt := 55) hx hb d_Set_mostDear_50 (by decide) (fun c_8 => ?_) (fun c_8 => ?_)
            · replace hr := iN c_8 hr
              refine lv_iinc (v := (y3_1 + 1)) (lv' := [(3, .int (y3_1 + 1)), (4, .int s0_5), (0, .ref a_r0), (1, .int x1), (2, .int y2_1)]) hx hb d_Set_mostDear_55 hl (k := 4) rfl rfl (by decide) rfl (fun ls hl => ?_)
              refine lv_goto (tgt := 5) hx hb d_Set_mostDear_58 (by decide) ?_
              exact ih_1 y2_1 (y3_1 + 1) (hz1_1 _ (Option.some.inj hr).symm) _ _ _ hW (lv_sub hl [2, 3, 4, 0] rfl)
            · replace hr := ip c_8 hr
              refine lv_iload_n hx hb d_Set_mostDear_53 rfl (lv_at hl 4 rfl) ?_
              refine lv_istore_n (lv' := [(2, .int y3_1), (4, .int s0_5), (0, .ref a_r0), (1, .int x1), (3, .int y3_1)]) hx hb d_Set_mostDear_54 rfl hl (by decide) rfl (fun ls hl => ?_)
              refine lv_iinc (v := (y3_1 + 1)) (lv' := [(3, .int (y3_1 + 1)), (2, .int y3_1), (4, .int s0_5), (0, .ref a_r0), (1, .int x1)]) hx hb d_Set_mostDear_55 hl (k := 4) rfl rfl (by decide) rfl (fun ls hl => ?_)
              refine lv_goto (tgt := 5) hx hb d_Set_mostDear_58 (by decide) ?_
              exact ih_1 y3_1 (y3_1 + 1) (hz1_1 _ (Option.some.inj hr).symm) _ _ _ hW (lv_sub hl [3, 4, 1, 0] rfl)
        have hJ_9 : ∀ (_ : Unit), F_Set_mostDear_J32_9 r0_goes y2_1 y3_1 x1 = some z_1 → ∀ (H : Heap) (locs : List Loc) (ls : Array Slot), wd A s.heap D (w_Set_mostDear cI a_r0 a_r0_figures a_r0_goes a_r0_kinds v_r0_weights v_r0_hampers v_r0_days v_r0_fields v_r0_done r0_things r0_figures r0_goes r0_kinds) H locs → lv_has ls 5 [(0, .ref a_r0), (1, .int x1), (2, .int y2_1), (3, .int y3_1)] → W p l e (rmd 3) s m ([.ref a_r0, .int x1] : List Value).toArray below meth c H locs 0 0 Q (F0 m 32 ls []) := by
          intro _ hr H locs ls hW hl
          unfold F_Set_mostDear_J32_9 at hr
          refine lv_iconst (v := 1) hx hb d_Set_mostDear_32 (by decide) ?_
          refine lv_goto (tgt := 37) hx hb d_Set_mostDear_33 (by decide) ?_
          exact hJ_5 1 hr _ _ _ hW (lv_sub hl [0, 1, 2, 3] rfl)
        refine lv_icmp_eq (tgt := 32) hx hb d_Set_mostDear_16 (by decide) (fun c_4 => ?_) (fun c_4 => ?_)
        · replace hr := ip c_4 hr
          exact hJ_9 () hr _ _ _ hW (lv_sub hl [0, 1, 2, 3] rfl)
        · replace hr := iN c_4 hr
          refine lv_aload_n hx hb d_Set_mostDear_19 rfl (lv_at hl 0 rfl) ?_
          refine lv_iload_n hx hb d_Set_mostDear_20 rfl (lv_at hl 3 rfl) ?_
          obtain ⟨q_10, hc_10, hr⟩ := ob hr
          have ct_10 := C_Sta_dearOf l D cI cS a_r0 a_r0_figures a_r0_kinds v_r0_weights (Value.ref a_r0_goes) (Value.int r0_things) v_r0_hampers v_r0_days v_r0_fields v_r0_done r0_figures r0_kinds y3_1 q_10 hc_10
          refine k_goIp hA hW [0, 1, 3] rfl rfl (k_runV C hA hW mw_Sta_dearOf mv_Sta_dearOf (ct_10.2 _) [0, 1, 3] rfl rfl 0 rfl rfl qm_Set_27 ⟨Nat.le_of_ble_eq_true rfl, Nat.le_of_ble_eq_true rfl, Nat.zero_le _, Nat.zero_le _⟩ rfl rfl (Nat.le_of_ble_eq_true rfl) hl.1 d_Set_mostDear_21) (fun H locs hW => ?_)
          refine lv_aload_n hx hb d_Set_mostDear_24 rfl (lv_at hl 0 rfl) ?_
          refine lv_iload_n hx hb d_Set_mostDear_25 rfl (lv_at hl 2 rfl) ?_
          obtain ⟨q_11, hc_11, hr⟩ := ob hr
          have ct_11 := C_Sta_dearOf l D cI cS a_r0 a_r0_figures a_r0_kinds v_r0_weights (Value.ref a_r0_goes) (Value.int r0_things) v_r0_hampers v_r0_days v_r0_fields v_r0_done r0_figures r0_kinds y2_1 q_11 hc_11
          refine k_goIp hA hW [0, 1, 3] rfl rfl (k_runV C hA hW mw_Sta_dearOf mv_Sta_dearOf (ct_11.2 _) [0, 1, 3] rfl rfl 0 rfl rfl qm_Set_27 ⟨Nat.le_of_ble_eq_true rfl, Nat.le_of_ble_eq_true rfl, Nat.zero_le _, Nat.zero_le _⟩ rfl rfl (Nat.le_of_ble_eq_true rfl) hl.1 d_Set_mostDear_26) (fun H locs hW => ?_)
          refine lv_icmp_le (tgt := 36) hx hb d_Set_mostDear_29 (by decide) (fun c_12 => ?_) (fun c_12 => ?_)
          · replace hr := ip c_12 hr
            refine lv_iconst (v := 0) hx hb d_Set_mostDear_36 (by decide) ?_
            exact hJ_5 0 hr _ _ _ hW (lv_sub hl [0, 1, 2, 3] rfl)
          · replace hr := iN c_12 hr
            exact hJ_9 () hr _ _ _ hW (lv_sub hl [0, 1, 2, 3] rfl)
  exact hl_1 _ (-9) 0 hw_1 _ _ _ hW (lv_sub hl [2, 3, 1, 0] rfl)
def w_Set_nearestTwo (cI : ClassId) (a_r0 : Nat) (a_r0_goes : Nat) (v_r0_weights v_r0_kinds v_r0_figures v_r0_hampers v_r0_days v_r0_fields v_r0_done : Value) (r0_things : Int32) (r0_goes : Nat → Int32) : va_W := [(a_r0, .inr (1, [v_r0_weights, v_r0_kinds, v_r0_figures, .ref a_r0_goes, .int r0_things, v_r0_hampers, v_r0_days, v_r0_fields, v_r0_done])), (a_r0_goes, .inl (cI, 8, .inl r0_goes))]
def F_Set_nearestTwo_L27 (r0_things : Int32) (r0_goes : Nat → Int32) (y3_1 : Int32) (y1_4 : Int32) (y2_4 : Int32) (y4_4 : Int32) : Option (((Int32) × (Int32) × (Int32)) ⊕ ((Int32) × (Int32))) :=
  (if (8 : Int32) ≤ y4_4 then (some (.inr (y1_4, y2_4))) else (if r0_things ≤ y4_4 then (some (.inr (y1_4, y2_4))) else (ck y3_1 8 (ck y4_4 8 ((F_Jint_bitCount ((r0_goes (Int32.toNatClampNeg y3_1)) &&& (r0_goes (Int32.toNatClampNeg y4_4)))).bind (fun q_9 => (if q_9 ≤ 0 then (some (.inl (y1_4, y2_4, (y4_4 + 1)))) else (if y2_4 ≤ q_9 then (some (.inl (y1_4, y2_4, (y4_4 + 1)))) else (some (.inl ((((10 : Int32) * y3_1) + y4_4), q_9, (y4_4 + 1))))))))))))
def F_Set_nearestTwo_L8 (r0_things : Int32) (r0_goes : Nat → Int32) (y1_1 : Int32) (y2_1 : Int32) (y3_1 : Int32) : Option (((Int32) × (Int32) × (Int32)) ⊕ ((Int32))) :=
  (if (8 : Int32) ≤ y3_1 then (some (.inr y1_1)) else (if r0_things ≤ y3_1 then (some (.inr y1_1)) else ((wh (fun (s : (Int32) × (Int32) × (Int32)) => F_Set_nearestTwo_L27 r0_things r0_goes y3_1 s.1 s.2.1 s.2.2) 400 (y1_1, y2_1, (y3_1 + 1))).bind (fun e_4 => (some (.inl (e_4.1, e_4.2, (y3_1 + 1))))))))
def F_Set_nearestTwo (r0_things : Int32) (r0_goes : Nat → Int32) : Option (Int32) :=
  ((wh (fun (s : (Int32) × (Int32) × (Int32)) => F_Set_nearestTwo_L8 r0_things r0_goes s.1 s.2.1 s.2.2) 400 (((-9) : Int32), (7 : Int32), (0 : Int32))).bind (fun e_1 => (some e_1)))
set_option maxHeartbeats 4000000 in
set_option maxRecDepth 100000 in
theorem C_Set_nearestTwo (l : Launch) (D : va_G) (cI cS : ClassId) (a_r0 : Nat) (a_r0_goes : Nat) (v_r0_weights v_r0_kinds v_r0_figures v_r0_hampers v_r0_days v_r0_fields v_r0_done : Value) (r0_things : Int32) (r0_goes : Nat → Int32) (o : Int32) (hr : F_Set_nearestTwo r0_things r0_goes = some o) : ctI l y_Set_nearestTwo (Cond.code y_Set_nearestTwo b_Set_nearestTwo 6 (some FieldType.int)) (rmd 1) D (kTy cI cS) [.ref a_r0] (w_Set_nearestTwo cI a_r0 a_r0_goes v_r0_weights v_r0_kinds v_r0_figures v_r0_hampers v_r0_days v_r0_fields v_r0_done r0_things r0_goes) (w_Set_nearestTwo cI a_r0 a_r0_goes v_r0_weights v_r0_kinds v_r0_figures v_r0_hampers v_r0_days v_r0_fields v_r0_done r0_things r0_goes) o := by
  unfold F_Set_nearestTwo at hr
  refine ⟨rfl, fun sz => ct_of (w0 := (w_Set_nearestTwo cI a_r0 a_r0_goes v_r0_weights v_r0_kinds v_r0_figures v_r0_hampers v_r0_days v_r0_fields v_r0_done r0_things r0_goes)) (Qc := fun A => qI D (w_Set_nearestTwo cI a_r0 a_r0_goes v_r0_weights v_r0_kinds v_r0_figures v_r0_hampers v_r0_days v_r0_fields v_r0_done r0_things r0_goes) o A) rfl (Nat.le_of_ble_eq_true rfl) ?_ sz⟩
  intro p e s m below meth c A hA C hret ls hl hW
  have C : cx p s m ([.ref a_r0] : List Value).toArray meth c b_Set_nearestTwo 6 R_Set D (kTy cI cS) (Cond.code y_Set_nearestTwo b_Set_nearestTwo 6 (some FieldType.int)) := C
  obtain ⟨hx, hb, hml, hown, hts, hK, hlk, hN⟩ := id C
  have hl : lv_has ls 6 [(0, .ref a_r0)] := hl
  obtain ⟨Q, hQ⟩ : ∃ Q, Q = MQ below (qI D (w_Set_nearestTwo cI a_r0 a_r0_goes v_r0_weights v_r0_kinds v_r0_figures v_r0_hampers v_r0_days v_r0_fields v_r0_done r0_things r0_goes) o A) ([.ref a_r0] : List Value).toArray s 0 0 A := ⟨_, rfl⟩
  rw [← hQ]
  refine lv_bipush (v := (-9)) hx hb d_Set_nearestTwo_0 (by decide) ?_
  refine lv_istore_n (lv' := [(1, .int (-9)), (0, .ref a_r0)]) hx hb d_Set_nearestTwo_2 rfl hl (by decide) rfl (fun ls hl => ?_)
  refine lv_bipush (v := 7) hx hb d_Set_nearestTwo_3 (by decide) ?_
  refine lv_istore_n (lv' := [(2, .int 7), (1, .int (-9)), (0, .ref a_r0)]) hx hb d_Set_nearestTwo_5 rfl hl (by decide) rfl (fun ls hl => ?_)
  refine lv_iconst (v := 0) hx hb d_Set_nearestTwo_6 (by decide) ?_
  refine lv_istore_n (lv' := [(3, .int 0), (2, .int 7), (1, .int (-9)), (0, .ref a_r0)]) hx hb d_Set_nearestTwo_7 rfl hl (by decide) rfl (fun ls hl => ?_)
  obtain ⟨ex_1, hw_1, hk_1⟩ := ob hr
  have hx_1 : ∀ (e_1 : (Int32)), e_1 = ex_1 → ∀ (H : Heap) (locs : List Loc) (ls : Array Slot), wd A s.heap D (w_Set_nearestTwo cI a_r0 a_r0_goes v_r0_weights v_r0_kinds v_r0_figures v_r0_hampers v_r0_days v_r0_fields v_r0_done r0_things r0_goes) H locs → lv_has ls 6 [(1, .int e_1)] → W p l e (rmd 1) s m ([.ref a_r0] : List Value).toArray below meth c H locs 0 0 Q (F0 m 96 ls []) := by
    intro e_1 hE H locs ls hW hl
    subst hE; have hr := hk_1
    refine lv_iload_n hx hb d_Set_nearestTwo_96 rfl (lv_at hl 0 rfl) ?_
    obtain rfl := Option.some.inj hr
    rw [hQ]; exact k_iret C hret hW d_Set_nearestTwo_97
  have hl_1 : ∀ (k : Nat) (y1_1 : Int32) (y2_1 : Int32) (y3_1 : Int32), wh (fun (s : (Int32) × (Int32) × (Int32)) => F_Set_nearestTwo_L8 r0_things r0_goes s.1 s.2.1 s.2.2) k (y1_1, y2_1, y3_1) = some ex_1 → ∀ (H : Heap) (locs : List Loc) (ls : Array Slot), wd A s.heap D (w_Set_nearestTwo cI a_r0 a_r0_goes v_r0_weights v_r0_kinds v_r0_figures v_r0_hampers v_r0_days v_r0_fields v_r0_done r0_things r0_goes) H locs → lv_has ls 6 [(0, .ref a_r0), (1, .int y1_1), (2, .int y2_1), (3, .int y3_1)] → W p l e (rmd 1) s m ([.ref a_r0] : List Value).toArray below meth c H locs 0 0 Q (F0 m 8 ls []) := by
    intro k
    induction k with
    | zero => intro y1_1 y2_1 y3_1 hw; exact absurd hw wh_0
    | succ k ih_1 =>
      intro y1_1 y2_1 y3_1 hw H locs ls hW hl
      obtain ⟨z_1, hr, hz1_1, hz2_1⟩ := wh_s hw
      have hr : F_Set_nearestTwo_L8 r0_things r0_goes y1_1 y2_1 y3_1 = some z_1 := hr
      unfold F_Set_nearestTwo_L8 at hr
      refine lv_iload_n hx hb d_Set_nearestTwo_8 rfl (lv_at hl 3 rfl) ?_
      refine lv_bipush (v := 8) hx hb d_Set_nearestTwo_9 (by decide) ?_
      refine lv_icmp_ge (tgt := 96) hx hb d_Set_nearestTwo_11 (by decide) (fun c_2 => ?_) (fun c_2 => ?_)
      · replace hr := ip c_2 hr
        exact hx_1 _ (hz2_1 _ (Option.some.inj hr).symm) _ _ _ hW (lv_sub hl [1] rfl)
      · replace hr := iN c_2 hr
        refine lv_iload_n hx hb d_Set_nearestTwo_14 rfl (lv_at hl 3 rfl) ?_
        refine lv_aload_n hx hb d_Set_nearestTwo_15 rfl (lv_at hl 0 rfl) ?_
        refine k_getN i_Sta C hW 0 rfl rfl 4 (by decide) qf_Set_35 rfl rfl d_Set_nearestTwo_16 ?_
        refine lv_icmp_ge (tgt := 96) hx hb d_Set_nearestTwo_19 (by decide) (fun c_3 => ?_) (fun c_3 => ?_)
        · replace hr := ip c_3 hr
          exact hx_1 _ (hz2_1 _ (Option.some.inj hr).symm) _ _ _ hW (lv_sub hl [1] rfl)
        · replace hr := iN c_3 hr
          refine lv_iload_n hx hb d_Set_nearestTwo_22 rfl (lv_at hl 3 rfl) ?_
          refine lv_iconst (v := 1) hx hb d_Set_nearestTwo_23 (by decide) ?_
          refine lv_iadd hx hb d_Set_nearestTwo_24 ?_
          refine lv_istore (lv' := [(4, .int (y3_1 + 1)), (0, .ref a_r0), (1, .int y1_1), (2, .int y2_1), (3, .int y3_1)]) hx hb d_Set_nearestTwo_25 hl (by decide) rfl (fun ls hl => ?_)
          obtain ⟨ex_4, hw_4, hk_4⟩ := ob hr
          have hx_4 : ∀ (e_4 : (Int32) × (Int32)), e_4 = ex_4 → ∀ (H : Heap) (locs : List Loc) (ls : Array Slot), wd A s.heap D (w_Set_nearestTwo cI a_r0 a_r0_goes v_r0_weights v_r0_kinds v_r0_figures v_r0_hampers v_r0_days v_r0_fields v_r0_done r0_things r0_goes) H locs → lv_has ls 6 [(0, .ref a_r0), (3, .int y3_1), (1, .int e_4.1), (2, .int e_4.2)] → W p l e (rmd 1) s m ([.ref a_r0] : List Value).toArray below meth c H locs 0 0 Q (F0 m 90 ls []) := by
            intro e_4 hE H locs ls hW hl
            subst hE; have hr := hk_4
            refine lv_iinc (v := (y3_1 + 1)) (lv' := [(3, .int (y3_1 + 1)), (0, .ref a_r0), (1, .int e_4.1), (2, .int e_4.2)]) hx hb d_Set_nearestTwo_90 hl (k := 1) rfl rfl (by decide) rfl (fun ls hl => ?_)
            refine lv_goto (tgt := 8) hx hb d_Set_nearestTwo_93 (by decide) ?_
            exact ih_1 e_4.1 e_4.2 (y3_1 + 1) (hz1_1 _ (Option.some.inj hr).symm) _ _ _ hW (lv_sub hl [1, 2, 3, 0] rfl)
          have hl_4 : ∀ (k : Nat) (y1_4 : Int32) (y2_4 : Int32) (y4_4 : Int32), wh (fun (s : (Int32) × (Int32) × (Int32)) => F_Set_nearestTwo_L27 r0_things r0_goes y3_1 s.1 s.2.1 s.2.2) k (y1_4, y2_4, y4_4) = some ex_4 → ∀ (H : Heap) (locs : List Loc) (ls : Array Slot), wd A s.heap D (w_Set_nearestTwo cI a_r0 a_r0_goes v_r0_weights v_r0_kinds v_r0_figures v_r0_hampers v_r0_days v_r0_fields v_r0_done r0_things r0_goes) H locs → lv_has ls 6 [(0, .ref a_r0), (3, .int y3_1), (1, .int y1_4), (2, .int y2_4), (4, .int y4_4)] → W p l e (rmd 1) s m ([.ref a_r0] : List Value).toArray below meth c H locs 0 0 Q (F0 m 27 ls []) := by
            intro k
            induction k with
            | zero => intro y1_4 y2_4 y4_4 hw; exact absurd hw wh_0
            | succ k ih_4 =>
              intro y1_4 y2_4 y4_4 hw H locs ls hW hl
              obtain ⟨z_4, hr, hz1_4, hz2_4⟩ := wh_s hw
              have hr : F_Set_nearestTwo_L27 r0_things r0_goes y3_1 y1_4 y2_4 y4_4 = some z_4 := hr
              unfold F_Set_nearestTwo_L27 at hr
              refine lv_iload hx hb d_Set_nearestTwo_27 (lv_at hl 4 rfl) ?_
              refine lv_bipush (v := 8) hx hb d_Set_nearestTwo_29 (by decide) ?_
              refine lv_icmp_ge (tgt := 90) hx hb d_Set_nearestTwo_31 (by decide) (fun c_5 => ?_) (fun c_5 => ?_)
              · replace hr := ip c_5 hr
                exact hx_4 _ (hz2_4 _ (Option.some.inj hr).symm) _ _ _ hW (lv_sub hl [0, 1, 2, 3] rfl)
              · replace hr := iN c_5 hr
                refine lv_iload hx hb d_Set_nearestTwo_34 (lv_at hl 4 rfl) ?_
                refine lv_aload_n hx hb d_Set_nearestTwo_36 rfl (lv_at hl 0 rfl) ?_
                refine k_getN i_Sta C hW 0 rfl rfl 4 (by decide) qf_Set_35 rfl rfl d_Set_nearestTwo_37 ?_
                refine lv_icmp_ge (tgt := 90) hx hb d_Set_nearestTwo_40 (by decide) (fun c_6 => ?_) (fun c_6 => ?_)
                · replace hr := ip c_6 hr
                  exact hx_4 _ (hz2_4 _ (Option.some.inj hr).symm) _ _ _ hW (lv_sub hl [0, 1, 2, 3] rfl)
                · replace hr := iN c_6 hr
                  refine lv_aload_n hx hb d_Set_nearestTwo_43 rfl (lv_at hl 0 rfl) ?_
                  refine k_getN i_Sta C hW 0 rfl rfl 3 (by decide) qf_Set_39 rfl rfl d_Set_nearestTwo_44 ?_
                  refine lv_iload_n hx hb d_Set_nearestTwo_47 rfl (lv_at hl 1 rfl) ?_
                  obtain ⟨h_7, hr⟩ := ck_some hr
                  refine k_iald C hW 1 rfl h_7 d_Set_nearestTwo_48 ?_
                  refine lv_aload_n hx hb d_Set_nearestTwo_49 rfl (lv_at hl 0 rfl) ?_
                  refine k_getN i_Sta C hW 0 rfl rfl 3 (by decide) qf_Set_39 rfl rfl d_Set_nearestTwo_50 ?_
                  refine lv_iload hx hb d_Set_nearestTwo_53 (lv_at hl 4 rfl) ?_
                  obtain ⟨h_8, hr⟩ := ck_some hr
                  refine k_iald C hW 1 rfl h_8 d_Set_nearestTwo_55 ?_
                  refine lv_iand hx hb d_Set_nearestTwo_56 ?_
                  obtain ⟨q_9, hc_9, hr⟩ := ob hr
                  have ct_9 := C_Jint_bitCount l D cI cS ((r0_goes (Int32.toNatClampNeg y3_1)) &&& (r0_goes (Int32.toNatClampNeg y4_4))) q_9 hc_9
                  refine k_goIp hA hW [] rfl rfl (k_runS C hA hW mw_Jint_bitCount ms_Jint_bitCount (ct_9.2 _) [] rfl rfl qm_Set_15 ⟨Nat.le_of_ble_eq_true rfl, Nat.le_of_ble_eq_true rfl, Nat.zero_le _, Nat.zero_le _⟩ rfl rfl (Nat.le_of_ble_eq_true rfl) hl.1 d_Set_nearestTwo_57) (fun H locs hW => ?_)
                  refine lv_istore (lv' := [(5, .int q_9), (0, .ref a_r0), (3, .int y3_1), (1, .int y1_4), (2, .int y2_4), (4, .int y4_4)]) hx hb d_Set_nearestTwo_60 hl (by decide) rfl (fun ls hl => ?_)
                  refine lv_iload hx hb d_Set_nearestTwo_62 (lv_at hl 0 rfl) ?_
                  refine lv_if_le (tgt := 84) hx hb d_Set_nearestTwo_64 (by decide) (fun c_10 => ?_) (fun c_10 => ?_)
                  · replace hr := ip c_10 hr
                    refine lv_iinc (v := (y4_4 + 1)) (lv' := [(4, .int (y4_4 + 1)), (5, .int q_9), (0, .ref a_r0), (3, .int y3_1), (1, .int y1_4), (2, .int y2_4)]) hx hb d_Set_nearestTwo_84 hl (k := 5) rfl rfl (by decide) rfl (fun ls hl => ?_)
                    refine lv_goto (tgt := 27) hx hb d_Set_nearestTwo_87 (by decide) ?_
                    exact ih_4 y1_4 y2_4 (y4_4 + 1) (hz1_4 _ (Option.some.inj hr).symm) _ _ _ hW (lv_sub hl [2, 3, 4, 5, 0] rfl)
                  · replace hr := iN c_10 hr
                    refine lv_iload hx hb d_Set_nearestTwo_67 (lv_at hl 0 rfl) ?_
                    refine lv_iload_n hx hb d_Set_nearestTwo_69 rfl (lv_at hl 4 rfl) ?_
                    refine lv_icmp_ge (tgt := 84) hx hb d_Set_nearestTwo_70 (by decide) (fun c_11 => ?_) (fun c_11 => ?_)
                    · replace hr := ip c_11 hr
                      refine lv_iinc (v := (y4_4 + 1)) (lv' := [(4, .int (y4_4 + 1)), (5, .int q_9), (0, .ref a_r0), (3, .int y3_1), (1, .int y1_4), (2, .int y2_4)]) hx hb d_Set_nearestTwo_84 hl (k := 5) rfl rfl (by decide) rfl (fun ls hl => ?_)
                      refine lv_goto (tgt := 27) hx hb d_Set_nearestTwo_87 (by decide) ?_
                      exact ih_4 y1_4 y2_4 (y4_4 + 1) (hz1_4 _ (Option.some.inj hr).symm) _ _ _ hW (lv_sub hl [2, 3, 4, 5, 0] rfl)
                    · replace hr := iN c_11 hr
                      refine lv_bipush (v := 10) hx hb d_Set_nearestTwo_73 (by decide) ?_
                      refine lv_iload_n hx hb d_Set_nearestTwo_75 rfl (lv_at hl 2 rfl) ?_
                      refine lv_imul hx hb d_Set_nearestTwo_76 ?_
                      refine lv_iload hx hb d_Set_nearestTwo_77 (lv_at hl 5 rfl) ?_
                      refine lv_iadd hx hb d_Set_nearestTwo_79 ?_
                      refine lv_istore_n (lv' := [(1, .int (((10 : Int32) * y3_1) + y4_4)), (5, .int q_9), (0, .ref a_r0), (3, .int y3_1), (2, .int y2_4), (4, .int y4_4)]) hx hb d_Set_nearestTwo_80 rfl hl (by decide) rfl (fun ls hl => ?_)
                      refine lv_iload hx hb d_Set_nearestTwo_81 (lv_at hl 1 rfl) ?_
                      refine lv_istore_n (lv' := [(2, .int q_9), (1, .int (((10 : Int32) * y3_1) + y4_4)), (5, .int q_9), (0, .ref a_r0), (3, .int y3_1), (4, .int y4_4)]) hx hb d_Set_nearestTwo_83 rfl hl (by decide) rfl (fun ls hl => ?_)
                      refine lv_iinc (v := (y4_4 + 1)) (lv' := [(4, .int (y4_4 + 1)), (2, .int q_9), (1, .int (((10 : Int32) * y3_1) + y4_4)), (5, .int q_9), (0, .ref a_r0), (3, .int y3_1)]) hx hb d_Set_nearestTwo_84 hl (k := 5) rfl rfl (by decide) rfl (fun ls hl => ?_)
                      refine lv_goto (tgt := 27) hx hb d_Set_nearestTwo_87 (by decide) ?_
                      exact ih_4 (((10 : Int32) * y3_1) + y4_4) q_9 (y4_4 + 1) (hz1_4 _ (Option.some.inj hr).symm) _ _ _ hW (lv_sub hl [4, 5, 2, 1, 0] rfl)
          exact hl_4 _ y1_1 y2_1 (y3_1 + 1) hw_4 _ _ _ hW (lv_sub hl [1, 4, 2, 3, 0] rfl)
  exact hl_1 _ (-9) 7 0 hw_1 _ _ _ hW (lv_sub hl [3, 2, 1, 0] rfl)
def w_Set_unlikeCodes (cI : ClassId) (a_r0 : Nat) (a_r0_goes : Nat) (v_r0_weights v_r0_kinds v_r0_figures v_r0_hampers v_r0_days v_r0_fields v_r0_done : Value) (r0_things : Int32) (r0_goes : Nat → Int32) : va_W := [(a_r0, .inr (1, [v_r0_weights, v_r0_kinds, v_r0_figures, .ref a_r0_goes, .int r0_things, v_r0_hampers, v_r0_days, v_r0_fields, v_r0_done])), (a_r0_goes, .inl (cI, 8, .inl r0_goes))]
def F_Set_unlikeCodes_L4 (r0_things : Int32) (r0_goes : Nat → Int32) (y1_1 : Int64) (y3_1 : Int32) : Option (((Int64) × (Int32)) ⊕ ((Int64))) :=
  ((F_Sta_allThings r0_things).bind (fun q_2 => (if q_2 < y3_1 then (some (.inr y1_1)) else ((F_Sta_couldBe r0_goes y3_1).bind (fun q_4 => (some (.inl ((y1_1 ||| ((1 : Int64) <<< (Int32.toInt64 q_4 &&& 63))), (y3_1 + 1)))))))))
def F_Set_unlikeCodes (r0_things : Int32) (r0_goes : Nat → Int32) : Option (Int32) :=
  ((wh (fun (s : (Int64) × (Int32)) => F_Set_unlikeCodes_L4 r0_things r0_goes s.1 s.2) 400 ((0 : Int64), (0 : Int32))).bind (fun e_1 => ((F_Jlong_bitCount e_1).bind (fun q_5 => (some q_5)))))
set_option maxHeartbeats 4000000 in
set_option maxRecDepth 100000 in
theorem C_Set_unlikeCodes (l : Launch) (D : va_G) (cI cS : ClassId) (a_r0 : Nat) (a_r0_goes : Nat) (v_r0_weights v_r0_kinds v_r0_figures v_r0_hampers v_r0_days v_r0_fields v_r0_done : Value) (r0_things : Int32) (r0_goes : Nat → Int32) (o : Int32) (hr : F_Set_unlikeCodes r0_things r0_goes = some o) : ctI l y_Set_unlikeCodes (Cond.code y_Set_unlikeCodes b_Set_unlikeCodes 4 (some FieldType.int)) (rmd 2) D (kTy cI cS) [.ref a_r0] (w_Set_unlikeCodes cI a_r0 a_r0_goes v_r0_weights v_r0_kinds v_r0_figures v_r0_hampers v_r0_days v_r0_fields v_r0_done r0_things r0_goes) (w_Set_unlikeCodes cI a_r0 a_r0_goes v_r0_weights v_r0_kinds v_r0_figures v_r0_hampers v_r0_days v_r0_fields v_r0_done r0_things r0_goes) o := by
  unfold F_Set_unlikeCodes at hr
  refine ⟨rfl, fun sz => ct_of (w0 := (w_Set_unlikeCodes cI a_r0 a_r0_goes v_r0_weights v_r0_kinds v_r0_figures v_r0_hampers v_r0_days v_r0_fields v_r0_done r0_things r0_goes)) (Qc := fun A => qI D (w_Set_unlikeCodes cI a_r0 a_r0_goes v_r0_weights v_r0_kinds v_r0_figures v_r0_hampers v_r0_days v_r0_fields v_r0_done r0_things r0_goes) o A) rfl (Nat.le_of_ble_eq_true rfl) ?_ sz⟩
  intro p e s m below meth c A hA C hret ls hl hW
  have C : cx p s m ([.ref a_r0] : List Value).toArray meth c b_Set_unlikeCodes 4 R_Set D (kTy cI cS) (Cond.code y_Set_unlikeCodes b_Set_unlikeCodes 4 (some FieldType.int)) := C
  obtain ⟨hx, hb, hml, hown, hts, hK, hlk, hN⟩ := id C
  have hl : lv_has ls 4 [(0, .ref a_r0)] := hl
  obtain ⟨Q, hQ⟩ : ∃ Q, Q = MQ below (qI D (w_Set_unlikeCodes cI a_r0 a_r0_goes v_r0_weights v_r0_kinds v_r0_figures v_r0_hampers v_r0_days v_r0_fields v_r0_done r0_things r0_goes) o A) ([.ref a_r0] : List Value).toArray s 0 0 A := ⟨_, rfl⟩
  rw [← hQ]
  refine lv_lconst (v := 0) hx hb d_Set_unlikeCodes_0 (by decide) ?_
  refine lv_lstore_n (lv' := [(1, .long 0), (0, .ref a_r0)]) hx hb d_Set_unlikeCodes_1 rfl hl (by decide) rfl (fun ls hl => ?_)
  refine lv_iconst (v := 0) hx hb d_Set_unlikeCodes_2 (by decide) ?_
  refine lv_istore_n (lv' := [(3, .int 0), (1, .long 0), (0, .ref a_r0)]) hx hb d_Set_unlikeCodes_3 rfl hl (by decide) rfl (fun ls hl => ?_)
  obtain ⟨ex_1, hw_1, hk_1⟩ := ob hr
  have hx_1 : ∀ (e_1 : (Int64)), e_1 = ex_1 → ∀ (H : Heap) (locs : List Loc) (ls : Array Slot), wd A s.heap D (w_Set_unlikeCodes cI a_r0 a_r0_goes v_r0_weights v_r0_kinds v_r0_figures v_r0_hampers v_r0_days v_r0_fields v_r0_done r0_things r0_goes) H locs → lv_has ls 4 [(1, .long e_1)] → W p l e (rmd 2) s m ([.ref a_r0] : List Value).toArray below meth c H locs 0 0 Q (F0 m 28 ls []) := by
    intro e_1 hE H locs ls hW hl
    subst hE; have hr := hk_1
    refine lv_lload_n hx hb d_Set_unlikeCodes_28 rfl (lv_at hl 0 rfl) ?_
    obtain ⟨q_5, hc_5, hr⟩ := ob hr
    have ct_5 := C_Jlong_bitCount l D cI cS e_1 q_5 hc_5
    refine k_goIp hA hW [] rfl rfl (k_runS C hA hW mw_Jlong_bitCount ms_Jlong_bitCount (ct_5.2 _) [] rfl rfl qm_Set_30 ⟨Nat.le_of_ble_eq_true rfl, Nat.le_of_ble_eq_true rfl, Nat.zero_le _, Nat.zero_le _⟩ rfl rfl (Nat.le_of_ble_eq_true rfl) hl.1 d_Set_unlikeCodes_29) (fun H locs hW => ?_)
    obtain rfl := Option.some.inj hr
    rw [hQ]; exact k_iret C hret hW d_Set_unlikeCodes_32
  have hl_1 : ∀ (k : Nat) (y1_1 : Int64) (y3_1 : Int32), wh (fun (s : (Int64) × (Int32)) => F_Set_unlikeCodes_L4 r0_things r0_goes s.1 s.2) k (y1_1, y3_1) = some ex_1 → ∀ (H : Heap) (locs : List Loc) (ls : Array Slot), wd A s.heap D (w_Set_unlikeCodes cI a_r0 a_r0_goes v_r0_weights v_r0_kinds v_r0_figures v_r0_hampers v_r0_days v_r0_fields v_r0_done r0_things r0_goes) H locs → lv_has ls 4 [(0, .ref a_r0), (1, .long y1_1), (3, .int y3_1)] → W p l e (rmd 2) s m ([.ref a_r0] : List Value).toArray below meth c H locs 0 0 Q (F0 m 4 ls []) := by
    intro k
    induction k with
    | zero => intro y1_1 y3_1 hw; exact absurd hw wh_0
    | succ k ih_1 =>
      intro y1_1 y3_1 hw H locs ls hW hl
      obtain ⟨z_1, hr, hz1_1, hz2_1⟩ := wh_s hw
      have hr : F_Set_unlikeCodes_L4 r0_things r0_goes y1_1 y3_1 = some z_1 := hr
      unfold F_Set_unlikeCodes_L4 at hr
      refine lv_iload_n hx hb d_Set_unlikeCodes_4 rfl (lv_at hl 2 rfl) ?_
      refine lv_aload_n hx hb d_Set_unlikeCodes_5 rfl (lv_at hl 0 rfl) ?_
      obtain ⟨q_2, hc_2, hr⟩ := ob hr
      have ct_2 := C_Sta_allThings l D cI cS a_r0 v_r0_weights v_r0_kinds v_r0_figures (Value.ref a_r0_goes) v_r0_hampers v_r0_days v_r0_fields v_r0_done r0_things q_2 hc_2
      refine k_goIp hA hW [0] rfl rfl (k_runV C hA hW mw_Sta_allThings mv_Sta_allThings (ct_2.2 _) [0] rfl rfl 0 rfl rfl qm_Set_9 ⟨Nat.le_of_ble_eq_true rfl, Nat.le_of_ble_eq_true rfl, Nat.zero_le _, Nat.zero_le _⟩ rfl rfl (Nat.le_of_ble_eq_true rfl) hl.1 d_Set_unlikeCodes_6) (fun H locs hW => ?_)
      refine lv_icmp_gt (tgt := 28) hx hb d_Set_unlikeCodes_9 (by decide) (fun c_3 => ?_) (fun c_3 => ?_)
      · replace hr := ip c_3 hr
        exact hx_1 _ (hz2_1 _ (Option.some.inj hr).symm) _ _ _ hW (lv_sub hl [1] rfl)
      · replace hr := iN c_3 hr
        refine lv_lload_n hx hb d_Set_unlikeCodes_12 rfl (lv_at hl 1 rfl) ?_
        refine lv_lconst (v := 1) hx hb d_Set_unlikeCodes_13 (by decide) ?_
        refine lv_aload_n hx hb d_Set_unlikeCodes_14 rfl (lv_at hl 0 rfl) ?_
        refine lv_iload_n hx hb d_Set_unlikeCodes_15 rfl (lv_at hl 2 rfl) ?_
        obtain ⟨q_4, hc_4, hr⟩ := ob hr
        have ct_4 := C_Sta_couldBe l D cI cS a_r0 a_r0_goes v_r0_weights v_r0_kinds v_r0_figures (Value.int r0_things) v_r0_hampers v_r0_days v_r0_fields v_r0_done r0_goes y3_1 q_4 hc_4
        refine k_goIp hA hW [0, 1] rfl rfl (k_runV C hA hW mw_Sta_couldBe mv_Sta_couldBe (ct_4.2 _) [0, 1] rfl rfl 0 rfl rfl qm_Set_21 ⟨Nat.le_of_ble_eq_true rfl, Nat.le_of_ble_eq_true rfl, Nat.zero_le _, Nat.zero_le _⟩ rfl rfl (Nat.le_of_ble_eq_true rfl) hl.1 d_Set_unlikeCodes_16) (fun H locs hW => ?_)
        refine lv_lshl hx hb d_Set_unlikeCodes_19 rfl ?_
        refine lv_lor hx hb d_Set_unlikeCodes_20 ?_
        refine lv_lstore_n (lv' := [(1, .long (y1_1 ||| ((1 : Int64) <<< (Int32.toInt64 q_4 &&& 63)))), (0, .ref a_r0), (3, .int y3_1)]) hx hb d_Set_unlikeCodes_21 rfl hl (by decide) rfl (fun ls hl => ?_)
        refine lv_iinc (v := (y3_1 + 1)) (lv' := [(3, .int (y3_1 + 1)), (1, .long (y1_1 ||| ((1 : Int64) <<< (Int32.toInt64 q_4 &&& 63)))), (0, .ref a_r0)]) hx hb d_Set_unlikeCodes_22 hl (k := 2) rfl rfl (by decide) rfl (fun ls hl => ?_)
        refine lv_goto (tgt := 4) hx hb d_Set_unlikeCodes_25 (by decide) ?_
        exact ih_1 (y1_1 ||| ((1 : Int64) <<< (Int32.toInt64 q_4 &&& 63))) (y3_1 + 1) (hz1_1 _ (Option.some.inj hr).symm) _ _ _ hW (lv_sub hl [2, 1, 0] rfl)
  exact hl_1 _ 0 0 hw_1 _ _ _ hW (lv_sub hl [2, 1, 0] rfl)
def w_Sta_allPacked (cI : ClassId) (a_r0 : Nat) (a_r0_hampers : Nat) (v_r0_weights v_r0_kinds v_r0_figures v_r0_goes v_r0_things v_r0_fields v_r0_done : Value) (r0_days : Int32) (r0_hampers : Nat → Int32) : va_W := [(a_r0, .inr (1, [v_r0_weights, v_r0_kinds, v_r0_figures, v_r0_goes, v_r0_things, .ref a_r0_hampers, .int r0_days, v_r0_fields, v_r0_done])), (a_r0_hampers, .inl (cI, 8, .inl r0_hampers))]
def F_Sta_allPacked_L4 (r0_days : Int32) (r0_hampers : Nat → Int32) (y1_1 : Int32) (y2_1 : Int32) : Option (((Int32) × (Int32)) ⊕ ((Int32))) :=
  (if (8 : Int32) ≤ y2_1 then (some (.inr y1_1)) else ((F_Sta_hamperOf r0_days r0_hampers y2_1).bind (fun q_3 => ((F_Jint_bitCount q_3).bind (fun q_4 => (some (.inl ((y1_1 + q_4), (y2_1 + 1)))))))))
def F_Sta_allPacked (r0_days : Int32) (r0_hampers : Nat → Int32) : Option (Int32) :=
  ((wh (fun (s : (Int32) × (Int32)) => F_Sta_allPacked_L4 r0_days r0_hampers s.1 s.2) 400 ((0 : Int32), (0 : Int32))).bind (fun e_1 => (some e_1)))
set_option maxHeartbeats 4000000 in
set_option maxRecDepth 100000 in
theorem C_Sta_allPacked (l : Launch) (D : va_G) (cI cS : ClassId) (a_r0 : Nat) (a_r0_hampers : Nat) (v_r0_weights v_r0_kinds v_r0_figures v_r0_goes v_r0_things v_r0_fields v_r0_done : Value) (r0_days : Int32) (r0_hampers : Nat → Int32) (o : Int32) (hr : F_Sta_allPacked r0_days r0_hampers = some o) : ctI l y_Sta_allPacked (Cond.code y_Sta_allPacked b_Sta_allPacked 3 (some FieldType.int)) (rmd 2) D (kTy cI cS) [.ref a_r0] (w_Sta_allPacked cI a_r0 a_r0_hampers v_r0_weights v_r0_kinds v_r0_figures v_r0_goes v_r0_things v_r0_fields v_r0_done r0_days r0_hampers) (w_Sta_allPacked cI a_r0 a_r0_hampers v_r0_weights v_r0_kinds v_r0_figures v_r0_goes v_r0_things v_r0_fields v_r0_done r0_days r0_hampers) o := by
  unfold F_Sta_allPacked at hr
  refine ⟨rfl, fun sz => ct_of (w0 := (w_Sta_allPacked cI a_r0 a_r0_hampers v_r0_weights v_r0_kinds v_r0_figures v_r0_goes v_r0_things v_r0_fields v_r0_done r0_days r0_hampers)) (Qc := fun A => qI D (w_Sta_allPacked cI a_r0 a_r0_hampers v_r0_weights v_r0_kinds v_r0_figures v_r0_goes v_r0_things v_r0_fields v_r0_done r0_days r0_hampers) o A) rfl (Nat.le_of_ble_eq_true rfl) ?_ sz⟩
  intro p e s m below meth c A hA C hret ls hl hW
  have C : cx p s m ([.ref a_r0] : List Value).toArray meth c b_Sta_allPacked 3 R_Sta D (kTy cI cS) (Cond.code y_Sta_allPacked b_Sta_allPacked 3 (some FieldType.int)) := C
  obtain ⟨hx, hb, hml, hown, hts, hK, hlk, hN⟩ := id C
  have hl : lv_has ls 3 [(0, .ref a_r0)] := hl
  obtain ⟨Q, hQ⟩ : ∃ Q, Q = MQ below (qI D (w_Sta_allPacked cI a_r0 a_r0_hampers v_r0_weights v_r0_kinds v_r0_figures v_r0_goes v_r0_things v_r0_fields v_r0_done r0_days r0_hampers) o A) ([.ref a_r0] : List Value).toArray s 0 0 A := ⟨_, rfl⟩
  rw [← hQ]
  refine lv_iconst (v := 0) hx hb d_Sta_allPacked_0 (by decide) ?_
  refine lv_istore_n (lv' := [(1, .int 0), (0, .ref a_r0)]) hx hb d_Sta_allPacked_1 rfl hl (by decide) rfl (fun ls hl => ?_)
  refine lv_iconst (v := 0) hx hb d_Sta_allPacked_2 (by decide) ?_
  refine lv_istore_n (lv' := [(2, .int 0), (1, .int 0), (0, .ref a_r0)]) hx hb d_Sta_allPacked_3 rfl hl (by decide) rfl (fun ls hl => ?_)
  obtain ⟨ex_1, hw_1, hk_1⟩ := ob hr
  have hx_1 : ∀ (e_1 : (Int32)), e_1 = ex_1 → ∀ (H : Heap) (locs : List Loc) (ls : Array Slot), wd A s.heap D (w_Sta_allPacked cI a_r0 a_r0_hampers v_r0_weights v_r0_kinds v_r0_figures v_r0_goes v_r0_things v_r0_fields v_r0_done r0_days r0_hampers) H locs → lv_has ls 3 [(1, .int e_1)] → W p l e (rmd 2) s m ([.ref a_r0] : List Value).toArray below meth c H locs 0 0 Q (F0 m 27 ls []) := by
    intro e_1 hE H locs ls hW hl
    subst hE; have hr := hk_1
    refine lv_iload_n hx hb d_Sta_allPacked_27 rfl (lv_at hl 0 rfl) ?_
    obtain rfl := Option.some.inj hr
    rw [hQ]; exact k_iret C hret hW d_Sta_allPacked_28
  have hl_1 : ∀ (k : Nat) (y1_1 : Int32) (y2_1 : Int32), wh (fun (s : (Int32) × (Int32)) => F_Sta_allPacked_L4 r0_days r0_hampers s.1 s.2) k (y1_1, y2_1) = some ex_1 → ∀ (H : Heap) (locs : List Loc) (ls : Array Slot), wd A s.heap D (w_Sta_allPacked cI a_r0 a_r0_hampers v_r0_weights v_r0_kinds v_r0_figures v_r0_goes v_r0_things v_r0_fields v_r0_done r0_days r0_hampers) H locs → lv_has ls 3 [(0, .ref a_r0), (1, .int y1_1), (2, .int y2_1)] → W p l e (rmd 2) s m ([.ref a_r0] : List Value).toArray below meth c H locs 0 0 Q (F0 m 4 ls []) := by
    intro k
    induction k with
    | zero => intro y1_1 y2_1 hw; exact absurd hw wh_0
    | succ k ih_1 =>
      intro y1_1 y2_1 hw H locs ls hW hl
      obtain ⟨z_1, hr, hz1_1, hz2_1⟩ := wh_s hw
      have hr : F_Sta_allPacked_L4 r0_days r0_hampers y1_1 y2_1 = some z_1 := hr
      unfold F_Sta_allPacked_L4 at hr
      refine lv_iload_n hx hb d_Sta_allPacked_4 rfl (lv_at hl 2 rfl) ?_
      refine lv_bipush (v := 8) hx hb d_Sta_allPacked_5 (by decide) ?_
      refine lv_icmp_ge (tgt := 27) hx hb d_Sta_allPacked_7 (by decide) (fun c_2 => ?_) (fun c_2 => ?_)
      · replace hr := ip c_2 hr
        exact hx_1 _ (hz2_1 _ (Option.some.inj hr).symm) _ _ _ hW (lv_sub hl [1] rfl)
      · replace hr := iN c_2 hr
        refine lv_iload_n hx hb d_Sta_allPacked_10 rfl (lv_at hl 1 rfl) ?_
        refine lv_aload_n hx hb d_Sta_allPacked_11 rfl (lv_at hl 0 rfl) ?_
        refine lv_iload_n hx hb d_Sta_allPacked_12 rfl (lv_at hl 2 rfl) ?_
        obtain ⟨q_3, hc_3, hr⟩ := ob hr
        have ct_3 := C_Sta_hamperOf l D cI cS a_r0 a_r0_hampers v_r0_weights v_r0_kinds v_r0_figures v_r0_goes v_r0_things v_r0_fields v_r0_done r0_days r0_hampers y2_1 q_3 hc_3
        refine k_goIp hA hW [0, 1] rfl rfl (k_runV C hA hW mw_Sta_hamperOf mv_Sta_hamperOf (ct_3.2 _) [0, 1] rfl rfl 0 rfl rfl qm_Sta_97 ⟨Nat.le_of_ble_eq_true rfl, Nat.le_of_ble_eq_true rfl, Nat.zero_le _, Nat.zero_le _⟩ rfl rfl (Nat.le_of_ble_eq_true rfl) hl.1 d_Sta_allPacked_13) (fun H locs hW => ?_)
        obtain ⟨q_4, hc_4, hr⟩ := ob hr
        have ct_4 := C_Jint_bitCount l D cI cS q_3 q_4 hc_4
        refine k_goIp hA hW [] rfl rfl (k_runS C hA hW mw_Jint_bitCount ms_Jint_bitCount (ct_4.2 _) [] rfl rfl qm_Sta_108 ⟨Nat.le_of_ble_eq_true rfl, Nat.le_of_ble_eq_true rfl, Nat.zero_le _, Nat.zero_le _⟩ rfl rfl (Nat.le_of_ble_eq_true rfl) hl.1 d_Sta_allPacked_16) (fun H locs hW => ?_)
        refine lv_iadd hx hb d_Sta_allPacked_19 ?_
        refine lv_istore_n (lv' := [(1, .int (y1_1 + q_4)), (0, .ref a_r0), (2, .int y2_1)]) hx hb d_Sta_allPacked_20 rfl hl (by decide) rfl (fun ls hl => ?_)
        refine lv_iinc (v := (y2_1 + 1)) (lv' := [(2, .int (y2_1 + 1)), (1, .int (y1_1 + q_4)), (0, .ref a_r0)]) hx hb d_Sta_allPacked_21 hl (k := 2) rfl rfl (by decide) rfl (fun ls hl => ?_)
        refine lv_goto (tgt := 4) hx hb d_Sta_allPacked_24 (by decide) ?_
        exact ih_1 (y1_1 + q_4) (y2_1 + 1) (hz1_1 _ (Option.some.inj hr).symm) _ _ _ hW (lv_sub hl [2, 1, 0] rfl)
  exact hl_1 _ 0 0 hw_1 _ _ _ hW (lv_sub hl [2, 1, 0] rfl)
def w_Sta_greatestOf (cI : ClassId) (a_r0 : Nat) (a_r0_weights : Nat) (v_r0_kinds v_r0_figures v_r0_goes v_r0_things v_r0_hampers v_r0_days v_r0_fields v_r0_done : Value) (r0_weights : Nat → Int32) : va_W := [(a_r0, .inr (1, [.ref a_r0_weights, v_r0_kinds, v_r0_figures, v_r0_goes, v_r0_things, v_r0_hampers, v_r0_days, v_r0_fields, v_r0_done])), (a_r0_weights, .inl (cI, 6, .inl r0_weights))]
def F_Sta_greatestOf_L4 (r0_weights : Nat → Int32) (x1 : Int32) (y2_1 : Int32) (y3_1 : Int32) : Option (((Int32) × (Int32)) ⊕ ((Int32))) :=
  (if (6 : Int32) ≤ y3_1 then (some (.inr y2_1)) else ((F_H_holds x1 y3_1).bind (fun q_3 => (if q_3 = 0 then (some (.inl (y2_1, (y3_1 + 1)))) else (ck y3_1 6 (some (.inl ((if y2_1 < (r0_weights (Int32.toNatClampNeg y3_1)) then (r0_weights (Int32.toNatClampNeg y3_1)) else y2_1), (y3_1 + 1)))))))))
def F_Sta_greatestOf (r0_weights : Nat → Int32) (x1 : Int32) : Option (Int32) :=
  ((wh (fun (s : (Int32) × (Int32)) => F_Sta_greatestOf_L4 r0_weights x1 s.1 s.2) 400 ((0 : Int32), (0 : Int32))).bind (fun e_1 => (some e_1)))
set_option maxHeartbeats 4000000 in
set_option maxRecDepth 100000 in
theorem C_Sta_greatestOf (l : Launch) (D : va_G) (cI cS : ClassId) (a_r0 : Nat) (a_r0_weights : Nat) (v_r0_kinds v_r0_figures v_r0_goes v_r0_things v_r0_hampers v_r0_days v_r0_fields v_r0_done : Value) (r0_weights : Nat → Int32) (x1 : Int32) (o : Int32) (hr : F_Sta_greatestOf r0_weights x1 = some o) : ctI l y_Sta_greatestOf (Cond.code y_Sta_greatestOf b_Sta_greatestOf 4 (some FieldType.int)) (rmd 1) D (kTy cI cS) [.ref a_r0, .int x1] (w_Sta_greatestOf cI a_r0 a_r0_weights v_r0_kinds v_r0_figures v_r0_goes v_r0_things v_r0_hampers v_r0_days v_r0_fields v_r0_done r0_weights) (w_Sta_greatestOf cI a_r0 a_r0_weights v_r0_kinds v_r0_figures v_r0_goes v_r0_things v_r0_hampers v_r0_days v_r0_fields v_r0_done r0_weights) o := by
  unfold F_Sta_greatestOf at hr
  refine ⟨rfl, fun sz => ct_of (w0 := (w_Sta_greatestOf cI a_r0 a_r0_weights v_r0_kinds v_r0_figures v_r0_goes v_r0_things v_r0_hampers v_r0_days v_r0_fields v_r0_done r0_weights)) (Qc := fun A => qI D (w_Sta_greatestOf cI a_r0 a_r0_weights v_r0_kinds v_r0_figures v_r0_goes v_r0_things v_r0_hampers v_r0_days v_r0_fields v_r0_done r0_weights) o A) rfl (Nat.le_of_ble_eq_true rfl) ?_ sz⟩
  intro p e s m below meth c A hA C hret ls hl hW
  have C : cx p s m ([.ref a_r0, .int x1] : List Value).toArray meth c b_Sta_greatestOf 4 R_Sta D (kTy cI cS) (Cond.code y_Sta_greatestOf b_Sta_greatestOf 4 (some FieldType.int)) := C
  obtain ⟨hx, hb, hml, hown, hts, hK, hlk, hN⟩ := id C
  have hl : lv_has ls 4 [(0, .ref a_r0), (1, .int x1)] := hl
  obtain ⟨Q, hQ⟩ : ∃ Q, Q = MQ below (qI D (w_Sta_greatestOf cI a_r0 a_r0_weights v_r0_kinds v_r0_figures v_r0_goes v_r0_things v_r0_hampers v_r0_days v_r0_fields v_r0_done r0_weights) o A) ([.ref a_r0, .int x1] : List Value).toArray s 0 0 A := ⟨_, rfl⟩
  rw [← hQ]
  refine lv_iconst (v := 0) hx hb d_Sta_greatestOf_0 (by decide) ?_
  refine lv_istore_n (lv' := [(2, .int 0), (0, .ref a_r0), (1, .int x1)]) hx hb d_Sta_greatestOf_1 rfl hl (by decide) rfl (fun ls hl => ?_)
  refine lv_iconst (v := 0) hx hb d_Sta_greatestOf_2 (by decide) ?_
  refine lv_istore_n (lv' := [(3, .int 0), (2, .int 0), (0, .ref a_r0), (1, .int x1)]) hx hb d_Sta_greatestOf_3 rfl hl (by decide) rfl (fun ls hl => ?_)
  obtain ⟨ex_1, hw_1, hk_1⟩ := ob hr
  have hx_1 : ∀ (e_1 : (Int32)), e_1 = ex_1 → ∀ (H : Heap) (locs : List Loc) (ls : Array Slot), wd A s.heap D (w_Sta_greatestOf cI a_r0 a_r0_weights v_r0_kinds v_r0_figures v_r0_goes v_r0_things v_r0_hampers v_r0_days v_r0_fields v_r0_done r0_weights) H locs → lv_has ls 4 [(2, .int e_1)] → W p l e (rmd 1) s m ([.ref a_r0, .int x1] : List Value).toArray below meth c H locs 0 0 Q (F0 m 35 ls []) := by
    intro e_1 hE H locs ls hW hl
    subst hE; have hr := hk_1
    refine lv_iload_n hx hb d_Sta_greatestOf_35 rfl (lv_at hl 0 rfl) ?_
    obtain rfl := Option.some.inj hr
    rw [hQ]; exact k_iret C hret hW d_Sta_greatestOf_36
  have hl_1 : ∀ (k : Nat) (y2_1 : Int32) (y3_1 : Int32), wh (fun (s : (Int32) × (Int32)) => F_Sta_greatestOf_L4 r0_weights x1 s.1 s.2) k (y2_1, y3_1) = some ex_1 → ∀ (H : Heap) (locs : List Loc) (ls : Array Slot), wd A s.heap D (w_Sta_greatestOf cI a_r0 a_r0_weights v_r0_kinds v_r0_figures v_r0_goes v_r0_things v_r0_hampers v_r0_days v_r0_fields v_r0_done r0_weights) H locs → lv_has ls 4 [(0, .ref a_r0), (1, .int x1), (2, .int y2_1), (3, .int y3_1)] → W p l e (rmd 1) s m ([.ref a_r0, .int x1] : List Value).toArray below meth c H locs 0 0 Q (F0 m 4 ls []) := by
    intro k
    induction k with
    | zero => intro y2_1 y3_1 hw; exact absurd hw wh_0
    | succ k ih_1 =>
      intro y2_1 y3_1 hw H locs ls hW hl
      obtain ⟨z_1, hr, hz1_1, hz2_1⟩ := wh_s hw
      have hr : F_Sta_greatestOf_L4 r0_weights x1 y2_1 y3_1 = some z_1 := hr
      unfold F_Sta_greatestOf_L4 at hr
      refine lv_iload_n hx hb d_Sta_greatestOf_4 rfl (lv_at hl 3 rfl) ?_
      refine lv_bipush (v := 6) hx hb d_Sta_greatestOf_5 (by decide) ?_
      refine lv_icmp_ge (tgt := 35) hx hb d_Sta_greatestOf_7 (by decide) (fun c_2 => ?_) (fun c_2 => ?_)
      · replace hr := ip c_2 hr
        exact hx_1 _ (hz2_1 _ (Option.some.inj hr).symm) _ _ _ hW (lv_sub hl [2] rfl)
      · replace hr := iN c_2 hr
        refine lv_iload_n hx hb d_Sta_greatestOf_10 rfl (lv_at hl 1 rfl) ?_
        refine lv_iload_n hx hb d_Sta_greatestOf_11 rfl (lv_at hl 3 rfl) ?_
        obtain ⟨q_3, hc_3, hr⟩ := ob hr
        have ct_3 := C_H_holds l D cI cS x1 y3_1 q_3 hc_3
        refine k_goIp hA hW [] rfl rfl (k_runSN C hA hW mw_H_holds ms_H_holds (ct_3.2 _) [] rfl rfl qm_Sta_77 ⟨Nat.le_of_ble_eq_true rfl, Nat.le_of_ble_eq_true rfl, Nat.zero_le _, Nat.zero_le _⟩ rfl rfl (Nat.le_of_ble_eq_true rfl) hl.1 d_Sta_greatestOf_12) (fun H locs hW => ?_)
        refine lv_if_eq (tgt := 29) hx hb d_Sta_greatestOf_15 (by decide) (fun c_4 => ?_) (fun c_4 => ?_)
        · replace hr := ip c_4 hr
          refine lv_iinc (v := (y3_1 + 1)) (lv' := [(3, .int (y3_1 + 1)), (0, .ref a_r0), (1, .int x1), (2, .int y2_1)]) hx hb d_Sta_greatestOf_29 hl (k := 3) rfl rfl (by decide) rfl (fun ls hl => ?_)
          refine lv_goto (tgt := 4) hx hb d_Sta_greatestOf_32 (by decide) ?_
          exact ih_1 y2_1 (y3_1 + 1) (hz1_1 _ (Option.some.inj hr).symm) _ _ _ hW (lv_sub hl [1, 2, 3, 0] rfl)
        · replace hr := iN c_4 hr
          refine lv_iload_n hx hb d_Sta_greatestOf_18 rfl (lv_at hl 2 rfl) ?_
          refine lv_aload_n hx hb d_Sta_greatestOf_19 rfl (lv_at hl 0 rfl) ?_
          refine k_get i_Sta C hW 0 rfl rfl 0 (by decide) qf_Sta_9 rfl rfl d_Sta_greatestOf_20 ?_
          refine lv_iload_n hx hb d_Sta_greatestOf_23 rfl (lv_at hl 3 rfl) ?_
          obtain ⟨h_5, hr⟩ := ck_some hr
          refine k_iald C hW 1 rfl h_5 d_Sta_greatestOf_24 ?_
          refine k_mmax C qm_Sta_103 ⟨Nat.le_of_ble_eq_true rfl, Nat.le_of_ble_eq_true rfl, Nat.zero_le _, Nat.zero_le _⟩ hl.1 d_Sta_greatestOf_25 ?_
          refine lv_istore_n (lv' := [(2, .int (if y2_1 < (r0_weights (Int32.toNatClampNeg y3_1)) then (r0_weights (Int32.toNatClampNeg y3_1)) else y2_1)), (0, .ref a_r0), (1, .int x1), (3, .int y3_1)]) hx hb d_Sta_greatestOf_28 rfl hl (by decide) rfl (fun ls hl => ?_)
          refine lv_iinc (v := (y3_1 + 1)) (lv' := [(3, .int (y3_1 + 1)), (2, .int (if y2_1 < (r0_weights (Int32.toNatClampNeg y3_1)) then (r0_weights (Int32.toNatClampNeg y3_1)) else y2_1)), (0, .ref a_r0), (1, .int x1)]) hx hb d_Sta_greatestOf_29 hl (k := 3) rfl rfl (by decide) rfl (fun ls hl => ?_)
          refine lv_goto (tgt := 4) hx hb d_Sta_greatestOf_32 (by decide) ?_
          exact ih_1 (if y2_1 < (r0_weights (Int32.toNatClampNeg y3_1)) then (r0_weights (Int32.toNatClampNeg y3_1)) else y2_1) (y3_1 + 1) (hz1_1 _ (Option.some.inj hr).symm) _ _ _ hW (lv_sub hl [2, 3, 1, 0] rfl)
  exact hl_1 _ 0 0 hw_1 _ _ _ hW (lv_sub hl [2, 3, 1, 0] rfl)
def w_Sta_weightOf (cI : ClassId) (a_r0 : Nat) (a_r0_weights : Nat) (v_r0_kinds v_r0_figures v_r0_goes v_r0_things v_r0_hampers v_r0_days v_r0_fields v_r0_done : Value) (r0_weights : Nat → Int32) : va_W := [(a_r0, .inr (1, [.ref a_r0_weights, v_r0_kinds, v_r0_figures, v_r0_goes, v_r0_things, v_r0_hampers, v_r0_days, v_r0_fields, v_r0_done])), (a_r0_weights, .inl (cI, 6, .inl r0_weights))]
def F_Sta_weightOf (r0_weights : Nat → Int32) (x1 : Int32) : Option (Int32) :=
  ((F_H_isWeather x1).bind (fun q_1 => (if q_1 = 0 then (some 0) else (ck x1 6 (some (r0_weights (Int32.toNatClampNeg x1)))))))
set_option maxHeartbeats 4000000 in
set_option maxRecDepth 100000 in
theorem C_Sta_weightOf (l : Launch) (D : va_G) (cI cS : ClassId) (a_r0 : Nat) (a_r0_weights : Nat) (v_r0_kinds v_r0_figures v_r0_goes v_r0_things v_r0_hampers v_r0_days v_r0_fields v_r0_done : Value) (r0_weights : Nat → Int32) (x1 : Int32) (o : Int32) (hr : F_Sta_weightOf r0_weights x1 = some o) : ctI l y_Sta_weightOf (Cond.code y_Sta_weightOf b_Sta_weightOf 2 (some FieldType.int)) (rmd 1) D (kTy cI cS) [.ref a_r0, .int x1] (w_Sta_weightOf cI a_r0 a_r0_weights v_r0_kinds v_r0_figures v_r0_goes v_r0_things v_r0_hampers v_r0_days v_r0_fields v_r0_done r0_weights) (w_Sta_weightOf cI a_r0 a_r0_weights v_r0_kinds v_r0_figures v_r0_goes v_r0_things v_r0_hampers v_r0_days v_r0_fields v_r0_done r0_weights) o := by
  unfold F_Sta_weightOf at hr
  refine ⟨rfl, fun sz => ct_of (w0 := (w_Sta_weightOf cI a_r0 a_r0_weights v_r0_kinds v_r0_figures v_r0_goes v_r0_things v_r0_hampers v_r0_days v_r0_fields v_r0_done r0_weights)) (Qc := fun A => qI D (w_Sta_weightOf cI a_r0 a_r0_weights v_r0_kinds v_r0_figures v_r0_goes v_r0_things v_r0_hampers v_r0_days v_r0_fields v_r0_done r0_weights) o A) rfl (Nat.le_of_ble_eq_true rfl) ?_ sz⟩
  intro p e s m below meth c A hA C hret ls hl hW
  have C : cx p s m ([.ref a_r0, .int x1] : List Value).toArray meth c b_Sta_weightOf 2 R_Sta D (kTy cI cS) (Cond.code y_Sta_weightOf b_Sta_weightOf 2 (some FieldType.int)) := C
  obtain ⟨hx, hb, hml, hown, hts, hK, hlk, hN⟩ := id C
  have hl : lv_has ls 2 [(0, .ref a_r0), (1, .int x1)] := hl
  obtain ⟨Q, hQ⟩ : ∃ Q, Q = MQ below (qI D (w_Sta_weightOf cI a_r0 a_r0_weights v_r0_kinds v_r0_figures v_r0_goes v_r0_things v_r0_hampers v_r0_days v_r0_fields v_r0_done r0_weights) o A) ([.ref a_r0, .int x1] : List Value).toArray s 0 0 A := ⟨_, rfl⟩
  rw [← hQ]
  refine lv_iload_n hx hb d_Sta_weightOf_0 rfl (lv_at hl 1 rfl) ?_
  obtain ⟨q_1, hc_1, hr⟩ := ob hr
  have ct_1 := C_H_isWeather l D cI cS x1 q_1 hc_1
  refine k_goIp hA hW [] rfl rfl (k_runSN C hA hW mw_H_isWeather ms_H_isWeather (ct_1.2 _) [] rfl rfl qm_Sta_61 ⟨Nat.le_of_ble_eq_true rfl, Nat.le_of_ble_eq_true rfl, Nat.zero_le _, Nat.zero_le _⟩ rfl rfl (Nat.le_of_ble_eq_true rfl) hl.1 d_Sta_weightOf_1) (fun H locs hW => ?_)
  refine lv_if_eq (tgt := 16) hx hb d_Sta_weightOf_4 (by decide) (fun c_2 => ?_) (fun c_2 => ?_)
  · replace hr := ip c_2 hr
    refine lv_iconst (v := 0) hx hb d_Sta_weightOf_16 (by decide) ?_
    obtain rfl := Option.some.inj hr
    rw [hQ]; exact k_iret C hret hW d_Sta_weightOf_17
  · replace hr := iN c_2 hr
    refine lv_aload_n hx hb d_Sta_weightOf_7 rfl (lv_at hl 0 rfl) ?_
    refine k_get i_Sta C hW 0 rfl rfl 0 (by decide) qf_Sta_9 rfl rfl d_Sta_weightOf_8 ?_
    refine lv_iload_n hx hb d_Sta_weightOf_11 rfl (lv_at hl 1 rfl) ?_
    obtain ⟨h_3, hr⟩ := ck_some hr
    refine k_iald C hW 1 rfl h_3 d_Sta_weightOf_12 ?_
    refine lv_goto (tgt := 17) hx hb d_Sta_weightOf_13 (by decide) ?_
    obtain rfl := Option.some.inj hr
    rw [hQ]; exact k_iret C hret hW d_Sta_weightOf_17
def w_Sps_forgetOldest (cI cS : ClassId) (a_r0 : Nat) (a_r0_steps : Nat) (s_r0_steps : Nat → Nat) (r0_count : Int32) (r0_steps : Nat → Nat) (r0_steps_before : Nat → Int32) (r0_steps_doneBefore : Nat → Int32) (r0_steps_leftBefore : Nat → Int32) (r0_steps_part : Nat → Int32) (r0_steps_place : Nat → Int32) : va_W := [(a_r0, .inr (3, [.ref a_r0_steps, .int r0_count])), (a_r0_steps, .inl (cS, 8, .inr (.inr (.inr (.inr (fun i => some (s_r0_steps (r0_steps i)))))))), (s_r0_steps 0, .inr (4, [.int (r0_steps_part 0), .int (r0_steps_place 0), .int (r0_steps_before 0), .int (r0_steps_leftBefore 0), .int (r0_steps_doneBefore 0)])), (s_r0_steps 1, .inr (4, [.int (r0_steps_part 1), .int (r0_steps_place 1), .int (r0_steps_before 1), .int (r0_steps_leftBefore 1), .int (r0_steps_doneBefore 1)])), (s_r0_steps 2, .inr (4, [.int (r0_steps_part 2), .int (r0_steps_place 2), .int (r0_steps_before 2), .int (r0_steps_leftBefore 2), .int (r0_steps_doneBefore 2)])), (s_r0_steps 3, .inr (4, [.int (r0_steps_part 3), .int (r0_steps_place 3), .int (r0_steps_before 3), .int (r0_steps_leftBefore 3), .int (r0_steps_doneBefore 3)])), (s_r0_steps 4, .inr (4, [.int (r0_steps_part 4), .int (r0_steps_place 4), .int (r0_steps_before 4), .int (r0_steps_leftBefore 4), .int (r0_steps_doneBefore 4)])), (s_r0_steps 5, .inr (4, [.int (r0_steps_part 5), .int (r0_steps_place 5), .int (r0_steps_before 5), .int (r0_steps_leftBefore 5), .int (r0_steps_doneBefore 5)])), (s_r0_steps 6, .inr (4, [.int (r0_steps_part 6), .int (r0_steps_place 6), .int (r0_steps_before 6), .int (r0_steps_leftBefore 6), .int (r0_steps_doneBefore 6)])), (s_r0_steps 7, .inr (4, [.int (r0_steps_part 7), .int (r0_steps_place 7), .int (r0_steps_before 7), .int (r0_steps_leftBefore 7), .int (r0_steps_doneBefore 7)]))]
def F_Sps_forgetOldest_L9 (y2_1 : Int32) (r0_steps_1 : Nat → Nat) : Option (((Int32) × (Nat → Nat)) ⊕ ((Nat → Nat))) :=
  (if (8 : Int32) ≤ y2_1 then (some (.inr r0_steps_1)) else (ck y2_1 8 (ck (y2_1 - 1) 8 (ckN (r0_steps_1 (Int32.toNatClampNeg y2_1)) (some (.inl ((y2_1 + 1), (va_up r0_steps_1 (Int32.toNatClampNeg (y2_1 - 1)) (r0_steps_1 (Int32.toNatClampNeg y2_1))))))))))
def F_Sps_forgetOldest (r0_steps : Nat → Nat) : Option ((Int32) × (Nat → Nat)) :=
  ((wh (fun (s : (Int32) × (Nat → Nat)) => F_Sps_forgetOldest_L9 s.1 s.2) 400 ((1 : Int32), r0_steps)).bind (fun e_1 => (ckN (r0_steps (Int32.toNatClampNeg 0)) (some (7, (va_up e_1 (Int32.toNatClampNeg 7) (r0_steps (Int32.toNatClampNeg 0))))))))
set_option maxHeartbeats 4000000 in
set_option maxRecDepth 100000 in
theorem C_Sps_forgetOldest (l : Launch) (D : va_G) (cI cS : ClassId) (a_r0 : Nat) (a_r0_steps : Nat) (s_r0_steps : Nat → Nat) (r0_count : Int32) (r0_steps : Nat → Nat) (r0_steps_before : Nat → Int32) (r0_steps_doneBefore : Nat → Int32) (r0_steps_leftBefore : Nat → Int32) (r0_steps_part : Nat → Int32) (r0_steps_place : Nat → Int32) (o : (Int32) × (Nat → Nat)) (hr : F_Sps_forgetOldest r0_steps = some o) : ctV l y_Sps_forgetOldest (Cond.code y_Sps_forgetOldest b_Sps_forgetOldest 3 none) (rmd 0) D (kTy cI cS) [.ref a_r0] (w_Sps_forgetOldest cI cS a_r0 a_r0_steps s_r0_steps r0_count r0_steps r0_steps_before r0_steps_doneBefore r0_steps_leftBefore r0_steps_part r0_steps_place) (w_Sps_forgetOldest cI cS a_r0 a_r0_steps s_r0_steps o.1 o.2 r0_steps_before r0_steps_doneBefore r0_steps_leftBefore r0_steps_part r0_steps_place) := by
  unfold F_Sps_forgetOldest at hr
  refine ⟨rfl, fun sz => ct_of (w0 := (w_Sps_forgetOldest cI cS a_r0 a_r0_steps s_r0_steps r0_count r0_steps r0_steps_before r0_steps_doneBefore r0_steps_leftBefore r0_steps_part r0_steps_place)) (Qc := fun A => qV D (w_Sps_forgetOldest cI cS a_r0 a_r0_steps s_r0_steps o.1 o.2 r0_steps_before r0_steps_doneBefore r0_steps_leftBefore r0_steps_part r0_steps_place) A) rfl (Nat.le_of_ble_eq_true rfl) ?_ sz⟩
  intro p e s m below meth c A hA C hret ls hl hW
  have C : cx p s m ([.ref a_r0] : List Value).toArray meth c b_Sps_forgetOldest 3 R_Sps D (kTy cI cS) (Cond.code y_Sps_forgetOldest b_Sps_forgetOldest 3 none) := C
  obtain ⟨hx, hb, hml, hown, hts, hK, hlk, hN⟩ := id C
  have hl : lv_has ls 3 [(0, .ref a_r0)] := hl
  obtain ⟨Q, hQ⟩ : ∃ Q, Q = MQ below (qV D (w_Sps_forgetOldest cI cS a_r0 a_r0_steps s_r0_steps o.1 o.2 r0_steps_before r0_steps_doneBefore r0_steps_leftBefore r0_steps_part r0_steps_place) A) ([.ref a_r0] : List Value).toArray s 0 0 A := ⟨_, rfl⟩
  rw [← hQ]
  refine lv_aload_n hx hb d_Sps_forgetOldest_0 rfl (lv_at hl 0 rfl) ?_
  refine k_get i_Sps C hW 0 rfl rfl 0 (by decide) qf_Sps_11 rfl rfl d_Sps_forgetOldest_1 ?_
  refine lv_iconst (v := 0) hx hb d_Sps_forgetOldest_4 (by decide) ?_
  refine k_aald C hW 1 (sa := s_r0_steps) (g := r0_steps) rfl (vp_inC 0 8 (by decide)) d_Sps_forgetOldest_5 ?_
  refine lv_astore_n (lv' := [(1, .ref (s_r0_steps (r0_steps (Int32.toNatClampNeg 0)))), (0, .ref a_r0)]) hx hb d_Sps_forgetOldest_6 rfl hl (by decide) rfl (fun ls hl => ?_)
  refine lv_iconst (v := 1) hx hb d_Sps_forgetOldest_7 (by decide) ?_
  refine lv_istore_n (lv' := [(2, .int 1), (1, .ref (s_r0_steps (r0_steps (Int32.toNatClampNeg 0)))), (0, .ref a_r0)]) hx hb d_Sps_forgetOldest_8 rfl hl (by decide) rfl (fun ls hl => ?_)
  obtain ⟨ex_1, hw_1, hk_1⟩ := ob hr
  have hx_1 : ∀ (e_1 : (Nat → Nat)), e_1 = ex_1 → ∀ (H : Heap) (locs : List Loc) (ls : Array Slot), wd A s.heap D (w_Sps_forgetOldest cI cS a_r0 a_r0_steps s_r0_steps r0_count e_1 r0_steps_before r0_steps_doneBefore r0_steps_leftBefore r0_steps_part r0_steps_place) H locs → lv_has ls 3 [(1, .ref (s_r0_steps (r0_steps (Int32.toNatClampNeg 0)))), (0, .ref a_r0)] → W p l e (rmd 0) s m ([.ref a_r0] : List Value).toArray below meth c H locs 0 0 Q (F0 m 35 ls []) := by
    intro e_1 hE H locs ls hW hl
    subst hE; have hr := hk_1
    refine lv_aload_n hx hb d_Sps_forgetOldest_35 rfl (lv_at hl 1 rfl) ?_
    refine k_get i_Sps C hW 0 rfl rfl 0 (by decide) qf_Sps_11 rfl rfl d_Sps_forgetOldest_36 ?_
    refine lv_bipush (v := 7) hx hb d_Sps_forgetOldest_39 (by decide) ?_
    refine lv_aload_n hx hb d_Sps_forgetOldest_41 rfl (lv_at hl 0 rfl) ?_
    obtain ⟨h_6, hr⟩ := ckN_some hr
    refine k_aast C hW 1 _ (sa := s_r0_steps) (g := e_1) (j := (r0_steps (Int32.toNatClampNeg 0))) rfl (at8 (P := fun j => ((w_Sps_forgetOldest cI cS a_r0 a_r0_steps s_r0_steps r0_count e_1 r0_steps_before r0_steps_doneBefore r0_steps_leftBefore r0_steps_part r0_steps_place) : va_W)[2 + j]? = some (s_r0_steps j, .inr (4, [.int (r0_steps_part j), .int (r0_steps_place j), .int (r0_steps_before j), .int (r0_steps_leftBefore j), .int (r0_steps_doneBefore j)]))) h_6 rfl rfl rfl rfl rfl rfl rfl rfl) rfl (vp_inC 7 8 (by decide)) (ws' := (w_Sps_forgetOldest cI cS a_r0 a_r0_steps s_r0_steps r0_count (va_up e_1 (Int32.toNatClampNeg 7) (r0_steps (Int32.toNatClampNeg 0))) r0_steps_before r0_steps_doneBefore r0_steps_leftBefore r0_steps_part r0_steps_place)) rfl d_Sps_forgetOldest_42 (fun H locs hW => ?_)
    refine lv_aload_n hx hb d_Sps_forgetOldest_43 rfl (lv_at hl 1 rfl) ?_
    refine lv_bipush (v := 7) hx hb d_Sps_forgetOldest_44 (by decide) ?_
    refine k_put i_Sps t_Sps_ok n_Sps C hW 0 rfl rfl 1 (by decide) qf_Sps_18 rfl rfl (ty := .int) rfl rfl rfl (Nat.le_of_ble_eq_true rfl) (ws' := (w_Sps_forgetOldest cI cS a_r0 a_r0_steps s_r0_steps 7 (va_up e_1 (Int32.toNatClampNeg 7) (r0_steps (Int32.toNatClampNeg 0))) r0_steps_before r0_steps_doneBefore r0_steps_leftBefore r0_steps_part r0_steps_place)) rfl d_Sps_forgetOldest_46 (fun H locs hW => ?_)
    obtain rfl := Option.some.inj hr
    rw [hQ]; exact k_vret C hret hW d_Sps_forgetOldest_49
  have hl_1 : ∀ (k : Nat) (y2_1 : Int32) (r0_steps_1 : Nat → Nat), wh (fun (s : (Int32) × (Nat → Nat)) => F_Sps_forgetOldest_L9 s.1 s.2) k (y2_1, r0_steps_1) = some ex_1 → ∀ (H : Heap) (locs : List Loc) (ls : Array Slot), wd A s.heap D (w_Sps_forgetOldest cI cS a_r0 a_r0_steps s_r0_steps r0_count r0_steps_1 r0_steps_before r0_steps_doneBefore r0_steps_leftBefore r0_steps_part r0_steps_place) H locs → lv_has ls 3 [(1, .ref (s_r0_steps (r0_steps (Int32.toNatClampNeg 0)))), (0, .ref a_r0), (2, .int y2_1)] → W p l e (rmd 0) s m ([.ref a_r0] : List Value).toArray below meth c H locs 0 0 Q (F0 m 9 ls []) := by
    intro k
    induction k with
    | zero => intro y2_1 r0_steps_1 hw; exact absurd hw wh_0
    | succ k ih_1 =>
      intro y2_1 r0_steps_1 hw H locs ls hW hl
      obtain ⟨z_1, hr, hz1_1, hz2_1⟩ := wh_s hw
      have hr : F_Sps_forgetOldest_L9 y2_1 r0_steps_1 = some z_1 := hr
      unfold F_Sps_forgetOldest_L9 at hr
      refine lv_iload_n hx hb d_Sps_forgetOldest_9 rfl (lv_at hl 2 rfl) ?_
      refine lv_bipush (v := 8) hx hb d_Sps_forgetOldest_10 (by decide) ?_
      refine lv_icmp_ge (tgt := 35) hx hb d_Sps_forgetOldest_12 (by decide) (fun c_2 => ?_) (fun c_2 => ?_)
      · replace hr := ip c_2 hr
        exact hx_1 _ (hz2_1 _ (Option.some.inj hr).symm) _ _ _ hW (lv_sub hl [0, 1] rfl)
      · replace hr := iN c_2 hr
        refine lv_aload_n hx hb d_Sps_forgetOldest_15 rfl (lv_at hl 1 rfl) ?_
        refine k_get i_Sps C hW 0 rfl rfl 0 (by decide) qf_Sps_11 rfl rfl d_Sps_forgetOldest_16 ?_
        refine lv_iload_n hx hb d_Sps_forgetOldest_19 rfl (lv_at hl 2 rfl) ?_
        refine lv_iconst (v := 1) hx hb d_Sps_forgetOldest_20 (by decide) ?_
        refine lv_isub hx hb d_Sps_forgetOldest_21 ?_
        refine lv_aload_n hx hb d_Sps_forgetOldest_22 rfl (lv_at hl 1 rfl) ?_
        refine k_get i_Sps C hW 0 rfl rfl 0 (by decide) qf_Sps_11 rfl rfl d_Sps_forgetOldest_23 ?_
        refine lv_iload_n hx hb d_Sps_forgetOldest_26 rfl (lv_at hl 2 rfl) ?_
        obtain ⟨h_3, hr⟩ := ck_some hr
        refine k_aald C hW 1 (sa := s_r0_steps) (g := r0_steps_1) rfl h_3 d_Sps_forgetOldest_27 ?_
        obtain ⟨h_4, hr⟩ := ck_some hr
        obtain ⟨h_5, hr⟩ := ckN_some hr
        refine k_aast C hW 1 _ (sa := s_r0_steps) (g := r0_steps_1) (j := (r0_steps_1 (Int32.toNatClampNeg y2_1))) rfl (at8 (P := fun j => ((w_Sps_forgetOldest cI cS a_r0 a_r0_steps s_r0_steps r0_count r0_steps_1 r0_steps_before r0_steps_doneBefore r0_steps_leftBefore r0_steps_part r0_steps_place) : va_W)[2 + j]? = some (s_r0_steps j, .inr (4, [.int (r0_steps_part j), .int (r0_steps_place j), .int (r0_steps_before j), .int (r0_steps_leftBefore j), .int (r0_steps_doneBefore j)]))) h_5 rfl rfl rfl rfl rfl rfl rfl rfl) rfl h_4 (ws' := (w_Sps_forgetOldest cI cS a_r0 a_r0_steps s_r0_steps r0_count (va_up r0_steps_1 (Int32.toNatClampNeg (y2_1 - 1)) (r0_steps_1 (Int32.toNatClampNeg y2_1))) r0_steps_before r0_steps_doneBefore r0_steps_leftBefore r0_steps_part r0_steps_place)) rfl d_Sps_forgetOldest_28 (fun H locs hW => ?_)
        refine lv_iinc (v := (y2_1 + 1)) (lv' := [(2, .int (y2_1 + 1)), (1, .ref (s_r0_steps (r0_steps (Int32.toNatClampNeg 0)))), (0, .ref a_r0)]) hx hb d_Sps_forgetOldest_29 hl (k := 2) rfl rfl (by decide) rfl (fun ls hl => ?_)
        refine lv_goto (tgt := 9) hx hb d_Sps_forgetOldest_32 (by decide) ?_
        exact ih_1 (y2_1 + 1) (va_up r0_steps_1 (Int32.toNatClampNeg (y2_1 - 1)) (r0_steps_1 (Int32.toNatClampNeg y2_1))) (hz1_1 _ (Option.some.inj hr).symm) _ _ _ hW (lv_sub hl [1, 2, 0] rfl)
  exact hl_1 _ 1 r0_steps hw_1 _ _ _ hW (lv_sub hl [1, 2, 0] rfl)
def w_Sps_note (cI cS : ClassId) (a_r0 : Nat) (a_r0_steps : Nat) (s_r0_steps : Nat → Nat) (a_r1 : Nat) (v_r1_weights v_r1_kinds v_r1_figures v_r1_goes v_r1_things v_r1_hampers v_r1_days v_r1_fields : Value) (r0_count : Int32) (r0_steps : Nat → Nat) (r0_steps_before : Nat → Int32) (r0_steps_doneBefore : Nat → Int32) (r0_steps_leftBefore : Nat → Int32) (r0_steps_part : Nat → Int32) (r0_steps_place : Nat → Int32) (r1_done : Int32) : va_W := [(a_r0, .inr (3, [.ref a_r0_steps, .int r0_count])), (a_r0_steps, .inl (cS, 8, .inr (.inr (.inr (.inr (fun i => some (s_r0_steps (r0_steps i)))))))), (s_r0_steps 0, .inr (4, [.int (r0_steps_part 0), .int (r0_steps_place 0), .int (r0_steps_before 0), .int (r0_steps_leftBefore 0), .int (r0_steps_doneBefore 0)])), (s_r0_steps 1, .inr (4, [.int (r0_steps_part 1), .int (r0_steps_place 1), .int (r0_steps_before 1), .int (r0_steps_leftBefore 1), .int (r0_steps_doneBefore 1)])), (s_r0_steps 2, .inr (4, [.int (r0_steps_part 2), .int (r0_steps_place 2), .int (r0_steps_before 2), .int (r0_steps_leftBefore 2), .int (r0_steps_doneBefore 2)])), (s_r0_steps 3, .inr (4, [.int (r0_steps_part 3), .int (r0_steps_place 3), .int (r0_steps_before 3), .int (r0_steps_leftBefore 3), .int (r0_steps_doneBefore 3)])), (s_r0_steps 4, .inr (4, [.int (r0_steps_part 4), .int (r0_steps_place 4), .int (r0_steps_before 4), .int (r0_steps_leftBefore 4), .int (r0_steps_doneBefore 4)])), (s_r0_steps 5, .inr (4, [.int (r0_steps_part 5), .int (r0_steps_place 5), .int (r0_steps_before 5), .int (r0_steps_leftBefore 5), .int (r0_steps_doneBefore 5)])), (s_r0_steps 6, .inr (4, [.int (r0_steps_part 6), .int (r0_steps_place 6), .int (r0_steps_before 6), .int (r0_steps_leftBefore 6), .int (r0_steps_doneBefore 6)])), (s_r0_steps 7, .inr (4, [.int (r0_steps_part 7), .int (r0_steps_place 7), .int (r0_steps_before 7), .int (r0_steps_leftBefore 7), .int (r0_steps_doneBefore 7)])), (a_r1, .inr (1, [v_r1_weights, v_r1_kinds, v_r1_figures, v_r1_goes, v_r1_things, v_r1_hampers, v_r1_days, v_r1_fields, .int r1_done]))]
def F_Sps_note_J13_2 (r0_steps_doneBefore : Nat → Int32) (r0_steps_part : Nat → Int32) (r0_steps_place : Nat → Int32) (r1_done : Int32) (x2 : Int32) (x3 : Int32) (r0_count_2 : Int32) (r0_steps_2 : Nat → Nat) : Option (Nat × (Int32) × (Nat → Nat) × (Nat → Int32) × (Nat → Int32) × (Nat → Int32)) :=
  (ck (if (0 : Int32) < (if (7 : Int32) < r0_count_2 then (7 : Int32) else r0_count_2) then (if (7 : Int32) < r0_count_2 then (7 : Int32) else r0_count_2) else (0 : Int32)) 8 (ckN (r0_steps_2 (Int32.toNatClampNeg (if (0 : Int32) < (if (7 : Int32) < r0_count_2 then (7 : Int32) else r0_count_2) then (if (7 : Int32) < r0_count_2 then (7 : Int32) else r0_count_2) else (0 : Int32)))) (some ((r0_steps_2 (Int32.toNatClampNeg (if (0 : Int32) < (if (7 : Int32) < r0_count_2 then (7 : Int32) else r0_count_2) then (if (7 : Int32) < r0_count_2 then (7 : Int32) else r0_count_2) else (0 : Int32)))), ((if (0 : Int32) < (if (7 : Int32) < r0_count_2 then (7 : Int32) else r0_count_2) then (if (7 : Int32) < r0_count_2 then (7 : Int32) else r0_count_2) else (0 : Int32)) + 1), r0_steps_2, (upd r0_steps_doneBefore (r0_steps_2 (Int32.toNatClampNeg (if (0 : Int32) < (if (7 : Int32) < r0_count_2 then (7 : Int32) else r0_count_2) then (if (7 : Int32) < r0_count_2 then (7 : Int32) else r0_count_2) else (0 : Int32)))) r1_done), (upd r0_steps_part (r0_steps_2 (Int32.toNatClampNeg (if (0 : Int32) < (if (7 : Int32) < r0_count_2 then (7 : Int32) else r0_count_2) then (if (7 : Int32) < r0_count_2 then (7 : Int32) else r0_count_2) else (0 : Int32)))) x2), (upd r0_steps_place (r0_steps_2 (Int32.toNatClampNeg (if (0 : Int32) < (if (7 : Int32) < r0_count_2 then (7 : Int32) else r0_count_2) then (if (7 : Int32) < r0_count_2 then (7 : Int32) else r0_count_2) else (0 : Int32)))) x3)))))
def F_Sps_note (r0_count : Int32) (r0_steps : Nat → Nat) (r0_steps_doneBefore : Nat → Int32) (r0_steps_part : Nat → Int32) (r0_steps_place : Nat → Int32) (r1_done : Int32) (x2 : Int32) (x3 : Int32) : Option (Nat × (Int32) × (Nat → Nat) × (Nat → Int32) × (Nat → Int32) × (Nat → Int32)) :=
  (if r0_count < 8 then (F_Sps_note_J13_2 r0_steps_doneBefore r0_steps_part r0_steps_place r1_done x2 x3 r0_count r0_steps) else ((F_Sps_forgetOldest r0_steps).bind (fun q_5 => (F_Sps_note_J13_2 r0_steps_doneBefore r0_steps_part r0_steps_place r1_done x2 x3 q_5.1 q_5.2))))
set_option maxHeartbeats 4000000 in
set_option maxRecDepth 100000 in
theorem C_Sps_note (l : Launch) (D : va_G) (cI cS : ClassId) (a_r0 : Nat) (a_r0_steps : Nat) (s_r0_steps : Nat → Nat) (a_r1 : Nat) (v_r1_weights v_r1_kinds v_r1_figures v_r1_goes v_r1_things v_r1_hampers v_r1_days v_r1_fields : Value) (r0_count : Int32) (r0_steps : Nat → Nat) (r0_steps_before : Nat → Int32) (r0_steps_doneBefore : Nat → Int32) (r0_steps_leftBefore : Nat → Int32) (r0_steps_part : Nat → Int32) (r0_steps_place : Nat → Int32) (r1_done : Int32) (x2 : Int32) (x3 : Int32) (o : Nat × (Int32) × (Nat → Nat) × (Nat → Int32) × (Nat → Int32) × (Nat → Int32)) (hr : F_Sps_note r0_count r0_steps r0_steps_doneBefore r0_steps_part r0_steps_place r1_done x2 x3 = some o) : ctR l y_Sps_note (Cond.code y_Sps_note b_Sps_note 6 (some (FieldType.object "HamperByWeather$Step"))) (rmd 1) D (kTy cI cS) [.ref a_r0, .ref a_r1, .int x2, .int x3] (w_Sps_note cI cS a_r0 a_r0_steps s_r0_steps a_r1 v_r1_weights v_r1_kinds v_r1_figures v_r1_goes v_r1_things v_r1_hampers v_r1_days v_r1_fields r0_count r0_steps r0_steps_before r0_steps_doneBefore r0_steps_leftBefore r0_steps_part r0_steps_place r1_done) (w_Sps_note cI cS a_r0 a_r0_steps s_r0_steps a_r1 v_r1_weights v_r1_kinds v_r1_figures v_r1_goes v_r1_things v_r1_hampers v_r1_days v_r1_fields o.2.1 o.2.2.1 r0_steps_before o.2.2.2.1 r0_steps_leftBefore o.2.2.2.2.1 o.2.2.2.2.2 r1_done) (s_r0_steps o.1) := by
  unfold F_Sps_note at hr
  refine ⟨rfl, fun sz => ct_of (w0 := (w_Sps_note cI cS a_r0 a_r0_steps s_r0_steps a_r1 v_r1_weights v_r1_kinds v_r1_figures v_r1_goes v_r1_things v_r1_hampers v_r1_days v_r1_fields r0_count r0_steps r0_steps_before r0_steps_doneBefore r0_steps_leftBefore r0_steps_part r0_steps_place r1_done)) (Qc := fun A => qR D (w_Sps_note cI cS a_r0 a_r0_steps s_r0_steps a_r1 v_r1_weights v_r1_kinds v_r1_figures v_r1_goes v_r1_things v_r1_hampers v_r1_days v_r1_fields o.2.1 o.2.2.1 r0_steps_before o.2.2.2.1 r0_steps_leftBefore o.2.2.2.2.1 o.2.2.2.2.2 r1_done) (s_r0_steps o.1) A) rfl (Nat.le_of_ble_eq_true rfl) ?_ sz⟩
  intro p e s m below meth c A hA C hret ls hl hW
  have C : cx p s m ([.ref a_r0, .ref a_r1, .int x2, .int x3] : List Value).toArray meth c b_Sps_note 6 R_Sps D (kTy cI cS) (Cond.code y_Sps_note b_Sps_note 6 (some (FieldType.object "HamperByWeather$Step"))) := C
  obtain ⟨hx, hb, hml, hown, hts, hK, hlk, hN⟩ := id C
  have hl : lv_has ls 6 [(0, .ref a_r0), (1, .ref a_r1), (2, .int x2), (3, .int x3)] := hl
  obtain ⟨Q, hQ⟩ : ∃ Q, Q = MQ below (qR D (w_Sps_note cI cS a_r0 a_r0_steps s_r0_steps a_r1 v_r1_weights v_r1_kinds v_r1_figures v_r1_goes v_r1_things v_r1_hampers v_r1_days v_r1_fields o.2.1 o.2.2.1 r0_steps_before o.2.2.2.1 r0_steps_leftBefore o.2.2.2.2.1 o.2.2.2.2.2 r1_done) (s_r0_steps o.1) A) ([.ref a_r0, .ref a_r1, .int x2, .int x3] : List Value).toArray s 0 0 A := ⟨_, rfl⟩
  rw [← hQ]
  refine lv_aload_n hx hb d_Sps_note_0 rfl (lv_at hl 0 rfl) ?_
  refine k_get i_Sps C hW 0 rfl rfl 1 (by decide) qf_Sps_18 rfl rfl d_Sps_note_1 ?_
  refine lv_bipush (v := 8) hx hb d_Sps_note_4 (by decide) ?_
  have hJ_2 : ∀ (r0_count_2 : Int32) (r0_steps_2 : Nat → Nat), F_Sps_note_J13_2 r0_steps_doneBefore r0_steps_part r0_steps_place r1_done x2 x3 r0_count_2 r0_steps_2 = some o → ∀ (H : Heap) (locs : List Loc) (ls : Array Slot), wd A s.heap D (w_Sps_note cI cS a_r0 a_r0_steps s_r0_steps a_r1 v_r1_weights v_r1_kinds v_r1_figures v_r1_goes v_r1_things v_r1_hampers v_r1_days v_r1_fields r0_count_2 r0_steps_2 r0_steps_before r0_steps_doneBefore r0_steps_leftBefore r0_steps_part r0_steps_place r1_done) H locs → lv_has ls 6 [(0, .ref a_r0), (1, .ref a_r1), (2, .int x2), (3, .int x3)] → W p l e (rmd 1) s m ([.ref a_r0, .ref a_r1, .int x2, .int x3] : List Value).toArray below meth c H locs 0 0 Q (F0 m 13 ls []) := by
    intro r0_count_2 r0_steps_2 hr H locs ls hW hl
    unfold F_Sps_note_J13_2 at hr
    refine lv_iconst (v := 0) hx hb d_Sps_note_13 (by decide) ?_
    refine lv_aload_n hx hb d_Sps_note_14 rfl (lv_at hl 0 rfl) ?_
    refine k_get i_Sps C hW 0 rfl rfl 1 (by decide) qf_Sps_18 rfl rfl d_Sps_note_15 ?_
    refine lv_bipush (v := 7) hx hb d_Sps_note_18 (by decide) ?_
    refine k_mmin C qm_Sps_61 ⟨Nat.le_of_ble_eq_true rfl, Nat.le_of_ble_eq_true rfl, Nat.zero_le _, Nat.zero_le _⟩ hl.1 d_Sps_note_20 ?_
    refine k_mmax C qm_Sps_67 ⟨Nat.le_of_ble_eq_true rfl, Nat.le_of_ble_eq_true rfl, Nat.zero_le _, Nat.zero_le _⟩ hl.1 d_Sps_note_23 ?_
    refine lv_istore (lv' := [(4, .int (if (0 : Int32) < (if (7 : Int32) < r0_count_2 then (7 : Int32) else r0_count_2) then (if (7 : Int32) < r0_count_2 then (7 : Int32) else r0_count_2) else (0 : Int32))), (0, .ref a_r0), (1, .ref a_r1), (2, .int x2), (3, .int x3)]) hx hb d_Sps_note_26 hl (by decide) rfl (fun ls hl => ?_)
    refine lv_aload_n hx hb d_Sps_note_28 rfl (lv_at hl 1 rfl) ?_
    refine k_get i_Sps C hW 0 rfl rfl 0 (by decide) qf_Sps_11 rfl rfl d_Sps_note_29 ?_
    refine lv_iload hx hb d_Sps_note_32 (lv_at hl 0 rfl) ?_
    obtain ⟨h_3, hr⟩ := ck_some hr
    refine k_aald C hW 1 (sa := s_r0_steps) (g := r0_steps_2) rfl h_3 d_Sps_note_34 ?_
    refine lv_astore (lv' := [(5, .ref (s_r0_steps (r0_steps_2 (Int32.toNatClampNeg (if (0 : Int32) < (if (7 : Int32) < r0_count_2 then (7 : Int32) else r0_count_2) then (if (7 : Int32) < r0_count_2 then (7 : Int32) else r0_count_2) else (0 : Int32)))))), (4, .int (if (0 : Int32) < (if (7 : Int32) < r0_count_2 then (7 : Int32) else r0_count_2) then (if (7 : Int32) < r0_count_2 then (7 : Int32) else r0_count_2) else (0 : Int32))), (0, .ref a_r0), (1, .ref a_r1), (2, .int x2), (3, .int x3)]) hx hb d_Sps_note_35 hl (by decide) rfl (fun ls hl => ?_)
    refine lv_aload hx hb d_Sps_note_37 (lv_at hl 0 rfl) ?_
    refine lv_iload_n hx hb d_Sps_note_39 rfl (lv_at hl 4 rfl) ?_
    obtain ⟨h_4, hr⟩ := ckN_some hr
    refine k_putN i_Stp t_Stp_ok n_Stp C hW _ (at8 (P := fun j => ((w_Sps_note cI cS a_r0 a_r0_steps s_r0_steps a_r1 v_r1_weights v_r1_kinds v_r1_figures v_r1_goes v_r1_things v_r1_hampers v_r1_days v_r1_fields r0_count_2 r0_steps_2 r0_steps_before r0_steps_doneBefore r0_steps_leftBefore r0_steps_part r0_steps_place r1_done) : va_W)[2 + j]? = some (s_r0_steps j, .inr (4, [.int (r0_steps_part j), .int (r0_steps_place j), .int (r0_steps_before j), .int (r0_steps_leftBefore j), .int (r0_steps_doneBefore j)]))) h_4 rfl rfl rfl rfl rfl rfl rfl rfl) rfl 0 (by decide) qf_Sps_70 rfl rfl (ty := .int) rfl rfl rfl (Nat.le_of_ble_eq_true rfl) (ws' := (w_Sps_note cI cS a_r0 a_r0_steps s_r0_steps a_r1 v_r1_weights v_r1_kinds v_r1_figures v_r1_goes v_r1_things v_r1_hampers v_r1_days v_r1_fields r0_count_2 r0_steps_2 r0_steps_before r0_steps_doneBefore r0_steps_leftBefore (upd r0_steps_part (r0_steps_2 (Int32.toNatClampNeg (if (0 : Int32) < (if (7 : Int32) < r0_count_2 then (7 : Int32) else r0_count_2) then (if (7 : Int32) < r0_count_2 then (7 : Int32) else r0_count_2) else (0 : Int32)))) x2) r0_steps_place r1_done)) (at8 (P := fun j => List.set (w_Sps_note cI cS a_r0 a_r0_steps s_r0_steps a_r1 v_r1_weights v_r1_kinds v_r1_figures v_r1_goes v_r1_things v_r1_hampers v_r1_days v_r1_fields r0_count_2 r0_steps_2 r0_steps_before r0_steps_doneBefore r0_steps_leftBefore r0_steps_part r0_steps_place r1_done) (2 + j) (s_r0_steps j, .inr (4, List.set [.int (r0_steps_part j), .int (r0_steps_place j), .int (r0_steps_before j), .int (r0_steps_leftBefore j), .int (r0_steps_doneBefore j)] 0 (.int x2))) = (w_Sps_note cI cS a_r0 a_r0_steps s_r0_steps a_r1 v_r1_weights v_r1_kinds v_r1_figures v_r1_goes v_r1_things v_r1_hampers v_r1_days v_r1_fields r0_count_2 r0_steps_2 r0_steps_before r0_steps_doneBefore r0_steps_leftBefore (upd r0_steps_part j x2) r0_steps_place r1_done)) h_4 rfl rfl rfl rfl rfl rfl rfl rfl) d_Sps_note_40 (fun H locs hW => ?_)
    refine lv_aload hx hb d_Sps_note_43 (lv_at hl 0 rfl) ?_
    refine lv_iload_n hx hb d_Sps_note_45 rfl (lv_at hl 5 rfl) ?_
    refine k_putN i_Stp t_Stp_ok n_Stp C hW _ (at8 (P := fun j => ((w_Sps_note cI cS a_r0 a_r0_steps s_r0_steps a_r1 v_r1_weights v_r1_kinds v_r1_figures v_r1_goes v_r1_things v_r1_hampers v_r1_days v_r1_fields r0_count_2 r0_steps_2 r0_steps_before r0_steps_doneBefore r0_steps_leftBefore (upd r0_steps_part (r0_steps_2 (Int32.toNatClampNeg (if (0 : Int32) < (if (7 : Int32) < r0_count_2 then (7 : Int32) else r0_count_2) then (if (7 : Int32) < r0_count_2 then (7 : Int32) else r0_count_2) else (0 : Int32)))) x2) r0_steps_place r1_done) : va_W)[2 + j]? = some (s_r0_steps j, .inr (4, [.int ((upd r0_steps_part (r0_steps_2 (Int32.toNatClampNeg (if (0 : Int32) < (if (7 : Int32) < r0_count_2 then (7 : Int32) else r0_count_2) then (if (7 : Int32) < r0_count_2 then (7 : Int32) else r0_count_2) else (0 : Int32)))) x2) j), .int (r0_steps_place j), .int (r0_steps_before j), .int (r0_steps_leftBefore j), .int (r0_steps_doneBefore j)]))) h_4 rfl rfl rfl rfl rfl rfl rfl rfl) rfl 1 (by decide) qf_Sps_73 rfl rfl (ty := .int) rfl rfl rfl (Nat.le_of_ble_eq_true rfl) (ws' := (w_Sps_note cI cS a_r0 a_r0_steps s_r0_steps a_r1 v_r1_weights v_r1_kinds v_r1_figures v_r1_goes v_r1_things v_r1_hampers v_r1_days v_r1_fields r0_count_2 r0_steps_2 r0_steps_before r0_steps_doneBefore r0_steps_leftBefore (upd r0_steps_part (r0_steps_2 (Int32.toNatClampNeg (if (0 : Int32) < (if (7 : Int32) < r0_count_2 then (7 : Int32) else r0_count_2) then (if (7 : Int32) < r0_count_2 then (7 : Int32) else r0_count_2) else (0 : Int32)))) x2) (upd r0_steps_place (r0_steps_2 (Int32.toNatClampNeg (if (0 : Int32) < (if (7 : Int32) < r0_count_2 then (7 : Int32) else r0_count_2) then (if (7 : Int32) < r0_count_2 then (7 : Int32) else r0_count_2) else (0 : Int32)))) x3) r1_done)) (at8 (P := fun j => List.set (w_Sps_note cI cS a_r0 a_r0_steps s_r0_steps a_r1 v_r1_weights v_r1_kinds v_r1_figures v_r1_goes v_r1_things v_r1_hampers v_r1_days v_r1_fields r0_count_2 r0_steps_2 r0_steps_before r0_steps_doneBefore r0_steps_leftBefore (upd r0_steps_part (r0_steps_2 (Int32.toNatClampNeg (if (0 : Int32) < (if (7 : Int32) < r0_count_2 then (7 : Int32) else r0_count_2) then (if (7 : Int32) < r0_count_2 then (7 : Int32) else r0_count_2) else (0 : Int32)))) x2) r0_steps_place r1_done) (2 + j) (s_r0_steps j, .inr (4, List.set [.int ((upd r0_steps_part (r0_steps_2 (Int32.toNatClampNeg (if (0 : Int32) < (if (7 : Int32) < r0_count_2 then (7 : Int32) else r0_count_2) then (if (7 : Int32) < r0_count_2 then (7 : Int32) else r0_count_2) else (0 : Int32)))) x2) j), .int (r0_steps_place j), .int (r0_steps_before j), .int (r0_steps_leftBefore j), .int (r0_steps_doneBefore j)] 1 (.int x3))) = (w_Sps_note cI cS a_r0 a_r0_steps s_r0_steps a_r1 v_r1_weights v_r1_kinds v_r1_figures v_r1_goes v_r1_things v_r1_hampers v_r1_days v_r1_fields r0_count_2 r0_steps_2 r0_steps_before r0_steps_doneBefore r0_steps_leftBefore (upd r0_steps_part (r0_steps_2 (Int32.toNatClampNeg (if (0 : Int32) < (if (7 : Int32) < r0_count_2 then (7 : Int32) else r0_count_2) then (if (7 : Int32) < r0_count_2 then (7 : Int32) else r0_count_2) else (0 : Int32)))) x2) (upd r0_steps_place j x3) r1_done)) h_4 rfl rfl rfl rfl rfl rfl rfl rfl) d_Sps_note_46 (fun H locs hW => ?_)
    refine lv_aload hx hb d_Sps_note_49 (lv_at hl 0 rfl) ?_
    refine lv_aload_n hx hb d_Sps_note_51 rfl (lv_at hl 3 rfl) ?_
    refine k_getN i_Sta C hW 10 rfl rfl 8 (by decide) qf_Sps_76 rfl rfl d_Sps_note_52 ?_
    refine k_putN i_Stp t_Stp_ok n_Stp C hW _ (at8 (P := fun j => ((w_Sps_note cI cS a_r0 a_r0_steps s_r0_steps a_r1 v_r1_weights v_r1_kinds v_r1_figures v_r1_goes v_r1_things v_r1_hampers v_r1_days v_r1_fields r0_count_2 r0_steps_2 r0_steps_before r0_steps_doneBefore r0_steps_leftBefore (upd r0_steps_part (r0_steps_2 (Int32.toNatClampNeg (if (0 : Int32) < (if (7 : Int32) < r0_count_2 then (7 : Int32) else r0_count_2) then (if (7 : Int32) < r0_count_2 then (7 : Int32) else r0_count_2) else (0 : Int32)))) x2) (upd r0_steps_place (r0_steps_2 (Int32.toNatClampNeg (if (0 : Int32) < (if (7 : Int32) < r0_count_2 then (7 : Int32) else r0_count_2) then (if (7 : Int32) < r0_count_2 then (7 : Int32) else r0_count_2) else (0 : Int32)))) x3) r1_done) : va_W)[2 + j]? = some (s_r0_steps j, .inr (4, [.int ((upd r0_steps_part (r0_steps_2 (Int32.toNatClampNeg (if (0 : Int32) < (if (7 : Int32) < r0_count_2 then (7 : Int32) else r0_count_2) then (if (7 : Int32) < r0_count_2 then (7 : Int32) else r0_count_2) else (0 : Int32)))) x2) j), .int ((upd r0_steps_place (r0_steps_2 (Int32.toNatClampNeg (if (0 : Int32) < (if (7 : Int32) < r0_count_2 then (7 : Int32) else r0_count_2) then (if (7 : Int32) < r0_count_2 then (7 : Int32) else r0_count_2) else (0 : Int32)))) x3) j), .int (r0_steps_before j), .int (r0_steps_leftBefore j), .int (r0_steps_doneBefore j)]))) h_4 rfl rfl rfl rfl rfl rfl rfl rfl) rfl 4 (by decide) qf_Sps_79 rfl rfl (ty := .int) rfl rfl rfl (Nat.le_of_ble_eq_true rfl) (ws' := (w_Sps_note cI cS a_r0 a_r0_steps s_r0_steps a_r1 v_r1_weights v_r1_kinds v_r1_figures v_r1_goes v_r1_things v_r1_hampers v_r1_days v_r1_fields r0_count_2 r0_steps_2 r0_steps_before (upd r0_steps_doneBefore (r0_steps_2 (Int32.toNatClampNeg (if (0 : Int32) < (if (7 : Int32) < r0_count_2 then (7 : Int32) else r0_count_2) then (if (7 : Int32) < r0_count_2 then (7 : Int32) else r0_count_2) else (0 : Int32)))) r1_done) r0_steps_leftBefore (upd r0_steps_part (r0_steps_2 (Int32.toNatClampNeg (if (0 : Int32) < (if (7 : Int32) < r0_count_2 then (7 : Int32) else r0_count_2) then (if (7 : Int32) < r0_count_2 then (7 : Int32) else r0_count_2) else (0 : Int32)))) x2) (upd r0_steps_place (r0_steps_2 (Int32.toNatClampNeg (if (0 : Int32) < (if (7 : Int32) < r0_count_2 then (7 : Int32) else r0_count_2) then (if (7 : Int32) < r0_count_2 then (7 : Int32) else r0_count_2) else (0 : Int32)))) x3) r1_done)) (at8 (P := fun j => List.set (w_Sps_note cI cS a_r0 a_r0_steps s_r0_steps a_r1 v_r1_weights v_r1_kinds v_r1_figures v_r1_goes v_r1_things v_r1_hampers v_r1_days v_r1_fields r0_count_2 r0_steps_2 r0_steps_before r0_steps_doneBefore r0_steps_leftBefore (upd r0_steps_part (r0_steps_2 (Int32.toNatClampNeg (if (0 : Int32) < (if (7 : Int32) < r0_count_2 then (7 : Int32) else r0_count_2) then (if (7 : Int32) < r0_count_2 then (7 : Int32) else r0_count_2) else (0 : Int32)))) x2) (upd r0_steps_place (r0_steps_2 (Int32.toNatClampNeg (if (0 : Int32) < (if (7 : Int32) < r0_count_2 then (7 : Int32) else r0_count_2) then (if (7 : Int32) < r0_count_2 then (7 : Int32) else r0_count_2) else (0 : Int32)))) x3) r1_done) (2 + j) (s_r0_steps j, .inr (4, List.set [.int ((upd r0_steps_part (r0_steps_2 (Int32.toNatClampNeg (if (0 : Int32) < (if (7 : Int32) < r0_count_2 then (7 : Int32) else r0_count_2) then (if (7 : Int32) < r0_count_2 then (7 : Int32) else r0_count_2) else (0 : Int32)))) x2) j), .int ((upd r0_steps_place (r0_steps_2 (Int32.toNatClampNeg (if (0 : Int32) < (if (7 : Int32) < r0_count_2 then (7 : Int32) else r0_count_2) then (if (7 : Int32) < r0_count_2 then (7 : Int32) else r0_count_2) else (0 : Int32)))) x3) j), .int (r0_steps_before j), .int (r0_steps_leftBefore j), .int (r0_steps_doneBefore j)] 4 (.int r1_done))) = (w_Sps_note cI cS a_r0 a_r0_steps s_r0_steps a_r1 v_r1_weights v_r1_kinds v_r1_figures v_r1_goes v_r1_things v_r1_hampers v_r1_days v_r1_fields r0_count_2 r0_steps_2 r0_steps_before (upd r0_steps_doneBefore j r1_done) r0_steps_leftBefore (upd r0_steps_part (r0_steps_2 (Int32.toNatClampNeg (if (0 : Int32) < (if (7 : Int32) < r0_count_2 then (7 : Int32) else r0_count_2) then (if (7 : Int32) < r0_count_2 then (7 : Int32) else r0_count_2) else (0 : Int32)))) x2) (upd r0_steps_place (r0_steps_2 (Int32.toNatClampNeg (if (0 : Int32) < (if (7 : Int32) < r0_count_2 then (7 : Int32) else r0_count_2) then (if (7 : Int32) < r0_count_2 then (7 : Int32) else r0_count_2) else (0 : Int32)))) x3) r1_done)) h_4 rfl rfl rfl rfl rfl rfl rfl rfl) d_Sps_note_55 (fun H locs hW => ?_)
    refine lv_aload_n hx hb d_Sps_note_58 rfl (lv_at hl 2 rfl) ?_
    refine lv_iload hx hb d_Sps_note_59 (lv_at hl 1 rfl) ?_
    refine lv_iconst (v := 1) hx hb d_Sps_note_61 (by decide) ?_
    refine lv_iadd hx hb d_Sps_note_62 ?_
    refine k_put i_Sps t_Sps_ok n_Sps C hW 0 rfl rfl 1 (by decide) qf_Sps_18 rfl rfl (ty := .int) rfl rfl rfl (Nat.le_of_ble_eq_true rfl) (ws' := (w_Sps_note cI cS a_r0 a_r0_steps s_r0_steps a_r1 v_r1_weights v_r1_kinds v_r1_figures v_r1_goes v_r1_things v_r1_hampers v_r1_days v_r1_fields ((if (0 : Int32) < (if (7 : Int32) < r0_count_2 then (7 : Int32) else r0_count_2) then (if (7 : Int32) < r0_count_2 then (7 : Int32) else r0_count_2) else (0 : Int32)) + 1) r0_steps_2 r0_steps_before (upd r0_steps_doneBefore (r0_steps_2 (Int32.toNatClampNeg (if (0 : Int32) < (if (7 : Int32) < r0_count_2 then (7 : Int32) else r0_count_2) then (if (7 : Int32) < r0_count_2 then (7 : Int32) else r0_count_2) else (0 : Int32)))) r1_done) r0_steps_leftBefore (upd r0_steps_part (r0_steps_2 (Int32.toNatClampNeg (if (0 : Int32) < (if (7 : Int32) < r0_count_2 then (7 : Int32) else r0_count_2) then (if (7 : Int32) < r0_count_2 then (7 : Int32) else r0_count_2) else (0 : Int32)))) x2) (upd r0_steps_place (r0_steps_2 (Int32.toNatClampNeg (if (0 : Int32) < (if (7 : Int32) < r0_count_2 then (7 : Int32) else r0_count_2) then (if (7 : Int32) < r0_count_2 then (7 : Int32) else r0_count_2) else (0 : Int32)))) x3) r1_done)) rfl d_Sps_note_63 (fun H locs hW => ?_)
    refine lv_aload hx hb d_Sps_note_66 (lv_at hl 0 rfl) ?_
    obtain rfl := Option.some.inj hr
    rw [hQ]; exact k_aret C hret hW d_Sps_note_68
  refine lv_icmp_lt (tgt := 13) hx hb d_Sps_note_6 (by decide) (fun c_1 => ?_) (fun c_1 => ?_)
  · replace hr := ip c_1 hr
    exact hJ_2 r0_count r0_steps hr _ _ _ hW (lv_sub hl [0, 1, 2, 3] rfl)
  · replace hr := iN c_1 hr
    refine lv_aload_n hx hb d_Sps_note_9 rfl (lv_at hl 0 rfl) ?_
    obtain ⟨q_5, hc_5, hr⟩ := ob hr
    have ct_5 := C_Sps_forgetOldest l D cI cS a_r0 a_r0_steps s_r0_steps r0_count r0_steps r0_steps_before r0_steps_doneBefore r0_steps_leftBefore r0_steps_part r0_steps_place q_5 hc_5
    refine k_goV hA hW [0, 1, 2, 3, 4, 5, 6, 7, 8, 9] rfl ct_5.1 (ws' := (w_Sps_note cI cS a_r0 a_r0_steps s_r0_steps a_r1 v_r1_weights v_r1_kinds v_r1_figures v_r1_goes v_r1_things v_r1_hampers v_r1_days v_r1_fields q_5.1 q_5.2 r0_steps_before r0_steps_doneBefore r0_steps_leftBefore r0_steps_part r0_steps_place r1_done)) rfl (k_runV C hA hW mw_Sps_forgetOldest mv_Sps_forgetOldest (ct_5.2 _) [0, 1, 2, 3, 4, 5, 6, 7, 8, 9] rfl rfl 0 rfl rfl qm_Sps_58 ⟨Nat.le_of_ble_eq_true rfl, Nat.le_of_ble_eq_true rfl, Nat.zero_le _, Nat.zero_le _⟩ rfl rfl (Nat.le_of_ble_eq_true rfl) hl.1 d_Sps_note_10) (fun H locs hW => ?_)
    exact hJ_2 q_5.1 q_5.2 hr _ _ _ hW (lv_sub hl [0, 1, 2, 3] rfl)
def w_Sps_noteField (cI cS : ClassId) (a_r0 : Nat) (a_r0_steps : Nat) (s_r0_steps : Nat → Nat) (a_r1 : Nat) (a_r1_fields : Nat) (a_r1_fields_lefts : Nat) (a_r1_fields_wishes : Nat) (v_r1_weights v_r1_kinds v_r1_figures v_r1_goes v_r1_things v_r1_hampers v_r1_days : Value) (r0_count : Int32) (r0_steps : Nat → Nat) (r0_steps_before : Nat → Int32) (r0_steps_doneBefore : Nat → Int32) (r0_steps_leftBefore : Nat → Int32) (r0_steps_part : Nat → Int32) (r0_steps_place : Nat → Int32) (r1_done : Int32) (r1_fields_lefts : Nat → Int32) (r1_fields_wishes : Nat → Int32) : va_W := [(a_r0, .inr (3, [.ref a_r0_steps, .int r0_count])), (a_r0_steps, .inl (cS, 8, .inr (.inr (.inr (.inr (fun i => some (s_r0_steps (r0_steps i)))))))), (s_r0_steps 0, .inr (4, [.int (r0_steps_part 0), .int (r0_steps_place 0), .int (r0_steps_before 0), .int (r0_steps_leftBefore 0), .int (r0_steps_doneBefore 0)])), (s_r0_steps 1, .inr (4, [.int (r0_steps_part 1), .int (r0_steps_place 1), .int (r0_steps_before 1), .int (r0_steps_leftBefore 1), .int (r0_steps_doneBefore 1)])), (s_r0_steps 2, .inr (4, [.int (r0_steps_part 2), .int (r0_steps_place 2), .int (r0_steps_before 2), .int (r0_steps_leftBefore 2), .int (r0_steps_doneBefore 2)])), (s_r0_steps 3, .inr (4, [.int (r0_steps_part 3), .int (r0_steps_place 3), .int (r0_steps_before 3), .int (r0_steps_leftBefore 3), .int (r0_steps_doneBefore 3)])), (s_r0_steps 4, .inr (4, [.int (r0_steps_part 4), .int (r0_steps_place 4), .int (r0_steps_before 4), .int (r0_steps_leftBefore 4), .int (r0_steps_doneBefore 4)])), (s_r0_steps 5, .inr (4, [.int (r0_steps_part 5), .int (r0_steps_place 5), .int (r0_steps_before 5), .int (r0_steps_leftBefore 5), .int (r0_steps_doneBefore 5)])), (s_r0_steps 6, .inr (4, [.int (r0_steps_part 6), .int (r0_steps_place 6), .int (r0_steps_before 6), .int (r0_steps_leftBefore 6), .int (r0_steps_doneBefore 6)])), (s_r0_steps 7, .inr (4, [.int (r0_steps_part 7), .int (r0_steps_place 7), .int (r0_steps_before 7), .int (r0_steps_leftBefore 7), .int (r0_steps_doneBefore 7)])), (a_r1, .inr (1, [v_r1_weights, v_r1_kinds, v_r1_figures, v_r1_goes, v_r1_things, v_r1_hampers, v_r1_days, .ref a_r1_fields, .int r1_done])), (a_r1_fields, .inr (2, [.ref a_r1_fields_wishes, .ref a_r1_fields_lefts])), (a_r1_fields_lefts, .inl (cI, 4, .inl r1_fields_lefts)), (a_r1_fields_wishes, .inl (cI, 4, .inl r1_fields_wishes))]
def F_Sps_noteField (r0_count : Int32) (r0_steps : Nat → Nat) (r0_steps_before : Nat → Int32) (r0_steps_doneBefore : Nat → Int32) (r0_steps_leftBefore : Nat → Int32) (r0_steps_part : Nat → Int32) (r0_steps_place : Nat → Int32) (r1_done : Int32) (r1_fields_lefts : Nat → Int32) (r1_fields_wishes : Nat → Int32) (x2 : Int32) : Option ((Int32) × (Nat → Nat) × (Nat → Int32) × (Nat → Int32) × (Nat → Int32) × (Nat → Int32) × (Nat → Int32)) :=
  ((F_Sps_note r0_count r0_steps r0_steps_doneBefore r0_steps_part r0_steps_place r1_done (2 : Int32) x2).bind (fun q_1 => ((F_H_isField x2).bind (fun q_2 => (if q_2 = 0 then (some (q_1.2.1, q_1.2.2.1, r0_steps_before, q_1.2.2.2.1, r0_steps_leftBefore, q_1.2.2.2.2.1, q_1.2.2.2.2.2)) else (ck x2 4 (ckN q_1.1 (ck x2 4 (some (q_1.2.1, q_1.2.2.1, (upd r0_steps_before q_1.1 (r1_fields_wishes (Int32.toNatClampNeg x2))), q_1.2.2.2.1, (upd r0_steps_leftBefore q_1.1 (r1_fields_lefts (Int32.toNatClampNeg x2))), q_1.2.2.2.2.1, q_1.2.2.2.2.2))))))))))
set_option maxHeartbeats 4000000 in
set_option maxRecDepth 100000 in
theorem C_Sps_noteField (l : Launch) (D : va_G) (cI cS : ClassId) (a_r0 : Nat) (a_r0_steps : Nat) (s_r0_steps : Nat → Nat) (a_r1 : Nat) (a_r1_fields : Nat) (a_r1_fields_lefts : Nat) (a_r1_fields_wishes : Nat) (v_r1_weights v_r1_kinds v_r1_figures v_r1_goes v_r1_things v_r1_hampers v_r1_days : Value) (r0_count : Int32) (r0_steps : Nat → Nat) (r0_steps_before : Nat → Int32) (r0_steps_doneBefore : Nat → Int32) (r0_steps_leftBefore : Nat → Int32) (r0_steps_part : Nat → Int32) (r0_steps_place : Nat → Int32) (r1_done : Int32) (r1_fields_lefts : Nat → Int32) (r1_fields_wishes : Nat → Int32) (x2 : Int32) (o : (Int32) × (Nat → Nat) × (Nat → Int32) × (Nat → Int32) × (Nat → Int32) × (Nat → Int32) × (Nat → Int32)) (hr : F_Sps_noteField r0_count r0_steps r0_steps_before r0_steps_doneBefore r0_steps_leftBefore r0_steps_part r0_steps_place r1_done r1_fields_lefts r1_fields_wishes x2 = some o) : ctV l y_Sps_noteField (Cond.code y_Sps_noteField b_Sps_noteField 4 none) (rmd 2) D (kTy cI cS) [.ref a_r0, .ref a_r1, .int x2] (w_Sps_noteField cI cS a_r0 a_r0_steps s_r0_steps a_r1 a_r1_fields a_r1_fields_lefts a_r1_fields_wishes v_r1_weights v_r1_kinds v_r1_figures v_r1_goes v_r1_things v_r1_hampers v_r1_days r0_count r0_steps r0_steps_before r0_steps_doneBefore r0_steps_leftBefore r0_steps_part r0_steps_place r1_done r1_fields_lefts r1_fields_wishes) (w_Sps_noteField cI cS a_r0 a_r0_steps s_r0_steps a_r1 a_r1_fields a_r1_fields_lefts a_r1_fields_wishes v_r1_weights v_r1_kinds v_r1_figures v_r1_goes v_r1_things v_r1_hampers v_r1_days o.1 o.2.1 o.2.2.1 o.2.2.2.1 o.2.2.2.2.1 o.2.2.2.2.2.1 o.2.2.2.2.2.2 r1_done r1_fields_lefts r1_fields_wishes) := by
  unfold F_Sps_noteField at hr
  refine ⟨rfl, fun sz => ct_of (w0 := (w_Sps_noteField cI cS a_r0 a_r0_steps s_r0_steps a_r1 a_r1_fields a_r1_fields_lefts a_r1_fields_wishes v_r1_weights v_r1_kinds v_r1_figures v_r1_goes v_r1_things v_r1_hampers v_r1_days r0_count r0_steps r0_steps_before r0_steps_doneBefore r0_steps_leftBefore r0_steps_part r0_steps_place r1_done r1_fields_lefts r1_fields_wishes)) (Qc := fun A => qV D (w_Sps_noteField cI cS a_r0 a_r0_steps s_r0_steps a_r1 a_r1_fields a_r1_fields_lefts a_r1_fields_wishes v_r1_weights v_r1_kinds v_r1_figures v_r1_goes v_r1_things v_r1_hampers v_r1_days o.1 o.2.1 o.2.2.1 o.2.2.2.1 o.2.2.2.2.1 o.2.2.2.2.2.1 o.2.2.2.2.2.2 r1_done r1_fields_lefts r1_fields_wishes) A) rfl (Nat.le_of_ble_eq_true rfl) ?_ sz⟩
  intro p e s m below meth c A hA C hret ls hl hW
  have C : cx p s m ([.ref a_r0, .ref a_r1, .int x2] : List Value).toArray meth c b_Sps_noteField 4 R_Sps D (kTy cI cS) (Cond.code y_Sps_noteField b_Sps_noteField 4 none) := C
  obtain ⟨hx, hb, hml, hown, hts, hK, hlk, hN⟩ := id C
  have hl : lv_has ls 4 [(0, .ref a_r0), (1, .ref a_r1), (2, .int x2)] := hl
  obtain ⟨Q, hQ⟩ : ∃ Q, Q = MQ below (qV D (w_Sps_noteField cI cS a_r0 a_r0_steps s_r0_steps a_r1 a_r1_fields a_r1_fields_lefts a_r1_fields_wishes v_r1_weights v_r1_kinds v_r1_figures v_r1_goes v_r1_things v_r1_hampers v_r1_days o.1 o.2.1 o.2.2.1 o.2.2.2.1 o.2.2.2.2.1 o.2.2.2.2.2.1 o.2.2.2.2.2.2 r1_done r1_fields_lefts r1_fields_wishes) A) ([.ref a_r0, .ref a_r1, .int x2] : List Value).toArray s 0 0 A := ⟨_, rfl⟩
  rw [← hQ]
  refine lv_aload_n hx hb d_Sps_noteField_0 rfl (lv_at hl 0 rfl) ?_
  refine lv_aload_n hx hb d_Sps_noteField_1 rfl (lv_at hl 1 rfl) ?_
  refine lv_iconst (v := 2) hx hb d_Sps_noteField_2 (by decide) ?_
  refine lv_iload_n hx hb d_Sps_noteField_3 rfl (lv_at hl 2 rfl) ?_
  obtain ⟨q_1, hc_1, hr⟩ := ob hr
  have ct_1 := C_Sps_note l D cI cS a_r0 a_r0_steps s_r0_steps a_r1 v_r1_weights v_r1_kinds v_r1_figures v_r1_goes v_r1_things v_r1_hampers v_r1_days (Value.ref a_r1_fields) r0_count r0_steps r0_steps_before r0_steps_doneBefore r0_steps_leftBefore r0_steps_part r0_steps_place r1_done 2 x2 q_1 hc_1
  refine k_goR hA hW [0, 1, 2, 3, 4, 5, 6, 7, 8, 9, 10] rfl ct_1.1 (ws' := (w_Sps_noteField cI cS a_r0 a_r0_steps s_r0_steps a_r1 a_r1_fields a_r1_fields_lefts a_r1_fields_wishes v_r1_weights v_r1_kinds v_r1_figures v_r1_goes v_r1_things v_r1_hampers v_r1_days q_1.2.1 q_1.2.2.1 r0_steps_before q_1.2.2.2.1 r0_steps_leftBefore q_1.2.2.2.2.1 q_1.2.2.2.2.2 r1_done r1_fields_lefts r1_fields_wishes)) rfl (k_runV C hA hW mw_Sps_note mv_Sps_note (ct_1.2 _) [0, 1, 2, 3, 4, 5, 6, 7, 8, 9, 10] rfl rfl 0 rfl rfl qm_Sps_22 ⟨Nat.le_of_ble_eq_true rfl, Nat.le_of_ble_eq_true rfl, Nat.zero_le _, Nat.zero_le _⟩ rfl rfl (Nat.le_of_ble_eq_true rfl) hl.1 d_Sps_noteField_4) (fun H locs hW => ?_)
  refine lv_astore_n (lv' := [(3, .ref (s_r0_steps q_1.1)), (0, .ref a_r0), (1, .ref a_r1), (2, .int x2)]) hx hb d_Sps_noteField_7 rfl hl (by decide) rfl (fun ls hl => ?_)
  refine lv_iload_n hx hb d_Sps_noteField_8 rfl (lv_at hl 3 rfl) ?_
  obtain ⟨q_2, hc_2, hr⟩ := ob hr
  have ct_2 := C_H_isField l D cI cS x2 q_2 hc_2
  refine k_goIp hA hW [] rfl rfl (k_runSN C hA hW mw_H_isField ms_H_isField (ct_2.2 _) [] rfl rfl qm_Sps_38 ⟨Nat.le_of_ble_eq_true rfl, Nat.le_of_ble_eq_true rfl, Nat.zero_le _, Nat.zero_le _⟩ rfl rfl (Nat.le_of_ble_eq_true rfl) hl.1 d_Sps_noteField_9) (fun H locs hW => ?_)
  refine lv_if_eq (tgt := 41) hx hb d_Sps_noteField_12 (by decide) (fun c_3 => ?_) (fun c_3 => ?_)
  · replace hr := ip c_3 hr
    obtain rfl := Option.some.inj hr
    rw [hQ]; exact k_vret C hret hW d_Sps_noteField_41
  · replace hr := iN c_3 hr
    refine lv_aload_n hx hb d_Sps_noteField_15 rfl (lv_at hl 0 rfl) ?_
    refine lv_aload_n hx hb d_Sps_noteField_16 rfl (lv_at hl 2 rfl) ?_
    refine k_getN i_Sta C hW 10 rfl rfl 7 (by decide) qf_Sps_42 rfl rfl d_Sps_noteField_17 ?_
    refine k_getN i_Fld C hW 11 rfl rfl 0 (by decide) qf_Sps_46 rfl rfl d_Sps_noteField_20 ?_
    refine lv_iload_n hx hb d_Sps_noteField_23 rfl (lv_at hl 3 rfl) ?_
    obtain ⟨h_4, hr⟩ := ck_some hr
    refine k_iald C hW 13 rfl h_4 d_Sps_noteField_24 ?_
    obtain ⟨h_5, hr⟩ := ckN_some hr
    refine k_putN i_Stp t_Stp_ok n_Stp C hW _ (at8 (P := fun j => ((w_Sps_noteField cI cS a_r0 a_r0_steps s_r0_steps a_r1 a_r1_fields a_r1_fields_lefts a_r1_fields_wishes v_r1_weights v_r1_kinds v_r1_figures v_r1_goes v_r1_things v_r1_hampers v_r1_days q_1.2.1 q_1.2.2.1 r0_steps_before q_1.2.2.2.1 r0_steps_leftBefore q_1.2.2.2.2.1 q_1.2.2.2.2.2 r1_done r1_fields_lefts r1_fields_wishes) : va_W)[2 + j]? = some (s_r0_steps j, .inr (4, [.int (q_1.2.2.2.2.1 j), .int (q_1.2.2.2.2.2 j), .int (r0_steps_before j), .int (r0_steps_leftBefore j), .int (q_1.2.2.2.1 j)]))) h_5 rfl rfl rfl rfl rfl rfl rfl rfl) rfl 2 (by decide) qf_Sps_32 rfl rfl (ty := .int) rfl rfl rfl (Nat.le_of_ble_eq_true rfl) (ws' := (w_Sps_noteField cI cS a_r0 a_r0_steps s_r0_steps a_r1 a_r1_fields a_r1_fields_lefts a_r1_fields_wishes v_r1_weights v_r1_kinds v_r1_figures v_r1_goes v_r1_things v_r1_hampers v_r1_days q_1.2.1 q_1.2.2.1 (upd r0_steps_before q_1.1 (r1_fields_wishes (Int32.toNatClampNeg x2))) q_1.2.2.2.1 r0_steps_leftBefore q_1.2.2.2.2.1 q_1.2.2.2.2.2 r1_done r1_fields_lefts r1_fields_wishes)) (at8 (P := fun j => List.set (w_Sps_noteField cI cS a_r0 a_r0_steps s_r0_steps a_r1 a_r1_fields a_r1_fields_lefts a_r1_fields_wishes v_r1_weights v_r1_kinds v_r1_figures v_r1_goes v_r1_things v_r1_hampers v_r1_days q_1.2.1 q_1.2.2.1 r0_steps_before q_1.2.2.2.1 r0_steps_leftBefore q_1.2.2.2.2.1 q_1.2.2.2.2.2 r1_done r1_fields_lefts r1_fields_wishes) (2 + j) (s_r0_steps j, .inr (4, List.set [.int (q_1.2.2.2.2.1 j), .int (q_1.2.2.2.2.2 j), .int (r0_steps_before j), .int (r0_steps_leftBefore j), .int (q_1.2.2.2.1 j)] 2 (.int (r1_fields_wishes (Int32.toNatClampNeg x2))))) = (w_Sps_noteField cI cS a_r0 a_r0_steps s_r0_steps a_r1 a_r1_fields a_r1_fields_lefts a_r1_fields_wishes v_r1_weights v_r1_kinds v_r1_figures v_r1_goes v_r1_things v_r1_hampers v_r1_days q_1.2.1 q_1.2.2.1 (upd r0_steps_before j (r1_fields_wishes (Int32.toNatClampNeg x2))) q_1.2.2.2.1 r0_steps_leftBefore q_1.2.2.2.2.1 q_1.2.2.2.2.2 r1_done r1_fields_lefts r1_fields_wishes)) h_5 rfl rfl rfl rfl rfl rfl rfl rfl) d_Sps_noteField_25 (fun H locs hW => ?_)
    refine lv_aload_n hx hb d_Sps_noteField_28 rfl (lv_at hl 0 rfl) ?_
    refine lv_aload_n hx hb d_Sps_noteField_29 rfl (lv_at hl 2 rfl) ?_
    refine k_getN i_Sta C hW 10 rfl rfl 7 (by decide) qf_Sps_42 rfl rfl d_Sps_noteField_30 ?_
    refine k_getN i_Fld C hW 11 rfl rfl 1 (by decide) qf_Sps_52 rfl rfl d_Sps_noteField_33 ?_
    refine lv_iload_n hx hb d_Sps_noteField_36 rfl (lv_at hl 3 rfl) ?_
    obtain ⟨h_6, hr⟩ := ck_some hr
    refine k_iald C hW 12 rfl h_6 d_Sps_noteField_37 ?_
    refine k_putN i_Stp t_Stp_ok n_Stp C hW _ (at8 (P := fun j => ((w_Sps_noteField cI cS a_r0 a_r0_steps s_r0_steps a_r1 a_r1_fields a_r1_fields_lefts a_r1_fields_wishes v_r1_weights v_r1_kinds v_r1_figures v_r1_goes v_r1_things v_r1_hampers v_r1_days q_1.2.1 q_1.2.2.1 (upd r0_steps_before q_1.1 (r1_fields_wishes (Int32.toNatClampNeg x2))) q_1.2.2.2.1 r0_steps_leftBefore q_1.2.2.2.2.1 q_1.2.2.2.2.2 r1_done r1_fields_lefts r1_fields_wishes) : va_W)[2 + j]? = some (s_r0_steps j, .inr (4, [.int (q_1.2.2.2.2.1 j), .int (q_1.2.2.2.2.2 j), .int ((upd r0_steps_before q_1.1 (r1_fields_wishes (Int32.toNatClampNeg x2))) j), .int (r0_steps_leftBefore j), .int (q_1.2.2.2.1 j)]))) h_5 rfl rfl rfl rfl rfl rfl rfl rfl) rfl 3 (by decide) qf_Sps_55 rfl rfl (ty := .int) rfl rfl rfl (Nat.le_of_ble_eq_true rfl) (ws' := (w_Sps_noteField cI cS a_r0 a_r0_steps s_r0_steps a_r1 a_r1_fields a_r1_fields_lefts a_r1_fields_wishes v_r1_weights v_r1_kinds v_r1_figures v_r1_goes v_r1_things v_r1_hampers v_r1_days q_1.2.1 q_1.2.2.1 (upd r0_steps_before q_1.1 (r1_fields_wishes (Int32.toNatClampNeg x2))) q_1.2.2.2.1 (upd r0_steps_leftBefore q_1.1 (r1_fields_lefts (Int32.toNatClampNeg x2))) q_1.2.2.2.2.1 q_1.2.2.2.2.2 r1_done r1_fields_lefts r1_fields_wishes)) (at8 (P := fun j => List.set (w_Sps_noteField cI cS a_r0 a_r0_steps s_r0_steps a_r1 a_r1_fields a_r1_fields_lefts a_r1_fields_wishes v_r1_weights v_r1_kinds v_r1_figures v_r1_goes v_r1_things v_r1_hampers v_r1_days q_1.2.1 q_1.2.2.1 (upd r0_steps_before q_1.1 (r1_fields_wishes (Int32.toNatClampNeg x2))) q_1.2.2.2.1 r0_steps_leftBefore q_1.2.2.2.2.1 q_1.2.2.2.2.2 r1_done r1_fields_lefts r1_fields_wishes) (2 + j) (s_r0_steps j, .inr (4, List.set [.int (q_1.2.2.2.2.1 j), .int (q_1.2.2.2.2.2 j), .int ((upd r0_steps_before q_1.1 (r1_fields_wishes (Int32.toNatClampNeg x2))) j), .int (r0_steps_leftBefore j), .int (q_1.2.2.2.1 j)] 3 (.int (r1_fields_lefts (Int32.toNatClampNeg x2))))) = (w_Sps_noteField cI cS a_r0 a_r0_steps s_r0_steps a_r1 a_r1_fields a_r1_fields_lefts a_r1_fields_wishes v_r1_weights v_r1_kinds v_r1_figures v_r1_goes v_r1_things v_r1_hampers v_r1_days q_1.2.1 q_1.2.2.1 (upd r0_steps_before q_1.1 (r1_fields_wishes (Int32.toNatClampNeg x2))) q_1.2.2.2.1 (upd r0_steps_leftBefore j (r1_fields_lefts (Int32.toNatClampNeg x2))) q_1.2.2.2.2.1 q_1.2.2.2.2.2 r1_done r1_fields_lefts r1_fields_wishes)) h_5 rfl rfl rfl rfl rfl rfl rfl rfl) d_Sps_noteField_38 (fun H locs hW => ?_)
    obtain rfl := Option.some.inj hr
    rw [hQ]; exact k_vret C hret hW d_Sps_noteField_41
def w_Sps_noteHamper (cI cS : ClassId) (a_r0 : Nat) (a_r0_steps : Nat) (s_r0_steps : Nat → Nat) (a_r1 : Nat) (a_r1_hampers : Nat) (v_r1_weights v_r1_kinds v_r1_figures v_r1_goes v_r1_things v_r1_fields : Value) (r0_count : Int32) (r0_steps : Nat → Nat) (r0_steps_before : Nat → Int32) (r0_steps_doneBefore : Nat → Int32) (r0_steps_leftBefore : Nat → Int32) (r0_steps_part : Nat → Int32) (r0_steps_place : Nat → Int32) (r1_days : Int32) (r1_done : Int32) (r1_hampers : Nat → Int32) : va_W := [(a_r0, .inr (3, [.ref a_r0_steps, .int r0_count])), (a_r0_steps, .inl (cS, 8, .inr (.inr (.inr (.inr (fun i => some (s_r0_steps (r0_steps i)))))))), (s_r0_steps 0, .inr (4, [.int (r0_steps_part 0), .int (r0_steps_place 0), .int (r0_steps_before 0), .int (r0_steps_leftBefore 0), .int (r0_steps_doneBefore 0)])), (s_r0_steps 1, .inr (4, [.int (r0_steps_part 1), .int (r0_steps_place 1), .int (r0_steps_before 1), .int (r0_steps_leftBefore 1), .int (r0_steps_doneBefore 1)])), (s_r0_steps 2, .inr (4, [.int (r0_steps_part 2), .int (r0_steps_place 2), .int (r0_steps_before 2), .int (r0_steps_leftBefore 2), .int (r0_steps_doneBefore 2)])), (s_r0_steps 3, .inr (4, [.int (r0_steps_part 3), .int (r0_steps_place 3), .int (r0_steps_before 3), .int (r0_steps_leftBefore 3), .int (r0_steps_doneBefore 3)])), (s_r0_steps 4, .inr (4, [.int (r0_steps_part 4), .int (r0_steps_place 4), .int (r0_steps_before 4), .int (r0_steps_leftBefore 4), .int (r0_steps_doneBefore 4)])), (s_r0_steps 5, .inr (4, [.int (r0_steps_part 5), .int (r0_steps_place 5), .int (r0_steps_before 5), .int (r0_steps_leftBefore 5), .int (r0_steps_doneBefore 5)])), (s_r0_steps 6, .inr (4, [.int (r0_steps_part 6), .int (r0_steps_place 6), .int (r0_steps_before 6), .int (r0_steps_leftBefore 6), .int (r0_steps_doneBefore 6)])), (s_r0_steps 7, .inr (4, [.int (r0_steps_part 7), .int (r0_steps_place 7), .int (r0_steps_before 7), .int (r0_steps_leftBefore 7), .int (r0_steps_doneBefore 7)])), (a_r1, .inr (1, [v_r1_weights, v_r1_kinds, v_r1_figures, v_r1_goes, v_r1_things, .ref a_r1_hampers, .int r1_days, v_r1_fields, .int r1_done])), (a_r1_hampers, .inl (cI, 8, .inl r1_hampers))]
def F_Sps_noteHamper (r0_count : Int32) (r0_steps : Nat → Nat) (r0_steps_before : Nat → Int32) (r0_steps_doneBefore : Nat → Int32) (r0_steps_part : Nat → Int32) (r0_steps_place : Nat → Int32) (r1_days : Int32) (r1_done : Int32) (r1_hampers : Nat → Int32) (x2 : Int32) : Option ((Int32) × (Nat → Nat) × (Nat → Int32) × (Nat → Int32) × (Nat → Int32) × (Nat → Int32)) :=
  ((F_Sps_note r0_count r0_steps r0_steps_doneBefore r0_steps_part r0_steps_place r1_done (1 : Int32) x2).bind (fun q_1 => ((F_Sta_hamperOf r1_days r1_hampers x2).bind (fun q_2 => (ckN q_1.1 (some (q_1.2.1, q_1.2.2.1, (upd r0_steps_before q_1.1 q_2), q_1.2.2.2.1, q_1.2.2.2.2.1, q_1.2.2.2.2.2)))))))
set_option maxHeartbeats 4000000 in
set_option maxRecDepth 100000 in
theorem C_Sps_noteHamper (l : Launch) (D : va_G) (cI cS : ClassId) (a_r0 : Nat) (a_r0_steps : Nat) (s_r0_steps : Nat → Nat) (a_r1 : Nat) (a_r1_hampers : Nat) (v_r1_weights v_r1_kinds v_r1_figures v_r1_goes v_r1_things v_r1_fields : Value) (r0_count : Int32) (r0_steps : Nat → Nat) (r0_steps_before : Nat → Int32) (r0_steps_doneBefore : Nat → Int32) (r0_steps_leftBefore : Nat → Int32) (r0_steps_part : Nat → Int32) (r0_steps_place : Nat → Int32) (r1_days : Int32) (r1_done : Int32) (r1_hampers : Nat → Int32) (x2 : Int32) (o : (Int32) × (Nat → Nat) × (Nat → Int32) × (Nat → Int32) × (Nat → Int32) × (Nat → Int32)) (hr : F_Sps_noteHamper r0_count r0_steps r0_steps_before r0_steps_doneBefore r0_steps_part r0_steps_place r1_days r1_done r1_hampers x2 = some o) : ctV l y_Sps_noteHamper (Cond.code y_Sps_noteHamper b_Sps_noteHamper 3 none) (rmd 2) D (kTy cI cS) [.ref a_r0, .ref a_r1, .int x2] (w_Sps_noteHamper cI cS a_r0 a_r0_steps s_r0_steps a_r1 a_r1_hampers v_r1_weights v_r1_kinds v_r1_figures v_r1_goes v_r1_things v_r1_fields r0_count r0_steps r0_steps_before r0_steps_doneBefore r0_steps_leftBefore r0_steps_part r0_steps_place r1_days r1_done r1_hampers) (w_Sps_noteHamper cI cS a_r0 a_r0_steps s_r0_steps a_r1 a_r1_hampers v_r1_weights v_r1_kinds v_r1_figures v_r1_goes v_r1_things v_r1_fields o.1 o.2.1 o.2.2.1 o.2.2.2.1 r0_steps_leftBefore o.2.2.2.2.1 o.2.2.2.2.2 r1_days r1_done r1_hampers) := by
  unfold F_Sps_noteHamper at hr
  refine ⟨rfl, fun sz => ct_of (w0 := (w_Sps_noteHamper cI cS a_r0 a_r0_steps s_r0_steps a_r1 a_r1_hampers v_r1_weights v_r1_kinds v_r1_figures v_r1_goes v_r1_things v_r1_fields r0_count r0_steps r0_steps_before r0_steps_doneBefore r0_steps_leftBefore r0_steps_part r0_steps_place r1_days r1_done r1_hampers)) (Qc := fun A => qV D (w_Sps_noteHamper cI cS a_r0 a_r0_steps s_r0_steps a_r1 a_r1_hampers v_r1_weights v_r1_kinds v_r1_figures v_r1_goes v_r1_things v_r1_fields o.1 o.2.1 o.2.2.1 o.2.2.2.1 r0_steps_leftBefore o.2.2.2.2.1 o.2.2.2.2.2 r1_days r1_done r1_hampers) A) rfl (Nat.le_of_ble_eq_true rfl) ?_ sz⟩
  intro p e s m below meth c A hA C hret ls hl hW
  have C : cx p s m ([.ref a_r0, .ref a_r1, .int x2] : List Value).toArray meth c b_Sps_noteHamper 3 R_Sps D (kTy cI cS) (Cond.code y_Sps_noteHamper b_Sps_noteHamper 3 none) := C
  obtain ⟨hx, hb, hml, hown, hts, hK, hlk, hN⟩ := id C
  have hl : lv_has ls 3 [(0, .ref a_r0), (1, .ref a_r1), (2, .int x2)] := hl
  obtain ⟨Q, hQ⟩ : ∃ Q, Q = MQ below (qV D (w_Sps_noteHamper cI cS a_r0 a_r0_steps s_r0_steps a_r1 a_r1_hampers v_r1_weights v_r1_kinds v_r1_figures v_r1_goes v_r1_things v_r1_fields o.1 o.2.1 o.2.2.1 o.2.2.2.1 r0_steps_leftBefore o.2.2.2.2.1 o.2.2.2.2.2 r1_days r1_done r1_hampers) A) ([.ref a_r0, .ref a_r1, .int x2] : List Value).toArray s 0 0 A := ⟨_, rfl⟩
  rw [← hQ]
  refine lv_aload_n hx hb d_Sps_noteHamper_0 rfl (lv_at hl 0 rfl) ?_
  refine lv_aload_n hx hb d_Sps_noteHamper_1 rfl (lv_at hl 1 rfl) ?_
  refine lv_iconst (v := 1) hx hb d_Sps_noteHamper_2 (by decide) ?_
  refine lv_iload_n hx hb d_Sps_noteHamper_3 rfl (lv_at hl 2 rfl) ?_
  obtain ⟨q_1, hc_1, hr⟩ := ob hr
  have ct_1 := C_Sps_note l D cI cS a_r0 a_r0_steps s_r0_steps a_r1 v_r1_weights v_r1_kinds v_r1_figures v_r1_goes v_r1_things (Value.ref a_r1_hampers) (Value.int r1_days) v_r1_fields r0_count r0_steps r0_steps_before r0_steps_doneBefore r0_steps_leftBefore r0_steps_part r0_steps_place r1_done 1 x2 q_1 hc_1
  refine k_goR hA hW [0, 1, 2, 3, 4, 5, 6, 7, 8, 9, 10] rfl ct_1.1 (ws' := (w_Sps_noteHamper cI cS a_r0 a_r0_steps s_r0_steps a_r1 a_r1_hampers v_r1_weights v_r1_kinds v_r1_figures v_r1_goes v_r1_things v_r1_fields q_1.2.1 q_1.2.2.1 r0_steps_before q_1.2.2.2.1 r0_steps_leftBefore q_1.2.2.2.2.1 q_1.2.2.2.2.2 r1_days r1_done r1_hampers)) rfl (k_runV C hA hW mw_Sps_note mv_Sps_note (ct_1.2 _) [0, 1, 2, 3, 4, 5, 6, 7, 8, 9, 10] rfl rfl 0 rfl rfl qm_Sps_22 ⟨Nat.le_of_ble_eq_true rfl, Nat.le_of_ble_eq_true rfl, Nat.zero_le _, Nat.zero_le _⟩ rfl rfl (Nat.le_of_ble_eq_true rfl) hl.1 d_Sps_noteHamper_4) (fun H locs hW => ?_)
  refine lv_aload_n hx hb d_Sps_noteHamper_7 rfl (lv_at hl 1 rfl) ?_
  refine lv_iload_n hx hb d_Sps_noteHamper_8 rfl (lv_at hl 2 rfl) ?_
  obtain ⟨q_2, hc_2, hr⟩ := ob hr
  have ct_2 := C_Sta_hamperOf l D cI cS a_r1 a_r1_hampers v_r1_weights v_r1_kinds v_r1_figures v_r1_goes v_r1_things v_r1_fields (Value.int r1_done) r1_days r1_hampers x2 q_2 hc_2
  refine k_goIp hA hW [10, 11] rfl rfl (k_runV C hA hW mw_Sta_hamperOf mv_Sta_hamperOf (ct_2.2 _) [10, 11] rfl rfl 10 rfl rfl qm_Sps_35 ⟨Nat.le_of_ble_eq_true rfl, Nat.le_of_ble_eq_true rfl, Nat.zero_le _, Nat.zero_le _⟩ rfl rfl (Nat.le_of_ble_eq_true rfl) hl.1 d_Sps_noteHamper_9) (fun H locs hW => ?_)
  obtain ⟨h_3, hr⟩ := ckN_some hr
  refine k_putN i_Stp t_Stp_ok n_Stp C hW _ (at8 (P := fun j => ((w_Sps_noteHamper cI cS a_r0 a_r0_steps s_r0_steps a_r1 a_r1_hampers v_r1_weights v_r1_kinds v_r1_figures v_r1_goes v_r1_things v_r1_fields q_1.2.1 q_1.2.2.1 r0_steps_before q_1.2.2.2.1 r0_steps_leftBefore q_1.2.2.2.2.1 q_1.2.2.2.2.2 r1_days r1_done r1_hampers) : va_W)[2 + j]? = some (s_r0_steps j, .inr (4, [.int (q_1.2.2.2.2.1 j), .int (q_1.2.2.2.2.2 j), .int (r0_steps_before j), .int (r0_steps_leftBefore j), .int (q_1.2.2.2.1 j)]))) h_3 rfl rfl rfl rfl rfl rfl rfl rfl) rfl 2 (by decide) qf_Sps_32 rfl rfl (ty := .int) rfl rfl rfl (Nat.le_of_ble_eq_true rfl) (ws' := (w_Sps_noteHamper cI cS a_r0 a_r0_steps s_r0_steps a_r1 a_r1_hampers v_r1_weights v_r1_kinds v_r1_figures v_r1_goes v_r1_things v_r1_fields q_1.2.1 q_1.2.2.1 (upd r0_steps_before q_1.1 q_2) q_1.2.2.2.1 r0_steps_leftBefore q_1.2.2.2.2.1 q_1.2.2.2.2.2 r1_days r1_done r1_hampers)) (at8 (P := fun j => List.set (w_Sps_noteHamper cI cS a_r0 a_r0_steps s_r0_steps a_r1 a_r1_hampers v_r1_weights v_r1_kinds v_r1_figures v_r1_goes v_r1_things v_r1_fields q_1.2.1 q_1.2.2.1 r0_steps_before q_1.2.2.2.1 r0_steps_leftBefore q_1.2.2.2.2.1 q_1.2.2.2.2.2 r1_days r1_done r1_hampers) (2 + j) (s_r0_steps j, .inr (4, List.set [.int (q_1.2.2.2.2.1 j), .int (q_1.2.2.2.2.2 j), .int (r0_steps_before j), .int (r0_steps_leftBefore j), .int (q_1.2.2.2.1 j)] 2 (.int q_2))) = (w_Sps_noteHamper cI cS a_r0 a_r0_steps s_r0_steps a_r1 a_r1_hampers v_r1_weights v_r1_kinds v_r1_figures v_r1_goes v_r1_things v_r1_fields q_1.2.1 q_1.2.2.1 (upd r0_steps_before j q_2) q_1.2.2.2.1 r0_steps_leftBefore q_1.2.2.2.2.1 q_1.2.2.2.2.2 r1_days r1_done r1_hampers)) h_3 rfl rfl rfl rfl rfl rfl rfl rfl) d_Sps_noteHamper_12 (fun H locs hW => ?_)
  obtain rfl := Option.some.inj hr
  rw [hQ]; exact k_vret C hret hW d_Sps_noteHamper_15
