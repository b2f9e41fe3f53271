def w_Har_summersByLot (cI : ClassId) (a_r0 : Nat) (a_r0_fields : Nat) (a_r0_fields_lefts : Nat) (a_r0_fields_wishes : Nat) (a_r1 : Nat) (a_r1_fields : Nat) (a_r1_fields_lefts : Nat) (a_r1_fields_wishes : Nat) (a_r1_goes : Nat) (a_r1_weights : Nat) (v_r0_weathers v_r0_days v_r0_path v_r0_best v_r0_counted v_r0_atMost v_r0_most v_r0_oneIn v_r1_kinds v_r1_figures v_r1_hampers v_r1_days v_r1_done : Value) (r0_lotsDone : Int32) (r0_lotsNone : Int32) (r0_fields_lefts : Nat → Int32) (r0_fields_wishes : Nat → Int32) (r1_things : Int32) (r1_fields_lefts : Nat → Int32) (r1_fields_wishes : Nat → Int32) (r1_goes : Nat → Int32) (r1_weights : Nat → Int32) : va_W := [(a_r0, .inr (7, [.ref a_r0_fields, v_r0_weathers, v_r0_days, v_r0_path, v_r0_best, v_r0_counted, v_r0_atMost, v_r0_most, v_r0_oneIn, .int r0_lotsDone, .int r0_lotsNone])), (a_r0_fields, .inr (2, [.ref a_r0_fields_wishes, .ref a_r0_fields_lefts])), (a_r0_fields_lefts, .inl (cI, 4, .inl r0_fields_lefts)), (a_r0_fields_wishes, .inl (cI, 4, .inl r0_fields_wishes)), (a_r1, .inr (1, [.ref a_r1_weights, v_r1_kinds, v_r1_figures, .ref a_r1_goes, .int r1_things, v_r1_hampers, v_r1_days, .ref a_r1_fields, v_r1_done])), (a_r1_fields, .inr (2, [.ref a_r1_fields_wishes, .ref a_r1_fields_lefts])), (a_r1_fields_lefts, .inl (cI, 4, .inl r1_fields_lefts)), (a_r1_fields_wishes, .inl (cI, 4, .inl r1_fields_wishes)), (a_r1_goes, .inl (cI, 8, .inl r1_goes)), (a_r1_weights, .inl (cI, 6, .inl r1_weights))]
def F_Har_summersByLot_L36 (r1_things : Int32) (r1_goes : Nat → Int32) (r1_weights : Nat → Int32) (q_3 : (Nat → Int32) × (Nat → Int32)) (y4_4 : Int32) (y6_4 : Int32) (r0_lotsDone_4 : Int32) (r0_lotsNone_4 : Int32) (r0_fields_lefts_4 : Nat → Int32) : Option (((Int32) × (Int32) × (Int32) × (Int32) × (Nat → Int32)) ⊕ ((Int32) × (Int32) × (Int32) × (Nat → Int32))) :=
  (if (10 : Int32) ≤ y6_4 then (some (.inr (y4_4, r0_lotsDone_4, r0_lotsNone_4, r0_fields_lefts_4))) else ((F_Sta_allThings r1_things).bind (fun q_6 => ((F_Har_drawn ((y4_4 * (1103515245 : Int32)) + 12345) (q_6 + 1)).bind (fun q_7 => ((F_Sta_likeliestBy r1_goes r1_weights q_7).bind (fun q_8 => (if q_8 = (-9) then (some (.inl (((y4_4 * (1103515245 : Int32)) + 12345), (y6_4 + 1), r0_lotsDone_4, (r0_lotsNone_4 + 1), r0_fields_lefts_4))) else ((F_Fld_work r0_fields_lefts_4 q_3.2 q_8).bind (fun q_10 => (if q_10.1 < 0 then (some (.inl (((y4_4 * (1103515245 : Int32)) + 12345), (y6_4 + 1), r0_lotsDone_4, r0_lotsNone_4, q_10.2))) else (some (.inl (((y4_4 * (1103515245 : Int32)) + 12345), (y6_4 + 1), (r0_lotsDone_4 + 1), r0_lotsNone_4, q_10.2))))))))))))))
def F_Har_summersByLot_L16 (r1_things : Int32) (r1_fields_lefts : Nat → Int32) (r1_fields_wishes : Nat → Int32) (r1_goes : Nat → Int32) (r1_weights : Nat → Int32) (x2 : Int32) (y4_1 : Int32) (y5_1 : Int32) (r0_lotsDone_1 : Int32) (r0_lotsNone_1 : Int32) (r0_fields_lefts_1 : Nat → Int32) (r0_fields_wishes_1 : Nat → Int32) : Option (((Int32) × (Int32) × (Int32) × (Int32) × (Nat → Int32) × (Nat → Int32)) ⊕ ((Int32) × (Int32) × (Nat → Int32) × (Nat → Int32))) :=
  (if x2 ≤ y5_1 then (some (.inr (r0_lotsDone_1, r0_lotsNone_1, r0_fields_lefts_1, r0_fields_wishes_1))) else ((F_Fld_copyFrom r0_fields_lefts_1 r0_fields_wishes_1 r1_fields_lefts r1_fields_wishes).bind (fun q_3 => ((wh (fun (s : (Int32) × (Int32) × (Int32) × (Int32) × (Nat → Int32)) => F_Har_summersByLot_L36 r1_things r1_goes r1_weights q_3 s.1 s.2.1 s.2.2.1 s.2.2.2.1 s.2.2.2.2) 400 (y4_1, (0 : Int32), r0_lotsDone_1, r0_lotsNone_1, q_3.1)).bind (fun e_4 => (some (.inl (e_4.1, (y5_1 + 1), e_4.2.1, e_4.2.2.1, e_4.2.2.2, q_3.2))))))))
def F_Har_summersByLot (r0_fields_lefts : Nat → Int32) (r0_fields_wishes : Nat → Int32) (r1_things : Int32) (r1_fields_lefts : Nat → Int32) (r1_fields_wishes : Nat → Int32) (r1_goes : Nat → Int32) (r1_weights : Nat → Int32) (x2 : Int32) (x3 : Int32) : Option ((Int32) × (Int32) × (Nat → Int32) × (Nat → Int32)) :=
  ((wh (fun (s : (Int32) × (Int32) × (Int32) × (Int32) × (Nat → Int32) × (Nat → Int32)) => F_Har_summersByLot_L16 r1_things r1_fields_lefts r1_fields_wishes r1_goes r1_weights x2 s.1 s.2.1 s.2.2.1 s.2.2.2.1 s.2.2.2.2.1 s.2.2.2.2.2) 400 (x3, (0 : Int32), (0 : Int32), (0 : Int32), r0_fields_lefts, r0_fields_wishes)).bind (fun e_1 => (some (e_1.1, e_1.2.1, e_1.2.2.1, e_1.2.2.2))))
set_option maxHeartbeats 4000000 in
set_option maxRecDepth 100000 in
theorem C_Har_summersByLot (l : Launch) (D : va_G) (cI cS : ClassId) (a_r0 : Nat) (a_r0_fields : Nat) (a_r0_fields_lefts : Nat) (a_r0_fields_wishes : Nat) (a_r1 : Nat) (a_r1_fields : Nat) (a_r1_fields_lefts : Nat) (a_r1_fields_wishes : Nat) (a_r1_goes : Nat) (a_r1_weights : Nat) (v_r0_weathers v_r0_days v_r0_path v_r0_best v_r0_counted v_r0_atMost v_r0_most v_r0_oneIn v_r1_kinds v_r1_figures v_r1_hampers v_r1_days v_r1_done : Value) (r0_lotsDone : Int32) (r0_lotsNone : Int32) (r0_fields_lefts : Nat → Int32) (r0_fields_wishes : Nat → Int32) (r1_things : Int32) (r1_fields_lefts : Nat → Int32) (r1_fields_wishes : Nat → Int32) (r1_goes : Nat → Int32) (r1_weights : Nat → Int32) (x2 : Int32) (x3 : Int32) (o : (Int32) × (Int32) × (Nat → Int32) × (Nat → Int32)) (hr : F_Har_summersByLot r0_fields_lefts r0_fields_wishes r1_things r1_fields_lefts r1_fields_wishes r1_goes r1_weights x2 x3 = some o) : ctV l y_Har_summersByLot (Cond.code y_Har_summersByLot b_Har_summersByLot 8 none) (rmd 3) D (kTy cI cS) [.ref a_r0, .ref a_r1, .int x2, .int x3] (w_Har_summersByLot cI a_r0 a_r0_fields a_r0_fields_lefts a_r0_fields_wishes a_r1 a_r1_fields a_r1_fields_lefts a_r1_fields_wishes a_r1_goes a_r1_weights v_r0_weathers v_r0_days v_r0_path v_r0_best v_r0_counted v_r0_atMost v_r0_most v_r0_oneIn v_r1_kinds v_r1_figures v_r1_hampers v_r1_days v_r1_done r0_lotsDone r0_lotsNone r0_fields_lefts r0_fields_wishes r1_things r1_fields_lefts r1_fields_wishes r1_goes r1_weights) (w_Har_summersByLot cI a_r0 a_r0_fields a_r0_fields_lefts a_r0_fields_wishes a_r1 a_r1_fields a_r1_fields_lefts a_r1_fields_wishes a_r1_goes a_r1_weights v_r0_weathers v_r0_days v_r0_path v_r0_best v_r0_counted v_r0_atMost v_r0_most v_r0_oneIn v_r1_kinds v_r1_figures v_r1_hampers v_r1_days v_r1_done o.1 o.2.1 o.2.2.1 o.2.2.2 r1_things r1_fields_lefts r1_fields_wishes r1_goes r1_weights) := by
  unfold F_Har_summersByLot at hr
  refine ⟨rfl, fun sz => ct_of (w0 := (w_Har_summersByLot cI a_r0 a_r0_fields a_r0_fields_lefts a_r0_fields_wishes a_r1 a_r1_fields a_r1_fields_lefts a_r1_fields_wishes a_r1_goes a_r1_weights v_r0_weathers v_r0_days v_r0_path v_r0_best v_r0_counted v_r0_atMost v_r0_most v_r0_oneIn v_r1_kinds v_r1_figures v_r1_hampers v_r1_days v_r1_done r0_lotsDone r0_lotsNone r0_fields_lefts r0_fields_wishes r1_things r1_fields_lefts r1_fields_wishes r1_goes r1_weights)) (Qc := fun A => qV D (w_Har_summersByLot cI a_r0 a_r0_fields a_r0_fields_lefts a_r0_fields_wishes a_r1 a_r1_fields a_r1_fields_lefts a_r1_fields_wishes a_r1_goes a_r1_weights v_r0_weathers v_r0_days v_r0_path v_r0_best v_r0_counted v_r0_atMost v_r0_most v_r0_oneIn v_r1_kinds v_r1_figures v_r1_hampers v_r1_days v_r1_done o.1 o.2.1 o.2.2.1 o.2.2.2 r1_things r1_fields_lefts r1_fields_wishes r1_goes r1_weights) A) rfl (Nat.le_of_ble_eq_true rfl) ?_ sz⟩
  intro p e s m below meth c A hA C hret ls hl hW
  have C : cx p s m ([.ref a_r0, .ref a_r1, .int x2, .int x3] : List Value).toArray meth c b_Har_summersByLot 8 R_Har D (kTy cI cS) (Cond.code y_Har_summersByLot b_Har_summersByLot 8 none) := C
  obtain ⟨hx, hb, hml, hown, hts, hK, hlk, hN⟩ := id C
  have hl : lv_has ls 8 [(0, .ref a_r0), (1, .ref a_r1), (2, .int x2), (3, .int x3)] := hl
  obtain ⟨Q, hQ⟩ : ∃ Q, Q = MQ below (qV D (w_Har_summersByLot cI a_r0 a_r0_fields a_r0_fields_lefts a_r0_fields_wishes a_r1 a_r1_fields a_r1_fields_lefts a_r1_fields_wishes a_r1_goes a_r1_weights v_r0_weathers v_r0_days v_r0_path v_r0_best v_r0_counted v_r0_atMost v_r0_most v_r0_oneIn v_r1_kinds v_r1_figures v_r1_hampers v_r1_days v_r1_done o.1 o.2.1 o.2.2.1 o.2.2.2 r1_things r1_fields_lefts r1_fields_wishes r1_goes r1_weights) A) ([.ref a_r0, .ref a_r1, .int x2, .int x3] : List Value).toArray s 0 0 A := ⟨_, rfl⟩
  rw [← hQ]
  refine lv_iload_n hx hb d_Har_summersByLot_0 rfl (lv_at hl 3 rfl) ?_
  refine lv_istore (lv' := [(4, .int x3), (0, .ref a_r0), (1, .ref a_r1), (2, .int x2), (3, .int x3)]) hx hb d_Har_summersByLot_1 hl (by decide) rfl (fun ls hl => ?_)
  refine lv_aload_n hx hb d_Har_summersByLot_3 rfl (lv_at hl 1 rfl) ?_
  refine lv_iconst (v := 0) hx hb d_Har_summersByLot_4 (by decide) ?_
  refine k_put i_Har t_Har_ok n_Har C hW 0 rfl rfl 9 (by decide) qf_Har_121 rfl rfl (ty := .int) rfl rfl rfl (Nat.le_of_ble_eq_true rfl) (ws' := (w_Har_summersByLot cI a_r0 a_r0_fields a_r0_fields_lefts a_r0_fields_wishes a_r1 a_r1_fields a_r1_fields_lefts a_r1_fields_wishes a_r1_goes a_r1_weights v_r0_weathers v_r0_days v_r0_path v_r0_best v_r0_counted v_r0_atMost v_r0_most v_r0_oneIn v_r1_kinds v_r1_figures v_r1_hampers v_r1_days v_r1_done 0 r0_lotsNone r0_fields_lefts r0_fields_wishes r1_things r1_fields_lefts r1_fields_wishes r1_goes r1_weights)) rfl d_Har_summersByLot_5 (fun H locs hW => ?_)
  refine lv_aload_n hx hb d_Har_summersByLot_8 rfl (lv_at hl 1 rfl) ?_
  refine lv_iconst (v := 0) hx hb d_Har_summersByLot_9 (by decide) ?_
  refine k_put i_Har t_Har_ok n_Har C hW 0 rfl rfl 10 (by decide) qf_Har_124 rfl rfl (ty := .int) rfl rfl rfl (Nat.le_of_ble_eq_true rfl) (ws' := (w_Har_summersByLot cI a_r0 a_r0_fields a_r0_fields_lefts a_r0_fields_wishes a_r1 a_r1_fields a_r1_fields_lefts a_r1_fields_wishes a_r1_goes a_r1_weights v_r0_weathers v_r0_days v_r0_path v_r0_best v_r0_counted v_r0_atMost v_r0_most v_r0_oneIn v_r1_kinds v_r1_figures v_r1_hampers v_r1_days v_r1_done 0 0 r0_fields_lefts r0_fields_wishes r1_things r1_fields_lefts r1_fields_wishes r1_goes r1_weights)) rfl d_Har_summersByLot_10 (fun H locs hW => ?_)
  refine lv_iconst (v := 0) hx hb d_Har_summersByLot_13 (by decide) ?_
  refine lv_istore (lv' := [(5, .int 0), (4, .int x3), (0, .ref a_r0), (1, .ref a_r1), (2, .int x2), (3, .int x3)]) hx hb d_Har_summersByLot_14 hl (by decide) rfl (fun ls hl => ?_)
  obtain ⟨ex_1, hw_1, hk_1⟩ := ob hr
  have hx_1 : ∀ (e_1 : (Int32) × (Int32) × (Nat → Int32) × (Nat → Int32)), e_1 = ex_1 → ∀ (H : Heap) (locs : List Loc) (ls : Array Slot), wd A s.heap D (w_Har_summersByLot cI a_r0 a_r0_fields a_r0_fields_lefts a_r0_fields_wishes a_r1 a_r1_fields a_r1_fields_lefts a_r1_fields_wishes a_r1_goes a_r1_weights v_r0_weathers v_r0_days v_r0_path v_r0_best v_r0_counted v_r0_atMost v_r0_most v_r0_oneIn v_r1_kinds v_r1_figures v_r1_hampers v_r1_days v_r1_done e_1.1 e_1.2.1 e_1.2.2.1 e_1.2.2.2 r1_things r1_fields_lefts r1_fields_wishes r1_goes r1_weights) H locs → lv_has ls 8 [] → W p l e (rmd 3) s m ([.ref a_r0, .ref a_r1, .int x2, .int x3] : List Value).toArray below meth c H locs 0 0 Q (F0 m 125 ls []) := by
    intro e_1 hE H locs ls hW hl
    subst hE; have hr := hk_1
    obtain rfl := Option.some.inj hr
    rw [hQ]; exact k_vret C hret hW d_Har_summersByLot_125
  have hl_1 : ∀ (k : Nat) (y4_1 : Int32) (y5_1 : Int32) (r0_lotsDone_1 : Int32) (r0_lotsNone_1 : Int32) (r0_fields_lefts_1 : Nat → Int32) (r0_fields_wishes_1 : Nat → Int32), wh (fun (s : (Int32) × (Int32) × (Int32) × (Int32) × (Nat → Int32) × (Nat → Int32)) => F_Har_summersByLot_L16 r1_things r1_fields_lefts r1_fields_wishes r1_goes r1_weights x2 s.1 s.2.1 s.2.2.1 s.2.2.2.1 s.2.2.2.2.1 s.2.2.2.2.2) k (y4_1, y5_1, r0_lotsDone_1, r0_lotsNone_1, r0_fields_lefts_1, r0_fields_wishes_1) = some ex_1 → ∀ (H : Heap) (locs : List Loc) (ls : Array Slot), wd A s.heap D (w_Har_summersByLot cI a_r0 a_r0_fields a_r0_fields_lefts a_r0_fields_wishes a_r1 a_r1_fields a_r1_fields_lefts a_r1_fields_wishes a_r1_goes a_r1_weights v_r0_weathers v_r0_days v_r0_path v_r0_best v_r0_counted v_r0_atMost v_r0_most v_r0_oneIn v_r1_kinds v_r1_figures v_r1_hampers v_r1_days v_r1_done r0_lotsDone_1 r0_lotsNone_1 r0_fields_lefts_1 r0_fields_wishes_1 r1_things r1_fields_lefts r1_fields_wishes r1_goes r1_weights) H locs → lv_has ls 8 [(0, .ref a_r0), (1, .ref a_r1), (2, .int x2), (4, .int y4_1), (5, .int y5_1)] → W p l e (rmd 3) s m ([.ref a_r0, .ref a_r1, .int x2, .int x3] : List Value).toArray below meth c H locs 0 0 Q (F0 m 16 ls []) := by
    intro k
    induction k with
    | zero => intro y4_1 y5_1 r0_lotsDone_1 r0_lotsNone_1 r0_fields_lefts_1 r0_fields_wishes_1 hw; exact absurd hw wh_0
    | succ k ih_1 =>
      intro y4_1 y5_1 r0_lotsDone_1 r0_lotsNone_1 r0_fields_lefts_1 r0_fields_wishes_1 hw H locs ls hW hl
      obtain ⟨z_1, hr, hz1_1, hz2_1⟩ := wh_s hw
      have hr : F_Har_summersByLot_L16 r1_things r1_fields_lefts r1_fields_wishes r1_goes r1_weights x2 y4_1 y5_1 r0_lotsDone_1 r0_lotsNone_1 r0_fields_lefts_1 r0_fields_wishes_1 = some z_1 := hr
      unfold F_Har_summersByLot_L16 at hr
      refine lv_iload hx hb d_Har_summersByLot_16 (lv_at hl 4 rfl) ?_
      refine lv_iload_n hx hb d_Har_summersByLot_18 rfl (lv_at hl 2 rfl) ?_
      refine lv_icmp_ge (tgt := 125) hx hb d_Har_summersByLot_19 (by decide) (fun c_2 => ?_) (fun c_2 => ?_)
      · replace hr := ip c_2 hr
        exact hx_1 _ (hz2_1 _ (Option.some.inj hr).symm) _ _ _ hW (lv_sub hl [] rfl)
      · replace hr := iN c_2 hr
        refine lv_aload_n hx hb d_Har_summersByLot_22 rfl (lv_at hl 0 rfl) ?_
        refine k_get i_Har C hW 0 rfl rfl 0 (by decide) qf_Har_12 rfl rfl d_Har_summersByLot_23 ?_
        refine lv_aload_n hx hb d_Har_summersByLot_26 rfl (lv_at hl 1 rfl) ?_
        refine k_getN i_Sta C hW 4 rfl rfl 7 (by decide) qf_Har_28 rfl rfl d_Har_summersByLot_27 ?_
        obtain ⟨q_3, hc_3, hr⟩ := ob hr
        have ct_3 := C_Fld_copyFrom l D cI cS a_r0_fields a_r0_fields_lefts a_r0_fields_wishes a_r1_fields a_r1_fields_lefts a_r1_fields_wishes r0_fields_lefts_1 r0_fields_wishes_1 r1_fields_lefts r1_fields_wishes q_3 hc_3
        refine k_goV hA hW [1, 2, 3, 5, 6, 7] rfl ct_3.1 (ws' := (w_Har_summersByLot cI a_r0 a_r0_fields a_r0_fields_lefts a_r0_fields_wishes a_r1 a_r1_fields a_r1_fields_lefts a_r1_fields_wishes a_r1_goes a_r1_weights v_r0_weathers v_r0_days v_r0_path v_r0_best v_r0_counted v_r0_atMost v_r0_most v_r0_oneIn v_r1_kinds v_r1_figures v_r1_hampers v_r1_days v_r1_done r0_lotsDone_1 r0_lotsNone_1 q_3.1 q_3.2 r1_things r1_fields_lefts r1_fields_wishes r1_goes r1_weights)) rfl (k_runV C hA hW mw_Fld_copyFrom mv_Fld_copyFrom (ct_3.2 _) [1, 2, 3, 5, 6, 7] rfl rfl 1 rfl rfl qm_Har_31 ⟨Nat.le_of_ble_eq_true rfl, Nat.le_of_ble_eq_true rfl, Nat.zero_le _, Nat.zero_le _⟩ rfl rfl (Nat.le_of_ble_eq_true rfl) hl.1 d_Har_summersByLot_30) (fun H locs hW => ?_)
        refine lv_iconst (v := 0) hx hb d_Har_summersByLot_33 (by decide) ?_
        refine lv_istore (lv' := [(6, .int 0), (0, .ref a_r0), (1, .ref a_r1), (2, .int x2), (4, .int y4_1), (5, .int y5_1)]) hx hb d_Har_summersByLot_34 hl (by decide) rfl (fun ls hl => ?_)
        obtain ⟨ex_4, hw_4, hk_4⟩ := ob hr
        have hx_4 : ∀ (e_4 : (Int32) × (Int32) × (Int32) × (Nat → Int32)), e_4 = ex_4 → ∀ (H : Heap) (locs : List Loc) (ls : Array Slot), wd A s.heap D (w_Har_summersByLot cI a_r0 a_r0_fields a_r0_fields_lefts a_r0_fields_wishes a_r1 a_r1_fields a_r1_fields_lefts a_r1_fields_wishes a_r1_goes a_r1_weights v_r0_weathers v_r0_days v_r0_path v_r0_best v_r0_counted v_r0_atMost v_r0_most v_r0_oneIn v_r1_kinds v_r1_figures v_r1_hampers v_r1_days v_r1_done e_4.2.1 e_4.2.2.1 e_4.2.2.2 q_3.2 r1_things r1_fields_lefts r1_fields_wishes r1_goes r1_weights) H locs → lv_has ls 8 [(0, .ref a_r0), (1, .ref a_r1), (2, .int x2), (5, .int y5_1), (4, .int e_4.1)] → W p l e (rmd 3) s m ([.ref a_r0, .ref a_r1, .int x2, .int x3] : List Value).toArray below meth c H locs 0 0 Q (F0 m 119 ls []) := by
          intro e_4 hE H locs ls hW hl
          subst hE; have hr := hk_4
          refine lv_iinc (v := (y5_1 + 1)) (lv' := [(5, .int (y5_1 + 1)), (0, .ref a_r0), (1, .ref a_r1), (2, .int x2), (4, .int e_4.1)]) hx hb d_Har_summersByLot_119 hl (k := 3) rfl rfl (by decide) rfl (fun ls hl => ?_)
          refine lv_goto (tgt := 16) hx hb d_Har_summersByLot_122 (by decide) ?_
          exact ih_1 e_4.1 (y5_1 + 1) e_4.2.1 e_4.2.2.1 e_4.2.2.2 q_3.2 (hz1_1 _ (Option.some.inj hr).symm) _ _ _ hW (lv_sub hl [1, 2, 3, 4, 0] rfl)
        have hl_4 : ∀ (k : Nat) (y4_4 : Int32) (y6_4 : Int32) (r0_lotsDone_4 : Int32) (r0_lotsNone_4 : Int32) (r0_fields_lefts_4 : Nat → Int32), wh (fun (s : (Int32) × (Int32) × (Int32) × (Int32) × (Nat → Int32)) => F_Har_summersByLot_L36 r1_things r1_goes r1_weights q_3 s.1 s.2.1 s.2.2.1 s.2.2.2.1 s.2.2.2.2) k (y4_4, y6_4, r0_lotsDone_4, r0_lotsNone_4, r0_fields_lefts_4) = some ex_4 → ∀ (H : Heap) (locs : List Loc) (ls : Array Slot), wd A s.heap D (w_Har_summersByLot cI a_r0 a_r0_fields a_r0_fields_lefts a_r0_fields_wishes a_r1 a_r1_fields a_r1_fields_lefts a_r1_fields_wishes a_r1_goes a_r1_weights v_r0_weathers v_r0_days v_r0_path v_r0_best v_r0_counted v_r0_atMost v_r0_most v_r0_oneIn v_r1_kinds v_r1_figures v_r1_hampers v_r1_days v_r1_done r0_lotsDone_4 r0_lotsNone_4 r0_fields_lefts_4 q_3.2 r1_things r1_fields_lefts r1_fields_wishes r1_goes r1_weights) H locs → lv_has ls 8 [(0, .ref a_r0), (1, .ref a_r1), (2, .int x2), (5, .int y5_1), (4, .int y4_4), (6, .int y6_4)] → W p l e (rmd 3) s m ([.ref a_r0, .ref a_r1, .int x2, .int x3] : List Value).toArray below meth c H locs 0 0 Q (F0 m 36 ls []) := by
          intro k
          induction k with
          | zero => intro y4_4 y6_4 r0_lotsDone_4 r0_lotsNone_4 r0_fields_lefts_4 hw; exact absurd hw wh_0
          | succ k ih_4 =>
            intro y4_4 y6_4 r0_lotsDone_4 r0_lotsNone_4 r0_fields_lefts_4 hw H locs ls hW hl
            obtain ⟨z_4, hr, hz1_4, hz2_4⟩ := wh_s hw
            have hr : F_Har_summersByLot_L36 r1_things r1_goes r1_weights q_3 y4_4 y6_4 r0_lotsDone_4 r0_lotsNone_4 r0_fields_lefts_4 = some z_4 := hr
            unfold F_Har_summersByLot_L36 at hr
            refine lv_iload hx hb d_Har_summersByLot_36 (lv_at hl 5 rfl) ?_
            refine lv_bipush (v := 10) hx hb d_Har_summersByLot_38 (by decide) ?_
            refine lv_icmp_ge (tgt := 119) hx hb d_Har_summersByLot_40 (by decide) (fun c_5 => ?_) (fun c_5 => ?_)
            · replace hr := ip c_5 hr
              exact hx_4 _ (hz2_4 _ (Option.some.inj hr).symm) _ _ _ hW (lv_sub hl [0, 1, 2, 3, 4] rfl)
            · replace hr := iN c_5 hr
              refine lv_iload hx hb d_Har_summersByLot_43 (lv_at hl 4 rfl) ?_
              refine lv_ldc (v := 1103515245) hx hb hown (hts _ (List.mem_cons_of_mem _ (qc_Har_127))) d_Har_summersByLot_45 ?_
              refine lv_imul hx hb d_Har_summersByLot_47 ?_
              refine lv_sipush (v := 12345) hx hb d_Har_summersByLot_48 (by decide) ?_
              refine lv_iadd hx hb d_Har_summersByLot_51 ?_
              refine lv_istore (lv' := [(4, .int ((y4_4 * (1103515245 : Int32)) + 12345)), (0, .ref a_r0), (1, .ref a_r1), (2, .int x2), (5, .int y5_1), (6, .int y6_4)]) hx hb d_Har_summersByLot_52 hl (by decide) rfl (fun ls hl => ?_)
              refine lv_aload_n hx hb d_Har_summersByLot_54 rfl (lv_at hl 2 rfl) ?_
              refine lv_iload hx hb d_Har_summersByLot_55 (lv_at hl 0 rfl) ?_
              refine lv_aload_n hx hb d_Har_summersByLot_57 rfl (lv_at hl 2 rfl) ?_
              obtain ⟨q_6, hc_6, hr⟩ := ob hr
              have ct_6 := C_Sta_allThings l D cI cS a_r1 (Value.ref a_r1_weights) v_r1_kinds v_r1_figures (Value.ref a_r1_goes) v_r1_hampers v_r1_days (Value.ref a_r1_fields) v_r1_done r1_things q_6 hc_6
              refine k_goIp hA hW [4] rfl rfl (k_runV C hA hW mw_Sta_allThings mv_Sta_allThings (ct_6.2 _) [4] rfl rfl 4 rfl rfl qm_Har_128 ⟨Nat.le_of_ble_eq_true rfl, Nat.le_of_ble_eq_true rfl, Nat.zero_le _, Nat.zero_le _⟩ rfl rfl (Nat.le_of_ble_eq_true rfl) hl.1 d_Har_summersByLot_58) (fun H locs hW => ?_)
              refine lv_iconst (v := 1) hx hb d_Har_summersByLot_61 (by decide) ?_
              refine lv_iadd hx hb d_Har_summersByLot_62 ?_
              obtain ⟨q_7, hc_7, hr⟩ := ob hr
              have ct_7 := C_Har_drawn l D cI cS ((y4_4 * (1103515245 : Int32)) + 12345) (q_6 + 1) q_7 hc_7
              refine k_goIp hA hW [] rfl rfl (k_runS C hA hW mw_Har_drawn ms_Har_drawn (ct_7.2 _) [] rfl rfl qm_Har_131 ⟨Nat.le_of_ble_eq_true rfl, Nat.le_of_ble_eq_true rfl, Nat.zero_le _, Nat.zero_le _⟩ rfl rfl (Nat.le_of_ble_eq_true rfl) hl.1 d_Har_summersByLot_63) (fun H locs hW => ?_)
              obtain ⟨q_8, hc_8, hr⟩ := ob hr
              have ct_8 := C_Sta_likeliestBy l D cI cS a_r1 a_r1_goes a_r1_weights v_r1_kinds v_r1_figures (Value.int r1_things) v_r1_hampers v_r1_days (Value.ref a_r1_fields) v_r1_done r1_goes r1_weights q_7 q_8 hc_8
              refine k_goIp hA hW [4, 8, 9] rfl rfl (k_runV C hA hW mw_Sta_likeliestBy mv_Sta_likeliestBy (ct_8.2 _) [4, 8, 9] rfl rfl 4 rfl rfl qm_Har_57 ⟨Nat.le_of_ble_eq_true rfl, Nat.le_of_ble_eq_true rfl, Nat.zero_le _, Nat.zero_le _⟩ rfl rfl (Nat.le_of_ble_eq_true rfl) hl.1 d_Har_summersByLot_66) (fun H locs hW => ?_)
              refine lv_istore (lv' := [(7, .int q_8), (4, .int ((y4_4 * (1103515245 : Int32)) + 12345)), (0, .ref a_r0), (1, .ref a_r1), (2, .int x2), (5, .int y5_1), (6, .int y6_4)]) hx hb d_Har_summersByLot_69 hl (by decide) rfl (fun ls hl => ?_)
              refine lv_iload hx hb d_Har_summersByLot_71 (lv_at hl 0 rfl) ?_
              refine lv_bipush (v := (-9)) hx hb d_Har_summersByLot_73 (by decide) ?_
              refine lv_icmp_ne (tgt := 91) hx hb d_Har_summersByLot_75 (by decide) (fun c_9 => ?_) (fun c_9 => ?_)
              · replace hr := iN c_9 hr
                refine lv_aload_n hx hb d_Har_summersByLot_91 rfl (lv_at hl 2 rfl) ?_
                refine k_get i_Har C hW 0 rfl rfl 0 (by decide) qf_Har_12 rfl rfl d_Har_summersByLot_92 ?_
                refine lv_iload hx hb d_Har_summersByLot_95 (lv_at hl 0 rfl) ?_
                obtain ⟨q_10, hc_10, hr⟩ := ob hr
                have ct_10 := C_Fld_work l D cI cS a_r0_fields a_r0_fields_lefts a_r0_fields_wishes r0_fields_lefts_4 q_3.2 q_8 q_10 hc_10
                refine k_goI hA hW [1, 2, 3] rfl ct_10.1 (ws' := (w_Har_summersByLot cI a_r0 a_r0_fields a_r0_fields_lefts a_r0_fields_wishes a_r1 a_r1_fields a_r1_fields_lefts a_r1_fields_wishes a_r1_goes a_r1_weights v_r0_weathers v_r0_days v_r0_path v_r0_best v_r0_counted v_r0_atMost v_r0_most v_r0_oneIn v_r1_kinds v_r1_figures v_r1_hampers v_r1_days v_r1_done r0_lotsDone_4 r0_lotsNone_4 q_10.2 q_3.2 r1_things r1_fields_lefts r1_fields_wishes r1_goes r1_weights)) rfl (k_runV C hA hW mw_Fld_work mv_Fld_work (ct_10.2 _) [1, 2, 3] rfl rfl 1 rfl rfl qm_Har_68 ⟨Nat.le_of_ble_eq_true rfl, Nat.le_of_ble_eq_true rfl, Nat.zero_le _, Nat.zero_le _⟩ rfl rfl (Nat.le_of_ble_eq_true rfl) hl.1 d_Har_summersByLot_97) (fun H locs hW => ?_)
                refine lv_if_lt (tgt := 113) hx hb d_Har_summersByLot_100 (by decide) (fun c_11 => ?_) (fun c_11 => ?_)
                · replace hr := ip c_11 hr
                  refine lv_iinc (v := (y6_4 + 1)) (lv' := [(6, .int (y6_4 + 1)), (7, .int q_8), (4, .int ((y4_4 * (1103515245 : Int32)) + 12345)), (0, .ref a_r0), (1, .ref a_r1), (2, .int x2), (5, .int y5_1)]) hx hb d_Har_summersByLot_113 hl (k := 6) rfl rfl (by decide) rfl (fun ls hl => ?_)
                  refine lv_goto (tgt := 36) hx hb d_Har_summersByLot_116 (by decide) ?_
                  exact ih_4 ((y4_4 * (1103515245 : Int32)) + 12345) (y6_4 + 1) r0_lotsDone_4 r0_lotsNone_4 q_10.2 (hz1_4 _ (Option.some.inj hr).symm) _ _ _ hW (lv_sub hl [3, 4, 5, 6, 2, 0] rfl)
                · replace hr := iN c_11 hr
                  refine lv_aload_n hx hb d_Har_summersByLot_103 rfl (lv_at hl 2 rfl) ?_
                  refine lv_dup hx hb d_Har_summersByLot_104 rfl ?_
                  refine k_get i_Har C hW 0 rfl rfl 9 (by decide) qf_Har_121 rfl rfl d_Har_summersByLot_105 ?_
                  refine lv_iconst (v := 1) hx hb d_Har_summersByLot_108 (by decide) ?_
                  refine lv_iadd hx hb d_Har_summersByLot_109 ?_
                  refine k_put i_Har t_Har_ok n_Har C hW 0 rfl rfl 9 (by decide) qf_Har_121 rfl rfl (ty := .int) rfl rfl rfl (Nat.le_of_ble_eq_true rfl) (ws' := (w_Har_summersByLot cI a_r0 a_r0_fields a_r0_fields_lefts a_r0_fields_wishes a_r1 a_r1_fields a_r1_fields_lefts a_r1_fields_wishes a_r1_goes a_r1_weights v_r0_weathers v_r0_days v_r0_path v_r0_best v_r0_counted v_r0_atMost v_r0_most v_r0_oneIn v_r1_kinds v_r1_figures v_r1_hampers v_r1_days v_r1_done (r0_lotsDone_4 + 1) r0_lotsNone_4 q_10.2 q_3.2 r1_things r1_fields_lefts r1_fields_wishes r1_goes r1_weights)) rfl d_Har_summersByLot_110 (fun H locs hW => ?_)
                  refine lv_iinc (v := (y6_4 + 1)) (lv' := [(6, .int (y6_4 + 1)), (7, .int q_8), (4, .int ((y4_4 * (1103515245 : Int32)) + 12345)), (0, .ref a_r0), (1, .ref a_r1), (2, .int x2), (5, .int y5_1)]) hx hb d_Har_summersByLot_113 hl (k := 6) rfl rfl (by decide) rfl (fun ls hl => ?_)
                  refine lv_goto (tgt := 36) hx hb d_Har_summersByLot_116 (by decide) ?_
                  exact ih_4 ((y4_4 * (1103515245 : Int32)) + 12345) (y6_4 + 1) (r0_lotsDone_4 + 1) r0_lotsNone_4 q_10.2 (hz1_4 _ (Option.some.inj hr).symm) _ _ _ hW (lv_sub hl [3, 4, 5, 6, 2, 0] rfl)
              · replace hr := ip c_9 hr
                refine lv_aload_n hx hb d_Har_summersByLot_78 rfl (lv_at hl 2 rfl) ?_
                refine lv_dup hx hb d_Har_summersByLot_79 rfl ?_
                refine k_get i_Har C hW 0 rfl rfl 10 (by decide) qf_Har_124 rfl rfl d_Har_summersByLot_80 ?_
                refine lv_iconst (v := 1) hx hb d_Har_summersByLot_83 (by decide) ?_
                refine lv_iadd hx hb d_Har_summersByLot_84 ?_
                refine k_put i_Har t_Har_ok n_Har C hW 0 rfl rfl 10 (by decide) qf_Har_124 rfl rfl (ty := .int) rfl rfl rfl (Nat.le_of_ble_eq_true rfl) (ws' := (w_Har_summersByLot cI a_r0 a_r0_fields a_r0_fields_lefts a_r0_fields_wishes a_r1 a_r1_fields a_r1_fields_lefts a_r1_fields_wishes a_r1_goes a_r1_weights v_r0_weathers v_r0_days v_r0_path v_r0_best v_r0_counted v_r0_atMost v_r0_most v_r0_oneIn v_r1_kinds v_r1_figures v_r1_hampers v_r1_days v_r1_done r0_lotsDone_4 (r0_lotsNone_4 + 1) r0_fields_lefts_4 q_3.2 r1_things r1_fields_lefts r1_fields_wishes r1_goes r1_weights)) rfl d_Har_summersByLot_85 (fun H locs hW => ?_)
                refine lv_goto (tgt := 113) hx hb d_Har_summersByLot_88 (by decide) ?_
                refine lv_iinc (v := (y6_4 + 1)) (lv' := [(6, .int (y6_4 + 1)), (7, .int q_8), (4, .int ((y4_4 * (1103515245 : Int32)) + 12345)), (0, .ref a_r0), (1, .ref a_r1), (2, .int x2), (5, .int y5_1)]) hx hb d_Har_summersByLot_113 hl (k := 6) rfl rfl (by decide) rfl (fun ls hl => ?_)
                refine lv_goto (tgt := 36) hx hb d_Har_summersByLot_116 (by decide) ?_
                exact ih_4 ((y4_4 * (1103515245 : Int32)) + 12345) (y6_4 + 1) r0_lotsDone_4 (r0_lotsNone_4 + 1) r0_fields_lefts_4 (hz1_4 _ (Option.some.inj hr).symm) _ _ _ hW (lv_sub hl [3, 4, 5, 6, 2, 0] rfl)
        exact hl_4 _ y4_1 0 r0_lotsDone_1 r0_lotsNone_1 q_3.1 hw_4 _ _ _ hW (lv_sub hl [1, 2, 3, 5, 4, 0] rfl)
  exact hl_1 _ x3 0 0 0 r0_fields_lefts r0_fields_wishes hw_1 _ _ _ hW (lv_sub hl [2, 3, 4, 1, 0] rfl)
def w_Har_waysFrom (cI : ClassId) (a_r0 : Nat) (a_r0_fields : Nat) (a_r0_fields_lefts : Nat) (a_r0_fields_wishes : Nat) (a_r0_weathers : Nat) (v_r0_path v_r0_best v_r0_counted v_r0_atMost v_r0_most v_r0_lotsDone v_r0_lotsNone : Value) (r0_days : Int32) (r0_oneIn : Int32) (r0_fields_lefts : Nat → Int32) (r0_fields_wishes : Nat → Int32) (r0_weathers : Nat → Int32) : va_W := [(a_r0, .inr (7, [.ref a_r0_fields, .ref a_r0_weathers, .int r0_days, v_r0_path, v_r0_best, v_r0_counted, v_r0_atMost, v_r0_most, .int r0_oneIn, v_r0_lotsDone, v_r0_lotsNone])), (a_r0_fields, .inr (2, [.ref a_r0_fields_wishes, .ref a_r0_fields_lefts])), (a_r0_fields_lefts, .inl (cI, 4, .inl r0_fields_lefts)), (a_r0_fields_wishes, .inl (cI, 4, .inl r0_fields_wishes)), (a_r0_weathers, .inl (cI, 8, .inl r0_weathers))]
def F_Har_waysFrom_J14_2 (r0_fields_lefts : Nat → Int32) : Option (Int64 × (Nat → Int32)) :=
  ((F_Fld_allLeft r0_fields_lefts).bind (fun q_3 => (if q_3 = 0 then (some (1, r0_fields_lefts)) else (some (0, r0_fields_lefts)))))
def B_Har_waysFrom (self : (Int32) → (Int32) → (Nat → Int32) → (Nat → Int32) → (Nat → Int32) → Int32 → Option (Int64 × (Nat → Int32))) (r0_days : Int32) (r0_oneIn : Int32) (r0_fields_lefts : Nat → Int32) (r0_fields_wishes : Nat → Int32) (r0_weathers : Nat → Int32) (x1 : Int32) : Option (Int64 × (Nat → Int32)) :=
  (if r0_days ≤ x1 then (F_Har_waysFrom_J14_2 r0_fields_lefts) else (if x1 < 8 then (ck x1 8 ((F_Fld_work r0_fields_lefts r0_fields_wishes (r0_weathers (Int32.toNatClampNeg x1))).bind (fun q_7 => ((self r0_days r0_oneIn q_7.2 r0_fields_wishes r0_weathers (x1 + 1)).bind (fun q_8 => ((F_Fld_undoWork q_8.2 q_7.1).bind (fun q_9 => ((F_Fld_work q_9 r0_fields_wishes (1 : Int32)).bind (fun q_10 => ((self r0_days r0_oneIn q_10.2 r0_fields_wishes r0_weathers (x1 + 1)).bind (fun q_11 => ((F_Fld_undoWork q_11.2 q_10.1).bind (fun q_12 => (some (((q_8.1 * (Int32.toInt64 (r0_oneIn - 1))) + q_11.1), q_12))))))))))))))) else (F_Har_waysFrom_J14_2 r0_fields_lefts)))
def F_Har_waysFrom : Nat → (Int32) → (Int32) → (Nat → Int32) → (Nat → Int32) → (Nat → Int32) → Int32 → Option (Int64 × (Nat → Int32))
  | 0 => fun _ _ _ _ _ _ => none
  | n + 1 => B_Har_waysFrom (F_Har_waysFrom n)
set_option maxHeartbeats 4000000 in
set_option maxRecDepth 100000 in
theorem C_Har_waysFrom (l : Launch) (D : va_G) (cI cS : ClassId) : ∀ (n : Nat) (a_r0 : Nat) (a_r0_fields : Nat) (a_r0_fields_lefts : Nat) (a_r0_fields_wishes : Nat) (a_r0_weathers : Nat) (v_r0_path v_r0_best v_r0_counted v_r0_atMost v_r0_most v_r0_lotsDone v_r0_lotsNone : Value) (r0_days : Int32) (r0_oneIn : Int32) (r0_fields_lefts : Nat → Int32) (r0_fields_wishes : Nat → Int32) (r0_weathers : Nat → Int32) (x1 : Int32) (o : Int64 × (Nat → Int32)), F_Har_waysFrom n r0_days r0_oneIn r0_fields_lefts r0_fields_wishes r0_weathers x1 = some o → ctL l y_Har_waysFrom (Cond.code y_Har_waysFrom b_Har_waysFrom 7 (some FieldType.long)) (rmd (3 + n)) D (kTy cI cS) [.ref a_r0, .int x1] (w_Har_waysFrom cI a_r0 a_r0_fields a_r0_fields_lefts a_r0_fields_wishes a_r0_weathers v_r0_path v_r0_best v_r0_counted v_r0_atMost v_r0_most v_r0_lotsDone v_r0_lotsNone r0_days r0_oneIn r0_fields_lefts r0_fields_wishes r0_weathers) (w_Har_waysFrom cI a_r0 a_r0_fields a_r0_fields_lefts a_r0_fields_wishes a_r0_weathers v_r0_path v_r0_best v_r0_counted v_r0_atMost v_r0_most v_r0_lotsDone v_r0_lotsNone r0_days r0_oneIn o.2 r0_fields_wishes r0_weathers) o.1 := by
  intro n
  induction n with
  | zero => intro a_r0 a_r0_fields a_r0_fields_lefts a_r0_fields_wishes a_r0_weathers v_r0_path v_r0_best v_r0_counted v_r0_atMost v_r0_most v_r0_lotsDone v_r0_lotsNone r0_days r0_oneIn r0_fields_lefts r0_fields_wishes r0_weathers x1 o hr; exact absurd hr (by intro h; cases h)
  | succ n ih =>
    intro a_r0 a_r0_fields a_r0_fields_lefts a_r0_fields_wishes a_r0_weathers v_r0_path v_r0_best v_r0_counted v_r0_atMost v_r0_most v_r0_lotsDone v_r0_lotsNone r0_days r0_oneIn r0_fields_lefts r0_fields_wishes r0_weathers x1 o hr
    have hr : B_Har_waysFrom (F_Har_waysFrom n) r0_days r0_oneIn r0_fields_lefts r0_fields_wishes r0_weathers x1 = some o := hr
    unfold B_Har_waysFrom at hr
    obtain ⟨self, hself⟩ : ∃ f, f = F_Har_waysFrom n := ⟨_, rfl⟩
    rw [← hself] at hr ih
    refine ⟨rfl, fun sz => ct_of (w0 := (w_Har_waysFrom cI a_r0 a_r0_fields a_r0_fields_lefts a_r0_fields_wishes a_r0_weathers v_r0_path v_r0_best v_r0_counted v_r0_atMost v_r0_most v_r0_lotsDone v_r0_lotsNone r0_days r0_oneIn r0_fields_lefts r0_fields_wishes r0_weathers)) (Qc := fun A => qL D (w_Har_waysFrom cI a_r0 a_r0_fields a_r0_fields_lefts a_r0_fields_wishes a_r0_weathers v_r0_path v_r0_best v_r0_counted v_r0_atMost v_r0_most v_r0_lotsDone v_r0_lotsNone r0_days r0_oneIn o.2 r0_fields_wishes r0_weathers) o.1 A) rfl (Nat.le_of_ble_eq_true rfl) ?_ sz⟩
    intro p e s m below meth c A hA C hret ls hl hW
    have C : cx p s m ([.ref a_r0, .int x1] : List Value).toArray meth c b_Har_waysFrom 7 R_Har D (kTy cI cS) (Cond.code y_Har_waysFrom b_Har_waysFrom 7 (some FieldType.long)) := C
    obtain ⟨hx, hb, hml, hown, hts, hK, hlk, hN⟩ := id C
    have hl : lv_has ls 7 [(0, .ref a_r0), (1, .int x1)] := hl
    obtain ⟨Q, hQ⟩ : ∃ Q, Q = MQ below (qL D (w_Har_waysFrom cI a_r0 a_r0_fields a_r0_fields_lefts a_r0_fields_wishes a_r0_weathers v_r0_path v_r0_best v_r0_counted v_r0_atMost v_r0_most v_r0_lotsDone v_r0_lotsNone r0_days r0_oneIn o.2 r0_fields_wishes r0_weathers) o.1 A) ([.ref a_r0, .int x1] : List Value).toArray s 0 0 A := ⟨_, rfl⟩
    rw [← hQ]
    refine lv_iload_n hx hb d_Har_waysFrom_0 rfl (lv_at hl 1 rfl) ?_
    refine lv_aload_n hx hb d_Har_waysFrom_1 rfl (lv_at hl 0 rfl) ?_
    refine k_get i_Har C hW 0 rfl rfl 2 (by decide) qf_Har_48 rfl rfl d_Har_waysFrom_2 ?_
    have hJ_2 : ∀ (_ : Unit), F_Har_waysFrom_J14_2 r0_fields_lefts = some o → ∀ (H : Heap) (locs : List Loc) (ls : Array Slot), wd A s.heap D (w_Har_waysFrom cI a_r0 a_r0_fields a_r0_fields_lefts a_r0_fields_wishes a_r0_weathers v_r0_path v_r0_best v_r0_counted v_r0_atMost v_r0_most v_r0_lotsDone v_r0_lotsNone r0_days r0_oneIn r0_fields_lefts r0_fields_wishes r0_weathers) H locs → lv_has ls 7 [(0, .ref a_r0)] → W p l e (rmd (3 + (n + 1))) s m ([.ref a_r0, .int x1] : List Value).toArray below meth c H locs 0 0 Q (F0 m 14 ls []) := by
      intro _ hr H locs ls hW hl
      unfold F_Har_waysFrom_J14_2 at hr
      refine lv_aload_n hx hb d_Har_waysFrom_14 rfl (lv_at hl 0 rfl) ?_
      refine k_get i_Har C hW 0 rfl rfl 0 (by decide) qf_Har_12 rfl rfl d_Har_waysFrom_15 ?_
      obtain ⟨q_3, hc_3, hr⟩ := ob hr
      have ct_3 := C_Fld_allLeft l D cI cS a_r0_fields a_r0_fields_lefts (Value.ref a_r0_fields_wishes) r0_fields_lefts q_3 hc_3
      refine k_goIp hA hW [1, 2] rfl rfl (k_runV C hA hW mw_Fld_allLeft mv_Fld_allLeft (ct_3.2 _) [1, 2] rfl rfl 1 rfl rfl qm_Har_118 ⟨by simp only [rmd]; omega, by simp only [rmd]; omega, Nat.zero_le _, Nat.zero_le _⟩ rfl rfl (Nat.le_of_ble_eq_true rfl) hl.1 d_Har_waysFrom_18) (fun H locs hW => ?_)
      refine lv_if_ne (tgt := 28) hx hb d_Har_waysFrom_21 (by decide) (fun c_4 => ?_) (fun c_4 => ?_)
      · replace hr := iN c_4 hr
        refine lv_lconst (v := 0) hx hb d_Har_waysFrom_28 (by decide) ?_
        obtain rfl := Option.some.inj hr
        rw [hQ]; exact k_lret C hret hW d_Har_waysFrom_29
      · replace hr := ip c_4 hr
        refine lv_lconst (v := 1) hx hb d_Har_waysFrom_24 (by decide) ?_
        refine lv_goto (tgt := 29) hx hb d_Har_waysFrom_25 (by decide) ?_
        obtain rfl := Option.some.inj hr
        rw [hQ]; exact k_lret C hret hW d_Har_waysFrom_29
    refine lv_icmp_ge (tgt := 14) hx hb d_Har_waysFrom_5 (by decide) (fun c_1 => ?_) (fun c_1 => ?_)
    · replace hr := ip c_1 hr
      exact hJ_2 () hr _ _ _ hW (lv_sub hl [0] rfl)
    · replace hr := iN c_1 hr
      refine lv_iload_n hx hb d_Har_waysFrom_8 rfl (lv_at hl 1 rfl) ?_
      refine lv_bipush (v := 8) hx hb d_Har_waysFrom_9 (by decide) ?_
      refine lv_icmp_lt (tgt := 30) hx hb d_Har_waysFrom_11 (by decide) (fun c_5 => ?_) (fun c_5 => ?_)
      · replace hr := ip c_5 hr
        refine lv_aload_n hx hb d_Har_waysFrom_30 rfl (lv_at hl 0 rfl) ?_
        refine k_get i_Har C hW 0 rfl rfl 0 (by decide) qf_Har_12 rfl rfl d_Har_waysFrom_31 ?_
        refine lv_aload_n hx hb d_Har_waysFrom_34 rfl (lv_at hl 0 rfl) ?_
        refine k_get i_Har C hW 0 rfl rfl 1 (by decide) qf_Har_18 rfl rfl d_Har_waysFrom_35 ?_
        refine lv_iload_n hx hb d_Har_waysFrom_38 rfl (lv_at hl 1 rfl) ?_
        obtain ⟨h_6, hr⟩ := ck_some hr
        refine k_iald C hW 4 rfl h_6 d_Har_waysFrom_39 ?_
        obtain ⟨q_7, hc_7, hr⟩ := ob hr
        have ct_7 := C_Fld_work l D cI cS a_r0_fields a_r0_fields_lefts a_r0_fields_wishes r0_fields_lefts r0_fields_wishes (r0_weathers (Int32.toNatClampNeg x1)) q_7 hc_7
        refine k_goI hA hW [1, 2, 3] rfl ct_7.1 (ws' := (w_Har_waysFrom cI a_r0 a_r0_fields a_r0_fields_lefts a_r0_fields_wishes a_r0_weathers v_r0_path v_r0_best v_r0_counted v_r0_atMost v_r0_most v_r0_lotsDone v_r0_lotsNone r0_days r0_oneIn q_7.2 r0_fields_wishes r0_weathers)) rfl (k_runV C hA hW mw_Fld_work mv_Fld_work (ct_7.2 _) [1, 2, 3] rfl rfl 1 rfl rfl qm_Har_68 ⟨by simp only [rmd]; omega, by simp only [rmd]; omega, Nat.zero_le _, Nat.zero_le _⟩ rfl rfl (Nat.le_of_ble_eq_true rfl) hl.1 d_Har_waysFrom_40) (fun H locs hW => ?_)
        refine lv_istore_n (lv' := [(2, .int q_7.1), (0, .ref a_r0), (1, .int x1)]) hx hb d_Har_waysFrom_43 rfl hl (by decide) rfl (fun ls hl => ?_)
        refine lv_aload_n hx hb d_Har_waysFrom_44 rfl (lv_at hl 1 rfl) ?_
        refine lv_iload_n hx hb d_Har_waysFrom_45 rfl (lv_at hl 2 rfl) ?_
        refine lv_iconst (v := 1) hx hb d_Har_waysFrom_46 (by decide) ?_
        refine lv_iadd hx hb d_Har_waysFrom_47 ?_
        obtain ⟨q_8, hc_8, hr⟩ := ob hr
        have ct_8 := ih a_r0 a_r0_fields a_r0_fields_lefts a_r0_fields_wishes a_r0_weathers v_r0_path v_r0_best v_r0_counted v_r0_atMost v_r0_most v_r0_lotsDone v_r0_lotsNone r0_days r0_oneIn q_7.2 r0_fields_wishes r0_weathers (x1 + 1) q_8 hc_8
        refine k_goL hA hW [0, 1, 2, 3, 4] rfl ct_8.1 (ws' := (w_Har_waysFrom cI a_r0 a_r0_fields a_r0_fields_lefts a_r0_fields_wishes a_r0_weathers v_r0_path v_r0_best v_r0_counted v_r0_atMost v_r0_most v_r0_lotsDone v_r0_lotsNone r0_days r0_oneIn q_8.2 r0_fields_wishes r0_weathers)) rfl (k_runS C hA hW mw_Har_waysFrom ms_Har_waysFrom (ct_8.2 _) [0, 1, 2, 3, 4] rfl rfl qm_Har_114 ⟨by simp only [rmd]; omega, by simp only [rmd]; omega, Nat.zero_le _, Nat.zero_le _⟩ rfl rfl (Nat.le_of_ble_eq_true rfl) hl.1 d_Har_waysFrom_48) (fun H locs hW => ?_)
        refine lv_lstore_n (lv' := [(3, .long q_8.1), (2, .int q_7.1), (0, .ref a_r0), (1, .int x1)]) hx hb d_Har_waysFrom_51 rfl hl (by decide) rfl (fun ls hl => ?_)
        refine lv_aload_n hx hb d_Har_waysFrom_52 rfl (lv_at hl 2 rfl) ?_
        refine k_get i_Har C hW 0 rfl rfl 0 (by decide) qf_Har_12 rfl rfl d_Har_waysFrom_53 ?_
        refine lv_iload_n hx hb d_Har_waysFrom_56 rfl (lv_at hl 1 rfl) ?_
        obtain ⟨q_9, hc_9, hr⟩ := ob hr
        have ct_9 := C_Fld_undoWork l D cI cS a_r0_fields a_r0_fields_lefts (Value.ref a_r0_fields_wishes) q_8.2 q_7.1 q_9 hc_9
        refine k_goV hA hW [1, 2] rfl ct_9.1 (ws' := (w_Har_waysFrom cI a_r0 a_r0_fields a_r0_fields_lefts a_r0_fields_wishes a_r0_weathers v_r0_path v_r0_best v_r0_counted v_r0_atMost v_r0_most v_r0_lotsDone v_r0_lotsNone r0_days r0_oneIn q_9 r0_fields_wishes r0_weathers)) rfl (k_runV C hA hW mw_Fld_undoWork mv_Fld_undoWork (ct_9.2 _) [1, 2] rfl rfl 1 rfl rfl qm_Har_105 ⟨by simp only [rmd]; omega, by simp only [rmd]; omega, Nat.zero_le _, Nat.zero_le _⟩ rfl rfl (Nat.le_of_ble_eq_true rfl) hl.1 d_Har_waysFrom_57) (fun H locs hW => ?_)
        refine lv_aload_n hx hb d_Har_waysFrom_60 rfl (lv_at hl 2 rfl) ?_
        refine k_get i_Har C hW 0 rfl rfl 0 (by decide) qf_Har_12 rfl rfl d_Har_waysFrom_61 ?_
        refine lv_iconst (v := 1) hx hb d_Har_waysFrom_64 (by decide) ?_
        obtain ⟨q_10, hc_10, hr⟩ := ob hr
        have ct_10 := C_Fld_work l D cI cS a_r0_fields a_r0_fields_lefts a_r0_fields_wishes q_9 r0_fields_wishes 1 q_10 hc_10
        refine k_goI hA hW [1, 2, 3] rfl ct_10.1 (ws' := (w_Har_waysFrom cI a_r0 a_r0_fields a_r0_fields_lefts a_r0_fields_wishes a_r0_weathers v_r0_path v_r0_best v_r0_counted v_r0_atMost v_r0_most v_r0_lotsDone v_r0_lotsNone r0_days r0_oneIn q_10.2 r0_fields_wishes r0_weathers)) rfl (k_runV C hA hW mw_Fld_work mv_Fld_work (ct_10.2 _) [1, 2, 3] rfl rfl 1 rfl rfl qm_Har_68 ⟨by simp only [rmd]; omega, by simp only [rmd]; omega, Nat.zero_le _, Nat.zero_le _⟩ rfl rfl (Nat.le_of_ble_eq_true rfl) hl.1 d_Har_waysFrom_65) (fun H locs hW => ?_)
        refine lv_istore_n (lv' := [(2, .int q_10.1), (3, .long q_8.1), (0, .ref a_r0), (1, .int x1)]) hx hb d_Har_waysFrom_68 rfl hl (by decide) rfl (fun ls hl => ?_)
        refine lv_aload_n hx hb d_Har_waysFrom_69 rfl (lv_at hl 2 rfl) ?_
        refine lv_iload_n hx hb d_Har_waysFrom_70 rfl (lv_at hl 3 rfl) ?_
        refine lv_iconst (v := 1) hx hb d_Har_waysFrom_71 (by decide) ?_
        refine lv_iadd hx hb d_Har_waysFrom_72 ?_
        obtain ⟨q_11, hc_11, hr⟩ := ob hr
        have ct_11 := ih a_r0 a_r0_fields a_r0_fields_lefts a_r0_fields_wishes a_r0_weathers v_r0_path v_r0_best v_r0_counted v_r0_atMost v_r0_most v_r0_lotsDone v_r0_lotsNone r0_days r0_oneIn q_10.2 r0_fields_wishes r0_weathers (x1 + 1) q_11 hc_11
        refine k_goL hA hW [0, 1, 2, 3, 4] rfl ct_11.1 (ws' := (w_Har_waysFrom cI a_r0 a_r0_fields a_r0_fields_lefts a_r0_fields_wishes a_r0_weathers v_r0_path v_r0_best v_r0_counted v_r0_atMost v_r0_most v_r0_lotsDone v_r0_lotsNone r0_days r0_oneIn q_11.2 r0_fields_wishes r0_weathers)) rfl (k_runS C hA hW mw_Har_waysFrom ms_Har_waysFrom (ct_11.2 _) [0, 1, 2, 3, 4] rfl rfl qm_Har_114 ⟨by simp only [rmd]; omega, by simp only [rmd]; omega, Nat.zero_le _, Nat.zero_le _⟩ rfl rfl (Nat.le_of_ble_eq_true rfl) hl.1 d_Har_waysFrom_73) (fun H locs hW => ?_)
        refine lv_lstore (lv' := [(5, .long q_11.1), (2, .int q_10.1), (3, .long q_8.1), (0, .ref a_r0), (1, .int x1)]) hx hb d_Har_waysFrom_76 hl (by decide) rfl (fun ls hl => ?_)
        refine lv_aload_n hx hb d_Har_waysFrom_78 rfl (lv_at hl 3 rfl) ?_
        refine k_get i_Har C hW 0 rfl rfl 0 (by decide) qf_Har_12 rfl rfl d_Har_waysFrom_79 ?_
        refine lv_iload_n hx hb d_Har_waysFrom_82 rfl (lv_at hl 1 rfl) ?_
        obtain ⟨q_12, hc_12, hr⟩ := ob hr
        have ct_12 := C_Fld_undoWork l D cI cS a_r0_fields a_r0_fields_lefts (Value.ref a_r0_fields_wishes) q_11.2 q_10.1 q_12 hc_12
        refine k_goV hA hW [1, 2] rfl ct_12.1 (ws' := (w_Har_waysFrom cI a_r0 a_r0_fields a_r0_fields_lefts a_r0_fields_wishes a_r0_weathers v_r0_path v_r0_best v_r0_counted v_r0_atMost v_r0_most v_r0_lotsDone v_r0_lotsNone r0_days r0_oneIn q_12 r0_fields_wishes r0_weathers)) rfl (k_runV C hA hW mw_Fld_undoWork mv_Fld_undoWork (ct_12.2 _) [1, 2] rfl rfl 1 rfl rfl qm_Har_105 ⟨by simp only [rmd]; omega, by simp only [rmd]; omega, Nat.zero_le _, Nat.zero_le _⟩ rfl rfl (Nat.le_of_ble_eq_true rfl) hl.1 d_Har_waysFrom_83) (fun H locs hW => ?_)
        refine lv_lload_n hx hb d_Har_waysFrom_86 rfl (lv_at hl 2 rfl) ?_
        refine lv_aload_n hx hb d_Har_waysFrom_87 rfl (lv_at hl 3 rfl) ?_
        refine k_get i_Har C hW 0 rfl rfl 8 (by decide) qf_Har_111 rfl rfl d_Har_waysFrom_88 ?_
        refine lv_iconst (v := 1) hx hb d_Har_waysFrom_91 (by decide) ?_
        refine lv_isub hx hb d_Har_waysFrom_92 ?_
        refine lv_i2l hx hb d_Har_waysFrom_93 rfl ?_
        refine lv_lmul hx hb d_Har_waysFrom_94 ?_
        refine lv_lload hx hb d_Har_waysFrom_95 (lv_at hl 0 rfl) ?_
        refine lv_ladd hx hb d_Har_waysFrom_97 ?_
        obtain rfl := Option.some.inj hr
        rw [hQ]; exact k_lret C hret hW d_Har_waysFrom_98
      · replace hr := iN c_5 hr
        exact hJ_2 () hr _ _ _ hW (lv_sub hl [0] rfl)
def w_Har_waysAllIn (cI : ClassId) (a_r0 : Nat) (a_r0_fields : Nat) (a_r0_fields_lefts : Nat) (a_r0_fields_wishes : Nat) (a_r0_weathers : Nat) (a_r1 : Nat) (a_r1_fields : Nat) (a_r1_fields_lefts : Nat) (a_r1_fields_wishes : Nat) (a_r1_goes : Nat) (a_r1_hampers : Nat) (a_r1_weights : Nat) (v_r0_path v_r0_best v_r0_counted v_r0_atMost v_r0_most v_r0_lotsDone v_r0_lotsNone v_r1_kinds v_r1_figures v_r1_things v_r1_done : Value) (r0_days : Int32) (r0_oneIn : Int32) (r0_fields_lefts : Nat → Int32) (r0_fields_wishes : Nat → Int32) (r0_weathers : Nat → Int32) (r1_days : Int32) (r1_fields_lefts : Nat → Int32) (r1_fields_wishes : Nat → Int32) (r1_goes : Nat → Int32) (r1_hampers : Nat → Int32) (r1_weights : Nat → Int32) : va_W := [(a_r0, .inr (7, [.ref a_r0_fields, .ref a_r0_weathers, .int r0_days, v_r0_path, v_r0_best, v_r0_counted, v_r0_atMost, v_r0_most, .int r0_oneIn, v_r0_lotsDone, v_r0_lotsNone])), (a_r0_fields, .inr (2, [.ref a_r0_fields_wishes, .ref a_r0_fields_lefts])), (a_r0_fields_lefts, .inl (cI, 4, .inl r0_fields_lefts)), (a_r0_fields_wishes, .inl (cI, 4, .inl r0_fields_wishes)), (a_r0_weathers, .inl (cI, 8, .inl r0_weathers)), (a_r1, .inr (1, [.ref a_r1_weights, v_r1_kinds, v_r1_figures, .ref a_r1_goes, v_r1_things, .ref a_r1_hampers, .int r1_days, .ref a_r1_fields, v_r1_done])), (a_r1_fields, .inr (2, [.ref a_r1_fields_wishes, .ref a_r1_fields_lefts])), (a_r1_fields_lefts, .inl (cI, 4, .inl r1_fields_lefts)), (a_r1_fields_wishes, .inl (cI, 4, .inl r1_fields_wishes)), (a_r1_goes, .inl (cI, 8, .inl r1_goes)), (a_r1_hampers, .inl (cI, 8, .inl r1_hampers)), (a_r1_weights, .inl (cI, 6, .inl r1_weights))]
def F_Har_waysAllIn (r0_fields_lefts : Nat → Int32) (r0_fields_wishes : Nat → Int32) (r0_weathers : Nat → Int32) (r1_days : Int32) (r1_fields_lefts : Nat → Int32) (r1_fields_wishes : Nat → Int32) (r1_goes : Nat → Int32) (r1_hampers : Nat → Int32) (r1_weights : Nat → Int32) (x2 : Int32) (x3 : Int32) : Option (Int64 × (Int32) × (Int32) × (Nat → Int32) × (Nat → Int32) × (Nat → Int32)) :=
  ((F_Har_begin r0_fields_lefts r0_fields_wishes r0_weathers r1_days r1_fields_lefts r1_fields_wishes r1_goes r1_hampers r1_weights).bind (fun q_1 => ((F_Har_waysFrom 10 (if q_1.1 < x2 then q_1.1 else x2) x3 q_1.2.1 q_1.2.2.1 q_1.2.2.2 (0 : Int32)).bind (fun q_2 => (some (q_2.1, (if q_1.1 < x2 then q_1.1 else x2), x3, q_2.2, q_1.2.2.1, q_1.2.2.2))))))
set_option maxHeartbeats 4000000 in
set_option maxRecDepth 100000 in
theorem C_Har_waysAllIn (l : Launch) (D : va_G) (cI cS : ClassId) (a_r0 : Nat) (a_r0_fields : Nat) (a_r0_fields_lefts : Nat) (a_r0_fields_wishes : Nat) (a_r0_weathers : Nat) (a_r1 : Nat) (a_r1_fields : Nat) (a_r1_fields_lefts : Nat) (a_r1_fields_wishes : Nat) (a_r1_goes : Nat) (a_r1_hampers : Nat) (a_r1_weights : Nat) (v_r0_path v_r0_best v_r0_counted v_r0_atMost v_r0_most v_r0_lotsDone v_r0_lotsNone v_r1_kinds v_r1_figures v_r1_things v_r1_done : Value) (r0_days : Int32) (r0_oneIn : Int32) (r0_fields_lefts : Nat → Int32) (r0_fields_wishes : Nat → Int32) (r0_weathers : Nat → Int32) (r1_days : Int32) (r1_fields_lefts : Nat → Int32) (r1_fields_wishes : Nat → Int32) (r1_goes : Nat → Int32) (r1_hampers : Nat → Int32) (r1_weights : Nat → Int32) (x2 : Int32) (x3 : Int32) (o : Int64 × (Int32) × (Int32) × (Nat → Int32) × (Nat → Int32) × (Nat → Int32)) (hr : F_Har_waysAllIn r0_fields_lefts r0_fields_wishes r0_weathers r1_days r1_fields_lefts r1_fields_wishes r1_goes r1_hampers r1_weights x2 x3 = some o) : ctL l y_Har_waysAllIn (Cond.code y_Har_waysAllIn b_Har_waysAllIn 4 (some FieldType.long)) (rmd 14) D (kTy cI cS) [.ref a_r0, .ref a_r1, .int x2, .int x3] (w_Har_waysAllIn cI a_r0 a_r0_fields a_r0_fields_lefts a_r0_fields_wishes a_r0_weathers a_r1 a_r1_fields a_r1_fields_lefts a_r1_fields_wishes a_r1_goes a_r1_hampers a_r1_weights v_r0_path v_r0_best v_r0_counted v_r0_atMost v_r0_most v_r0_lotsDone v_r0_lotsNone v_r1_kinds v_r1_figures v_r1_things v_r1_done r0_days r0_oneIn r0_fields_lefts r0_fields_wishes r0_weathers r1_days r1_fields_lefts r1_fields_wishes r1_goes r1_hampers r1_weights) (w_Har_waysAllIn cI a_r0 a_r0_fields a_r0_fields_lefts a_r0_fields_wishes a_r0_weathers a_r1 a_r1_fields a_r1_fields_lefts a_r1_fields_wishes a_r1_goes a_r1_hampers a_r1_weights v_r0_path v_r0_best v_r0_counted v_r0_atMost v_r0_most v_r0_lotsDone v_r0_lotsNone v_r1_kinds v_r1_figures v_r1_things v_r1_done o.2.1 o.2.2.1 o.2.2.2.1 o.2.2.2.2.1 o.2.2.2.2.2 r1_days r1_fields_lefts r1_fields_wishes r1_goes r1_hampers r1_weights) o.1 := by
  unfold F_Har_waysAllIn at hr
  refine ⟨rfl, fun sz => ct_of (w0 := (w_Har_waysAllIn cI a_r0 a_r0_fields a_r0_fields_lefts a_r0_fields_wishes a_r0_weathers a_r1 a_r1_fields a_r1_fields_lefts a_r1_fields_wishes a_r1_goes a_r1_hampers a_r1_weights v_r0_path v_r0_best v_r0_counted v_r0_atMost v_r0_most v_r0_lotsDone v_r0_lotsNone v_r1_kinds v_r1_figures v_r1_things v_r1_done r0_days r0_oneIn r0_fields_lefts r0_fields_wishes r0_weathers r1_days r1_fields_lefts r1_fields_wishes r1_goes r1_hampers r1_weights)) (Qc := fun A => qL D (w_Har_waysAllIn cI a_r0 a_r0_fields a_r0_fields_lefts a_r0_fields_wishes a_r0_weathers a_r1 a_r1_fields a_r1_fields_lefts a_r1_fields_wishes a_r1_goes a_r1_hampers a_r1_weights v_r0_path v_r0_best v_r0_counted v_r0_atMost v_r0_most v_r0_lotsDone v_r0_lotsNone v_r1_kinds v_r1_figures v_r1_things v_r1_done o.2.1 o.2.2.1 o.2.2.2.1 o.2.2.2.2.1 o.2.2.2.2.2 r1_days r1_fields_lefts r1_fields_wishes r1_goes r1_hampers r1_weights) o.1 A) rfl (Nat.le_of_ble_eq_true rfl) ?_ sz⟩
  intro p e s m below meth c A hA C hret ls hl hW
  have C : cx p s m ([.ref a_r0, .ref a_r1, .int x2, .int x3] : List Value).toArray meth c b_Har_waysAllIn 4 R_Har D (kTy cI cS) (Cond.code y_Har_waysAllIn b_Har_waysAllIn 4 (some FieldType.long)) := C
  obtain ⟨hx, hb, hml, hown, hts, hK, hlk, hN⟩ := id C
  have hl : lv_has ls 4 [(0, .ref a_r0), (1, .ref a_r1), (2, .int x2), (3, .int x3)] := hl
  obtain ⟨Q, hQ⟩ : ∃ Q, Q = MQ below (qL D (w_Har_waysAllIn cI a_r0 a_r0_fields a_r0_fields_lefts a_r0_fields_wishes a_r0_weathers a_r1 a_r1_fields a_r1_fields_lefts a_r1_fields_wishes a_r1_goes a_r1_hampers a_r1_weights v_r0_path v_r0_best v_r0_counted v_r0_atMost v_r0_most v_r0_lotsDone v_r0_lotsNone v_r1_kinds v_r1_figures v_r1_things v_r1_done o.2.1 o.2.2.1 o.2.2.2.1 o.2.2.2.2.1 o.2.2.2.2.2 r1_days r1_fields_lefts r1_fields_wishes r1_goes r1_hampers r1_weights) o.1 A) ([.ref a_r0, .ref a_r1, .int x2, .int x3] : List Value).toArray s 0 0 A := ⟨_, rfl⟩
  rw [← hQ]
  refine lv_aload_n hx hb d_Har_waysAllIn_0 rfl (lv_at hl 0 rfl) ?_
  refine lv_aload_n hx hb d_Har_waysAllIn_1 rfl (lv_at hl 1 rfl) ?_
  obtain ⟨q_1, hc_1, hr⟩ := ob hr
  have ct_1 := C_Har_begin l D cI cS a_r0 a_r0_fields a_r0_fields_lefts a_r0_fields_wishes a_r0_weathers a_r1 a_r1_fields a_r1_fields_lefts a_r1_fields_wishes a_r1_goes a_r1_hampers a_r1_weights v_r0_path v_r0_best v_r0_counted v_r0_atMost v_r0_most (Value.int r0_oneIn) v_r0_lotsDone v_r0_lotsNone v_r1_kinds v_r1_figures v_r1_things v_r1_done r0_days r0_fields_lefts r0_fields_wishes r0_weathers r1_days r1_fields_lefts r1_fields_wishes r1_goes r1_hampers r1_weights q_1 hc_1
  refine k_goV hA hW [0, 1, 2, 3, 4, 5, 6, 7, 8, 9, 10, 11] rfl ct_1.1 (ws' := (w_Har_waysAllIn cI a_r0 a_r0_fields a_r0_fields_lefts a_r0_fields_wishes a_r0_weathers a_r1 a_r1_fields a_r1_fields_lefts a_r1_fields_wishes a_r1_goes a_r1_hampers a_r1_weights v_r0_path v_r0_best v_r0_counted v_r0_atMost v_r0_most v_r0_lotsDone v_r0_lotsNone v_r1_kinds v_r1_figures v_r1_things v_r1_done q_1.1 r0_oneIn q_1.2.1 q_1.2.2.1 q_1.2.2.2 r1_days r1_fields_lefts r1_fields_wishes r1_goes r1_hampers r1_weights)) rfl (k_runV C hA hW mw_Har_begin mv_Har_begin (ct_1.2 _) [0, 1, 2, 3, 4, 5, 6, 7, 8, 9, 10, 11] rfl rfl 0 rfl rfl qm_Har_60 ⟨Nat.le_of_ble_eq_true rfl, Nat.le_of_ble_eq_true rfl, Nat.zero_le _, Nat.zero_le _⟩ rfl rfl (Nat.le_of_ble_eq_true rfl) hl.1 d_Har_waysAllIn_2) (fun H locs hW => ?_)
  refine lv_aload_n hx hb d_Har_waysAllIn_5 rfl (lv_at hl 0 rfl) ?_
  refine lv_iload_n hx hb d_Har_waysAllIn_6 rfl (lv_at hl 2 rfl) ?_
  refine lv_aload_n hx hb d_Har_waysAllIn_7 rfl (lv_at hl 0 rfl) ?_
  refine k_get i_Har C hW 0 rfl rfl 2 (by decide) qf_Har_48 rfl rfl d_Har_waysAllIn_8 ?_
  refine k_mmin C qm_Har_39 ⟨Nat.le_of_ble_eq_true rfl, Nat.le_of_ble_eq_true rfl, Nat.zero_le _, Nat.zero_le _⟩ hl.1 d_Har_waysAllIn_11 ?_
  refine k_put i_Har t_Har_ok n_Har C hW 0 rfl rfl 2 (by decide) qf_Har_48 rfl rfl (ty := .int) rfl rfl rfl (Nat.le_of_ble_eq_true rfl) (ws' := (w_Har_waysAllIn cI a_r0 a_r0_fields a_r0_fields_lefts a_r0_fields_wishes a_r0_weathers a_r1 a_r1_fields a_r1_fields_lefts a_r1_fields_wishes a_r1_goes a_r1_hampers a_r1_weights v_r0_path v_r0_best v_r0_counted v_r0_atMost v_r0_most v_r0_lotsDone v_r0_lotsNone v_r1_kinds v_r1_figures v_r1_things v_r1_done (if q_1.1 < x2 then q_1.1 else x2) r0_oneIn q_1.2.1 q_1.2.2.1 q_1.2.2.2 r1_days r1_fields_lefts r1_fields_wishes r1_goes r1_hampers r1_weights)) rfl d_Har_waysAllIn_14 (fun H locs hW => ?_)
  refine lv_aload_n hx hb d_Har_waysAllIn_17 rfl (lv_at hl 0 rfl) ?_
  refine lv_iload_n hx hb d_Har_waysAllIn_18 rfl (lv_at hl 3 rfl) ?_
  refine k_put i_Har t_Har_ok n_Har C hW 0 rfl rfl 8 (by decide) qf_Har_111 rfl rfl (ty := .int) rfl rfl rfl (Nat.le_of_ble_eq_true rfl) (ws' := (w_Har_waysAllIn cI a_r0 a_r0_fields a_r0_fields_lefts a_r0_fields_wishes a_r0_weathers a_r1 a_r1_fields a_r1_fields_lefts a_r1_fields_wishes a_r1_goes a_r1_hampers a_r1_weights v_r0_path v_r0_best v_r0_counted v_r0_atMost v_r0_most v_r0_lotsDone v_r0_lotsNone v_r1_kinds v_r1_figures v_r1_things v_r1_done (if q_1.1 < x2 then q_1.1 else x2) x3 q_1.2.1 q_1.2.2.1 q_1.2.2.2 r1_days r1_fields_lefts r1_fields_wishes r1_goes r1_hampers r1_weights)) rfl d_Har_waysAllIn_19 (fun H locs hW => ?_)
  refine lv_aload_n hx hb d_Har_waysAllIn_22 rfl (lv_at hl 0 rfl) ?_
  refine lv_iconst (v := 0) hx hb d_Har_waysAllIn_23 (by decide) ?_
  obtain ⟨q_2, hc_2, hr⟩ := ob hr
  have ct_2 := C_Har_waysFrom l D cI cS 10 a_r0 a_r0_fields a_r0_fields_lefts a_r0_fields_wishes a_r0_weathers v_r0_path v_r0_best v_r0_counted v_r0_atMost v_r0_most v_r0_lotsDone v_r0_lotsNone (if q_1.1 < x2 then q_1.1 else x2) x3 q_1.2.1 q_1.2.2.1 q_1.2.2.2 0 q_2 hc_2
  refine k_goL hA hW [0, 1, 2, 3, 4] rfl ct_2.1 (ws' := (w_Har_waysAllIn cI a_r0 a_r0_fields a_r0_fields_lefts a_r0_fields_wishes a_r0_weathers a_r1 a_r1_fields a_r1_fields_lefts a_r1_fields_wishes a_r1_goes a_r1_hampers a_r1_weights v_r0_path v_r0_best v_r0_counted v_r0_atMost v_r0_most v_r0_lotsDone v_r0_lotsNone v_r1_kinds v_r1_figures v_r1_things v_r1_done (if q_1.1 < x2 then q_1.1 else x2) x3 q_2.2 q_1.2.2.1 q_1.2.2.2 r1_days r1_fields_lefts r1_fields_wishes r1_goes r1_hampers r1_weights)) rfl (k_runS C hA hW mw_Har_waysFrom ms_Har_waysFrom (ct_2.2 _) [0, 1, 2, 3, 4] rfl rfl qm_Har_114 ⟨Nat.le_of_ble_eq_true rfl, Nat.le_of_ble_eq_true rfl, Nat.zero_le _, Nat.zero_le _⟩ rfl rfl (Nat.le_of_ble_eq_true rfl) hl.1 d_Har_waysAllIn_24) (fun H locs hW => ?_)
  obtain rfl := Option.some.inj hr
  rw [hQ]; exact k_lret C hret hW d_Har_waysAllIn_27
def F_Kin_dear (x0 : Int32) (x1 : Int32) : Option (Int32) :=
  (if x0 = 1 then (some x1) else (if x0 = 2 then (some 4) else (if x0 = 3 then (some (if (0 : Int32) < ((4 : Int32) - (x1 / (3 : Int32))) then ((4 : Int32) - (x1 / (3 : Int32))) else (0 : Int32))) else (if x0 = 4 then (some (x1 + 5)) else (if x0 = 5 then (some 9) else (some 1))))))
set_option maxHeartbeats 4000000 in
set_option maxRecDepth 100000 in
theorem C_Kin_dear (l : Launch) (D : va_G) (cI cS : ClassId) (x0 : Int32) (x1 : Int32) (o : Int32) (hr : F_Kin_dear x0 x1 = some o) : ctI l y_Kin_dear (Cond.code y_Kin_dear b_Kin_dear 3 (some FieldType.int)) (rmd 1) D (kTy cI cS) [.int x0, .int x1] [] [] o := by
  unfold F_Kin_dear at hr
  refine ⟨rfl, fun sz => ct_of (w0 := []) (Qc := fun A => qI D [] o A) rfl (Nat.le_of_ble_eq_true rfl) ?_ sz⟩
  intro p e s m below meth c A hA C hret ls hl hW
  have C : cx p s m ([.int x0, .int x1] : List Value).toArray meth c b_Kin_dear 3 R_Kin D (kTy cI cS) (Cond.code y_Kin_dear b_Kin_dear 3 (some FieldType.int)) := C
  obtain ⟨hx, hb, hml, hown, hts, hK, hlk, hN⟩ := id C
  have hl : lv_has ls 3 [(0, .int x0), (1, .int x1)] := hl
  obtain ⟨Q, hQ⟩ : ∃ Q, Q = MQ below (qI D [] o A) ([.int x0, .int x1] : List Value).toArray s 0 0 A := ⟨_, rfl⟩
  rw [← hQ]
  refine lv_iconst (v := 4) hx hb d_Kin_dear_0 (by decide) ?_
  refine lv_istore_n (lv' := [(2, .int 4), (0, .int x0), (1, .int x1)]) hx hb d_Kin_dear_1 rfl hl (by decide) rfl (fun ls hl => ?_)
  refine lv_iload_n hx hb d_Kin_dear_2 rfl (lv_at hl 1 rfl) ?_
  by_cases c_1 : x0 = 1
  · replace hr := ip c_1 hr
    refine k_tabIn (tgt := 36) (off := 33) c_1 hx hb d_Kin_dear_3 (by decide) (by decide) (by decide) (by decide) ?_
    refine lv_iload_n hx hb d_Kin_dear_36 rfl (lv_at hl 2 rfl) ?_
    obtain rfl := Option.some.inj hr
    rw [hQ]; exact k_iret C hret hW d_Kin_dear_37
  · replace hr := iN c_1 hr
    by_cases c_2 : x0 = 2
    · replace hr := ip c_2 hr
      refine k_tabIn (tgt := 38) (off := 35) c_2 hx hb d_Kin_dear_3 (by decide) (by decide) (by decide) (by decide) ?_
      refine lv_iload_n hx hb d_Kin_dear_38 rfl (lv_at hl 0 rfl) ?_
      obtain rfl := Option.some.inj hr
      rw [hQ]; exact k_iret C hret hW d_Kin_dear_39
    · replace hr := iN c_2 hr
      by_cases c_3 : x0 = 3
      · replace hr := ip c_3 hr
        refine k_tabIn (tgt := 40) (off := 37) c_3 hx hb d_Kin_dear_3 (by decide) (by decide) (by decide) (by decide) ?_
        refine lv_iconst (v := 0) hx hb d_Kin_dear_40 (by decide) ?_
        refine lv_iload_n hx hb d_Kin_dear_41 rfl (lv_at hl 0 rfl) ?_
        refine lv_iload_n hx hb d_Kin_dear_42 rfl (lv_at hl 2 rfl) ?_
        refine lv_iconst (v := 3) hx hb d_Kin_dear_43 (by decide) ?_
        refine lv_idiv hx hb d_Kin_dear_44 (by decide) ?_
        refine lv_isub hx hb d_Kin_dear_45 ?_
        refine k_mmax C qm_Kin_23 ⟨Nat.le_of_ble_eq_true rfl, Nat.le_of_ble_eq_true rfl, Nat.zero_le _, Nat.zero_le _⟩ hl.1 d_Kin_dear_46 ?_
        obtain rfl := Option.some.inj hr
        rw [hQ]; exact k_iret C hret hW d_Kin_dear_49
      · replace hr := iN c_3 hr
        by_cases c_4 : x0 = 4
        · replace hr := ip c_4 hr
          refine k_tabIn (tgt := 50) (off := 47) c_4 hx hb d_Kin_dear_3 (by decide) (by decide) (by decide) (by decide) ?_
          refine lv_iload_n hx hb d_Kin_dear_50 rfl (lv_at hl 2 rfl) ?_
          refine lv_iconst (v := 5) hx hb d_Kin_dear_51 (by decide) ?_
          refine lv_iadd hx hb d_Kin_dear_52 ?_
          obtain rfl := Option.some.inj hr
          rw [hQ]; exact k_iret C hret hW d_Kin_dear_53
        · replace hr := iN c_4 hr
          by_cases c_5 : x0 = 5
          · replace hr := ip c_5 hr
            refine k_tabIn (tgt := 54) (off := 51) c_5 hx hb d_Kin_dear_3 (by decide) (by decide) (by decide) (by decide) ?_
            refine lv_bipush (v := 9) hx hb d_Kin_dear_54 (by decide) ?_
            obtain rfl := Option.some.inj hr
            rw [hQ]; exact k_iret C hret hW d_Kin_dear_56
          · replace hr := iN c_5 hr
            refine k_tabDef (tgt := 57) [1, 2, 3, 4, 5] (by decide +kernel) (by simp only [List.forall_mem_cons]; exact ⟨c_1, c_2, c_3, c_4, c_5, fun _ h => absurd h List.not_mem_nil⟩) hx hb d_Kin_dear_3 (by decide) ?_
            refine lv_iconst (v := 1) hx hb d_Kin_dear_57 (by decide) ?_
            obtain rfl := Option.some.inj hr
            rw [hQ]; exact k_iret C hret hW d_Kin_dear_58
def F_Kin_suitsCoat (x0 : Int32) : Option (Int32) :=
  (if x0 = 1 then (some 1) else (if x0 = 2 then (some 1) else (if x0 = 5 then (some 1) else (some 0))))
set_option maxHeartbeats 4000000 in
set_option maxRecDepth 100000 in
theorem C_Kin_suitsCoat (l : Launch) (D : va_G) (cI cS : ClassId) (x0 : Int32) (o : Int32) (hr : F_Kin_suitsCoat x0 = some o) : ctI l y_Kin_suitsCoat (Cond.code y_Kin_suitsCoat b_Kin_suitsCoat 1 (some FieldType.boolean)) (rmd 0) D (kTy cI cS) [.int x0] [] [] o := by
  unfold F_Kin_suitsCoat at hr
  refine ⟨rfl, fun sz => ct_of (w0 := []) (Qc := fun A => qI D [] o A) rfl (Nat.le_of_ble_eq_true rfl) ?_ sz⟩
  intro p e s m below meth c A hA C hret ls hl hW
  have C : cx p s m ([.int x0] : List Value).toArray meth c b_Kin_suitsCoat 1 R_Kin D (kTy cI cS) (Cond.code y_Kin_suitsCoat b_Kin_suitsCoat 1 (some FieldType.boolean)) := C
  obtain ⟨hx, hb, hml, hown, hts, hK, hlk, hN⟩ := id C
  have hl : lv_has ls 1 [(0, .int x0)] := hl
  obtain ⟨Q, hQ⟩ : ∃ Q, Q = MQ below (qI D [] o A) ([.int x0] : List Value).toArray s 0 0 A := ⟨_, rfl⟩
  rw [← hQ]
  refine lv_iload_n hx hb d_Kin_suitsCoat_0 rfl (lv_at hl 0 rfl) ?_
  refine lv_iconst (v := 1) hx hb d_Kin_suitsCoat_1 (by decide) ?_
  refine lv_icmp_eq (tgt := 15) hx hb d_Kin_suitsCoat_2 (by decide) (fun c_1 => ?_) (fun c_1 => ?_)
  · replace hr := ip c_1 hr
    refine lv_iconst (v := 1) hx hb d_Kin_suitsCoat_15 (by decide) ?_
    refine lv_goto (tgt := 20) hx hb d_Kin_suitsCoat_16 (by decide) ?_
    obtain rfl := Option.some.inj hr
    rw [hQ]; exact k_zret C hret nar1 hW d_Kin_suitsCoat_20
  · replace hr := iN c_1 hr
    refine lv_iload_n hx hb d_Kin_suitsCoat_5 rfl (lv_at hl 0 rfl) ?_
    refine lv_iconst (v := 2) hx hb d_Kin_suitsCoat_6 (by decide) ?_
    refine lv_icmp_eq (tgt := 15) hx hb d_Kin_suitsCoat_7 (by decide) (fun c_2 => ?_) (fun c_2 => ?_)
    · replace hr := ip c_2 hr
      refine lv_iconst (v := 1) hx hb d_Kin_suitsCoat_15 (by decide) ?_
      refine lv_goto (tgt := 20) hx hb d_Kin_suitsCoat_16 (by decide) ?_
      obtain rfl := Option.some.inj hr
      rw [hQ]; exact k_zret C hret nar1 hW d_Kin_suitsCoat_20
    · replace hr := iN c_2 hr
      refine lv_iload_n hx hb d_Kin_suitsCoat_10 rfl (lv_at hl 0 rfl) ?_
      refine lv_iconst (v := 5) hx hb d_Kin_suitsCoat_11 (by decide) ?_
      refine lv_icmp_ne (tgt := 19) hx hb d_Kin_suitsCoat_12 (by decide) (fun c_3 => ?_) (fun c_3 => ?_)
      · replace hr := iN c_3 hr
        refine lv_iconst (v := 0) hx hb d_Kin_suitsCoat_19 (by decide) ?_
        obtain rfl := Option.some.inj hr
        rw [hQ]; exact k_zret C hret nar0 hW d_Kin_suitsCoat_20
      · replace hr := ip c_3 hr
        refine lv_iconst (v := 1) hx hb d_Kin_suitsCoat_15 (by decide) ?_
        refine lv_goto (tgt := 20) hx hb d_Kin_suitsCoat_16 (by decide) ?_
        obtain rfl := Option.some.inj hr
        rw [hQ]; exact k_zret C hret nar1 hW d_Kin_suitsCoat_20
def F_Kin_suitsDish (x0 : Int32) (x1 : Int32) : Option (Int32) :=
  (if ((x1 + x0) - (x1 + x0) / (2 : Int32) * (2 : Int32)) = 0 then (some 1) else (some 0))
set_option maxHeartbeats 4000000 in
set_option maxRecDepth 100000 in
theorem C_Kin_suitsDish (l : Launch) (D : va_G) (cI cS : ClassId) (x0 : Int32) (x1 : Int32) (o : Int32) (hr : F_Kin_suitsDish x0 x1 = some o) : ctI l y_Kin_suitsDish (Cond.code y_Kin_suitsDish b_Kin_suitsDish 2 (some FieldType.boolean)) (rmd 0) D (kTy cI cS) [.int x0, .int x1] [] [] o := by
  unfold F_Kin_suitsDish at hr
  refine ⟨rfl, fun sz => ct_of (w0 := []) (Qc := fun A => qI D [] o A) rfl (Nat.le_of_ble_eq_true rfl) ?_ sz⟩
  intro p e s m below meth c A hA C hret ls hl hW
  have C : cx p s m ([.int x0, .int x1] : List Value).toArray meth c b_Kin_suitsDish 2 R_Kin D (kTy cI cS) (Cond.code y_Kin_suitsDish b_Kin_suitsDish 2 (some FieldType.boolean)) := C
  obtain ⟨hx, hb, hml, hown, hts, hK, hlk, hN⟩ := id C
  have hl : lv_has ls 2 [(0, .int x0), (1, .int x1)] := hl
  obtain ⟨Q, hQ⟩ : ∃ Q, Q = MQ below (qI D [] o A) ([.int x0, .int x1] : List Value).toArray s 0 0 A := ⟨_, rfl⟩
  rw [← hQ]
  refine lv_iload_n hx hb d_Kin_suitsDish_0 rfl (lv_at hl 1 rfl) ?_
  refine lv_iload_n hx hb d_Kin_suitsDish_1 rfl (lv_at hl 0 rfl) ?_
  refine lv_iadd hx hb d_Kin_suitsDish_2 ?_
  refine lv_iconst (v := 2) hx hb d_Kin_suitsDish_3 (by decide) ?_
  refine lv_irem hx hb d_Kin_suitsDish_4 (by decide) ?_
  refine lv_if_ne (tgt := 12) hx hb d_Kin_suitsDish_5 (by decide) (fun c_1 => ?_) (fun c_1 => ?_)
  · replace hr := iN c_1 hr
    refine lv_iconst (v := 0) hx hb d_Kin_suitsDish_12 (by decide) ?_
    obtain rfl := Option.some.inj hr
    rw [hQ]; exact k_zret C hret nar0 hW d_Kin_suitsDish_13
  · replace hr := ip c_1 hr
    refine lv_iconst (v := 1) hx hb d_Kin_suitsDish_8 (by decide) ?_
    refine lv_goto (tgt := 13) hx hb d_Kin_suitsDish_9 (by decide) ?_
    obtain rfl := Option.some.inj hr
    rw [hQ]; exact k_zret C hret nar1 hW d_Kin_suitsDish_13
def F_Kin_goesWith (x0 : Int32) (x1 : Int32) (x2 : Int32) : Option (Int32) :=
  (if x0 = 1 then ((F_Kin_suitsDish x1 x2).bind (fun q_2 => (ckz q_2 (some q_2)))) else (if x0 = 2 then ((F_Kin_suitsCoat x2).bind (fun q_5 => (ckz q_5 (some q_5)))) else (if x0 = 3 then ((F_Kin_suitsCoat x2).bind (fun q_8 => (if q_8 = 0 then (if x2 = (x1 - x1 / (6 : Int32) * (6 : Int32)) then (some 1) else (some 0)) else (some 1)))) else (if x0 = 4 then ((F_Kin_suitsDish x1 x2).bind (fun q_12 => (if q_12 = 0 then (some 0) else (if x2 = 1 then (some 0) else (some 1))))) else (if x0 = 5 then (some 1) else (if x2 = (x1 - x1 / (6 : Int32) * (6 : Int32)) then (some 0) else (some 1)))))))
set_option maxHeartbeats 4000000 in
set_option maxRecDepth 100000 in
theorem C_Kin_goesWith (l : Launch) (D : va_G) (cI cS : ClassId) (x0 : Int32) (x1 : Int32) (x2 : Int32) (o : Int32) (hr : F_Kin_goesWith x0 x1 x2 = some o) : ctI l y_Kin_goesWith (Cond.code y_Kin_goesWith b_Kin_goesWith 3 (some FieldType.boolean)) (rmd 1) D (kTy cI cS) [.int x0, .int x1, .int x2] [] [] o := by
  unfold F_Kin_goesWith at hr
  refine ⟨rfl, fun sz => ct_of (w0 := []) (Qc := fun A => qI D [] o A) rfl (Nat.le_of_ble_eq_true rfl) ?_ sz⟩
  intro p e s m below meth c A hA C hret ls hl hW
  have C : cx p s m ([.int x0, .int x1, .int x2] : List Value).toArray meth c b_Kin_goesWith 3 R_Kin D (kTy cI cS) (Cond.code y_Kin_goesWith b_Kin_goesWith 3 (some FieldType.boolean)) := C
  obtain ⟨hx, hb, hml, hown, hts, hK, hlk, hN⟩ := id C
  have hl : lv_has ls 3 [(0, .int x0), (1, .int x1), (2, .int x2)] := hl
  obtain ⟨Q, hQ⟩ : ∃ Q, Q = MQ below (qI D [] o A) ([.int x0, .int x1, .int x2] : List Value).toArray s 0 0 A := ⟨_, rfl⟩
  rw [← hQ]
  refine lv_iload_n hx hb d_Kin_goesWith_0 rfl (lv_at hl 0 rfl) ?_
  by_cases c_1 : x0 = 1
  · replace hr := ip c_1 hr
    refine k_tabIn (tgt := 36) (off := 35) c_1 hx hb d_Kin_goesWith_1 (by decide) (by decide) (by decide) (by decide) ?_
    refine lv_iload_n hx hb d_Kin_goesWith_36 rfl (lv_at hl 1 rfl) ?_
    refine lv_iload_n hx hb d_Kin_goesWith_37 rfl (lv_at hl 2 rfl) ?_
    obtain ⟨q_2, hc_2, hr⟩ := ob hr
    have ct_2 := C_Kin_suitsDish l D cI cS x1 x2 q_2 hc_2
    refine k_goIp hA hW [] rfl rfl (k_runS C hA hW mw_Kin_suitsDish ms_Kin_suitsDish (ct_2.2 _) [] rfl rfl qm_Kin_9 ⟨Nat.le_of_ble_eq_true rfl, Nat.le_of_ble_eq_true rfl, Nat.zero_le _, Nat.zero_le _⟩ rfl rfl (Nat.le_of_ble_eq_true rfl) hl.1 d_Kin_goesWith_38) (fun H locs hW => ?_)
    obtain ⟨hz_3, -, hr⟩ := ckz_some hr
    obtain rfl := Option.some.inj hr
    rw [hQ]; exact k_zret C hret hz_3 hW d_Kin_goesWith_41
  · replace hr := iN c_1 hr
    by_cases c_4 : x0 = 2
    · replace hr := ip c_4 hr
      refine k_tabIn (tgt := 42) (off := 41) c_4 hx hb d_Kin_goesWith_1 (by decide) (by decide) (by decide) (by decide) ?_
      refine lv_iload_n hx hb d_Kin_goesWith_42 rfl (lv_at hl 2 rfl) ?_
      obtain ⟨q_5, hc_5, hr⟩ := ob hr
      have ct_5 := C_Kin_suitsCoat l D cI cS x2 q_5 hc_5
      refine k_goIp hA hW [] rfl rfl (k_runS C hA hW mw_Kin_suitsCoat ms_Kin_suitsCoat (ct_5.2 _) [] rfl rfl qm_Kin_15 ⟨Nat.le_of_ble_eq_true rfl, Nat.le_of_ble_eq_true rfl, Nat.zero_le _, Nat.zero_le _⟩ rfl rfl (Nat.le_of_ble_eq_true rfl) hl.1 d_Kin_goesWith_43) (fun H locs hW => ?_)
      obtain ⟨hz_6, -, hr⟩ := ckz_some hr
      obtain rfl := Option.some.inj hr
      rw [hQ]; exact k_zret C hret hz_6 hW d_Kin_goesWith_46
    · replace hr := iN c_4 hr
      by_cases c_7 : x0 = 3
      · replace hr := ip c_7 hr
        refine k_tabIn (tgt := 47) (off := 46) c_7 hx hb d_Kin_goesWith_1 (by decide) (by decide) (by decide) (by decide) ?_
        refine lv_iload_n hx hb d_Kin_goesWith_47 rfl (lv_at hl 2 rfl) ?_
        obtain ⟨q_8, hc_8, hr⟩ := ob hr
        have ct_8 := C_Kin_suitsCoat l D cI cS x2 q_8 hc_8
        refine k_goIp hA hW [] rfl rfl (k_runS C hA hW mw_Kin_suitsCoat ms_Kin_suitsCoat (ct_8.2 _) [] rfl rfl qm_Kin_15 ⟨Nat.le_of_ble_eq_true rfl, Nat.le_of_ble_eq_true rfl, Nat.zero_le _, Nat.zero_le _⟩ rfl rfl (Nat.le_of_ble_eq_true rfl) hl.1 d_Kin_goesWith_48) (fun H locs hW => ?_)
        refine lv_if_ne (tgt := 62) hx hb d_Kin_goesWith_51 (by decide) (fun c_9 => ?_) (fun c_9 => ?_)
        · replace hr := iN c_9 hr
          refine lv_iconst (v := 1) hx hb d_Kin_goesWith_62 (by decide) ?_
          refine lv_goto (tgt := 67) hx hb d_Kin_goesWith_63 (by decide) ?_
          obtain rfl := Option.some.inj hr
          rw [hQ]; exact k_zret C hret nar1 hW d_Kin_goesWith_67
        · replace hr := ip c_9 hr
          refine lv_iload_n hx hb d_Kin_goesWith_54 rfl (lv_at hl 2 rfl) ?_
          refine lv_iload_n hx hb d_Kin_goesWith_55 rfl (lv_at hl 1 rfl) ?_
          refine lv_bipush (v := 6) hx hb d_Kin_goesWith_56 (by decide) ?_
          refine lv_irem hx hb d_Kin_goesWith_58 (by decide) ?_
          refine lv_icmp_ne (tgt := 66) hx hb d_Kin_goesWith_59 (by decide) (fun c_10 => ?_) (fun c_10 => ?_)
          · replace hr := iN c_10 hr
            refine lv_iconst (v := 0) hx hb d_Kin_goesWith_66 (by decide) ?_
            obtain rfl := Option.some.inj hr
            rw [hQ]; exact k_zret C hret nar0 hW d_Kin_goesWith_67
          · replace hr := ip c_10 hr
            refine lv_iconst (v := 1) hx hb d_Kin_goesWith_62 (by decide) ?_
            refine lv_goto (tgt := 67) hx hb d_Kin_goesWith_63 (by decide) ?_
            obtain rfl := Option.some.inj hr
            rw [hQ]; exact k_zret C hret nar1 hW d_Kin_goesWith_67
      · replace hr := iN c_7 hr
        by_cases c_11 : x0 = 4
        · replace hr := ip c_11 hr
          refine k_tabIn (tgt := 68) (off := 67) c_11 hx hb d_Kin_goesWith_1 (by decide) (by decide) (by decide) (by decide) ?_
          refine lv_iload_n hx hb d_Kin_goesWith_68 rfl (lv_at hl 1 rfl) ?_
          refine lv_iload_n hx hb d_Kin_goesWith_69 rfl (lv_at hl 2 rfl) ?_
          obtain ⟨q_12, hc_12, hr⟩ := ob hr
          have ct_12 := C_Kin_suitsDish l D cI cS x1 x2 q_12 hc_12
          refine k_goIp hA hW [] rfl rfl (k_runS C hA hW mw_Kin_suitsDish ms_Kin_suitsDish (ct_12.2 _) [] rfl rfl qm_Kin_9 ⟨Nat.le_of_ble_eq_true rfl, Nat.le_of_ble_eq_true rfl, Nat.zero_le _, Nat.zero_le _⟩ rfl rfl (Nat.le_of_ble_eq_true rfl) hl.1 d_Kin_goesWith_70) (fun H locs hW => ?_)
          refine lv_if_eq (tgt := 85) hx hb d_Kin_goesWith_73 (by decide) (fun c_13 => ?_) (fun c_13 => ?_)
          · replace hr := ip c_13 hr
            refine lv_iconst (v := 0) hx hb d_Kin_goesWith_85 (by decide) ?_
            obtain rfl := Option.some.inj hr
            rw [hQ]; exact k_zret C hret nar0 hW d_Kin_goesWith_86
          · replace hr := iN c_13 hr
            refine lv_iload_n hx hb d_Kin_goesWith_76 rfl (lv_at hl 2 rfl) ?_
            refine lv_iconst (v := 1) hx hb d_Kin_goesWith_77 (by decide) ?_
            refine lv_icmp_eq (tgt := 85) hx hb d_Kin_goesWith_78 (by decide) (fun c_14 => ?_) (fun c_14 => ?_)
            · replace hr := ip c_14 hr
              refine lv_iconst (v := 0) hx hb d_Kin_goesWith_85 (by decide) ?_
              obtain rfl := Option.some.inj hr
              rw [hQ]; exact k_zret C hret nar0 hW d_Kin_goesWith_86
            · replace hr := iN c_14 hr
              refine lv_iconst (v := 1) hx hb d_Kin_goesWith_81 (by decide) ?_
              refine lv_goto (tgt := 86) hx hb d_Kin_goesWith_82 (by decide) ?_
              obtain rfl := Option.some.inj hr
              rw [hQ]; exact k_zret C hret nar1 hW d_Kin_goesWith_86
        · replace hr := iN c_11 hr
          by_cases c_15 : x0 = 5
          · replace hr := ip c_15 hr
            refine k_tabIn (tgt := 87) (off := 86) c_15 hx hb d_Kin_goesWith_1 (by decide) (by decide) (by decide) (by decide) ?_
            refine lv_iconst (v := 1) hx hb d_Kin_goesWith_87 (by decide) ?_
            obtain rfl := Option.some.inj hr
            rw [hQ]; exact k_zret C hret nar1 hW d_Kin_goesWith_88
          · replace hr := iN c_15 hr
            refine k_tabDef (tgt := 89) [1, 2, 3, 4, 5] (by decide +kernel) (by simp only [List.forall_mem_cons]; exact ⟨c_1, c_4, c_7, c_11, c_15, fun _ h => absurd h List.not_mem_nil⟩) hx hb d_Kin_goesWith_1 (by decide) ?_
            refine lv_iload_n hx hb d_Kin_goesWith_89 rfl (lv_at hl 2 rfl) ?_
            refine lv_iload_n hx hb d_Kin_goesWith_90 rfl (lv_at hl 1 rfl) ?_
            refine lv_bipush (v := 6) hx hb d_Kin_goesWith_91 (by decide) ?_
            refine lv_irem hx hb d_Kin_goesWith_93 (by decide) ?_
            refine lv_icmp_eq (tgt := 101) hx hb d_Kin_goesWith_94 (by decide) (fun c_16 => ?_) (fun c_16 => ?_)
            · replace hr := ip c_16 hr
              refine lv_iconst (v := 0) hx hb d_Kin_goesWith_101 (by decide) ?_
              obtain rfl := Option.some.inj hr
              rw [hQ]; exact k_zret C hret nar0 hW d_Kin_goesWith_102
            · replace hr := iN c_16 hr
              refine lv_iconst (v := 1) hx hb d_Kin_goesWith_97 (by decide) ?_
              refine lv_goto (tgt := 102) hx hb d_Kin_goesWith_98 (by decide) ?_
              obtain rfl := Option.some.inj hr
              rw [hQ]; exact k_zret C hret nar1 hW d_Kin_goesWith_102
def F_Kin_goesWithAll_L4 (x0 : Int32) (x1 : Int32) (y2_1 : Int32) (y3_1 : Int32) : Option (((Int32) × (Int32)) ⊕ ((Int32))) :=
  (if (6 : Int32) ≤ y3_1 then (some (.inr y2_1)) else ((F_Kin_goesWith x0 x1 y3_1).bind (fun q_3 => (if q_3 = 0 then (some (.inl (y2_1, (y3_1 + 1)))) else (some (.inl ((y2_1 ||| ((1 : Int32) <<< ((y3_1 : Int32) &&& 31))), (y3_1 + 1))))))))
def F_Kin_goesWithAll (x0 : Int32) (x1 : Int32) : Option (Int32) :=
  ((wh (fun (s : (Int32) × (Int32)) => F_Kin_goesWithAll_L4 x0 x1 s.1 s.2) 400 ((0 : Int32), (0 : Int32))).bind (fun e_1 => (some e_1)))
set_option maxHeartbeats 4000000 in
set_option maxRecDepth 100000 in
theorem C_Kin_goesWithAll (l : Launch) (D : va_G) (cI cS : ClassId) (x0 : Int32) (x1 : Int32) (o : Int32) (hr : F_Kin_goesWithAll x0 x1 = some o) : ctI l y_Kin_goesWithAll (Cond.code y_Kin_goesWithAll b_Kin_goesWithAll 4 (some FieldType.int)) (rmd 2) D (kTy cI cS) [.int x0, .int x1] [] [] o := by
  unfold F_Kin_goesWithAll at hr
  refine ⟨rfl, fun sz => ct_of (w0 := []) (Qc := fun A => qI D [] o A) rfl (Nat.le_of_ble_eq_true rfl) ?_ sz⟩
  intro p e s m below meth c A hA C hret ls hl hW
  have C : cx p s m ([.int x0, .int x1] : List Value).toArray meth c b_Kin_goesWithAll 4 R_Kin D (kTy cI cS) (Cond.code y_Kin_goesWithAll b_Kin_goesWithAll 4 (some FieldType.int)) := C
  obtain ⟨hx, hb, hml, hown, hts, hK, hlk, hN⟩ := id C
  have hl : lv_has ls 4 [(0, .int x0), (1, .int x1)] := hl
  obtain ⟨Q, hQ⟩ : ∃ Q, Q = MQ below (qI D [] o A) ([.int x0, .int x1] : List Value).toArray s 0 0 A := ⟨_, rfl⟩
  rw [← hQ]
  refine lv_iconst (v := 0) hx hb d_Kin_goesWithAll_0 (by decide) ?_
  refine lv_istore_n (lv' := [(2, .int 0), (0, .int x0), (1, .int x1)]) hx hb d_Kin_goesWithAll_1 rfl hl (by decide) rfl (fun ls hl => ?_)
  refine lv_iconst (v := 0) hx hb d_Kin_goesWithAll_2 (by decide) ?_
  refine lv_istore_n (lv' := [(3, .int 0), (2, .int 0), (0, .int x0), (1, .int x1)]) hx hb d_Kin_goesWithAll_3 rfl hl (by decide) rfl (fun ls hl => ?_)
  obtain ⟨ex_1, hw_1, hk_1⟩ := ob hr
  have hx_1 : ∀ (e_1 : (Int32)), e_1 = ex_1 → ∀ (H : Heap) (locs : List Loc) (ls : Array Slot), wd A s.heap D [] H locs → lv_has ls 4 [(2, .int e_1)] → W p l e (rmd 2) s m ([.int x0, .int x1] : List Value).toArray below meth c H locs 0 0 Q (F0 m 31 ls []) := by
    intro e_1 hE H locs ls hW hl
    subst hE; have hr := hk_1
    refine lv_iload_n hx hb d_Kin_goesWithAll_31 rfl (lv_at hl 0 rfl) ?_
    obtain rfl := Option.some.inj hr
    rw [hQ]; exact k_iret C hret hW d_Kin_goesWithAll_32
  have hl_1 : ∀ (k : Nat) (y2_1 : Int32) (y3_1 : Int32), wh (fun (s : (Int32) × (Int32)) => F_Kin_goesWithAll_L4 x0 x1 s.1 s.2) k (y2_1, y3_1) = some ex_1 → ∀ (H : Heap) (locs : List Loc) (ls : Array Slot), wd A s.heap D [] H locs → lv_has ls 4 [(0, .int x0), (1, .int x1), (2, .int y2_1), (3, .int y3_1)] → W p l e (rmd 2) s m ([.int x0, .int x1] : List Value).toArray below meth c H locs 0 0 Q (F0 m 4 ls []) := by
    intro k
    induction k with
    | zero => intro y2_1 y3_1 hw; exact absurd hw wh_0
    | succ k ih_1 =>
      intro y2_1 y3_1 hw H locs ls hW hl
      obtain ⟨z_1, hr, hz1_1, hz2_1⟩ := wh_s hw
      have hr : F_Kin_goesWithAll_L4 x0 x1 y2_1 y3_1 = some z_1 := hr
      unfold F_Kin_goesWithAll_L4 at hr
      refine lv_iload_n hx hb d_Kin_goesWithAll_4 rfl (lv_at hl 3 rfl) ?_
      refine lv_bipush (v := 6) hx hb d_Kin_goesWithAll_5 (by decide) ?_
      refine lv_icmp_ge (tgt := 31) hx hb d_Kin_goesWithAll_7 (by decide) (fun c_2 => ?_) (fun c_2 => ?_)
      · replace hr := ip c_2 hr
        exact hx_1 _ (hz2_1 _ (Option.some.inj hr).symm) _ _ _ hW (lv_sub hl [2] rfl)
      · replace hr := iN c_2 hr
        refine lv_iload_n hx hb d_Kin_goesWithAll_10 rfl (lv_at hl 0 rfl) ?_
        refine lv_iload_n hx hb d_Kin_goesWithAll_11 rfl (lv_at hl 1 rfl) ?_
        refine lv_iload_n hx hb d_Kin_goesWithAll_12 rfl (lv_at hl 3 rfl) ?_
        obtain ⟨q_3, hc_3, hr⟩ := ob hr
        have ct_3 := C_Kin_goesWith l D cI cS x0 x1 y3_1 q_3 hc_3
        refine k_goIp hA hW [] rfl rfl (k_runS C hA hW mw_Kin_goesWith ms_Kin_goesWith (ct_3.2 _) [] rfl rfl qm_Kin_19 ⟨Nat.le_of_ble_eq_true rfl, Nat.le_of_ble_eq_true rfl, Nat.zero_le _, Nat.zero_le _⟩ rfl rfl (Nat.le_of_ble_eq_true rfl) hl.1 d_Kin_goesWithAll_13) (fun H locs hW => ?_)
        refine lv_if_eq (tgt := 25) hx hb d_Kin_goesWithAll_16 (by decide) (fun c_4 => ?_) (fun c_4 => ?_)
        · replace hr := ip c_4 hr
          refine lv_iinc (v := (y3_1 + 1)) (lv' := [(3, .int (y3_1 + 1)), (0, .int x0), (1, .int x1), (2, .int y2_1)]) hx hb d_Kin_goesWithAll_25 hl (k := 3) rfl rfl (by decide) rfl (fun ls hl => ?_)
          refine lv_goto (tgt := 4) hx hb d_Kin_goesWithAll_28 (by decide) ?_
          exact ih_1 y2_1 (y3_1 + 1) (hz1_1 _ (Option.some.inj hr).symm) _ _ _ hW (lv_sub hl [1, 2, 3, 0] rfl)
        · replace hr := iN c_4 hr
          refine lv_iload_n hx hb d_Kin_goesWithAll_19 rfl (lv_at hl 2 rfl) ?_
          refine lv_iconst (v := 1) hx hb d_Kin_goesWithAll_20 (by decide) ?_
          refine lv_iload_n hx hb d_Kin_goesWithAll_21 rfl (lv_at hl 3 rfl) ?_
          refine lv_ishl hx hb d_Kin_goesWithAll_22 ?_
          refine lv_ior hx hb d_Kin_goesWithAll_23 ?_
          refine lv_istore_n (lv' := [(2, .int (y2_1 ||| ((1 : Int32) <<< ((y3_1 : Int32) &&& 31)))), (0, .int x0), (1, .int x1), (3, .int y3_1)]) hx hb d_Kin_goesWithAll_24 rfl hl (by decide) rfl (fun ls hl => ?_)
          refine lv_iinc (v := (y3_1 + 1)) (lv' := [(3, .int (y3_1 + 1)), (2, .int (y2_1 ||| ((1 : Int32) <<< ((y3_1 : Int32) &&& 31)))), (0, .int x0), (1, .int x1)]) hx hb d_Kin_goesWithAll_25 hl (k := 3) rfl rfl (by decide) rfl (fun ls hl => ?_)
          refine lv_goto (tgt := 4) hx hb d_Kin_goesWithAll_28 (by decide) ?_
          exact ih_1 (y2_1 ||| ((1 : Int32) <<< ((y3_1 : Int32) &&& 31))) (y3_1 + 1) (hz1_1 _ (Option.some.inj hr).symm) _ _ _ hW (lv_sub hl [2, 3, 1, 0] rfl)
  exact hl_1 _ 0 0 hw_1 _ _ _ hW (lv_sub hl [2, 3, 1, 0] rfl)
def w_Let_append (cI : ClassId) (a_r0 : Nat) (a_r0_letters : Nat) (r0_count : Int32) (r0_letters : Nat → Int32) : va_W := [(a_r0, .inr (5, [.ref a_r0_letters, .int r0_count])), (a_r0_letters, .inl (cI, 96, .inl r0_letters))]
def F_Let_append (r0_count : Int32) (r0_letters : Nat → Int32) (x1 : Int32) : Option (Int32 × (Int32) × (Nat → Int32)) :=
  (if (96 : Int32) ≤ r0_count then (some (r0_count, r0_count, r0_letters)) else (ck r0_count 96 (some ((r0_count + 1), (r0_count + 1), (upd r0_letters (Int32.toNatClampNeg r0_count) x1)))))
set_option maxHeartbeats 4000000 in
set_option maxRecDepth 100000 in
theorem C_Let_append (l : Launch) (D : va_G) (cI cS : ClassId) (a_r0 : Nat) (a_r0_letters : Nat) (r0_count : Int32) (r0_letters : Nat → Int32) (x1 : Int32) (o : Int32 × (Int32) × (Nat → Int32)) (hr : F_Let_append r0_count r0_letters x1 = some o) : ctI l y_Let_append (Cond.code y_Let_append b_Let_append 2 (some FieldType.int)) (rmd 0) D (kTy cI cS) [.ref a_r0, .int x1] (w_Let_append cI a_r0 a_r0_letters r0_count r0_letters) (w_Let_append cI a_r0 a_r0_letters o.2.1 o.2.2) o.1 := by
  unfold F_Let_append at hr
  refine ⟨rfl, fun sz => ct_of (w0 := (w_Let_append cI a_r0 a_r0_letters r0_count r0_letters)) (Qc := fun A => qI D (w_Let_append cI a_r0 a_r0_letters o.2.1 o.2.2) o.1 A) rfl (Nat.le_of_ble_eq_true rfl) ?_ sz⟩
  intro p e s m below meth c A hA C hret ls hl hW
  have C : cx p s m ([.ref a_r0, .int x1] : List Value).toArray meth c b_Let_append 2 R_Let D (kTy cI cS) (Cond.code y_Let_append b_Let_append 2 (some FieldType.int)) := C
  obtain ⟨hx, hb, hml, hown, hts, hK, hlk, hN⟩ := id C
  have hl : lv_has ls 2 [(0, .ref a_r0), (1, .int x1)] := hl
  obtain ⟨Q, hQ⟩ : ∃ Q, Q = MQ below (qI D (w_Let_append cI a_r0 a_r0_letters o.2.1 o.2.2) o.1 A) ([.ref a_r0, .int x1] : List Value).toArray s 0 0 A := ⟨_, rfl⟩
  rw [← hQ]
  refine lv_aload_n hx hb d_Let_append_0 rfl (lv_at hl 0 rfl) ?_
  refine k_get i_Let C hW 0 rfl rfl 1 (by decide) qf_Let_15 rfl rfl d_Let_append_1 ?_
  refine lv_bipush (v := 96) hx hb d_Let_append_4 (by decide) ?_
  refine lv_icmp_ge (tgt := 29) hx hb d_Let_append_6 (by decide) (fun c_1 => ?_) (fun c_1 => ?_)
  · replace hr := ip c_1 hr
    refine lv_aload_n hx hb d_Let_append_29 rfl (lv_at hl 0 rfl) ?_
    refine k_get i_Let C hW 0 rfl rfl 1 (by decide) qf_Let_15 rfl rfl d_Let_append_30 ?_
    obtain rfl := Option.some.inj hr
    rw [hQ]; exact k_iret C hret hW d_Let_append_33
  · replace hr := iN c_1 hr
    refine lv_aload_n hx hb d_Let_append_9 rfl (lv_at hl 0 rfl) ?_
    refine k_get i_Let C hW 0 rfl rfl 0 (by decide) qf_Let_9 rfl rfl d_Let_append_10 ?_
    refine lv_aload_n hx hb d_Let_append_13 rfl (lv_at hl 0 rfl) ?_
    refine k_get i_Let C hW 0 rfl rfl 1 (by decide) qf_Let_15 rfl rfl d_Let_append_14 ?_
    refine lv_iload_n hx hb d_Let_append_17 rfl (lv_at hl 1 rfl) ?_
    obtain ⟨h_2, hr⟩ := ck_some hr
    refine k_iast C hW 1 rfl h_2 (ws' := (w_Let_append cI a_r0 a_r0_letters r0_count (upd r0_letters (Int32.toNatClampNeg r0_count) x1))) rfl d_Let_append_18 (fun H locs hW => ?_)
    refine lv_aload_n hx hb d_Let_append_19 rfl (lv_at hl 0 rfl) ?_
    refine lv_dup hx hb d_Let_append_20 rfl ?_
    refine k_get i_Let C hW 0 rfl rfl 1 (by decide) qf_Let_15 rfl rfl d_Let_append_21 ?_
    refine lv_iconst (v := 1) hx hb d_Let_append_24 (by decide) ?_
    refine lv_iadd hx hb d_Let_append_25 ?_
    refine k_put i_Let t_Let_ok n_Let C hW 0 rfl rfl 1 (by decide) qf_Let_15 rfl rfl (ty := .int) rfl rfl rfl (Nat.le_of_ble_eq_true rfl) (ws' := (w_Let_append cI a_r0 a_r0_letters (r0_count + 1) (upd r0_letters (Int32.toNatClampNeg r0_count) x1))) rfl d_Let_append_26 (fun H locs hW => ?_)
    refine lv_aload_n hx hb d_Let_append_29 rfl (lv_at hl 0 rfl) ?_
    refine k_get i_Let C hW 0 rfl rfl 1 (by decide) qf_Let_15 rfl rfl d_Let_append_30 ?_
    obtain rfl := Option.some.inj hr
    rw [hQ]; exact k_iret C hret hW d_Let_append_33
def w_Let_letterAt (cI : ClassId) (a_r0 : Nat) (a_r0_letters : Nat) (r0_count : Int32) (r0_letters : Nat → Int32) : va_W := [(a_r0, .inr (5, [.ref a_r0_letters, .int r0_count])), (a_r0_letters, .inl (cI, 96, .inl r0_letters))]
def F_Let_letterAt (r0_count : Int32) (r0_letters : Nat → Int32) (x1 : Int32) : Option (Int32) :=
  (if x1 < 0 then (some 0) else (if r0_count ≤ x1 then (some 0) else (if (96 : Int32) ≤ x1 then (some 0) else (ck x1 96 (some (r0_letters (Int32.toNatClampNeg x1)))))))
set_option maxHeartbeats 4000000 in
set_option maxRecDepth 100000 in
theorem C_Let_letterAt (l : Launch) (D : va_G) (cI cS : ClassId) (a_r0 : Nat) (a_r0_letters : Nat) (r0_count : Int32) (r0_letters : Nat → Int32) (x1 : Int32) (o : Int32) (hr : F_Let_letterAt r0_count r0_letters x1 = some o) : ctI l y_Let_letterAt (Cond.code y_Let_letterAt b_Let_letterAt 2 (some FieldType.int)) (rmd 0) D (kTy cI cS) [.ref a_r0, .int x1] (w_Let_letterAt cI a_r0 a_r0_letters r0_count r0_letters) (w_Let_letterAt cI a_r0 a_r0_letters r0_count r0_letters) o := by
  unfold F_Let_letterAt at hr
  refine ⟨rfl, fun sz => ct_of (w0 := (w_Let_letterAt cI a_r0 a_r0_letters r0_count r0_letters)) (Qc := fun A => qI D (w_Let_letterAt cI a_r0 a_r0_letters r0_count r0_letters) o A) rfl (Nat.le_of_ble_eq_true rfl) ?_ sz⟩
  intro p e s m below meth c A hA C hret ls hl hW
  have C : cx p s m ([.ref a_r0, .int x1] : List Value).toArray meth c b_Let_letterAt 2 R_Let D (kTy cI cS) (Cond.code y_Let_letterAt b_Let_letterAt 2 (some FieldType.int)) := C
  obtain ⟨hx, hb, hml, hown, hts, hK, hlk, hN⟩ := id C
  have hl : lv_has ls 2 [(0, .ref a_r0), (1, .int x1)] := hl
  obtain ⟨Q, hQ⟩ : ∃ Q, Q = MQ below (qI D (w_Let_letterAt cI a_r0 a_r0_letters r0_count r0_letters) o A) ([.ref a_r0, .int x1] : List Value).toArray s 0 0 A := ⟨_, rfl⟩
  rw [← hQ]
  refine lv_iload_n hx hb d_Let_letterAt_0 rfl (lv_at hl 1 rfl) ?_
  refine lv_if_lt (tgt := 27) hx hb d_Let_letterAt_1 (by decide) (fun c_1 => ?_) (fun c_1 => ?_)
  · replace hr := ip c_1 hr
    refine lv_iconst (v := 0) hx hb d_Let_letterAt_27 (by decide) ?_
    obtain rfl := Option.some.inj hr
    rw [hQ]; exact k_iret C hret hW d_Let_letterAt_28
  · replace hr := iN c_1 hr
    refine lv_iload_n hx hb d_Let_letterAt_4 rfl (lv_at hl 1 rfl) ?_
    refine lv_aload_n hx hb d_Let_letterAt_5 rfl (lv_at hl 0 rfl) ?_
    refine k_get i_Let C hW 0 rfl rfl 1 (by decide) qf_Let_15 rfl rfl d_Let_letterAt_6 ?_
    refine lv_icmp_ge (tgt := 27) hx hb d_Let_letterAt_9 (by decide) (fun c_2 => ?_) (fun c_2 => ?_)
    · replace hr := ip c_2 hr
      refine lv_iconst (v := 0) hx hb d_Let_letterAt_27 (by decide) ?_
      obtain rfl := Option.some.inj hr
      rw [hQ]; exact k_iret C hret hW d_Let_letterAt_28
    · replace hr := iN c_2 hr
      refine lv_iload_n hx hb d_Let_letterAt_12 rfl (lv_at hl 1 rfl) ?_
      refine lv_bipush (v := 96) hx hb d_Let_letterAt_13 (by decide) ?_
      refine lv_icmp_ge (tgt := 27) hx hb d_Let_letterAt_15 (by decide) (fun c_3 => ?_) (fun c_3 => ?_)
      · replace hr := ip c_3 hr
        refine lv_iconst (v := 0) hx hb d_Let_letterAt_27 (by decide) ?_
        obtain rfl := Option.some.inj hr
        rw [hQ]; exact k_iret C hret hW d_Let_letterAt_28
      · replace hr := iN c_3 hr
        refine lv_aload_n hx hb d_Let_letterAt_18 rfl (lv_at hl 0 rfl) ?_
        refine k_get i_Let C hW 0 rfl rfl 0 (by decide) qf_Let_9 rfl rfl d_Let_letterAt_19 ?_
        refine lv_iload_n hx hb d_Let_letterAt_22 rfl (lv_at hl 1 rfl) ?_
        obtain ⟨h_4, hr⟩ := ck_some hr
        refine k_iald C hW 1 rfl h_4 d_Let_letterAt_23 ?_
        refine lv_goto (tgt := 28) hx hb d_Let_letterAt_24 (by decide) ?_
        obtain rfl := Option.some.inj hr
        rw [hQ]; exact k_iret C hret hW d_Let_letterAt_28
def w_Let_number (cI : ClassId) (a_r0 : Nat) (a_r0_letters : Nat) (r0_count : Int32) (r0_letters : Nat → Int32) : va_W := [(a_r0, .inr (5, [.ref a_r0_letters, .int r0_count])), (a_r0_letters, .inl (cI, 96, .inl r0_letters))]
def F_Let_number_L5 (r0_count : Int32) (r0_letters : Nat → Int32) (x1 : Int32) (x2 : Int32) (y3_1 : Int32) (y4_1 : Int32) : Option (((Int32) × (Int32)) ⊕ ((Int32))) :=
  (if x2 ≤ y4_1 then (some (.inr y3_1)) else ((F_Let_letterAt r0_count r0_letters (x1 + y4_1)).bind (fun q_3 => (some (.inl ((((y3_1 * 10) + q_3) - 48), (y4_1 + 1)))))))
def F_Let_number (r0_count : Int32) (r0_letters : Nat → Int32) (x1 : Int32) (x2 : Int32) : Option (Int32) :=
  ((wh (fun (s : (Int32) × (Int32)) => F_Let_number_L5 r0_count r0_letters x1 x2 s.1 s.2) 400 ((0 : Int32), (0 : Int32))).bind (fun e_1 => (some e_1)))
set_option maxHeartbeats 4000000 in
set_option maxRecDepth 100000 in
theorem C_Let_number (l : Launch) (D : va_G) (cI cS : ClassId) (a_r0 : Nat) (a_r0_letters : Nat) (r0_count : Int32) (r0_letters : Nat → Int32) (x1 : Int32) (x2 : Int32) (o : Int32) (hr : F_Let_number r0_count r0_letters x1 x2 = some o) : ctI l y_Let_number (Cond.code y_Let_number b_Let_number 5 (some FieldType.int)) (rmd 1) D (kTy cI cS) [.ref a_r0, .int x1, .int x2] (w_Let_number cI a_r0 a_r0_letters r0_count r0_letters) (w_Let_number cI a_r0 a_r0_letters r0_count r0_letters) o := by
  unfold F_Let_number at hr
  refine ⟨rfl, fun sz => ct_of (w0 := (w_Let_number cI a_r0 a_r0_letters r0_count r0_letters)) (Qc := fun A => qI D (w_Let_number cI a_r0 a_r0_letters r0_count r0_letters) o A) rfl (Nat.le_of_ble_eq_true rfl) ?_ sz⟩
  intro p e s m below meth c A hA C hret ls hl hW
  have C : cx p s m ([.ref a_r0, .int x1, .int x2] : List Value).toArray meth c b_Let_number 5 R_Let D (kTy cI cS) (Cond.code y_Let_number b_Let_number 5 (some FieldType.int)) := C
  obtain ⟨hx, hb, hml, hown, hts, hK, hlk, hN⟩ := id C
  have hl : lv_has ls 5 [(0, .ref a_r0), (1, .int x1), (2, .int x2)] := hl
  obtain ⟨Q, hQ⟩ : ∃ Q, Q = MQ below (qI D (w_Let_number cI a_r0 a_r0_letters r0_count r0_letters) o A) ([.ref a_r0, .int x1, .int x2] : List Value).toArray s 0 0 A := ⟨_, rfl⟩
  rw [← hQ]
  refine lv_iconst (v := 0) hx hb d_Let_number_0 (by decide) ?_
  refine lv_istore_n (lv' := [(3, .int 0), (0, .ref a_r0), (1, .int x1), (2, .int x2)]) hx hb d_Let_number_1 rfl hl (by decide) rfl (fun ls hl => ?_)
  refine lv_iconst (v := 0) hx hb d_Let_number_2 (by decide) ?_
  refine lv_istore (lv' := [(4, .int 0), (3, .int 0), (0, .ref a_r0), (1, .int x1), (2, .int x2)]) hx hb d_Let_number_3 hl (by decide) rfl (fun ls hl => ?_)
  obtain ⟨ex_1, hw_1, hk_1⟩ := ob hr
  have hx_1 : ∀ (e_1 : (Int32)), e_1 = ex_1 → ∀ (H : Heap) (locs : List Loc) (ls : Array Slot), wd A s.heap D (w_Let_number cI a_r0 a_r0_letters r0_count r0_letters) H locs → lv_has ls 5 [(3, .int e_1)] → W p l e (rmd 1) s m ([.ref a_r0, .int x1, .int x2] : List Value).toArray below meth c H locs 0 0 Q (F0 m 34 ls []) := by
    intro e_1 hE H locs ls hW hl
    subst hE; have hr := hk_1
    refine lv_iload_n hx hb d_Let_number_34 rfl (lv_at hl 0 rfl) ?_
    obtain rfl := Option.some.inj hr
    rw [hQ]; exact k_iret C hret hW d_Let_number_35
  have hl_1 : ∀ (k : Nat) (y3_1 : Int32) (y4_1 : Int32), wh (fun (s : (Int32) × (Int32)) => F_Let_number_L5 r0_count r0_letters x1 x2 s.1 s.2) k (y3_1, y4_1) = some ex_1 → ∀ (H : Heap) (locs : List Loc) (ls : Array Slot), wd A s.heap D (w_Let_number cI a_r0 a_r0_letters r0_count r0_letters) H locs → lv_has ls 5 [(0, .ref a_r0), (1, .int x1), (2, .int x2), (3, .int y3_1), (4, .int y4_1)] → W p l e (rmd 1) s m ([.ref a_r0, .int x1, .int x2] : List Value).toArray below meth c H locs 0 0 Q (F0 m 5 ls []) := by
    intro k
    induction k with
    | zero => intro y3_1 y4_1 hw; exact absurd hw wh_0
    | succ k ih_1 =>
      intro y3_1 y4_1 hw H locs ls hW hl
      obtain ⟨z_1, hr, hz1_1, hz2_1⟩ := wh_s hw
      have hr : F_Let_number_L5 r0_count r0_letters x1 x2 y3_1 y4_1 = some z_1 := hr
      unfold F_Let_number_L5 at hr
      refine lv_iload hx hb d_Let_number_5 (lv_at hl 4 rfl) ?_
      refine lv_iload_n hx hb d_Let_number_7 rfl (lv_at hl 2 rfl) ?_
      refine lv_icmp_ge (tgt := 34) hx hb d_Let_number_8 (by decide) (fun c_2 => ?_) (fun c_2 => ?_)
      · replace hr := ip c_2 hr
        exact hx_1 _ (hz2_1 _ (Option.some.inj hr).symm) _ _ _ hW (lv_sub hl [3] rfl)
      · replace hr := iN c_2 hr
        refine lv_iload_n hx hb d_Let_number_11 rfl (lv_at hl 3 rfl) ?_
        refine lv_bipush (v := 10) hx hb d_Let_number_12 (by decide) ?_
        refine lv_imul hx hb d_Let_number_14 ?_
        refine lv_aload_n hx hb d_Let_number_15 rfl (lv_at hl 0 rfl) ?_
        refine lv_iload_n hx hb d_Let_number_16 rfl (lv_at hl 1 rfl) ?_
        refine lv_iload hx hb d_Let_number_17 (lv_at hl 4 rfl) ?_
        refine lv_iadd hx hb d_Let_number_19 ?_
        obtain ⟨q_3, hc_3, hr⟩ := ob hr
        have ct_3 := C_Let_letterAt l D cI cS a_r0 a_r0_letters r0_count r0_letters (x1 + y4_1) q_3 hc_3
        refine k_goIp hA hW [0, 1] rfl rfl (k_runV C hA hW mw_Let_letterAt mv_Let_letterAt (ct_3.2 _) [0, 1] rfl rfl 0 rfl rfl qm_Let_29 ⟨Nat.le_of_ble_eq_true rfl, Nat.le_of_ble_eq_true rfl, Nat.zero_le _, Nat.zero_le _⟩ rfl rfl (Nat.le_of_ble_eq_true rfl) hl.1 d_Let_number_20) (fun H locs hW => ?_)
        refine lv_iadd hx hb d_Let_number_23 ?_
        refine lv_bipush (v := 48) hx hb d_Let_number_24 (by decide) ?_
        refine lv_isub hx hb d_Let_number_26 ?_
        refine lv_istore_n (lv' := [(3, .int (((y3_1 * 10) + q_3) - 48)), (0, .ref a_r0), (1, .int x1), (2, .int x2), (4, .int y4_1)]) hx hb d_Let_number_27 rfl hl (by decide) rfl (fun ls hl => ?_)
        refine lv_iinc (v := (y4_1 + 1)) (lv' := [(4, .int (y4_1 + 1)), (3, .int (((y3_1 * 10) + q_3) - 48)), (0, .ref a_r0), (1, .int x1), (2, .int x2)]) hx hb d_Let_number_28 hl (k := 4) rfl rfl (by decide) rfl (fun ls hl => ?_)
        refine lv_goto (tgt := 5) hx hb d_Let_number_31 (by decide) ?_
        exact ih_1 (((y3_1 * 10) + q_3) - 48) (y4_1 + 1) (hz1_1 _ (Option.some.inj hr).symm) _ _ _ hW (lv_sub hl [2, 3, 4, 1, 0] rfl)
  exact hl_1 _ 0 0 hw_1 _ _ _ hW (lv_sub hl [2, 3, 4, 1, 0] rfl)
def w_Sta_addDay (cI : ClassId) (a_r0 : Nat) (a_r0_hampers : Nat) (v_r0_weights v_r0_kinds v_r0_figures v_r0_goes v_r0_things v_r0_fields v_r0_done : Value) (r0_days : Int32) (r0_hampers : Nat → Int32) : va_W := [(a_r0, .inr (1, [v_r0_weights, v_r0_kinds, v_r0_figures, v_r0_goes, v_r0_things, .ref a_r0_hampers, .int r0_days, v_r0_fields, v_r0_done])), (a_r0_hampers, .inl (cI, 8, .inl r0_hampers))]
def F_Sta_addDay (r0_days : Int32) (r0_hampers : Nat → Int32) (x1 : Int32) : Option (Int32 × (Int32) × (Nat → Int32)) :=
  (if (8 : Int32) ≤ r0_days then (some (r0_days, r0_days, r0_hampers)) else (ck r0_days 8 (some (r0_days, (r0_days + 1), (upd r0_hampers (Int32.toNatClampNeg r0_days) x1)))))
set_option maxHeartbeats 4000000 in
set_option maxRecDepth 100000 in
theorem C_Sta_addDay (l : Launch) (D : va_G) (cI cS : ClassId) (a_r0 : Nat) (a_r0_hampers : Nat) (v_r0_weights v_r0_kinds v_r0_figures v_r0_goes v_r0_things v_r0_fields v_r0_done : Value) (r0_days : Int32) (r0_hampers : Nat → Int32) (x1 : Int32) (o : Int32 × (Int32) × (Nat → Int32)) (hr : F_Sta_addDay r0_days r0_hampers x1 = some o) : ctI l y_Sta_addDay (Cond.code y_Sta_addDay b_Sta_addDay 3 (some FieldType.int)) (rmd 0) D (kTy cI cS) [.ref a_r0, .int x1] (w_Sta_addDay cI a_r0 a_r0_hampers v_r0_weights v_r0_kinds v_r0_figures v_r0_goes v_r0_things v_r0_fields v_r0_done r0_days r0_hampers) (w_Sta_addDay cI a_r0 a_r0_hampers v_r0_weights v_r0_kinds v_r0_figures v_r0_goes v_r0_things v_r0_fields v_r0_done o.2.1 o.2.2) o.1 := by
  unfold F_Sta_addDay at hr
  refine ⟨rfl, fun sz => ct_of (w0 := (w_Sta_addDay cI a_r0 a_r0_hampers v_r0_weights v_r0_kinds v_r0_figures v_r0_goes v_r0_things v_r0_fields v_r0_done r0_days r0_hampers)) (Qc := fun A => qI D (w_Sta_addDay cI a_r0 a_r0_hampers v_r0_weights v_r0_kinds v_r0_figures v_r0_goes v_r0_things v_r0_fields v_r0_done o.2.1 o.2.2) o.1 A) rfl (Nat.le_of_ble_eq_true rfl) ?_ sz⟩
  intro p e s m below meth c A hA C hret ls hl hW
  have C : cx p s m ([.ref a_r0, .int x1] : List Value).toArray meth c b_Sta_addDay 3 R_Sta D (kTy cI cS) (Cond.code y_Sta_addDay b_Sta_addDay 3 (some FieldType.int)) := C
  obtain ⟨hx, hb, hml, hown, hts, hK, hlk, hN⟩ := id C
  have hl : lv_has ls 3 [(0, .ref a_r0), (1, .int x1)] := hl
  obtain ⟨Q, hQ⟩ : ∃ Q, Q = MQ below (qI D (w_Sta_addDay cI a_r0 a_r0_hampers v_r0_weights v_r0_kinds v_r0_figures v_r0_goes v_r0_things v_r0_fields v_r0_done o.2.1 o.2.2) o.1 A) ([.ref a_r0, .int x1] : List Value).toArray s 0 0 A := ⟨_, rfl⟩
  rw [← hQ]
  refine lv_aload_n hx hb d_Sta_addDay_0 rfl (lv_at hl 0 rfl) ?_
  refine k_get i_Sta C hW 0 rfl rfl 6 (by decide) qf_Sta_47 rfl rfl d_Sta_addDay_1 ?_
  refine lv_istore_n (lv' := [(2, .int r0_days), (0, .ref a_r0), (1, .int x1)]) hx hb d_Sta_addDay_4 rfl hl (by decide) rfl (fun ls hl => ?_)
  refine lv_iload_n hx hb d_Sta_addDay_5 rfl (lv_at hl 0 rfl) ?_
  refine lv_bipush (v := 8) hx hb d_Sta_addDay_6 (by decide) ?_
  refine lv_icmp_ge (tgt := 28) hx hb d_Sta_addDay_8 (by decide) (fun c_1 => ?_) (fun c_1 => ?_)
  · replace hr := ip c_1 hr
    refine lv_iload_n hx hb d_Sta_addDay_28 rfl (lv_at hl 0 rfl) ?_
    obtain rfl := Option.some.inj hr
    rw [hQ]; exact k_iret C hret hW d_Sta_addDay_29
  · replace hr := iN c_1 hr
    refine lv_aload_n hx hb d_Sta_addDay_11 rfl (lv_at hl 1 rfl) ?_
    refine k_get i_Sta C hW 0 rfl rfl 5 (by decide) qf_Sta_24 rfl rfl d_Sta_addDay_12 ?_
    refine lv_iload_n hx hb d_Sta_addDay_15 rfl (lv_at hl 0 rfl) ?_
    refine lv_iload_n hx hb d_Sta_addDay_16 rfl (lv_at hl 2 rfl) ?_
    obtain ⟨h_2, hr⟩ := ck_some hr
    refine k_iast C hW 1 rfl h_2 (ws' := (w_Sta_addDay cI a_r0 a_r0_hampers v_r0_weights v_r0_kinds v_r0_figures v_r0_goes v_r0_things v_r0_fields v_r0_done r0_days (upd r0_hampers (Int32.toNatClampNeg r0_days) x1))) rfl d_Sta_addDay_17 (fun H locs hW => ?_)
    refine lv_aload_n hx hb d_Sta_addDay_18 rfl (lv_at hl 1 rfl) ?_
    refine lv_dup hx hb d_Sta_addDay_19 rfl ?_
    refine k_get i_Sta C hW 0 rfl rfl 6 (by decide) qf_Sta_47 rfl rfl d_Sta_addDay_20 ?_
    refine lv_iconst (v := 1) hx hb d_Sta_addDay_23 (by decide) ?_
    refine lv_iadd hx hb d_Sta_addDay_24 ?_
    refine k_put i_Sta t_Sta_ok n_Sta C hW 0 rfl rfl 6 (by decide) qf_Sta_47 rfl rfl (ty := .int) rfl rfl rfl (Nat.le_of_ble_eq_true rfl) (ws' := (w_Sta_addDay cI a_r0 a_r0_hampers v_r0_weights v_r0_kinds v_r0_figures v_r0_goes v_r0_things v_r0_fields v_r0_done (r0_days + 1) (upd r0_hampers (Int32.toNatClampNeg r0_days) x1))) rfl d_Sta_addDay_25 (fun H locs hW => ?_)
    refine lv_iload_n hx hb d_Sta_addDay_28 rfl (lv_at hl 0 rfl) ?_
    obtain rfl := Option.some.inj hr
    rw [hQ]; exact k_iret C hret hW d_Sta_addDay_29
def w_Sta_addThing (cI : ClassId) (a_r0 : Nat) (a_r0_figures : Nat) (a_r0_goes : Nat) (a_r0_kinds : Nat) (v_r0_weights v_r0_hampers v_r0_days v_r0_fields v_r0_done : Value) (r0_things : Int32) (r0_figures : Nat → Int32) (r0_goes : Nat → Int32) (r0_kinds : Nat → Int32) : va_W := [(a_r0, .inr (1, [v_r0_weights, .ref a_r0_kinds, .ref a_r0_figures, .ref a_r0_goes, .int r0_things, v_r0_hampers, v_r0_days, v_r0_fields, v_r0_done])), (a_r0_figures, .inl (cI, 8, .inl r0_figures)), (a_r0_goes, .inl (cI, 8, .inl r0_goes)), (a_r0_kinds, .inl (cI, 8, .inl r0_kinds))]
def F_Sta_addThing (r0_things : Int32) (r0_figures : Nat → Int32) (r0_goes : Nat → Int32) (r0_kinds : Nat → Int32) (x1 : Int32) (x2 : Int32) : Option (Int32 × (Int32) × (Nat → Int32) × (Nat → Int32) × (Nat → Int32)) :=
  (if (8 : Int32) ≤ r0_things then (some (r0_things, r0_things, r0_figures, r0_goes, r0_kinds)) else (ck r0_things 8 (ck r0_things 8 ((F_Kin_goesWithAll x1 x2).bind (fun q_4 => (ck r0_things 8 (some (r0_things, (r0_things + 1), (upd r0_figures (Int32.toNatClampNeg r0_things) x2), (upd r0_goes (Int32.toNatClampNeg r0_things) q_4), (upd r0_kinds (Int32.toNatClampNeg r0_things) x1)))))))))
set_option maxHeartbeats 4000000 in
set_option maxRecDepth 100000 in
theorem C_Sta_addThing (l : Launch) (D : va_G) (cI cS : ClassId) (a_r0 : Nat) (a_r0_figures : Nat) (a_r0_goes : Nat) (a_r0_kinds : Nat) (v_r0_weights v_r0_hampers v_r0_days v_r0_fields v_r0_done : Value) (r0_things : Int32) (r0_figures : Nat → Int32) (r0_goes : Nat → Int32) (r0_kinds : Nat → Int32) (x1 : Int32) (x2 : Int32) (o : Int32 × (Int32) × (Nat → Int32) × (Nat → Int32) × (Nat → Int32)) (hr : F_Sta_addThing r0_things r0_figures r0_goes r0_kinds x1 x2 = some o) : ctI l y_Sta_addThing (Cond.code y_Sta_addThing b_Sta_addThing 4 (some FieldType.int)) (rmd 3) D (kTy cI cS) [.ref a_r0, .int x1, .int x2] (w_Sta_addThing cI a_r0 a_r0_figures a_r0_goes a_r0_kinds v_r0_weights v_r0_hampers v_r0_days v_r0_fields v_r0_done r0_things r0_figures r0_goes r0_kinds) (w_Sta_addThing cI a_r0 a_r0_figures a_r0_goes a_r0_kinds v_r0_weights v_r0_hampers v_r0_days v_r0_fields v_r0_done o.2.1 o.2.2.1 o.2.2.2.1 o.2.2.2.2) o.1 := by
  unfold F_Sta_addThing at hr
  refine ⟨rfl, fun sz => ct_of (w0 := (w_Sta_addThing cI a_r0 a_r0_figures a_r0_goes a_r0_kinds v_r0_weights v_r0_hampers v_r0_days v_r0_fields v_r0_done r0_things r0_figures r0_goes r0_kinds)) (Qc := fun A => qI D (w_Sta_addThing cI a_r0 a_r0_figures a_r0_goes a_r0_kinds v_r0_weights v_r0_hampers v_r0_days v_r0_fields v_r0_done o.2.1 o.2.2.1 o.2.2.2.1 o.2.2.2.2) o.1 A) rfl (Nat.le_of_ble_eq_true rfl) ?_ sz⟩
  intro p e s m below meth c A hA C hret ls hl hW
  have C : cx p s m ([.ref a_r0, .int x1, .int x2] : List Value).toArray meth c b_Sta_addThing 4 R_Sta D (kTy cI cS) (Cond.code y_Sta_addThing b_Sta_addThing 4 (some FieldType.int)) := C
  obtain ⟨hx, hb, hml, hown, hts, hK, hlk, hN⟩ := id C
  have hl : lv_has ls 4 [(0, .ref a_r0), (1, .int x1), (2, .int x2)] := hl
  obtain ⟨Q, hQ⟩ : ∃ Q, Q = MQ below (qI D (w_Sta_addThing cI a_r0 a_r0_figures a_r0_goes a_r0_kinds v_r0_weights v_r0_hampers v_r0_days v_r0_fields v_r0_done o.2.1 o.2.2.1 o.2.2.2.1 o.2.2.2.2) o.1 A) ([.ref a_r0, .int x1, .int x2] : List Value).toArray s 0 0 A := ⟨_, rfl⟩
  rw [← hQ]
  refine lv_aload_n hx hb d_Sta_addThing_0 rfl (lv_at hl 0 rfl) ?_
  refine k_get i_Sta C hW 0 rfl rfl 4 (by decide) qf_Sta_43 rfl rfl d_Sta_addThing_1 ?_
  refine lv_istore_n (lv' := [(3, .int r0_things), (0, .ref a_r0), (1, .int x1), (2, .int x2)]) hx hb d_Sta_addThing_4 rfl hl (by decide) rfl (fun ls hl => ?_)
  refine lv_iload_n hx hb d_Sta_addThing_5 rfl (lv_at hl 0 rfl) ?_
  refine lv_bipush (v := 8) hx hb d_Sta_addThing_6 (by decide) ?_
  refine lv_icmp_ge (tgt := 46) hx hb d_Sta_addThing_8 (by decide) (fun c_1 => ?_) (fun c_1 => ?_)
  · replace hr := ip c_1 hr
    refine lv_iload_n hx hb d_Sta_addThing_46 rfl (lv_at hl 0 rfl) ?_
    obtain rfl := Option.some.inj hr
    rw [hQ]; exact k_iret C hret hW d_Sta_addThing_47
  · replace hr := iN c_1 hr
    refine lv_aload_n hx hb d_Sta_addThing_11 rfl (lv_at hl 1 rfl) ?_
    refine k_get i_Sta C hW 0 rfl rfl 1 (by decide) qf_Sta_15 rfl rfl d_Sta_addThing_12 ?_
    refine lv_iload_n hx hb d_Sta_addThing_15 rfl (lv_at hl 0 rfl) ?_
    refine lv_iload_n hx hb d_Sta_addThing_16 rfl (lv_at hl 2 rfl) ?_
    obtain ⟨h_2, hr⟩ := ck_some hr
    refine k_iast C hW 3 rfl h_2 (ws' := (w_Sta_addThing cI a_r0 a_r0_figures a_r0_goes a_r0_kinds v_r0_weights v_r0_hampers v_r0_days v_r0_fields v_r0_done r0_things r0_figures r0_goes (upd r0_kinds (Int32.toNatClampNeg r0_things) x1))) rfl d_Sta_addThing_17 (fun H locs hW => ?_)
    refine lv_aload_n hx hb d_Sta_addThing_18 rfl (lv_at hl 1 rfl) ?_
    refine k_get i_Sta C hW 0 rfl rfl 2 (by decide) qf_Sta_18 rfl rfl d_Sta_addThing_19 ?_
    refine lv_iload_n hx hb d_Sta_addThing_22 rfl (lv_at hl 0 rfl) ?_
    refine lv_iload_n hx hb d_Sta_addThing_23 rfl (lv_at hl 3 rfl) ?_
    obtain ⟨h_3, hr⟩ := ck_some hr
    refine k_iast C hW 1 rfl h_3 (ws' := (w_Sta_addThing cI a_r0 a_r0_figures a_r0_goes a_r0_kinds v_r0_weights v_r0_hampers v_r0_days v_r0_fields v_r0_done r0_things (upd r0_figures (Int32.toNatClampNeg r0_things) x2) r0_goes (upd r0_kinds (Int32.toNatClampNeg r0_things) x1))) rfl d_Sta_addThing_24 (fun H locs hW => ?_)
    refine lv_aload_n hx hb d_Sta_addThing_25 rfl (lv_at hl 1 rfl) ?_
    refine k_get i_Sta C hW 0 rfl rfl 3 (by decide) qf_Sta_21 rfl rfl d_Sta_addThing_26 ?_
    refine lv_iload_n hx hb d_Sta_addThing_29 rfl (lv_at hl 0 rfl) ?_
    refine lv_iload_n hx hb d_Sta_addThing_30 rfl (lv_at hl 2 rfl) ?_
    refine lv_iload_n hx hb d_Sta_addThing_31 rfl (lv_at hl 3 rfl) ?_
    obtain ⟨q_4, hc_4, hr⟩ := ob hr
    have ct_4 := C_Kin_goesWithAll l D cI cS x1 x2 q_4 hc_4
    refine k_goIp hA hW [] rfl rfl (k_runS C hA hW mw_Kin_goesWithAll ms_Kin_goesWithAll (ct_4.2 _) [] rfl rfl qm_Sta_71 ⟨Nat.le_of_ble_eq_true rfl, Nat.le_of_ble_eq_true rfl, Nat.zero_le _, Nat.zero_le _⟩ rfl rfl (Nat.le_of_ble_eq_true rfl) hl.1 d_Sta_addThing_32) (fun H locs hW => ?_)
    obtain ⟨h_5, hr⟩ := ck_some hr
    refine k_iast C hW 2 rfl h_5 (ws' := (w_Sta_addThing cI a_r0 a_r0_figures a_r0_goes a_r0_kinds v_r0_weights v_r0_hampers v_r0_days v_r0_fields v_r0_done r0_things (upd r0_figures (Int32.toNatClampNeg r0_things) x2) (upd r0_goes (Int32.toNatClampNeg r0_things) q_4) (upd r0_kinds (Int32.toNatClampNeg r0_things) x1))) rfl d_Sta_addThing_35 (fun H locs hW => ?_)
    refine lv_aload_n hx hb d_Sta_addThing_36 rfl (lv_at hl 1 rfl) ?_
    refine lv_dup hx hb d_Sta_addThing_37 rfl ?_
    refine k_get i_Sta C hW 0 rfl rfl 4 (by decide) qf_Sta_43 rfl rfl d_Sta_addThing_38 ?_
    refine lv_iconst (v := 1) hx hb d_Sta_addThing_41 (by decide) ?_
    refine lv_iadd hx hb d_Sta_addThing_42 ?_
    refine k_put i_Sta t_Sta_ok n_Sta C hW 0 rfl rfl 4 (by decide) qf_Sta_43 rfl rfl (ty := .int) rfl rfl rfl (Nat.le_of_ble_eq_true rfl) (ws' := (w_Sta_addThing cI a_r0 a_r0_figures a_r0_goes a_r0_kinds v_r0_weights v_r0_hampers v_r0_days v_r0_fields v_r0_done (r0_things + 1) (upd r0_figures (Int32.toNatClampNeg r0_things) x2) (upd r0_goes (Int32.toNatClampNeg r0_things) q_4) (upd r0_kinds (Int32.toNatClampNeg r0_things) x1))) rfl d_Sta_addThing_43 (fun H locs hW => ?_)
    refine lv_iload_n hx hb d_Sta_addThing_46 rfl (lv_at hl 0 rfl) ?_
    obtain rfl := Option.some.inj hr
    rw [hQ]; exact k_iret C hret hW d_Sta_addThing_47
def w_Sta_likeliestOn (cI : ClassId) (a_r0 : Nat) (a_r0_goes : Nat) (a_r0_hampers : Nat) (a_r0_weights : Nat) (v_r0_kinds v_r0_figures v_r0_things v_r0_fields v_r0_done : Value) (r0_days : Int32) (r0_goes : Nat → Int32) (r0_hampers : Nat → Int32) (r0_weights : Nat → Int32) : va_W := [(a_r0, .inr (1, [.ref a_r0_weights, v_r0_kinds, v_r0_figures, .ref a_r0_goes, v_r0_things, .ref a_r0_hampers, .int r0_days, v_r0_fields, v_r0_done])), (a_r0_goes, .inl (cI, 8, .inl r0_goes)), (a_r0_hampers, .inl (cI, 8, .inl r0_hampers)), (a_r0_weights, .inl (cI, 6, .inl r0_weights))]
def F_Sta_likeliestOn (r0_days : Int32) (r0_goes : Nat → Int32) (r0_hampers : Nat → Int32) (r0_weights : Nat → Int32) (x1 : Int32) : Option (Int32) :=
  ((F_Sta_hamperOf r0_days r0_hampers x1).bind (fun q_1 => ((F_Sta_likeliestBy r0_goes r0_weights q_1).bind (fun q_2 => (some q_2)))))
set_option maxHeartbeats 4000000 in
set_option maxRecDepth 100000 in
theorem C_Sta_likeliestOn (l : Launch) (D : va_G) (cI cS : ClassId) (a_r0 : Nat) (a_r0_goes : Nat) (a_r0_hampers : Nat) (a_r0_weights : Nat) (v_r0_kinds v_r0_figures v_r0_things v_r0_fields v_r0_done : Value) (r0_days : Int32) (r0_goes : Nat → Int32) (r0_hampers : Nat → Int32) (r0_weights : Nat → Int32) (x1 : Int32) (o : Int32) (hr : F_Sta_likeliestOn r0_days r0_goes r0_hampers r0_weights x1 = some o) : ctI l y_Sta_likeliestOn (Cond.code y_Sta_likeliestOn b_Sta_likeliestOn 2 (some FieldType.int)) (rmd 3) D (kTy cI cS) [.ref a_r0, .int x1] (w_Sta_likeliestOn cI a_r0 a_r0_goes a_r0_hampers a_r0_weights v_r0_kinds v_r0_figures v_r0_things v_r0_fields v_r0_done r0_days r0_goes r0_hampers r0_weights) (w_Sta_likeliestOn cI a_r0 a_r0_goes a_r0_hampers a_r0_weights v_r0_kinds v_r0_figures v_r0_things v_r0_fields v_r0_done r0_days r0_goes r0_hampers r0_weights) o := by
  unfold F_Sta_likeliestOn at hr
  refine ⟨rfl, fun sz => ct_of (w0 := (w_Sta_likeliestOn cI a_r0 a_r0_goes a_r0_hampers a_r0_weights v_r0_kinds v_r0_figures v_r0_things v_r0_fields v_r0_done r0_days r0_goes r0_hampers r0_weights)) (Qc := fun A => qI D (w_Sta_likeliestOn cI a_r0 a_r0_goes a_r0_hampers a_r0_weights v_r0_kinds v_r0_figures v_r0_things v_r0_fields v_r0_done r0_days r0_goes r0_hampers r0_weights) o A) rfl (Nat.le_of_ble_eq_true rfl) ?_ sz⟩
  intro p e s m below meth c A hA C hret ls hl hW
  have C : cx p s m ([.ref a_r0, .int x1] : List Value).toArray meth c b_Sta_likeliestOn 2 R_Sta D (kTy cI cS) (Cond.code y_Sta_likeliestOn b_Sta_likeliestOn 2 (some FieldType.int)) := C
  obtain ⟨hx, hb, hml, hown, hts, hK, hlk, hN⟩ := id C
  have hl : lv_has ls 2 [(0, .ref a_r0), (1, .int x1)] := hl
  obtain ⟨Q, hQ⟩ : ∃ Q, Q = MQ below (qI D (w_Sta_likeliestOn cI a_r0 a_r0_goes a_r0_hampers a_r0_weights v_r0_kinds v_r0_figures v_r0_things v_r0_fields v_r0_done r0_days r0_goes r0_hampers r0_weights) o A) ([.ref a_r0, .int x1] : List Value).toArray s 0 0 A := ⟨_, rfl⟩
  rw [← hQ]
  refine lv_aload_n hx hb d_Sta_likeliestOn_0 rfl (lv_at hl 0 rfl) ?_
  refine lv_aload_n hx hb d_Sta_likeliestOn_1 rfl (lv_at hl 0 rfl) ?_
  refine lv_iload_n hx hb d_Sta_likeliestOn_2 rfl (lv_at hl 1 rfl) ?_
  obtain ⟨q_1, hc_1, hr⟩ := ob hr
  have ct_1 := C_Sta_hamperOf l D cI cS a_r0 a_r0_hampers (Value.ref a_r0_weights) v_r0_kinds v_r0_figures (Value.ref a_r0_goes) v_r0_things v_r0_fields v_r0_done r0_days r0_hampers x1 q_1 hc_1
  refine k_goIp hA hW [0, 2] rfl rfl (k_runV C hA hW mw_Sta_hamperOf mv_Sta_hamperOf (ct_1.2 _) [0, 2] rfl rfl 0 rfl rfl qm_Sta_97 ⟨Nat.le_of_ble_eq_true rfl, Nat.le_of_ble_eq_true rfl, Nat.zero_le _, Nat.zero_le _⟩ rfl rfl (Nat.le_of_ble_eq_true rfl) hl.1 d_Sta_likeliestOn_3) (fun H locs hW => ?_)
  obtain ⟨q_2, hc_2, hr⟩ := ob hr
  have ct_2 := C_Sta_likeliestBy l D cI cS a_r0 a_r0_goes a_r0_weights v_r0_kinds v_r0_figures v_r0_things (Value.ref a_r0_hampers) (Value.int r0_days) v_r0_fields v_r0_done r0_goes r0_weights q_1 q_2 hc_2
  refine k_goIp hA hW [0, 1, 3] rfl rfl (k_runV C hA hW mw_Sta_likeliestBy mv_Sta_likeliestBy (ct_2.2 _) [0, 1, 3] rfl rfl 0 rfl rfl qm_Sta_100 ⟨Nat.le_of_ble_eq_true rfl, Nat.le_of_ble_eq_true rfl, Nat.zero_le _, Nat.zero_le _⟩ rfl rfl (Nat.le_of_ble_eq_true rfl) hl.1 d_Sta_likeliestOn_6) (fun H locs hW => ?_)
  obtain rfl := Option.some.inj hr
  rw [hQ]; exact k_iret C hret hW d_Sta_likeliestOn_9
def w_Sta_packOrUnpack (cI : ClassId) (a_r0 : Nat) (a_r0_hampers : Nat) (v_r0_weights v_r0_kinds v_r0_figures v_r0_goes v_r0_things v_r0_fields v_r0_done : Value) (r0_days : Int32) (r0_hampers : Nat → Int32) : va_W := [(a_r0, .inr (1, [v_r0_weights, v_r0_kinds, v_r0_figures, v_r0_goes, v_r0_things, .ref a_r0_hampers, .int r0_days, v_r0_fields, v_r0_done])), (a_r0_hampers, .inl (cI, 8, .inl r0_hampers))]
def F_Sta_packOrUnpack (r0_days : Int32) (r0_hampers : Nat → Int32) (x1 : Int32) (x2 : Int32) : Option (Int32 × (Nat → Int32)) :=
  ((F_Sta_hasDay r0_days x1).bind (fun q_1 => (if q_1 = 0 then (some (0, r0_hampers)) else (ck x1 8 (ck x1 8 (ck x1 8 ((F_H_holds ((upd r0_hampers (Int32.toNatClampNeg x1) ((r0_hampers (Int32.toNatClampNeg x1)) ^^^ ((1 : Int32) <<< ((x2 : Int32) &&& 31)))) (Int32.toNatClampNeg x1)) x2).bind (fun q_6 => (if q_6 = 0 then (some (0, (upd r0_hampers (Int32.toNatClampNeg x1) ((r0_hampers (Int32.toNatClampNeg x1)) ^^^ ((1 : Int32) <<< ((x2 : Int32) &&& 31)))))) else (some (1, (upd r0_hampers (Int32.toNatClampNeg x1) ((r0_hampers (Int32.toNatClampNeg x1)) ^^^ ((1 : Int32) <<< ((x2 : Int32) &&& 31)))))))))))))))
set_option maxHeartbeats 4000000 in
set_option maxRecDepth 100000 in
theorem C_Sta_packOrUnpack (l : Launch) (D : va_G) (cI cS : ClassId) (a_r0 : Nat) (a_r0_hampers : Nat) (v_r0_weights v_r0_kinds v_r0_figures v_r0_goes v_r0_things v_r0_fields v_r0_done : Value) (r0_days : Int32) (r0_hampers : Nat → Int32) (x1 : Int32) (x2 : Int32) (o : Int32 × (Nat → Int32)) (hr : F_Sta_packOrUnpack r0_days r0_hampers x1 x2 = some o) : ctI l y_Sta_packOrUnpack (Cond.code y_Sta_packOrUnpack b_Sta_packOrUnpack 3 (some FieldType.int)) (rmd 1) D (kTy cI cS) [.ref a_r0, .int x1, .int x2] (w_Sta_packOrUnpack cI a_r0 a_r0_hampers v_r0_weights v_r0_kinds v_r0_figures v_r0_goes v_r0_things v_r0_fields v_r0_done r0_days r0_hampers) (w_Sta_packOrUnpack cI a_r0 a_r0_hampers v_r0_weights v_r0_kinds v_r0_figures v_r0_goes v_r0_things v_r0_fields v_r0_done r0_days o.2) o.1 := by
  unfold F_Sta_packOrUnpack at hr
  refine ⟨rfl, fun sz => ct_of (w0 := (w_Sta_packOrUnpack cI a_r0 a_r0_hampers v_r0_weights v_r0_kinds v_r0_figures v_r0_goes v_r0_things v_r0_fields v_r0_done r0_days r0_hampers)) (Qc := fun A => qI D (w_Sta_packOrUnpack cI a_r0 a_r0_hampers v_r0_weights v_r0_kinds v_r0_figures v_r0_goes v_r0_things v_r0_fields v_r0_done r0_days o.2) o.1 A) rfl (Nat.le_of_ble_eq_true rfl) ?_ sz⟩
  intro p e s m below meth c A hA C hret ls hl hW
  have C : cx p s m ([.ref a_r0, .int x1, .int x2] : List Value).toArray meth c b_Sta_packOrUnpack 3 R_Sta D (kTy cI cS) (Cond.code y_Sta_packOrUnpack b_Sta_packOrUnpack 3 (some FieldType.int)) := C
  obtain ⟨hx, hb, hml, hown, hts, hK, hlk, hN⟩ := id C
  have hl : lv_has ls 3 [(0, .ref a_r0), (1, .int x1), (2, .int x2)] := hl
  obtain ⟨Q, hQ⟩ : ∃ Q, Q = MQ below (qI D (w_Sta_packOrUnpack cI a_r0 a_r0_hampers v_r0_weights v_r0_kinds v_r0_figures v_r0_goes v_r0_things v_r0_fields v_r0_done r0_days o.2) o.1 A) ([.ref a_r0, .int x1, .int x2] : List Value).toArray s 0 0 A := ⟨_, rfl⟩
  rw [← hQ]
  refine lv_aload_n hx hb d_Sta_packOrUnpack_0 rfl (lv_at hl 0 rfl) ?_
  refine lv_iload_n hx hb d_Sta_packOrUnpack_1 rfl (lv_at hl 1 rfl) ?_
  obtain ⟨q_1, hc_1, hr⟩ := ob hr
  have ct_1 := C_Sta_hasDay l D cI cS a_r0 v_r0_weights v_r0_kinds v_r0_figures v_r0_goes v_r0_things (Value.ref a_r0_hampers) v_r0_fields v_r0_done r0_days x1 q_1 hc_1
  refine k_goIp hA hW [0] rfl rfl (k_runV C hA hW mw_Sta_hasDay mv_Sta_hasDay (ct_1.2 _) [0] rfl rfl 0 rfl rfl qm_Sta_65 ⟨Nat.le_of_ble_eq_true rfl, Nat.le_of_ble_eq_true rfl, Nat.zero_le _, Nat.zero_le _⟩ rfl rfl (Nat.le_of_ble_eq_true rfl) hl.1 d_Sta_packOrUnpack_2) (fun H locs hW => ?_)
  refine lv_if_ne (tgt := 10) hx hb d_Sta_packOrUnpack_5 (by decide) (fun c_2 => ?_) (fun c_2 => ?_)
  · replace hr := iN c_2 hr
    refine lv_aload_n hx hb d_Sta_packOrUnpack_10 rfl (lv_at hl 0 rfl) ?_
    refine k_get i_Sta C hW 0 rfl rfl 5 (by decide) qf_Sta_24 rfl rfl d_Sta_packOrUnpack_11 ?_
    refine lv_iload_n hx hb d_Sta_packOrUnpack_14 rfl (lv_at hl 1 rfl) ?_
    refine lv_dup2_11 hx hb d_Sta_packOrUnpack_15 rfl rfl ?_
    obtain ⟨h_3, hr⟩ := ck_some hr
    refine k_iald C hW 1 rfl h_3 d_Sta_packOrUnpack_16 ?_
    refine lv_iconst (v := 1) hx hb d_Sta_packOrUnpack_17 (by decide) ?_
    refine lv_iload_n hx hb d_Sta_packOrUnpack_18 rfl (lv_at hl 2 rfl) ?_
    refine lv_ishl hx hb d_Sta_packOrUnpack_19 ?_
    refine lv_ixor hx hb d_Sta_packOrUnpack_20 ?_
    obtain ⟨h_4, hr⟩ := ck_some hr
    refine k_iast C hW 1 rfl h_4 (ws' := (w_Sta_packOrUnpack cI a_r0 a_r0_hampers v_r0_weights v_r0_kinds v_r0_figures v_r0_goes v_r0_things v_r0_fields v_r0_done r0_days (upd r0_hampers (Int32.toNatClampNeg x1) ((r0_hampers (Int32.toNatClampNeg x1)) ^^^ ((1 : Int32) <<< ((x2 : Int32) &&& 31)))))) rfl d_Sta_packOrUnpack_21 (fun H locs hW => ?_)
    refine lv_aload_n hx hb d_Sta_packOrUnpack_22 rfl (lv_at hl 0 rfl) ?_
    refine k_get i_Sta C hW 0 rfl rfl 5 (by decide) qf_Sta_24 rfl rfl d_Sta_packOrUnpack_23 ?_
    refine lv_iload_n hx hb d_Sta_packOrUnpack_26 rfl (lv_at hl 1 rfl) ?_
    obtain ⟨h_5, hr⟩ := ck_some hr
    refine k_iald C hW 1 rfl h_5 d_Sta_packOrUnpack_27 ?_
    refine lv_iload_n hx hb d_Sta_packOrUnpack_28 rfl (lv_at hl 2 rfl) ?_
    obtain ⟨q_6, hc_6, hr⟩ := ob hr
    have ct_6 := C_H_holds l D cI cS ((upd r0_hampers (Int32.toNatClampNeg x1) ((r0_hampers (Int32.toNatClampNeg x1)) ^^^ ((1 : Int32) <<< ((x2 : Int32) &&& 31)))) (Int32.toNatClampNeg x1)) x2 q_6 hc_6
    refine k_goIp hA hW [] rfl rfl (k_runSN C hA hW mw_H_holds ms_H_holds (ct_6.2 _) [] rfl rfl qm_Sta_77 ⟨Nat.le_of_ble_eq_true rfl, Nat.le_of_ble_eq_true rfl, Nat.zero_le _, Nat.zero_le _⟩ rfl rfl (Nat.le_of_ble_eq_true rfl) hl.1 d_Sta_packOrUnpack_29) (fun H locs hW => ?_)
    refine lv_if_eq (tgt := 39) hx hb d_Sta_packOrUnpack_32 (by decide) (fun c_7 => ?_) (fun c_7 => ?_)
    · replace hr := ip c_7 hr
      refine lv_iconst (v := 0) hx hb d_Sta_packOrUnpack_39 (by decide) ?_
      obtain rfl := Option.some.inj hr
      rw [hQ]; exact k_iret C hret hW d_Sta_packOrUnpack_40
    · replace hr := iN c_7 hr
      refine lv_iconst (v := 1) hx hb d_Sta_packOrUnpack_35 (by decide) ?_
      refine lv_goto (tgt := 40) hx hb d_Sta_packOrUnpack_36 (by decide) ?_
      obtain rfl := Option.some.inj hr
      rw [hQ]; exact k_iret C hret hW d_Sta_packOrUnpack_40
  · replace hr := ip c_2 hr
    refine lv_iconst (v := 0) hx hb d_Sta_packOrUnpack_8 (by decide) ?_
    obtain rfl := Option.some.inj hr
    rw [hQ]; exact k_iret C hret hW d_Sta_packOrUnpack_9
def F_H_isWeather (x0 : Int32) : Option (Int32) :=
  (if x0 < 0 then (some 0) else (if (6 : Int32) ≤ x0 then (some 0) else (some 1)))
set_option maxHeartbeats 4000000 in
set_option maxRecDepth 100000 in
theorem C_H_isWeather (l : Launch) (D : va_G) (cI cS : ClassId) (x0 : Int32) (o : Int32) (hr : F_H_isWeather x0 = some o) : ctI l y_H_isWeather (Cond.code y_H_isWeather b_H_isWeather 1 (some FieldType.boolean)) (rmd 0) D (kTy cI cS) [.int x0] [] [] o := by
  unfold F_H_isWeather at hr
  refine ⟨rfl, fun sz => ct_of (w0 := []) (Qc := fun A => qI D [] o A) rfl (Nat.le_of_ble_eq_true rfl) ?_ sz⟩
  intro p e s m below meth c A hA C hret ls hl hW
  have C : cx p s m ([.int x0] : List Value).toArray meth c b_H_isWeather 1 R_H D (kTy cI cS) (Cond.code y_H_isWeather b_H_isWeather 1 (some FieldType.boolean)) := C
  obtain ⟨hx, hb, hml, hown, hts, hK, hlk, hN⟩ := id C
  have hl : lv_has ls 1 [(0, .int x0)] := hl
  obtain ⟨Q, hQ⟩ : ∃ Q, Q = MQ below (qI D [] o A) ([.int x0] : List Value).toArray s 0 0 A := ⟨_, rfl⟩
  rw [← hQ]
  refine lv_iload_n hx hb d_H_isWeather_0 rfl (lv_at hl 0 rfl) ?_
  refine lv_if_lt (tgt := 14) hx hb d_H_isWeather_1 (by decide) (fun c_1 => ?_) (fun c_1 => ?_)
  · replace hr := ip c_1 hr
    refine lv_iconst (v := 0) hx hb d_H_isWeather_14 (by decide) ?_
    obtain rfl := Option.some.inj hr
    rw [hQ]; exact k_zret C hret nar0 hW d_H_isWeather_15
  · replace hr := iN c_1 hr
    refine lv_iload_n hx hb d_H_isWeather_4 rfl (lv_at hl 0 rfl) ?_
    refine lv_bipush (v := 6) hx hb d_H_isWeather_5 (by decide) ?_
    refine lv_icmp_ge (tgt := 14) hx hb d_H_isWeather_7 (by decide) (fun c_2 => ?_) (fun c_2 => ?_)
    · replace hr := ip c_2 hr
      refine lv_iconst (v := 0) hx hb d_H_isWeather_14 (by decide) ?_
      obtain rfl := Option.some.inj hr
      rw [hQ]; exact k_zret C hret nar0 hW d_H_isWeather_15
    · replace hr := iN c_2 hr
      refine lv_iconst (v := 1) hx hb d_H_isWeather_10 (by decide) ?_
      refine lv_goto (tgt := 15) hx hb d_H_isWeather_11 (by decide) ?_
      obtain rfl := Option.some.inj hr
      rw [hQ]; exact k_zret C hret nar1 hW d_H_isWeather_15
def w_Sta_reweigh (cI : ClassId) (a_r0 : Nat) (a_r0_weights : Nat) (v_r0_kinds v_r0_figures v_r0_goes v_r0_things v_r0_hampers v_r0_days v_r0_fields v_r0_done : Value) (r0_weights : Nat → Int32) : va_W := [(a_r0, .inr (1, [.ref a_r0_weights, v_r0_kinds, v_r0_figures, v_r0_goes, v_r0_things, v_r0_hampers, v_r0_days, v_r0_fields, v_r0_done])), (a_r0_weights, .inl (cI, 6, .inl r0_weights))]
def F_Sta_reweigh (r0_weights : Nat → Int32) (x1 : Int32) (x2 : Int32) : Option ((Nat → Int32)) :=
  ((F_H_isWeather x1).bind (fun q_1 => (if q_1 = 0 then (some r0_weights) else (ck x1 6 (some (upd r0_weights (Int32.toNatClampNeg x1) x2))))))
set_option maxHeartbeats 4000000 in
set_option maxRecDepth 100000 in
theorem C_Sta_reweigh (l : Launch) (D : va_G) (cI cS : ClassId) (a_r0 : Nat) (a_r0_weights : Nat) (v_r0_kinds v_r0_figures v_r0_goes v_r0_things v_r0_hampers v_r0_days v_r0_fields v_r0_done : Value) (r0_weights : Nat → Int32) (x1 : Int32) (x2 : Int32) (o : (Nat → Int32)) (hr : F_Sta_reweigh r0_weights x1 x2 = some o) : ctV l y_Sta_reweigh (Cond.code y_Sta_reweigh b_Sta_reweigh 3 none) (rmd 1) D (kTy cI cS) [.ref a_r0, .int x1, .int x2] (w_Sta_reweigh cI a_r0 a_r0_weights v_r0_kinds v_r0_figures v_r0_goes v_r0_things v_r0_hampers v_r0_days v_r0_fields v_r0_done r0_weights) (w_Sta_reweigh cI a_r0 a_r0_weights v_r0_kinds v_r0_figures v_r0_goes v_r0_things v_r0_hampers v_r0_days v_r0_fields v_r0_done o) := by
  unfold F_Sta_reweigh at hr
  refine ⟨rfl, fun sz => ct_of (w0 := (w_Sta_reweigh cI a_r0 a_r0_weights v_r0_kinds v_r0_figures v_r0_goes v_r0_things v_r0_hampers v_r0_days v_r0_fields v_r0_done r0_weights)) (Qc := fun A => qV D (w_Sta_reweigh cI a_r0 a_r0_weights v_r0_kinds v_r0_figures v_r0_goes v_r0_things v_r0_hampers v_r0_days v_r0_fields v_r0_done o) A) rfl (Nat.le_of_ble_eq_true rfl) ?_ sz⟩
  intro p e s m below meth c A hA C hret ls hl hW
  have C : cx p s m ([.ref a_r0, .int x1, .int x2] : List Value).toArray meth c b_Sta_reweigh 3 R_Sta D (kTy cI cS) (Cond.code y_Sta_reweigh b_Sta_reweigh 3 none) := C
  obtain ⟨hx, hb, hml, hown, hts, hK, hlk, hN⟩ := id C
  have hl : lv_has ls 3 [(0, .ref a_r0), (1, .int x1), (2, .int x2)] := hl
  obtain ⟨Q, hQ⟩ : ∃ Q, Q = MQ below (qV D (w_Sta_reweigh cI a_r0 a_r0_weights v_r0_kinds v_r0_figures v_r0_goes v_r0_things v_r0_hampers v_r0_days v_r0_fields v_r0_done o) A) ([.ref a_r0, .int x1, .int x2] : List Value).toArray s 0 0 A := ⟨_, rfl⟩
  rw [← hQ]
  refine lv_iload_n hx hb d_Sta_reweigh_0 rfl (lv_at hl 1 rfl) ?_
  obtain ⟨q_1, hc_1, hr⟩ := ob hr
  have ct_1 := C_H_isWeather l D cI cS x1 q_1 hc_1
  refine k_goIp hA hW [] rfl rfl (k_runSN C hA hW mw_H_isWeather ms_H_isWeather (ct_1.2 _) [] rfl rfl qm_Sta_61 ⟨Nat.le_of_ble_eq_true rfl, Nat.le_of_ble_eq_true rfl, Nat.zero_le _, Nat.zero_le _⟩ rfl rfl (Nat.le_of_ble_eq_true rfl) hl.1 d_Sta_reweigh_1) (fun H locs hW => ?_)
  refine lv_if_eq (tgt := 14) hx hb d_Sta_reweigh_4 (by decide) (fun c_2 => ?_) (fun c_2 => ?_)
  · replace hr := ip c_2 hr
    obtain rfl := Option.some.inj hr
    rw [hQ]; exact k_vret C hret hW d_Sta_reweigh_14
  · replace hr := iN c_2 hr
    refine lv_aload_n hx hb d_Sta_reweigh_7 rfl (lv_at hl 0 rfl) ?_
    refine k_get i_Sta C hW 0 rfl rfl 0 (by decide) qf_Sta_9 rfl rfl d_Sta_reweigh_8 ?_
    refine lv_iload_n hx hb d_Sta_reweigh_11 rfl (lv_at hl 1 rfl) ?_
    refine lv_iload_n hx hb d_Sta_reweigh_12 rfl (lv_at hl 2 rfl) ?_
    obtain ⟨h_3, hr⟩ := ck_some hr
    refine k_iast C hW 1 rfl h_3 (ws' := (w_Sta_reweigh cI a_r0 a_r0_weights v_r0_kinds v_r0_figures v_r0_goes v_r0_things v_r0_hampers v_r0_days v_r0_fields v_r0_done (upd r0_weights (Int32.toNatClampNeg x1) x2))) rfl d_Sta_reweigh_13 (fun H locs hW => ?_)
    obtain rfl := Option.some.inj hr
    rw [hQ]; exact k_vret C hret hW d_Sta_reweigh_14
def w_Sta_spend (cI : ClassId) (a_r0 : Nat) (a_r0_fields : Nat) (a_r0_fields_lefts : Nat) (a_r0_fields_wishes : Nat) (v_r0_weights v_r0_kinds v_r0_figures v_r0_goes v_r0_things v_r0_hampers v_r0_days : Value) (r0_done : Int32) (r0_fields_lefts : Nat → Int32) (r0_fields_wishes : Nat → Int32) : va_W := [(a_r0, .inr (1, [v_r0_weights, v_r0_kinds, v_r0_figures, v_r0_goes, v_r0_things, v_r0_hampers, v_r0_days, .ref a_r0_fields, .int r0_done])), (a_r0_fields, .inr (2, [.ref a_r0_fields_wishes, .ref a_r0_fields_lefts])), (a_r0_fields_lefts, .inl (cI, 4, .inl r0_fields_lefts)), (a_r0_fields_wishes, .inl (cI, 4, .inl r0_fields_wishes))]
def F_Sta_spend (r0_done : Int32) (r0_fields_lefts : Nat → Int32) (r0_fields_wishes : Nat → Int32) (x1 : Int32) : Option (Int32 × (Int32) × (Nat → Int32)) :=
  ((F_Fld_work r0_fields_lefts r0_fields_wishes x1).bind (fun q_1 => (if q_1.1 < 0 then (some (q_1.1, r0_done, q_1.2)) else (if (999 : Int32) ≤ r0_done then (some (q_1.1, r0_done, q_1.2)) else (some (q_1.1, (r0_done + 1), q_1.2))))))
set_option maxHeartbeats 4000000 in
set_option maxRecDepth 100000 in
theorem C_Sta_spend (l : Launch) (D : va_G) (cI cS : ClassId) (a_r0 : Nat) (a_r0_fields : Nat) (a_r0_fields_lefts : Nat) (a_r0_fields_wishes : Nat) (v_r0_weights v_r0_kinds v_r0_figures v_r0_goes v_r0_things v_r0_hampers v_r0_days : Value) (r0_done : Int32) (r0_fields_lefts : Nat → Int32) (r0_fields_wishes : Nat → Int32) (x1 : Int32) (o : Int32 × (Int32) × (Nat → Int32)) (hr : F_Sta_spend r0_done r0_fields_lefts r0_fields_wishes x1 = some o) : ctI l y_Sta_spend (Cond.code y_Sta_spend b_Sta_spend 3 (some FieldType.int)) (rmd 3) D (kTy cI cS) [.ref a_r0, .int x1] (w_Sta_spend cI a_r0 a_r0_fields a_r0_fields_lefts a_r0_fields_wishes v_r0_weights v_r0_kinds v_r0_figures v_r0_goes v_r0_things v_r0_hampers v_r0_days r0_done r0_fields_lefts r0_fields_wishes) (w_Sta_spend cI a_r0 a_r0_fields a_r0_fields_lefts a_r0_fields_wishes v_r0_weights v_r0_kinds v_r0_figures v_r0_goes v_r0_things v_r0_hampers v_r0_days o.2.1 o.2.2 r0_fields_wishes) o.1 := by
  unfold F_Sta_spend at hr
  refine ⟨rfl, fun sz => ct_of (w0 := (w_Sta_spend cI a_r0 a_r0_fields a_r0_fields_lefts a_r0_fields_wishes v_r0_weights v_r0_kinds v_r0_figures v_r0_goes v_r0_things v_r0_hampers v_r0_days r0_done r0_fields_lefts r0_fields_wishes)) (Qc := fun A => qI D (w_Sta_spend cI a_r0 a_r0_fields a_r0_fields_lefts a_r0_fields_wishes v_r0_weights v_r0_kinds v_r0_figures v_r0_goes v_r0_things v_r0_hampers v_r0_days o.2.1 o.2.2 r0_fields_wishes) o.1 A) rfl (Nat.le_of_ble_eq_true rfl) ?_ sz⟩
  intro p e s m below meth c A hA C hret ls hl hW
  have C : cx p s m ([.ref a_r0, .int x1] : List Value).toArray meth c b_Sta_spend 3 R_Sta D (kTy cI cS) (Cond.code y_Sta_spend b_Sta_spend 3 (some FieldType.int)) := C
  obtain ⟨hx, hb, hml, hown, hts, hK, hlk, hN⟩ := id C
  have hl : lv_has ls 3 [(0, .ref a_r0), (1, .int x1)] := hl
  obtain ⟨Q, hQ⟩ : ∃ Q, Q = MQ below (qI D (w_Sta_spend cI a_r0 a_r0_fields a_r0_fields_lefts a_r0_fields_wishes v_r0_weights v_r0_kinds v_r0_figures v_r0_goes v_r0_things v_r0_hampers v_r0_days o.2.1 o.2.2 r0_fields_wishes) o.1 A) ([.ref a_r0, .int x1] : List Value).toArray s 0 0 A := ⟨_, rfl⟩
  rw [← hQ]
  refine lv_aload_n hx hb d_Sta_spend_0 rfl (lv_at hl 0 rfl) ?_
  refine k_get i_Sta C hW 0 rfl rfl 7 (by decide) qf_Sta_30 rfl rfl d_Sta_spend_1 ?_
  refine lv_iload_n hx hb d_Sta_spend_4 rfl (lv_at hl 1 rfl) ?_
  obtain ⟨q_1, hc_1, hr⟩ := ob hr
  have ct_1 := C_Fld_work l D cI cS a_r0_fields a_r0_fields_lefts a_r0_fields_wishes r0_fields_lefts r0_fields_wishes x1 q_1 hc_1
  refine k_goI hA hW [1, 2, 3] rfl ct_1.1 (ws' := (w_Sta_spend cI a_r0 a_r0_fields a_r0_fields_lefts a_r0_fields_wishes v_r0_weights v_r0_kinds v_r0_figures v_r0_goes v_r0_things v_r0_hampers v_r0_days r0_done q_1.2 r0_fields_wishes)) rfl (k_runV C hA hW mw_Fld_work mv_Fld_work (ct_1.2 _) [1, 2, 3] rfl rfl 1 rfl rfl qm_Sta_81 ⟨Nat.le_of_ble_eq_true rfl, Nat.le_of_ble_eq_true rfl, Nat.zero_le _, Nat.zero_le _⟩ rfl rfl (Nat.le_of_ble_eq_true rfl) hl.1 d_Sta_spend_5) (fun H locs hW => ?_)
  refine lv_istore_n (lv' := [(2, .int q_1.1), (0, .ref a_r0), (1, .int x1)]) hx hb d_Sta_spend_8 rfl hl (by decide) rfl (fun ls hl => ?_)
  refine lv_iload_n hx hb d_Sta_spend_9 rfl (lv_at hl 0 rfl) ?_
  refine lv_if_lt (tgt := 33) hx hb d_Sta_spend_10 (by decide) (fun c_2 => ?_) (fun c_2 => ?_)
  · replace hr := ip c_2 hr
    refine lv_iload_n hx hb d_Sta_spend_33 rfl (lv_at hl 0 rfl) ?_
    obtain rfl := Option.some.inj hr
    rw [hQ]; exact k_iret C hret hW d_Sta_spend_34
  · replace hr := iN c_2 hr
    refine lv_aload_n hx hb d_Sta_spend_13 rfl (lv_at hl 1 rfl) ?_
    refine k_get i_Sta C hW 0 rfl rfl 8 (by decide) qf_Sta_54 rfl rfl d_Sta_spend_14 ?_
    refine lv_sipush (v := 999) hx hb d_Sta_spend_17 (by decide) ?_
    refine lv_icmp_ge (tgt := 33) hx hb d_Sta_spend_20 (by decide) (fun c_3 => ?_) (fun c_3 => ?_)
    · replace hr := ip c_3 hr
      refine lv_iload_n hx hb d_Sta_spend_33 rfl (lv_at hl 0 rfl) ?_
      obtain rfl := Option.some.inj hr
      rw [hQ]; exact k_iret C hret hW d_Sta_spend_34
    · replace hr := iN c_3 hr
      refine lv_aload_n hx hb d_Sta_spend_23 rfl (lv_at hl 1 rfl) ?_
      refine lv_dup hx hb d_Sta_spend_24 rfl ?_
      refine k_get i_Sta C hW 0 rfl rfl 8 (by decide) qf_Sta_54 rfl rfl d_Sta_spend_25 ?_
      refine lv_iconst (v := 1) hx hb d_Sta_spend_28 (by decide) ?_
      refine lv_iadd hx hb d_Sta_spend_29 ?_
      refine k_put i_Sta t_Sta_ok n_Sta C hW 0 rfl rfl 8 (by decide) qf_Sta_54 rfl rfl (ty := .int) rfl rfl rfl (Nat.le_of_ble_eq_true rfl) (ws' := (w_Sta_spend cI a_r0 a_r0_fields a_r0_fields_lefts a_r0_fields_wishes v_r0_weights v_r0_kinds v_r0_figures v_r0_goes v_r0_things v_r0_hampers v_r0_days (r0_done + 1) q_1.2 r0_fields_wishes)) rfl d_Sta_spend_30 (fun H locs hW => ?_)
      refine lv_iload_n hx hb d_Sta_spend_33 rfl (lv_at hl 0 rfl) ?_
      obtain rfl := Option.some.inj hr
      rw [hQ]; exact k_iret C hret hW d_Sta_spend_34
def w_Let_bring (cI : ClassId) (a_r0 : Nat) (a_r0_letters : Nat) (a_r1 : Nat) (a_r1_fields : Nat) (a_r1_fields_lefts : Nat) (a_r1_fields_wishes : Nat) (a_r1_figures : Nat) (a_r1_goes : Nat) (a_r1_hampers : Nat) (a_r1_kinds : Nat) (a_r1_weights : Nat) (r0_count : Int32) (r0_letters : Nat → Int32) (r1_days : Int32) (r1_done : Int32) (r1_things : Int32) (r1_fields_lefts : Nat → Int32) (r1_fields_wishes : Nat → Int32) (r1_figures : Nat → Int32) (r1_goes : Nat → Int32) (r1_hampers : Nat → Int32) (r1_kinds : Nat → Int32) (r1_weights : Nat → Int32) : va_W := [(a_r0, .inr (5, [.ref a_r0_letters, .int r0_count])), (a_r0_letters, .inl (cI, 96, .inl r0_letters)), (a_r1, .inr (1, [.ref a_r1_weights, .ref a_r1_kinds, .ref a_r1_figures, .ref a_r1_goes, .int r1_things, .ref a_r1_hampers, .int r1_days, .ref a_r1_fields, .int r1_done])), (a_r1_fields, .inr (2, [.ref a_r1_fields_wishes, .ref a_r1_fields_lefts])), (a_r1_fields_lefts, .inl (cI, 4, .inl r1_fields_lefts)), (a_r1_fields_wishes, .inl (cI, 4, .inl r1_fields_wishes)), (a_r1_figures, .inl (cI, 8, .inl r1_figures)), (a_r1_goes, .inl (cI, 8, .inl r1_goes)), (a_r1_hampers, .inl (cI, 8, .inl r1_hampers)), (a_r1_kinds, .inl (cI, 8, .inl r1_kinds)), (a_r1_weights, .inl (cI, 6, .inl r1_weights))]
def F_Let_bring (r0_count : Int32) (r0_letters : Nat → Int32) (r1_days : Int32) (r1_done : Int32) (r1_things : Int32) (r1_fields_lefts : Nat → Int32) (r1_fields_wishes : Nat → Int32) (r1_figures : Nat → Int32) (r1_goes : Nat → Int32) (r1_hampers : Nat → Int32) (r1_kinds : Nat → Int32) (r1_weights : Nat → Int32) (x2 : Int32) : Option ((Int32) × (Int32) × (Int32) × (Nat → Int32) × (Nat → Int32) × (Nat → Int32) × (Nat → Int32) × (Nat → Int32) × (Nat → Int32) × (Nat → Int32)) :=
  ((F_Let_number r0_count r0_letters (x2 + 1) (1 : Int32)).bind (fun q_1 => ((F_Let_number r0_count r0_letters (x2 + 2) (1 : Int32)).bind (fun q_2 => ((F_Let_letterAt r0_count r0_letters x2).bind (fun q_3 => (if q_3 = 100 then ((F_Let_number r0_count r0_letters (x2 + 1) (3 : Int32)).bind (fun q_5 => ((F_Sta_addDay r1_days r1_hampers q_5).bind (fun q_6 => (some (q_6.2.1, r1_done, r1_things, r1_fields_lefts, r1_fields_wishes, r1_figures, r1_goes, q_6.2.2, r1_kinds, r1_weights)))))) else (if q_3 = 102 then ((F_Let_number r0_count r0_letters (x2 + 2) (2 : Int32)).bind (fun q_8 => ((F_Let_number r0_count r0_letters (x2 + 4) (1 : Int32)).bind (fun q_9 => ((F_Fld_become r1_fields_lefts r1_fields_wishes q_1 q_8 q_9).bind (fun q_10 => (some (r1_days, r1_done, r1_things, q_10.1, q_10.2, r1_figures, r1_goes, r1_hampers, r1_kinds, r1_weights)))))))) else (if q_3 = 112 then ((F_Sta_packOrUnpack r1_days r1_hampers q_1 q_2).bind (fun q_12 => (some (r1_days, r1_done, r1_things, r1_fields_lefts, r1_fields_wishes, r1_figures, r1_goes, q_12.2, r1_kinds, r1_weights)))) else (if q_3 = 115 then ((F_Sta_likeliestOn r1_days r1_goes r1_hampers r1_weights q_1).bind (fun q_14 => ((F_Sta_spend r1_done r1_fields_lefts r1_fields_wishes q_14).bind (fun q_15 => (some (r1_days, q_15.2.1, r1_things, q_15.2.2, r1_fields_wishes, r1_figures, r1_goes, r1_hampers, r1_kinds, r1_weights)))))) else (if q_3 = 116 then ((F_Sta_addThing r1_things r1_figures r1_goes r1_kinds q_1 q_2).bind (fun q_17 => (some (r1_days, r1_done, q_17.2.1, r1_fields_lefts, r1_fields_wishes, q_17.2.2.1, q_17.2.2.2.1, r1_hampers, q_17.2.2.2.2, r1_weights)))) else (if q_3 = 119 then ((F_Sta_reweigh r1_weights q_1 q_2).bind (fun q_19 => (some (r1_days, r1_done, r1_things, r1_fields_lefts, r1_fields_wishes, r1_figures, r1_goes, r1_hampers, r1_kinds, q_19)))) else (some (r1_days, r1_done, r1_things, r1_fields_lefts, r1_fields_wishes, r1_figures, r1_goes, r1_hampers, r1_kinds, r1_weights))))))))))))))
set_option maxHeartbeats 4000000 in
set_option maxRecDepth 100000 in
theorem C_Let_bring (l : Launch) (D : va_G) (cI cS : ClassId) (a_r0 : Nat) (a_r0_letters : Nat) (a_r1 : Nat) (a_r1_fields : Nat) (a_r1_fields_lefts : Nat) (a_r1_fields_wishes : Nat) (a_r1_figures : Nat) (a_r1_goes : Nat) (a_r1_hampers : Nat) (a_r1_kinds : Nat) (a_r1_weights : Nat) (r0_count : Int32) (r0_letters : Nat → Int32) (r1_days : Int32) (r1_done : Int32) (r1_things : Int32) (r1_fields_lefts : Nat → Int32) (r1_fields_wishes : Nat → Int32) (r1_figures : Nat → Int32) (r1_goes : Nat → Int32) (r1_hampers : Nat → Int32) (r1_kinds : Nat → Int32) (r1_weights : Nat → Int32) (x2 : Int32) (o : (Int32) × (Int32) × (Int32) × (Nat → Int32) × (Nat → Int32) × (Nat → Int32) × (Nat → Int32) × (Nat → Int32) × (Nat → Int32) × (Nat → Int32)) (hr : F_Let_bring r0_count r0_letters r1_days r1_done r1_things r1_fields_lefts r1_fields_wishes r1_figures r1_goes r1_hampers r1_kinds r1_weights x2 = some o) : ctV l y_Let_bring (Cond.code y_Let_bring b_Let_bring 5 none) (rmd 4) D (kTy cI cS) [.ref a_r0, .ref a_r1, .int x2] (w_Let_bring cI a_r0 a_r0_letters a_r1 a_r1_fields a_r1_fields_lefts a_r1_fields_wishes a_r1_figures a_r1_goes a_r1_hampers a_r1_kinds a_r1_weights r0_count r0_letters r1_days r1_done r1_things r1_fields_lefts r1_fields_wishes r1_figures r1_goes r1_hampers r1_kinds r1_weights) (w_Let_bring cI a_r0 a_r0_letters a_r1 a_r1_fields a_r1_fields_lefts a_r1_fields_wishes a_r1_figures a_r1_goes a_r1_hampers a_r1_kinds a_r1_weights r0_count r0_letters o.1 o.2.1 o.2.2.1 o.2.2.2.1 o.2.2.2.2.1 o.2.2.2.2.2.1 o.2.2.2.2.2.2.1 o.2.2.2.2.2.2.2.1 o.2.2.2.2.2.2.2.2.1 o.2.2.2.2.2.2.2.2.2) := by
  unfold F_Let_bring at hr
  refine ⟨rfl, fun sz => ct_of (w0 := (w_Let_bring cI a_r0 a_r0_letters a_r1 a_r1_fields a_r1_fields_lefts a_r1_fields_wishes a_r1_figures a_r1_goes a_r1_hampers a_r1_kinds a_r1_weights r0_count r0_letters r1_days r1_done r1_things r1_fields_lefts r1_fields_wishes r1_figures r1_goes r1_hampers r1_kinds r1_weights)) (Qc := fun A => qV D (w_Let_bring cI a_r0 a_r0_letters a_r1 a_r1_fields a_r1_fields_lefts a_r1_fields_wishes a_r1_figures a_r1_goes a_r1_hampers a_r1_kinds a_r1_weights r0_count r0_letters o.1 o.2.1 o.2.2.1 o.2.2.2.1 o.2.2.2.2.1 o.2.2.2.2.2.1 o.2.2.2.2.2.2.1 o.2.2.2.2.2.2.2.1 o.2.2.2.2.2.2.2.2.1 o.2.2.2.2.2.2.2.2.2) A) rfl (Nat.le_of_ble_eq_true rfl) ?_ sz⟩
  intro p e s m below meth c A hA C hret ls hl hW
  have C : cx p s m ([.ref a_r0, .ref a_r1, .int x2] : List Value).toArray meth c b_Let_bring 5 R_Let D (kTy cI cS) (Cond.code y_Let_bring b_Let_bring 5 none) := C
  obtain ⟨hx, hb, hml, hown, hts, hK, hlk, hN⟩ := id C
  have hl : lv_has ls 5 [(0, .ref a_r0), (1, .ref a_r1), (2, .int x2)] := hl
  obtain ⟨Q, hQ⟩ : ∃ Q, Q = MQ below (qV D (w_Let_bring cI a_r0 a_r0_letters a_r1 a_r1_fields a_r1_fields_lefts a_r1_fields_wishes a_r1_figures a_r1_goes a_r1_hampers a_r1_kinds a_r1_weights r0_count r0_letters o.1 o.2.1 o.2.2.1 o.2.2.2.1 o.2.2.2.2.1 o.2.2.2.2.2.1 o.2.2.2.2.2.2.1 o.2.2.2.2.2.2.2.1 o.2.2.2.2.2.2.2.2.1 o.2.2.2.2.2.2.2.2.2) A) ([.ref a_r0, .ref a_r1, .int x2] : List Value).toArray s 0 0 A := ⟨_, rfl⟩
  rw [← hQ]
  refine lv_aload_n hx hb d_Let_bring_0 rfl (lv_at hl 0 rfl) ?_
  refine lv_iload_n hx hb d_Let_bring_1 rfl (lv_at hl 2 rfl) ?_
  refine lv_iconst (v := 1) hx hb d_Let_bring_2 (by decide) ?_
  refine lv_iadd hx hb d_Let_bring_3 ?_
  refine lv_iconst (v := 1) hx hb d_Let_bring_4 (by decide) ?_
  obtain ⟨q_1, hc_1, hr⟩ := ob hr
  have ct_1 := C_Let_number l D cI cS a_r0 a_r0_letters r0_count r0_letters (x2 + 1) 1 q_1 hc_1
  refine k_goIp hA hW [0, 1] rfl rfl (k_runV C hA hW mw_Let_number mv_Let_number (ct_1.2 _) [0, 1] rfl rfl 0 rfl rfl qm_Let_44 ⟨Nat.le_of_ble_eq_true rfl, Nat.le_of_ble_eq_true rfl, Nat.zero_le _, Nat.zero_le _⟩ rfl rfl (Nat.le_of_ble_eq_true rfl) hl.1 d_Let_bring_5) (fun H locs hW => ?_)
  refine lv_istore_n (lv' := [(3, .int q_1), (0, .ref a_r0), (1, .ref a_r1), (2, .int x2)]) hx hb d_Let_bring_8 rfl hl (by decide) rfl (fun ls hl => ?_)
  refine lv_aload_n hx hb d_Let_bring_9 rfl (lv_at hl 1 rfl) ?_
  refine lv_iload_n hx hb d_Let_bring_10 rfl (lv_at hl 3 rfl) ?_
  refine lv_iconst (v := 2) hx hb d_Let_bring_11 (by decide) ?_
  refine lv_iadd hx hb d_Let_bring_12 ?_
  refine lv_iconst (v := 1) hx hb d_Let_bring_13 (by decide) ?_
  obtain ⟨q_2, hc_2, hr⟩ := ob hr
  have ct_2 := C_Let_number l D cI cS a_r0 a_r0_letters r0_count r0_letters (x2 + 2) 1 q_2 hc_2
  refine k_goIp hA hW [0, 1] rfl rfl (k_runV C hA hW mw_Let_number mv_Let_number (ct_2.2 _) [0, 1] rfl rfl 0 rfl rfl qm_Let_44 ⟨Nat.le_of_ble_eq_true rfl, Nat.le_of_ble_eq_true rfl, Nat.zero_le _, Nat.zero_le _⟩ rfl rfl (Nat.le_of_ble_eq_true rfl) hl.1 d_Let_bring_14) (fun H locs hW => ?_)
  refine lv_istore (lv' := [(4, .int q_2), (3, .int q_1), (0, .ref a_r0), (1, .ref a_r1), (2, .int x2)]) hx hb d_Let_bring_17 hl (by decide) rfl (fun ls hl => ?_)
  refine lv_aload_n hx hb d_Let_bring_19 rfl (lv_at hl 2 rfl) ?_
  refine lv_iload_n hx hb d_Let_bring_20 rfl (lv_at hl 4 rfl) ?_
  obtain ⟨q_3, hc_3, hr⟩ := ob hr
  have ct_3 := C_Let_letterAt l D cI cS a_r0 a_r0_letters r0_count r0_letters x2 q_3 hc_3
  refine k_goIp hA hW [0, 1] rfl rfl (k_runV C hA hW mw_Let_letterAt mv_Let_letterAt (ct_3.2 _) [0, 1] rfl rfl 0 rfl rfl qm_Let_29 ⟨Nat.le_of_ble_eq_true rfl, Nat.le_of_ble_eq_true rfl, Nat.zero_le _, Nat.zero_le _⟩ rfl rfl (Nat.le_of_ble_eq_true rfl) hl.1 d_Let_bring_21) (fun H locs hW => ?_)
  by_cases c_4 : q_3 = 100
  · replace hr := ip c_4 hr
    refine k_tabIn (tgt := 131) (off := 107) c_4 hx hb d_Let_bring_24 (by decide) (by decide) (by decide) (by decide) ?_
    refine lv_aload_n hx hb d_Let_bring_131 rfl (lv_at hl 3 rfl) ?_
    refine lv_aload_n hx hb d_Let_bring_132 rfl (lv_at hl 2 rfl) ?_
    refine lv_iload_n hx hb d_Let_bring_133 rfl (lv_at hl 4 rfl) ?_
    refine lv_iconst (v := 1) hx hb d_Let_bring_134 (by decide) ?_
    refine lv_iadd hx hb d_Let_bring_135 ?_
    refine lv_iconst (v := 3) hx hb d_Let_bring_136 (by decide) ?_
    obtain ⟨q_5, hc_5, hr⟩ := ob hr
    have ct_5 := C_Let_number l D cI cS a_r0 a_r0_letters r0_count r0_letters (x2 + 1) 3 q_5 hc_5
    refine k_goIp hA hW [0, 1] rfl rfl (k_runV C hA hW mw_Let_number mv_Let_number (ct_5.2 _) [0, 1] rfl rfl 0 rfl rfl qm_Let_44 ⟨Nat.le_of_ble_eq_true rfl, Nat.le_of_ble_eq_true rfl, Nat.zero_le _, Nat.zero_le _⟩ rfl rfl (Nat.le_of_ble_eq_true rfl) hl.1 d_Let_bring_137) (fun H locs hW => ?_)
    obtain ⟨q_6, hc_6, hr⟩ := ob hr
    have ct_6 := C_Sta_addDay l D cI cS a_r1 a_r1_hampers (Value.ref a_r1_weights) (Value.ref a_r1_kinds) (Value.ref a_r1_figures) (Value.ref a_r1_goes) (Value.int r1_things) (Value.ref a_r1_fields) (Value.int r1_done) r1_days r1_hampers q_5 q_6 hc_6
    refine k_goI hA hW [2, 8] rfl ct_6.1 (ws' := (w_Let_bring cI a_r0 a_r0_letters a_r1 a_r1_fields a_r1_fields_lefts a_r1_fields_wishes a_r1_figures a_r1_goes a_r1_hampers a_r1_kinds a_r1_weights r0_count r0_letters q_6.2.1 r1_done r1_things r1_fields_lefts r1_fields_wishes r1_figures r1_goes q_6.2.2 r1_kinds r1_weights)) rfl (k_runV C hA hW mw_Sta_addDay mv_Sta_addDay (ct_6.2 _) [2, 8] rfl rfl 2 rfl rfl qm_Let_72 ⟨Nat.le_of_ble_eq_true rfl, Nat.le_of_ble_eq_true rfl, Nat.zero_le _, Nat.zero_le _⟩ rfl rfl (Nat.le_of_ble_eq_true rfl) hl.1 d_Let_bring_140) (fun H locs hW => ?_)
    refine lv_pop hx hb d_Let_bring_143 rfl ?_
    refine lv_goto (tgt := 208) hx hb d_Let_bring_144 (by decide) ?_
    obtain rfl := Option.some.inj hr
    rw [hQ]; exact k_vret C hret hW d_Let_bring_208
  · replace hr := iN c_4 hr
    by_cases c_7 : q_3 = 102
    · replace hr := ip c_7 hr
      refine k_tabIn (tgt := 157) (off := 133) c_7 hx hb d_Let_bring_24 (by decide) (by decide) (by decide) (by decide) ?_
      refine lv_aload_n hx hb d_Let_bring_157 rfl (lv_at hl 3 rfl) ?_
      refine k_getN i_Sta C hW 2 rfl rfl 7 (by decide) qf_Let_79 rfl rfl d_Let_bring_158 ?_
      refine lv_iload_n hx hb d_Let_bring_161 rfl (lv_at hl 1 rfl) ?_
      refine lv_aload_n hx hb d_Let_bring_162 rfl (lv_at hl 2 rfl) ?_
      refine lv_iload_n hx hb d_Let_bring_163 rfl (lv_at hl 4 rfl) ?_
      refine lv_iconst (v := 2) hx hb d_Let_bring_164 (by decide) ?_
      refine lv_iadd hx hb d_Let_bring_165 ?_
      refine lv_iconst (v := 2) hx hb d_Let_bring_166 (by decide) ?_
      obtain ⟨q_8, hc_8, hr⟩ := ob hr
      have ct_8 := C_Let_number l D cI cS a_r0 a_r0_letters r0_count r0_letters (x2 + 2) 2 q_8 hc_8
      refine k_goIp hA hW [0, 1] rfl rfl (k_runV C hA hW mw_Let_number mv_Let_number (ct_8.2 _) [0, 1] rfl rfl 0 rfl rfl qm_Let_44 ⟨Nat.le_of_ble_eq_true rfl, Nat.le_of_ble_eq_true rfl, Nat.zero_le _, Nat.zero_le _⟩ rfl rfl (Nat.le_of_ble_eq_true rfl) hl.1 d_Let_bring_167) (fun H locs hW => ?_)
      refine lv_aload_n hx hb d_Let_bring_170 rfl (lv_at hl 2 rfl) ?_
      refine lv_iload_n hx hb d_Let_bring_171 rfl (lv_at hl 4 rfl) ?_
      refine lv_iconst (v := 4) hx hb d_Let_bring_172 (by decide) ?_
      refine lv_iadd hx hb d_Let_bring_173 ?_
      refine lv_iconst (v := 1) hx hb d_Let_bring_174 (by decide) ?_
      obtain ⟨q_9, hc_9, hr⟩ := ob hr
      have ct_9 := C_Let_number l D cI cS a_r0 a_r0_letters r0_count r0_letters (x2 + 4) 1 q_9 hc_9
      refine k_goIp hA hW [0, 1] rfl rfl (k_runV C hA hW mw_Let_number mv_Let_number (ct_9.2 _) [0, 1] rfl rfl 0 rfl rfl qm_Let_44 ⟨Nat.le_of_ble_eq_true rfl, Nat.le_of_ble_eq_true rfl, Nat.zero_le _, Nat.zero_le _⟩ rfl rfl (Nat.le_of_ble_eq_true rfl) hl.1 d_Let_bring_175) (fun H locs hW => ?_)
      obtain ⟨q_10, hc_10, hr⟩ := ob hr
      have ct_10 := C_Fld_become l D cI cS a_r1_fields a_r1_fields_lefts a_r1_fields_wishes r1_fields_lefts r1_fields_wishes q_1 q_8 q_9 q_10 hc_10
      refine k_goV hA hW [3, 4, 5] rfl ct_10.1 (ws' := (w_Let_bring cI a_r0 a_r0_letters a_r1 a_r1_fields a_r1_fields_lefts a_r1_fields_wishes a_r1_figures a_r1_goes a_r1_hampers a_r1_kinds a_r1_weights r0_count r0_letters r1_days r1_done r1_things q_10.1 q_10.2 r1_figures r1_goes r1_hampers r1_kinds r1_weights)) rfl (k_runV C hA hW mw_Fld_become mv_Fld_become (ct_10.2 _) [3, 4, 5] rfl rfl 3 rfl rfl qm_Let_83 ⟨Nat.le_of_ble_eq_true rfl, Nat.le_of_ble_eq_true rfl, Nat.zero_le _, Nat.zero_le _⟩ rfl rfl (Nat.le_of_ble_eq_true rfl) hl.1 d_Let_bring_178) (fun H locs hW => ?_)
      refine lv_goto (tgt := 208) hx hb d_Let_bring_181 (by decide) ?_
      obtain rfl := Option.some.inj hr
      rw [hQ]; exact k_vret C hret hW d_Let_bring_208
    · replace hr := iN c_7 hr
      by_cases c_11 : q_3 = 112
      · replace hr := ip c_11 hr
        refine k_tabIn (tgt := 197) (off := 173) c_11 hx hb d_Let_bring_24 (by decide) (by decide) (by decide) (by decide) ?_
        refine lv_aload_n hx hb d_Let_bring_197 rfl (lv_at hl 3 rfl) ?_
        refine lv_iload_n hx hb d_Let_bring_198 rfl (lv_at hl 1 rfl) ?_
        refine lv_iload hx hb d_Let_bring_199 (lv_at hl 0 rfl) ?_
        obtain ⟨q_12, hc_12, hr⟩ := ob hr
        have ct_12 := C_Sta_packOrUnpack l D cI cS a_r1 a_r1_hampers (Value.ref a_r1_weights) (Value.ref a_r1_kinds) (Value.ref a_r1_figures) (Value.ref a_r1_goes) (Value.int r1_things) (Value.ref a_r1_fields) (Value.int r1_done) r1_days r1_hampers q_1 q_2 q_12 hc_12
        refine k_goI hA hW [2, 8] rfl ct_12.1 (ws' := (w_Let_bring cI a_r0 a_r0_letters a_r1 a_r1_fields a_r1_fields_lefts a_r1_fields_wishes a_r1_figures a_r1_goes a_r1_hampers a_r1_kinds a_r1_weights r0_count r0_letters r1_days r1_done r1_things r1_fields_lefts r1_fields_wishes r1_figures r1_goes q_12.2 r1_kinds r1_weights)) rfl (k_runV C hA hW mw_Sta_packOrUnpack mv_Sta_packOrUnpack (ct_12.2 _) [2, 8] rfl rfl 2 rfl rfl qm_Let_93 ⟨Nat.le_of_ble_eq_true rfl, Nat.le_of_ble_eq_true rfl, Nat.zero_le _, Nat.zero_le _⟩ rfl rfl (Nat.le_of_ble_eq_true rfl) hl.1 d_Let_bring_201) (fun H locs hW => ?_)
        refine lv_pop hx hb d_Let_bring_204 rfl ?_
        refine lv_goto (tgt := 208) hx hb d_Let_bring_205 (by decide) ?_
        obtain rfl := Option.some.inj hr
        rw [hQ]; exact k_vret C hret hW d_Let_bring_208
      · replace hr := iN c_11 hr
        by_cases c_13 : q_3 = 115
        · replace hr := ip c_13 hr
          refine k_tabIn (tgt := 184) (off := 160) c_13 hx hb d_Let_bring_24 (by decide) (by decide) (by decide) (by decide) ?_
          refine lv_aload_n hx hb d_Let_bring_184 rfl (lv_at hl 3 rfl) ?_
          refine lv_aload_n hx hb d_Let_bring_185 rfl (lv_at hl 3 rfl) ?_
          refine lv_iload_n hx hb d_Let_bring_186 rfl (lv_at hl 1 rfl) ?_
          obtain ⟨q_14, hc_14, hr⟩ := ob hr
          have ct_14 := C_Sta_likeliestOn l D cI cS a_r1 a_r1_goes a_r1_hampers a_r1_weights (Value.ref a_r1_kinds) (Value.ref a_r1_figures) (Value.int r1_things) (Value.ref a_r1_fields) (Value.int r1_done) r1_days r1_goes r1_hampers r1_weights q_1 q_14 hc_14
          refine k_goIp hA hW [2, 7, 8, 10] rfl rfl (k_runV C hA hW mw_Sta_likeliestOn mv_Sta_likeliestOn (ct_14.2 _) [2, 7, 8, 10] rfl rfl 2 rfl rfl qm_Let_87 ⟨Nat.le_of_ble_eq_true rfl, Nat.le_of_ble_eq_true rfl, Nat.zero_le _, Nat.zero_le _⟩ rfl rfl (Nat.le_of_ble_eq_true rfl) hl.1 d_Let_bring_187) (fun H locs hW => ?_)
          obtain ⟨q_15, hc_15, hr⟩ := ob hr
          have ct_15 := C_Sta_spend l D cI cS a_r1 a_r1_fields a_r1_fields_lefts a_r1_fields_wishes (Value.ref a_r1_weights) (Value.ref a_r1_kinds) (Value.ref a_r1_figures) (Value.ref a_r1_goes) (Value.int r1_things) (Value.ref a_r1_hampers) (Value.int r1_days) r1_done r1_fields_lefts r1_fields_wishes q_14 q_15 hc_15
          refine k_goI hA hW [2, 3, 4, 5] rfl ct_15.1 (ws' := (w_Let_bring cI a_r0 a_r0_letters a_r1 a_r1_fields a_r1_fields_lefts a_r1_fields_wishes a_r1_figures a_r1_goes a_r1_hampers a_r1_kinds a_r1_weights r0_count r0_letters r1_days q_15.2.1 r1_things q_15.2.2 r1_fields_wishes r1_figures r1_goes r1_hampers r1_kinds r1_weights)) rfl (k_runV C hA hW mw_Sta_spend mv_Sta_spend (ct_15.2 _) [2, 3, 4, 5] rfl rfl 2 rfl rfl qm_Let_90 ⟨Nat.le_of_ble_eq_true rfl, Nat.le_of_ble_eq_true rfl, Nat.zero_le _, Nat.zero_le _⟩ rfl rfl (Nat.le_of_ble_eq_true rfl) hl.1 d_Let_bring_190) (fun H locs hW => ?_)
          refine lv_pop hx hb d_Let_bring_193 rfl ?_
          refine lv_goto (tgt := 208) hx hb d_Let_bring_194 (by decide) ?_
          obtain rfl := Option.some.inj hr
          rw [hQ]; exact k_vret C hret hW d_Let_bring_208
        · replace hr := iN c_13 hr
          by_cases c_16 : q_3 = 116
          · replace hr := ip c_16 hr
            refine k_tabIn (tgt := 120) (off := 96) c_16 hx hb d_Let_bring_24 (by decide) (by decide) (by decide) (by decide) ?_
            refine lv_aload_n hx hb d_Let_bring_120 rfl (lv_at hl 3 rfl) ?_
            refine lv_iload_n hx hb d_Let_bring_121 rfl (lv_at hl 1 rfl) ?_
            refine lv_iload hx hb d_Let_bring_122 (lv_at hl 0 rfl) ?_
            obtain ⟨q_17, hc_17, hr⟩ := ob hr
            have ct_17 := C_Sta_addThing l D cI cS a_r1 a_r1_figures a_r1_goes a_r1_kinds (Value.ref a_r1_weights) (Value.ref a_r1_hampers) (Value.int r1_days) (Value.ref a_r1_fields) (Value.int r1_done) r1_things r1_figures r1_goes r1_kinds q_1 q_2 q_17 hc_17
            refine k_goI hA hW [2, 6, 7, 9] rfl ct_17.1 (ws' := (w_Let_bring cI a_r0 a_r0_letters a_r1 a_r1_fields a_r1_fields_lefts a_r1_fields_wishes a_r1_figures a_r1_goes a_r1_hampers a_r1_kinds a_r1_weights r0_count r0_letters r1_days r1_done q_17.2.1 r1_fields_lefts r1_fields_wishes q_17.2.2.1 q_17.2.2.2.1 r1_hampers q_17.2.2.2.2 r1_weights)) rfl (k_runV C hA hW mw_Sta_addThing mv_Sta_addThing (ct_17.2 _) [2, 6, 7, 9] rfl rfl 2 rfl rfl qm_Let_69 ⟨Nat.le_of_ble_eq_true rfl, Nat.le_of_ble_eq_true rfl, Nat.zero_le _, Nat.zero_le _⟩ rfl rfl (Nat.le_of_ble_eq_true rfl) hl.1 d_Let_bring_124) (fun H locs hW => ?_)
            refine lv_pop hx hb d_Let_bring_127 rfl ?_
            refine lv_goto (tgt := 208) hx hb d_Let_bring_128 (by decide) ?_
            obtain rfl := Option.some.inj hr
            rw [hQ]; exact k_vret C hret hW d_Let_bring_208
          · replace hr := iN c_16 hr
            by_cases c_18 : q_3 = 119
            · replace hr := ip c_18 hr
              refine k_tabIn (tgt := 147) (off := 123) c_18 hx hb d_Let_bring_24 (by decide) (by decide) (by decide) (by decide) ?_
              refine lv_aload_n hx hb d_Let_bring_147 rfl (lv_at hl 3 rfl) ?_
              refine lv_iload_n hx hb d_Let_bring_148 rfl (lv_at hl 1 rfl) ?_
              refine lv_iload hx hb d_Let_bring_149 (lv_at hl 0 rfl) ?_
              obtain ⟨q_19, hc_19, hr⟩ := ob hr
              have ct_19 := C_Sta_reweigh l D cI cS a_r1 a_r1_weights (Value.ref a_r1_kinds) (Value.ref a_r1_figures) (Value.ref a_r1_goes) (Value.int r1_things) (Value.ref a_r1_hampers) (Value.int r1_days) (Value.ref a_r1_fields) (Value.int r1_done) r1_weights q_1 q_2 q_19 hc_19
              refine k_goV hA hW [2, 10] rfl ct_19.1 (ws' := (w_Let_bring cI a_r0 a_r0_letters a_r1 a_r1_fields a_r1_fields_lefts a_r1_fields_wishes a_r1_figures a_r1_goes a_r1_hampers a_r1_kinds a_r1_weights r0_count r0_letters r1_days r1_done r1_things r1_fields_lefts r1_fields_wishes r1_figures r1_goes r1_hampers r1_kinds q_19)) rfl (k_runV C hA hW mw_Sta_reweigh mv_Sta_reweigh (ct_19.2 _) [2, 10] rfl rfl 2 rfl rfl qm_Let_75 ⟨Nat.le_of_ble_eq_true rfl, Nat.le_of_ble_eq_true rfl, Nat.zero_le _, Nat.zero_le _⟩ rfl rfl (Nat.le_of_ble_eq_true rfl) hl.1 d_Let_bring_151) (fun H locs hW => ?_)
              refine lv_goto (tgt := 208) hx hb d_Let_bring_154 (by decide) ?_
              obtain rfl := Option.some.inj hr
              rw [hQ]; exact k_vret C hret hW d_Let_bring_208
            · replace hr := iN c_18 hr
              refine k_tabDef (tgt := 208) [100, 102, 112, 115, 116, 119] (by decide +kernel) (by simp only [List.forall_mem_cons]; exact ⟨c_4, c_7, c_11, c_13, c_16, c_18, fun _ h => absurd h List.not_mem_nil⟩) hx hb d_Let_bring_24 (by decide) ?_
              obtain rfl := Option.some.inj hr
              rw [hQ]; exact k_vret C hret hW d_Let_bring_208
def F_Let_digitsBehind (x0 : Int32) : Option (Int32) :=
  (if x0 = 100 then (some 3) else (if x0 = 102 then (some 4) else (if x0 = 112 then (some 2) else (if x0 = 115 then (some 1) else (if x0 = 116 then (some 2) else (if x0 = 119 then (some 2) else (some (-1))))))))
set_option maxHeartbeats 4000000 in
set_option maxRecDepth 100000 in
theorem C_Let_digitsBehind (l : Launch) (D : va_G) (cI cS : ClassId) (x0 : Int32) (o : Int32) (hr : F_Let_digitsBehind x0 = some o) : ctI l y_Let_digitsBehind (Cond.code y_Let_digitsBehind b_Let_digitsBehind 1 (some FieldType.int)) (rmd 0) D (kTy cI cS) [.int x0] [] [] o := by
  unfold F_Let_digitsBehind at hr
  refine ⟨rfl, fun sz => ct_of (w0 := []) (Qc := fun A => qI D [] o A) rfl (Nat.le_of_ble_eq_true rfl) ?_ sz⟩
  intro p e s m below meth c A hA C hret ls hl hW
  have C : cx p s m ([.int x0] : List Value).toArray meth c b_Let_digitsBehind 1 R_Let D (kTy cI cS) (Cond.code y_Let_digitsBehind b_Let_digitsBehind 1 (some FieldType.int)) := C
  obtain ⟨hx, hb, hml, hown, hts, hK, hlk, hN⟩ := id C
  have hl : lv_has ls 1 [(0, .int x0)] := hl
  obtain ⟨Q, hQ⟩ : ∃ Q, Q = MQ below (qI D [] o A) ([.int x0] : List Value).toArray s 0 0 A := ⟨_, rfl⟩
  rw [← hQ]
  refine lv_iload_n hx hb d_Let_digitsBehind_0 rfl (lv_at hl 0 rfl) ?_
  by_cases c_1 : x0 = 100
  · replace hr := ip c_1 hr
    refine k_tabIn (tgt := 100) (off := 99) c_1 hx hb d_Let_digitsBehind_1 (by decide) (by decide) (by decide) (by decide) ?_
    refine lv_iconst (v := 3) hx hb d_Let_digitsBehind_100 (by decide) ?_
    obtain rfl := Option.some.inj hr
    rw [hQ]; exact k_iret C hret hW d_Let_digitsBehind_101
  · replace hr := iN c_1 hr
    by_cases c_2 : x0 = 102
    · replace hr := ip c_2 hr
      refine k_tabIn (tgt := 102) (off := 101) c_2 hx hb d_Let_digitsBehind_1 (by decide) (by decide) (by decide) (by decide) ?_
      refine lv_iconst (v := 4) hx hb d_Let_digitsBehind_102 (by decide) ?_
      obtain rfl := Option.some.inj hr
      rw [hQ]; exact k_iret C hret hW d_Let_digitsBehind_103
    · replace hr := iN c_2 hr
      by_cases c_3 : x0 = 112
      · replace hr := ip c_3 hr
        refine k_tabIn (tgt := 98) (off := 97) c_3 hx hb d_Let_digitsBehind_1 (by decide) (by decide) (by decide) (by decide) ?_
        refine lv_iconst (v := 2) hx hb d_Let_digitsBehind_98 (by decide) ?_
        obtain rfl := Option.some.inj hr
        rw [hQ]; exact k_iret C hret hW d_Let_digitsBehind_99
      · replace hr := iN c_3 hr
        by_cases c_4 : x0 = 115
        · replace hr := ip c_4 hr
          refine k_tabIn (tgt := 96) (off := 95) c_4 hx hb d_Let_digitsBehind_1 (by decide) (by decide) (by decide) (by decide) ?_
          refine lv_iconst (v := 1) hx hb d_Let_digitsBehind_96 (by decide) ?_
          obtain rfl := Option.some.inj hr
          rw [hQ]; exact k_iret C hret hW d_Let_digitsBehind_97
        · replace hr := iN c_4 hr
          by_cases c_5 : x0 = 116
          · replace hr := ip c_5 hr
            refine k_tabIn (tgt := 98) (off := 97) c_5 hx hb d_Let_digitsBehind_1 (by decide) (by decide) (by decide) (by decide) ?_
            refine lv_iconst (v := 2) hx hb d_Let_digitsBehind_98 (by decide) ?_
            obtain rfl := Option.some.inj hr
            rw [hQ]; exact k_iret C hret hW d_Let_digitsBehind_99
          · replace hr := iN c_5 hr
            by_cases c_6 : x0 = 119
            · replace hr := ip c_6 hr
              refine k_tabIn (tgt := 98) (off := 97) c_6 hx hb d_Let_digitsBehind_1 (by decide) (by decide) (by decide) (by decide) ?_
              refine lv_iconst (v := 2) hx hb d_Let_digitsBehind_98 (by decide) ?_
              obtain rfl := Option.some.inj hr
              rw [hQ]; exact k_iret C hret hW d_Let_digitsBehind_99
            · replace hr := iN c_6 hr
              refine k_tabDef (tgt := 104) [100, 102, 112, 115, 116, 119] (by decide +kernel) (by simp only [List.forall_mem_cons]; exact ⟨c_1, c_2, c_3, c_4, c_5, c_6, fun _ h => absurd h List.not_mem_nil⟩) hx hb d_Let_digitsBehind_1 (by decide) ?_
              refine lv_iconst (v := (-1)) hx hb d_Let_digitsBehind_104 (by decide) ?_
              obtain rfl := Option.some.inj hr
              rw [hQ]; exact k_iret C hret hW d_Let_digitsBehind_105
def w_Let_firstUnfit (cI : ClassId) (a_r0 : Nat) (a_r0_letters : Nat) (r0_count : Int32) (r0_letters : Nat → Int32) : va_W := [(a_r0, .inr (5, [.ref a_r0_letters, .int r0_count])), (a_r0_letters, .inl (cI, 96, .inl r0_letters))]
def F_Let_firstUnfit_L4 (r0_count : Int32) (r0_letters : Nat → Int32) (y1_1 : Int32) (y2_1 : Int32) : Option (((Int32) × (Int32)) ⊕ ((((Int32)) ⊕ (Int32)))) :=
  (if r0_count ≤ y2_1 then (some (.inr (.inl y1_1))) else ((F_Let_letterAt r0_count r0_letters y2_1).bind (fun q_3 => (if y1_1 = (-1) then ((F_Let_digitsBehind q_3).bind (fun q_9 => (if q_9 = (-1) then (some (.inr (.inr y2_1))) else (some (.inl (q_9, (y2_1 + 1))))))) else (if y1_1 = 0 then (if q_3 = 59 then (some (.inl ((-1), (y2_1 + 1)))) else (some (.inr (.inr y2_1)))) else (if q_3 < 48 then (some (.inr (.inr y2_1))) else (if q_3 ≤ 57 then (some (.inl ((y1_1 + (-1)), (y2_1 + 1)))) else (some (.inr (.inr y2_1))))))))))
def F_Let_firstUnfit (r0_count : Int32) (r0_letters : Nat → Int32) : Option (Int32) :=
  ((wh (fun (s : (Int32) × (Int32)) => F_Let_firstUnfit_L4 r0_count r0_letters s.1 s.2) 400 (((-1) : Int32), (0 : Int32))).bind (sx (fun e_1 => (if e_1 = (-1) then (if r0_count ≤ 0 then (some r0_count) else (some (-1))) else (some r0_count))) (fun o => some o)))
set_option maxHeartbeats 4000000 in
set_option maxRecDepth 100000 in
theorem C_Let_firstUnfit (l : Launch) (D : va_G) (cI cS : ClassId) (a_r0 : Nat) (a_r0_letters : Nat) (r0_count : Int32) (r0_letters : Nat → Int32) (o : Int32) (hr : F_Let_firstUnfit r0_count r0_letters = some o) : ctI l y_Let_firstUnfit (Cond.code y_Let_firstUnfit b_Let_firstUnfit 4 (some FieldType.int)) (rmd 1) D (kTy cI cS) [.ref a_r0] (w_Let_firstUnfit cI a_r0 a_r0_letters r0_count r0_letters) (w_Let_firstUnfit cI a_r0 a_r0_letters r0_count r0_letters) o := by
  unfold F_Let_firstUnfit at hr
  refine ⟨rfl, fun sz => ct_of (w0 := (w_Let_firstUnfit cI a_r0 a_r0_letters r0_count r0_letters)) (Qc := fun A => qI D (w_Let_firstUnfit cI a_r0 a_r0_letters r0_count r0_letters) o A) rfl (Nat.le_of_ble_eq_true rfl) ?_ sz⟩
  intro p e s m below meth c A hA C hret ls hl hW
  have C : cx p s m ([.ref a_r0] : List Value).toArray meth c b_Let_firstUnfit 4 R_Let D (kTy cI cS) (Cond.code y_Let_firstUnfit b_Let_firstUnfit 4 (some FieldType.int)) := C
  obtain ⟨hx, hb, hml, hown, hts, hK, hlk, hN⟩ := id C
  have hl : lv_has ls 4 [(0, .ref a_r0)] := hl
  obtain ⟨Q, hQ⟩ : ∃ Q, Q = MQ below (qI D (w_Let_firstUnfit cI a_r0 a_r0_letters r0_count r0_letters) o A) ([.ref a_r0] : List Value).toArray s 0 0 A := ⟨_, rfl⟩
  rw [← hQ]
  refine lv_iconst (v := (-1)) hx hb d_Let_firstUnfit_0 (by decide) ?_
  refine lv_istore_n (lv' := [(1, .int (-1)), (0, .ref a_r0)]) hx hb d_Let_firstUnfit_1 rfl hl (by decide) rfl (fun ls hl => ?_)
  refine lv_iconst (v := 0) hx hb d_Let_firstUnfit_2 (by decide) ?_
  refine lv_istore_n (lv' := [(2, .int 0), (1, .int (-1)), (0, .ref a_r0)]) hx hb d_Let_firstUnfit_3 rfl hl (by decide) rfl (fun ls hl => ?_)
  obtain ⟨ex_1, hw_1, hk_1⟩ := ob hr
  have hx_1 : ∀ (e_1 : (Int32)), Sum.inl e_1 = ex_1 → ∀ (H : Heap) (locs : List Loc) (ls : Array Slot), wd A s.heap D (w_Let_firstUnfit cI a_r0 a_r0_letters r0_count r0_letters) H locs → lv_has ls 4 [(0, .ref a_r0), (1, .int e_1)] → W p l e (rmd 1) s m ([.ref a_r0] : List Value).toArray below meth c H locs 0 0 Q (F0 m 75 ls []) := by
    intro e_1 hE H locs ls hW hl
    have hr := sx_l hE.symm hk_1
    refine lv_iload_n hx hb d_Let_firstUnfit_75 rfl (lv_at hl 1 rfl) ?_
    refine lv_iconst (v := (-1)) hx hb d_Let_firstUnfit_76 (by decide) ?_
    refine lv_icmp_ne (tgt := 91) hx hb d_Let_firstUnfit_77 (by decide) (fun c_11 => ?_) (fun c_11 => ?_)
    · replace hr := iN c_11 hr
      refine lv_aload_n hx hb d_Let_firstUnfit_91 rfl (lv_at hl 0 rfl) ?_
      refine k_get i_Let C hW 0 rfl rfl 1 (by decide) qf_Let_15 rfl rfl d_Let_firstUnfit_92 ?_
      obtain rfl := Option.some.inj hr
      rw [hQ]; exact k_iret C hret hW d_Let_firstUnfit_95
    · replace hr := ip c_11 hr
      refine lv_aload_n hx hb d_Let_firstUnfit_80 rfl (lv_at hl 0 rfl) ?_
      refine k_get i_Let C hW 0 rfl rfl 1 (by decide) qf_Let_15 rfl rfl d_Let_firstUnfit_81 ?_
      refine lv_if_le (tgt := 91) hx hb d_Let_firstUnfit_84 (by decide) (fun c_12 => ?_) (fun c_12 => ?_)
      · replace hr := ip c_12 hr
        refine lv_aload_n hx hb d_Let_firstUnfit_91 rfl (lv_at hl 0 rfl) ?_
        refine k_get i_Let C hW 0 rfl rfl 1 (by decide) qf_Let_15 rfl rfl d_Let_firstUnfit_92 ?_
        obtain rfl := Option.some.inj hr
        rw [hQ]; exact k_iret C hret hW d_Let_firstUnfit_95
      · replace hr := iN c_12 hr
        refine lv_iconst (v := (-1)) hx hb d_Let_firstUnfit_87 (by decide) ?_
        refine lv_goto (tgt := 95) hx hb d_Let_firstUnfit_88 (by decide) ?_
        obtain rfl := Option.some.inj hr
        rw [hQ]; exact k_iret C hret hW d_Let_firstUnfit_95
  have hl_1 : ∀ (k : Nat) (y1_1 : Int32) (y2_1 : Int32), wh (fun (s : (Int32) × (Int32)) => F_Let_firstUnfit_L4 r0_count r0_letters s.1 s.2) k (y1_1, y2_1) = some ex_1 → ∀ (H : Heap) (locs : List Loc) (ls : Array Slot), wd A s.heap D (w_Let_firstUnfit cI a_r0 a_r0_letters r0_count r0_letters) H locs → lv_has ls 4 [(0, .ref a_r0), (1, .int y1_1), (2, .int y2_1)] → W p l e (rmd 1) s m ([.ref a_r0] : List Value).toArray below meth c H locs 0 0 Q (F0 m 4 ls []) := by
    intro k
    induction k with
    | zero => intro y1_1 y2_1 hw; exact absurd hw wh_0
    | succ k ih_1 =>
      intro y1_1 y2_1 hw H locs ls hW hl
      obtain ⟨z_1, hr, hz1_1, hz2_1⟩ := wh_s hw
      have hr : F_Let_firstUnfit_L4 r0_count r0_letters y1_1 y2_1 = some z_1 := hr
      unfold F_Let_firstUnfit_L4 at hr
      refine lv_iload_n hx hb d_Let_firstUnfit_4 rfl (lv_at hl 2 rfl) ?_
      refine lv_aload_n hx hb d_Let_firstUnfit_5 rfl (lv_at hl 0 rfl) ?_
      refine k_get i_Let C hW 0 rfl rfl 1 (by decide) qf_Let_15 rfl rfl d_Let_firstUnfit_6 ?_
      refine lv_icmp_ge (tgt := 75) hx hb d_Let_firstUnfit_9 (by decide) (fun c_2 => ?_) (fun c_2 => ?_)
      · replace hr := ip c_2 hr
        exact hx_1 _ (hz2_1 _ (Option.some.inj hr).symm) _ _ _ hW (lv_sub hl [0, 1] rfl)
      · replace hr := iN c_2 hr
        refine lv_aload_n hx hb d_Let_firstUnfit_12 rfl (lv_at hl 0 rfl) ?_
        refine lv_iload_n hx hb d_Let_firstUnfit_13 rfl (lv_at hl 2 rfl) ?_
        obtain ⟨q_3, hc_3, hr⟩ := ob hr
        have ct_3 := C_Let_letterAt l D cI cS a_r0 a_r0_letters r0_count r0_letters y2_1 q_3 hc_3
        refine k_goIp hA hW [0, 1] rfl rfl (k_runV C hA hW mw_Let_letterAt mv_Let_letterAt (ct_3.2 _) [0, 1] rfl rfl 0 rfl rfl qm_Let_29 ⟨Nat.le_of_ble_eq_true rfl, Nat.le_of_ble_eq_true rfl, Nat.zero_le _, Nat.zero_le _⟩ rfl rfl (Nat.le_of_ble_eq_true rfl) hl.1 d_Let_firstUnfit_14) (fun H locs hW => ?_)
        refine lv_istore_n (lv' := [(3, .int q_3), (0, .ref a_r0), (1, .int y1_1), (2, .int y2_1)]) hx hb d_Let_firstUnfit_17 rfl hl (by decide) rfl (fun ls hl => ?_)
        refine lv_iload_n hx hb d_Let_firstUnfit_18 rfl (lv_at hl 2 rfl) ?_
        refine lv_iconst (v := (-1)) hx hb d_Let_firstUnfit_19 (by decide) ?_
        refine lv_icmp_ne (tgt := 35) hx hb d_Let_firstUnfit_20 (by decide) (fun c_4 => ?_) (fun c_4 => ?_)
        · replace hr := iN c_4 hr
          refine lv_iload_n hx hb d_Let_firstUnfit_35 rfl (lv_at hl 2 rfl) ?_
          refine lv_if_ne (tgt := 52) hx hb d_Let_firstUnfit_36 (by decide) (fun c_5 => ?_) (fun c_5 => ?_)
          · replace hr := iN c_5 hr
            refine lv_iload_n hx hb d_Let_firstUnfit_52 rfl (lv_at hl 0 rfl) ?_
            refine lv_bipush (v := 48) hx hb d_Let_firstUnfit_53 (by decide) ?_
            refine lv_icmp_lt (tgt := 64) hx hb d_Let_firstUnfit_55 (by decide) (fun c_6 => ?_) (fun c_6 => ?_)
            · replace hr := ip c_6 hr
              refine lv_iload_n hx hb d_Let_firstUnfit_64 rfl (lv_at hl 3 rfl) ?_
              have hr := sx_r (hz2_1 _ (Option.some.inj hr).symm).symm hk_1
              obtain rfl := Option.some.inj hr
              rw [hQ]; exact k_iret C hret hW d_Let_firstUnfit_65
            · replace hr := iN c_6 hr
              refine lv_iload_n hx hb d_Let_firstUnfit_58 rfl (lv_at hl 0 rfl) ?_
              refine lv_bipush (v := 57) hx hb d_Let_firstUnfit_59 (by decide) ?_
              refine lv_icmp_le (tgt := 66) hx hb d_Let_firstUnfit_61 (by decide) (fun c_7 => ?_) (fun c_7 => ?_)
              · replace hr := ip c_7 hr
                refine lv_iinc (v := (y1_1 + (-1))) (lv' := [(1, .int (y1_1 + (-1))), (3, .int q_3), (0, .ref a_r0), (2, .int y2_1)]) hx hb d_Let_firstUnfit_66 hl (k := 2) rfl rfl (by decide) rfl (fun ls hl => ?_)
                refine lv_iinc (v := (y2_1 + 1)) (lv' := [(2, .int (y2_1 + 1)), (1, .int (y1_1 + (-1))), (3, .int q_3), (0, .ref a_r0)]) hx hb d_Let_firstUnfit_69 hl (k := 3) rfl rfl (by decide) rfl (fun ls hl => ?_)
                refine lv_goto (tgt := 4) hx hb d_Let_firstUnfit_72 (by decide) ?_
                exact ih_1 (y1_1 + (-1)) (y2_1 + 1) (hz1_1 _ (Option.some.inj hr).symm) _ _ _ hW (lv_sub hl [3, 1, 0] rfl)
              · replace hr := iN c_7 hr
                refine lv_iload_n hx hb d_Let_firstUnfit_64 rfl (lv_at hl 3 rfl) ?_
                have hr := sx_r (hz2_1 _ (Option.some.inj hr).symm).symm hk_1
                obtain rfl := Option.some.inj hr
                rw [hQ]; exact k_iret C hret hW d_Let_firstUnfit_65
          · replace hr := ip c_5 hr
            refine lv_iload_n hx hb d_Let_firstUnfit_39 rfl (lv_at hl 0 rfl) ?_
            refine lv_bipush (v := 59) hx hb d_Let_firstUnfit_40 (by decide) ?_
            refine lv_icmp_eq (tgt := 47) hx hb d_Let_firstUnfit_42 (by decide) (fun c_8 => ?_) (fun c_8 => ?_)
            · replace hr := ip c_8 hr
              refine lv_iconst (v := (-1)) hx hb d_Let_firstUnfit_47 (by decide) ?_
              refine lv_istore_n (lv' := [(1, .int (-1)), (3, .int q_3), (0, .ref a_r0), (2, .int y2_1)]) hx hb d_Let_firstUnfit_48 rfl hl (by decide) rfl (fun ls hl => ?_)
              refine lv_goto (tgt := 69) hx hb d_Let_firstUnfit_49 (by decide) ?_
              refine lv_iinc (v := (y2_1 + 1)) (lv' := [(2, .int (y2_1 + 1)), (1, .int (-1)), (3, .int q_3), (0, .ref a_r0)]) hx hb d_Let_firstUnfit_69 hl (k := 3) rfl rfl (by decide) rfl (fun ls hl => ?_)
              refine lv_goto (tgt := 4) hx hb d_Let_firstUnfit_72 (by decide) ?_
              exact ih_1 (-1) (y2_1 + 1) (hz1_1 _ (Option.some.inj hr).symm) _ _ _ hW (lv_sub hl [3, 1, 0] rfl)
            · replace hr := iN c_8 hr
              refine lv_iload_n hx hb d_Let_firstUnfit_45 rfl (lv_at hl 3 rfl) ?_
              have hr := sx_r (hz2_1 _ (Option.some.inj hr).symm).symm hk_1
              obtain rfl := Option.some.inj hr
              rw [hQ]; exact k_iret C hret hW d_Let_firstUnfit_46
        · replace hr := ip c_4 hr
          refine lv_iload_n hx hb d_Let_firstUnfit_23 rfl (lv_at hl 0 rfl) ?_
          obtain ⟨q_9, hc_9, hr⟩ := ob hr
          have ct_9 := C_Let_digitsBehind l D cI cS q_3 q_9 hc_9
          refine k_goIp hA hW [] rfl rfl (k_runS C hA hW mw_Let_digitsBehind ms_Let_digitsBehind (ct_9.2 _) [] rfl rfl qm_Let_41 ⟨Nat.le_of_ble_eq_true rfl, Nat.le_of_ble_eq_true rfl, Nat.zero_le _, Nat.zero_le _⟩ rfl rfl (Nat.le_of_ble_eq_true rfl) hl.1 d_Let_firstUnfit_24) (fun H locs hW => ?_)
          refine lv_istore_n (lv' := [(1, .int q_9), (3, .int q_3), (0, .ref a_r0), (2, .int y2_1)]) hx hb d_Let_firstUnfit_27 rfl hl (by decide) rfl (fun ls hl => ?_)
          refine lv_iload_n hx hb d_Let_firstUnfit_28 rfl (lv_at hl 0 rfl) ?_
          refine lv_iconst (v := (-1)) hx hb d_Let_firstUnfit_29 (by decide) ?_
          refine lv_icmp_ne (tgt := 69) hx hb d_Let_firstUnfit_30 (by decide) (fun c_10 => ?_) (fun c_10 => ?_)
          · replace hr := iN c_10 hr
            refine lv_iinc (v := (y2_1 + 1)) (lv' := [(2, .int (y2_1 + 1)), (1, .int q_9), (3, .int q_3), (0, .ref a_r0)]) hx hb d_Let_firstUnfit_69 hl (k := 3) rfl rfl (by decide) rfl (fun ls hl => ?_)
            refine lv_goto (tgt := 4) hx hb d_Let_firstUnfit_72 (by decide) ?_
            exact ih_1 q_9 (y2_1 + 1) (hz1_1 _ (Option.some.inj hr).symm) _ _ _ hW (lv_sub hl [3, 1, 0] rfl)
          · replace hr := ip c_10 hr
            refine lv_iload_n hx hb d_Let_firstUnfit_33 rfl (lv_at hl 3 rfl) ?_
            have hr := sx_r (hz2_1 _ (Option.some.inj hr).symm).symm hk_1
            obtain rfl := Option.some.inj hr
            rw [hQ]; exact k_iret C hret hW d_Let_firstUnfit_34
  exact hl_1 _ (-1) 0 hw_1 _ _ _ hW (lv_sub hl [2, 1, 0] rfl)
def w_Sta_dayRefusal (cI : ClassId) (a_r0 : Nat) (v_r0_weights v_r0_kinds v_r0_figures v_r0_goes v_r0_hampers v_r0_fields v_r0_done : Value) (r0_days : Int32) (r0_things : Int32) : va_W := [(a_r0, .inr (1, [v_r0_weights, v_r0_kinds, v_r0_figures, v_r0_goes, .int r0_things, v_r0_hampers, .int r0_days, v_r0_fields, v_r0_done]))]
def F_Sta_dayRefusal (r0_days : Int32) (r0_things : Int32) (x1 : Int32) : Option (Int32) :=
  (if (0 : Int32) ≤ x1 then ((F_Sta_allThings r0_things).bind (fun q_2 => (if q_2 < x1 then (some (-6)) else (if r0_days < 8 then (some 0) else (some (-6)))))) else (some (-4)))
set_option maxHeartbeats 4000000 in
set_option maxRecDepth 100000 in
theorem C_Sta_dayRefusal (l : Launch) (D : va_G) (cI cS : ClassId) (a_r0 : Nat) (v_r0_weights v_r0_kinds v_r0_figures v_r0_goes v_r0_hampers v_r0_fields v_r0_done : Value) (r0_days : Int32) (r0_things : Int32) (x1 : Int32) (o : Int32) (hr : F_Sta_dayRefusal r0_days r0_things x1 = some o) : ctI l y_Sta_dayRefusal (Cond.code y_Sta_dayRefusal b_Sta_dayRefusal 2 (some FieldType.int)) (rmd 1) D (kTy cI cS) [.ref a_r0, .int x1] (w_Sta_dayRefusal cI a_r0 v_r0_weights v_r0_kinds v_r0_figures v_r0_goes v_r0_hampers v_r0_fields v_r0_done r0_days r0_things) (w_Sta_dayRefusal cI a_r0 v_r0_weights v_r0_kinds v_r0_figures v_r0_goes v_r0_hampers v_r0_fields v_r0_done r0_days r0_things) o := by
  unfold F_Sta_dayRefusal at hr
  refine ⟨rfl, fun sz => ct_of (w0 := (w_Sta_dayRefusal cI a_r0 v_r0_weights v_r0_kinds v_r0_figures v_r0_goes v_r0_hampers v_r0_fields v_r0_done r0_days r0_things)) (Qc := fun A => qI D (w_Sta_dayRefusal cI a_r0 v_r0_weights v_r0_kinds v_r0_figures v_r0_goes v_r0_hampers v_r0_fields v_r0_done r0_days r0_things) o A) rfl (Nat.le_of_ble_eq_true rfl) ?_ sz⟩
  intro p e s m below meth c A hA C hret ls hl hW
  have C : cx p s m ([.ref a_r0, .int x1] : List Value).toArray meth c b_Sta_dayRefusal 2 R_Sta D (kTy cI cS) (Cond.code y_Sta_dayRefusal b_Sta_dayRefusal 2 (some FieldType.int)) := C
  obtain ⟨hx, hb, hml, hown, hts, hK, hlk, hN⟩ := id C
  have hl : lv_has ls 2 [(0, .ref a_r0), (1, .int x1)] := hl
  obtain ⟨Q, hQ⟩ : ∃ Q, Q = MQ below (qI D (w_Sta_dayRefusal cI a_r0 v_r0_weights v_r0_kinds v_r0_figures v_r0_goes v_r0_hampers v_r0_fields v_r0_done r0_days r0_things) o A) ([.ref a_r0, .int x1] : List Value).toArray s 0 0 A := ⟨_, rfl⟩
  rw [← hQ]
  refine lv_iload_n hx hb d_Sta_dayRefusal_0 rfl (lv_at hl 1 rfl) ?_
  refine lv_if_ge (tgt := 7) hx hb d_Sta_dayRefusal_1 (by decide) (fun c_1 => ?_) (fun c_1 => ?_)
  · replace hr := ip c_1 hr
    refine lv_iload_n hx hb d_Sta_dayRefusal_7 rfl (lv_at hl 1 rfl) ?_
    refine lv_aload_n hx hb d_Sta_dayRefusal_8 rfl (lv_at hl 0 rfl) ?_
    obtain ⟨q_2, hc_2, hr⟩ := ob hr
    have ct_2 := C_Sta_allThings l D cI cS a_r0 v_r0_weights v_r0_kinds v_r0_figures v_r0_goes v_r0_hampers (Value.int r0_days) v_r0_fields v_r0_done r0_things q_2 hc_2
    refine k_goIp hA hW [0] rfl rfl (k_runV C hA hW mw_Sta_allThings mv_Sta_allThings (ct_2.2 _) [0] rfl rfl 0 rfl rfl qm_Sta_57 ⟨Nat.le_of_ble_eq_true rfl, Nat.le_of_ble_eq_true rfl, Nat.zero_le _, Nat.zero_le _⟩ rfl rfl (Nat.le_of_ble_eq_true rfl) hl.1 d_Sta_dayRefusal_9) (fun H locs hW => ?_)
    refine lv_icmp_gt (tgt := 24) hx hb d_Sta_dayRefusal_12 (by decide) (fun c_3 => ?_) (fun c_3 => ?_)
    · replace hr := ip c_3 hr
      refine lv_bipush (v := (-6)) hx hb d_Sta_dayRefusal_24 (by decide) ?_
      refine lv_goto (tgt := 30) hx hb d_Sta_dayRefusal_26 (by decide) ?_
      obtain rfl := Option.some.inj hr
      rw [hQ]; exact k_iret C hret hW d_Sta_dayRefusal_30
    · replace hr := iN c_3 hr
      refine lv_aload_n hx hb d_Sta_dayRefusal_15 rfl (lv_at hl 0 rfl) ?_
      refine k_get i_Sta C hW 0 rfl rfl 6 (by decide) qf_Sta_47 rfl rfl d_Sta_dayRefusal_16 ?_
      refine lv_bipush (v := 8) hx hb d_Sta_dayRefusal_19 (by decide) ?_
      refine lv_icmp_lt (tgt := 29) hx hb d_Sta_dayRefusal_21 (by decide) (fun c_4 => ?_) (fun c_4 => ?_)
      · replace hr := ip c_4 hr
        refine lv_iconst (v := 0) hx hb d_Sta_dayRefusal_29 (by decide) ?_
        obtain rfl := Option.some.inj hr
        rw [hQ]; exact k_iret C hret hW d_Sta_dayRefusal_30
      · replace hr := iN c_4 hr
        refine lv_bipush (v := (-6)) hx hb d_Sta_dayRefusal_24 (by decide) ?_
        refine lv_goto (tgt := 30) hx hb d_Sta_dayRefusal_26 (by decide) ?_
        obtain rfl := Option.some.inj hr
        rw [hQ]; exact k_iret C hret hW d_Sta_dayRefusal_30
  · replace hr := iN c_1 hr
    refine lv_bipush (v := (-4)) hx hb d_Sta_dayRefusal_4 (by decide) ?_
    obtain rfl := Option.some.inj hr
    rw [hQ]; exact k_iret C hret hW d_Sta_dayRefusal_6
def w_Sta_hasThing (cI : ClassId) (a_r0 : Nat) (v_r0_weights v_r0_kinds v_r0_figures v_r0_goes v_r0_hampers v_r0_days v_r0_fields v_r0_done : Value) (r0_things : Int32) : va_W := [(a_r0, .inr (1, [v_r0_weights, v_r0_kinds, v_r0_figures, v_r0_goes, .int r0_things, v_r0_hampers, v_r0_days, v_r0_fields, v_r0_done]))]
def F_Sta_hasThing (r0_things : Int32) (x1 : Int32) : Option (Int32) :=
  (if x1 < 0 then (some 0) else (if r0_things ≤ x1 then (some 0) else (if (8 : Int32) ≤ x1 then (some 0) else (some 1))))
set_option maxHeartbeats 4000000 in
set_option maxRecDepth 100000 in
theorem C_Sta_hasThing (l : Launch) (D : va_G) (cI cS : ClassId) (a_r0 : Nat) (v_r0_weights v_r0_kinds v_r0_figures v_r0_goes v_r0_hampers v_r0_days v_r0_fields v_r0_done : Value) (r0_things : Int32) (x1 : Int32) (o : Int32) (hr : F_Sta_hasThing r0_things x1 = some o) : ctI l y_Sta_hasThing (Cond.code y_Sta_hasThing b_Sta_hasThing 2 (some FieldType.boolean)) (rmd 0) D (kTy cI cS) [.ref a_r0, .int x1] (w_Sta_hasThing cI a_r0 v_r0_weights v_r0_kinds v_r0_figures v_r0_goes v_r0_hampers v_r0_days v_r0_fields v_r0_done r0_things) (w_Sta_hasThing cI a_r0 v_r0_weights v_r0_kinds v_r0_figures v_r0_goes v_r0_hampers v_r0_days v_r0_fields v_r0_done r0_things) o := by
  unfold F_Sta_hasThing at hr
  refine ⟨rfl, fun sz => ct_of (w0 := (w_Sta_hasThing cI a_r0 v_r0_weights v_r0_kinds v_r0_figures v_r0_goes v_r0_hampers v_r0_days v_r0_fields v_r0_done r0_things)) (Qc := fun A => qI D (w_Sta_hasThing cI a_r0 v_r0_weights v_r0_kinds v_r0_figures v_r0_goes v_r0_hampers v_r0_days v_r0_fields v_r0_done r0_things) o A) rfl (Nat.le_of_ble_eq_true rfl) ?_ sz⟩
  intro p e s m below meth c A hA C hret ls hl hW
  have C : cx p s m ([.ref a_r0, .int x1] : List Value).toArray meth c b_Sta_hasThing 2 R_Sta D (kTy cI cS) (Cond.code y_Sta_hasThing b_Sta_hasThing 2 (some FieldType.boolean)) := C
  obtain ⟨hx, hb, hml, hown, hts, hK, hlk, hN⟩ := id C
  have hl : lv_has ls 2 [(0, .ref a_r0), (1, .int x1)] := hl
  obtain ⟨Q, hQ⟩ : ∃ Q, Q = MQ below (qI D (w_Sta_hasThing cI a_r0 v_r0_weights v_r0_kinds v_r0_figures v_r0_goes v_r0_hampers v_r0_days v_r0_fields v_r0_done r0_things) o A) ([.ref a_r0, .int x1] : List Value).toArray s 0 0 A := ⟨_, rfl⟩
  rw [← hQ]
  refine lv_iload_n hx hb d_Sta_hasThing_0 rfl (lv_at hl 1 rfl) ?_
  refine lv_if_lt (tgt := 22) hx hb d_Sta_hasThing_1 (by decide) (fun c_1 => ?_) (fun c_1 => ?_)
  · replace hr := ip c_1 hr
    refine lv_iconst (v := 0) hx hb d_Sta_hasThing_22 (by decide) ?_
    obtain rfl := Option.some.inj hr
    rw [hQ]; exact k_zret C hret nar0 hW d_Sta_hasThing_23
  · replace hr := iN c_1 hr
    refine lv_iload_n hx hb d_Sta_hasThing_4 rfl (lv_at hl 1 rfl) ?_
    refine lv_aload_n hx hb d_Sta_hasThing_5 rfl (lv_at hl 0 rfl) ?_
    refine k_get i_Sta C hW 0 rfl rfl 4 (by decide) qf_Sta_43 rfl rfl d_Sta_hasThing_6 ?_
    refine lv_icmp_ge (tgt := 22) hx hb d_Sta_hasThing_9 (by decide) (fun c_2 => ?_) (fun c_2 => ?_)
    · replace hr := ip c_2 hr
      refine lv_iconst (v := 0) hx hb d_Sta_hasThing_22 (by decide) ?_
      obtain rfl := Option.some.inj hr
      rw [hQ]; exact k_zret C hret nar0 hW d_Sta_hasThing_23
    · replace hr := iN c_2 hr
      refine lv_iload_n hx hb d_Sta_hasThing_12 rfl (lv_at hl 1 rfl) ?_
      refine lv_bipush (v := 8) hx hb d_Sta_hasThing_13 (by decide) ?_
      refine lv_icmp_ge (tgt := 22) hx hb d_Sta_hasThing_15 (by decide) (fun c_3 => ?_) (fun c_3 => ?_)
      · replace hr := ip c_3 hr
        refine lv_iconst (v := 0) hx hb d_Sta_hasThing_22 (by decide) ?_
        obtain rfl := Option.some.inj hr
        rw [hQ]; exact k_zret C hret nar0 hW d_Sta_hasThing_23
      · replace hr := iN c_3 hr
        refine lv_iconst (v := 1) hx hb d_Sta_hasThing_18 (by decide) ?_
        refine lv_goto (tgt := 23) hx hb d_Sta_hasThing_19 (by decide) ?_
        obtain rfl := Option.some.inj hr
        rw [hQ]; exact k_zret C hret nar1 hW d_Sta_hasThing_23
def w_Sta_packRefusal (cI : ClassId) (a_r0 : Nat) (v_r0_weights v_r0_kinds v_r0_figures v_r0_goes v_r0_hampers v_r0_fields v_r0_done : Value) (r0_days : Int32) (r0_things : Int32) : va_W := [(a_r0, .inr (1, [v_r0_weights, v_r0_kinds, v_r0_figures, v_r0_goes, .int r0_things, v_r0_hampers, .int r0_days, v_r0_fields, v_r0_done]))]
def F_Sta_packRefusal (r0_days : Int32) (r0_things : Int32) (x1 : Int32) (x2 : Int32) : Option (Int32) :=
  ((F_Sta_hasDay r0_days x1).bind (fun q_1 => (if q_1 = 0 then (some (-1)) else ((F_Sta_hasThing r0_things x2).bind (fun q_3 => (if q_3 = 0 then (some (-1)) else (some 0)))))))
set_option maxHeartbeats 4000000 in
set_option maxRecDepth 100000 in
theorem C_Sta_packRefusal (l : Launch) (D : va_G) (cI cS : ClassId) (a_r0 : Nat) (v_r0_weights v_r0_kinds v_r0_figures v_r0_goes v_r0_hampers v_r0_fields v_r0_done : Value) (r0_days : Int32) (r0_things : Int32) (x1 : Int32) (x2 : Int32) (o : Int32) (hr : F_Sta_packRefusal r0_days r0_things x1 x2 = some o) : ctI l y_Sta_packRefusal (Cond.code y_Sta_packRefusal b_Sta_packRefusal 3 (some FieldType.int)) (rmd 1) D (kTy cI cS) [.ref a_r0, .int x1, .int x2] (w_Sta_packRefusal cI a_r0 v_r0_weights v_r0_kinds v_r0_figures v_r0_goes v_r0_hampers v_r0_fields v_r0_done r0_days r0_things) (w_Sta_packRefusal cI a_r0 v_r0_weights v_r0_kinds v_r0_figures v_r0_goes v_r0_hampers v_r0_fields v_r0_done r0_days r0_things) o := by
  unfold F_Sta_packRefusal at hr
  refine ⟨rfl, fun sz => ct_of (w0 := (w_Sta_packRefusal cI a_r0 v_r0_weights v_r0_kinds v_r0_figures v_r0_goes v_r0_hampers v_r0_fields v_r0_done r0_days r0_things)) (Qc := fun A => qI D (w_Sta_packRefusal cI a_r0 v_r0_weights v_r0_kinds v_r0_figures v_r0_goes v_r0_hampers v_r0_fields v_r0_done r0_days r0_things) o A) rfl (Nat.le_of_ble_eq_true rfl) ?_ sz⟩
  intro p e s m below meth c A hA C hret ls hl hW
  have C : cx p s m ([.ref a_r0, .int x1, .int x2] : List Value).toArray meth c b_Sta_packRefusal 3 R_Sta D (kTy cI cS) (Cond.code y_Sta_packRefusal b_Sta_packRefusal 3 (some FieldType.int)) := C
  obtain ⟨hx, hb, hml, hown, hts, hK, hlk, hN⟩ := id C
  have hl : lv_has ls 3 [(0, .ref a_r0), (1, .int x1), (2, .int x2)] := hl
  obtain ⟨Q, hQ⟩ : ∃ Q, Q = MQ below (qI D (w_Sta_packRefusal cI a_r0 v_r0_weights v_r0_kinds v_r0_figures v_r0_goes v_r0_hampers v_r0_fields v_r0_done r0_days r0_things) o A) ([.ref a_r0, .int x1, .int x2] : List Value).toArray s 0 0 A := ⟨_, rfl⟩
  rw [← hQ]
  refine lv_aload_n hx hb d_Sta_packRefusal_0 rfl (lv_at hl 0 rfl) ?_
  refine lv_iload_n hx hb d_Sta_packRefusal_1 rfl (lv_at hl 1 rfl) ?_
  obtain ⟨q_1, hc_1, hr⟩ := ob hr
  have ct_1 := C_Sta_hasDay l D cI cS a_r0 v_r0_weights v_r0_kinds v_r0_figures v_r0_goes (Value.int r0_things) v_r0_hampers v_r0_fields v_r0_done r0_days x1 q_1 hc_1
  refine k_goIp hA hW [0] rfl rfl (k_runV C hA hW mw_Sta_hasDay mv_Sta_hasDay (ct_1.2 _) [0] rfl rfl 0 rfl rfl qm_Sta_65 ⟨Nat.le_of_ble_eq_true rfl, Nat.le_of_ble_eq_true rfl, Nat.zero_le _, Nat.zero_le _⟩ rfl rfl (Nat.le_of_ble_eq_true rfl) hl.1 d_Sta_packRefusal_2) (fun H locs hW => ?_)
  refine lv_if_eq (tgt := 20) hx hb d_Sta_packRefusal_5 (by decide) (fun c_2 => ?_) (fun c_2 => ?_)
  · replace hr := ip c_2 hr
    refine lv_iconst (v := (-1)) hx hb d_Sta_packRefusal_20 (by decide) ?_
    obtain rfl := Option.some.inj hr
    rw [hQ]; exact k_iret C hret hW d_Sta_packRefusal_21
  · replace hr := iN c_2 hr
    refine lv_aload_n hx hb d_Sta_packRefusal_8 rfl (lv_at hl 0 rfl) ?_
    refine lv_iload_n hx hb d_Sta_packRefusal_9 rfl (lv_at hl 2 rfl) ?_
    obtain ⟨q_3, hc_3, hr⟩ := ob hr
    have ct_3 := C_Sta_hasThing l D cI cS a_r0 v_r0_weights v_r0_kinds v_r0_figures v_r0_goes v_r0_hampers (Value.int r0_days) v_r0_fields v_r0_done r0_things x2 q_3 hc_3
    refine k_goIp hA hW [0] rfl rfl (k_runV C hA hW mw_Sta_hasThing mv_Sta_hasThing (ct_3.2 _) [0] rfl rfl 0 rfl rfl qm_Sta_68 ⟨Nat.le_of_ble_eq_true rfl, Nat.le_of_ble_eq_true rfl, Nat.zero_le _, Nat.zero_le _⟩ rfl rfl (Nat.le_of_ble_eq_true rfl) hl.1 d_Sta_packRefusal_10) (fun H locs hW => ?_)
    refine lv_if_eq (tgt := 20) hx hb d_Sta_packRefusal_13 (by decide) (fun c_4 => ?_) (fun c_4 => ?_)
    · replace hr := ip c_4 hr
      refine lv_iconst (v := (-1)) hx hb d_Sta_packRefusal_20 (by decide) ?_
      obtain rfl := Option.some.inj hr
      rw [hQ]; exact k_iret C hret hW d_Sta_packRefusal_21
    · replace hr := iN c_4 hr
      refine lv_iconst (v := 0) hx hb d_Sta_packRefusal_16 (by decide) ?_
      refine lv_goto (tgt := 21) hx hb d_Sta_packRefusal_17 (by decide) ?_
      obtain rfl := Option.some.inj hr
      rw [hQ]; exact k_iret C hret hW d_Sta_packRefusal_21
def w_Sta_spendRefusal (cI : ClassId) (a_r0 : Nat) (v_r0_weights v_r0_kinds v_r0_figures v_r0_goes v_r0_things v_r0_hampers v_r0_fields v_r0_done : Value) (r0_days : Int32) : va_W := [(a_r0, .inr (1, [v_r0_weights, v_r0_kinds, v_r0_figures, v_r0_goes, v_r0_things, v_r0_hampers, .int r0_days, v_r0_fields, v_r0_done]))]
def F_Sta_spendRefusal (r0_days : Int32) (x1 : Int32) (x2 : Int32) : Option (Int32) :=
  ((F_Sta_hasDay r0_days x1).bind (fun q_1 => (if q_1 = 0 then (some (-1)) else ((F_H_isWeather x2).bind (fun q_3 => (if q_3 = 0 then (if x2 = 9 then (some 0) else (some (-1))) else (some 0)))))))
set_option maxHeartbeats 4000000 in
set_option maxRecDepth 100000 in
theorem C_Sta_spendRefusal (l : Launch) (D : va_G) (cI cS : ClassId) (a_r0 : Nat) (v_r0_weights v_r0_kinds v_r0_figures v_r0_goes v_r0_things v_r0_hampers v_r0_fields v_r0_done : Value) (r0_days : Int32) (x1 : Int32) (x2 : Int32) (o : Int32) (hr : F_Sta_spendRefusal r0_days x1 x2 = some o) : ctI l y_Sta_spendRefusal (Cond.code y_Sta_spendRefusal b_Sta_spendRefusal 3 (some FieldType.int)) (rmd 1) D (kTy cI cS) [.ref a_r0, .int x1, .int x2] (w_Sta_spendRefusal cI a_r0 v_r0_weights v_r0_kinds v_r0_figures v_r0_goes v_r0_things v_r0_hampers v_r0_fields v_r0_done r0_days) (w_Sta_spendRefusal cI a_r0 v_r0_weights v_r0_kinds v_r0_figures v_r0_goes v_r0_things v_r0_hampers v_r0_fields v_r0_done r0_days) o := by
  unfold F_Sta_spendRefusal at hr
  refine ⟨rfl, fun sz => ct_of (w0 := (w_Sta_spendRefusal cI a_r0 v_r0_weights v_r0_kinds v_r0_figures v_r0_goes v_r0_things v_r0_hampers v_r0_fields v_r0_done r0_days)) (Qc := fun A => qI D (w_Sta_spendRefusal cI a_r0 v_r0_weights v_r0_kinds v_r0_figures v_r0_goes v_r0_things v_r0_hampers v_r0_fields v_r0_done r0_days) o A) rfl (Nat.le_of_ble_eq_true rfl) ?_ sz⟩
  intro p e s m below meth c A hA C hret ls hl hW
  have C : cx p s m ([.ref a_r0, .int x1, .int x2] : List Value).toArray meth c b_Sta_spendRefusal 3 R_Sta D (kTy cI cS) (Cond.code y_Sta_spendRefusal b_Sta_spendRefusal 3 (some FieldType.int)) := C
  obtain ⟨hx, hb, hml, hown, hts, hK, hlk, hN⟩ := id C
  have hl : lv_has ls 3 [(0, .ref a_r0), (1, .int x1), (2, .int x2)] := hl
  obtain ⟨Q, hQ⟩ : ∃ Q, Q = MQ below (qI D (w_Sta_spendRefusal cI a_r0 v_r0_weights v_r0_kinds v_r0_figures v_r0_goes v_r0_things v_r0_hampers v_r0_fields v_r0_done r0_days) o A) ([.ref a_r0, .int x1, .int x2] : List Value).toArray s 0 0 A := ⟨_, rfl⟩
  rw [← hQ]
  refine lv_aload_n hx hb d_Sta_spendRefusal_0 rfl (lv_at hl 0 rfl) ?_
  refine lv_iload_n hx hb d_Sta_spendRefusal_1 rfl (lv_at hl 1 rfl) ?_
  obtain ⟨q_1, hc_1, hr⟩ := ob hr
  have ct_1 := C_Sta_hasDay l D cI cS a_r0 v_r0_weights v_r0_kinds v_r0_figures v_r0_goes v_r0_things v_r0_hampers v_r0_fields v_r0_done r0_days x1 q_1 hc_1
  refine k_goIp hA hW [0] rfl rfl (k_runV C hA hW mw_Sta_hasDay mv_Sta_hasDay (ct_1.2 _) [0] rfl rfl 0 rfl rfl qm_Sta_65 ⟨Nat.le_of_ble_eq_true rfl, Nat.le_of_ble_eq_true rfl, Nat.zero_le _, Nat.zero_le _⟩ rfl rfl (Nat.le_of_ble_eq_true rfl) hl.1 d_Sta_spendRefusal_2) (fun H locs hW => ?_)
  refine lv_if_eq (tgt := 25) hx hb d_Sta_spendRefusal_5 (by decide) (fun c_2 => ?_) (fun c_2 => ?_)
  · replace hr := ip c_2 hr
    refine lv_iconst (v := (-1)) hx hb d_Sta_spendRefusal_25 (by decide) ?_
    obtain rfl := Option.some.inj hr
    rw [hQ]; exact k_iret C hret hW d_Sta_spendRefusal_26
  · replace hr := iN c_2 hr
    refine lv_iload_n hx hb d_Sta_spendRefusal_8 rfl (lv_at hl 2 rfl) ?_
    obtain ⟨q_3, hc_3, hr⟩ := ob hr
    have ct_3 := C_H_isWeather l D cI cS x2 q_3 hc_3
    refine k_goIp hA hW [] rfl rfl (k_runSN C hA hW mw_H_isWeather ms_H_isWeather (ct_3.2 _) [] rfl rfl qm_Sta_61 ⟨Nat.le_of_ble_eq_true rfl, Nat.le_of_ble_eq_true rfl, Nat.zero_le _, Nat.zero_le _⟩ rfl rfl (Nat.le_of_ble_eq_true rfl) hl.1 d_Sta_spendRefusal_9) (fun H locs hW => ?_)
    refine lv_if_ne (tgt := 21) hx hb d_Sta_spendRefusal_12 (by decide) (fun c_4 => ?_) (fun c_4 => ?_)
    · replace hr := iN c_4 hr
      refine lv_iconst (v := 0) hx hb d_Sta_spendRefusal_21 (by decide) ?_
      refine lv_goto (tgt := 26) hx hb d_Sta_spendRefusal_22 (by decide) ?_
      obtain rfl := Option.some.inj hr
      rw [hQ]; exact k_iret C hret hW d_Sta_spendRefusal_26
    · replace hr := ip c_4 hr
      refine lv_iload_n hx hb d_Sta_spendRefusal_15 rfl (lv_at hl 2 rfl) ?_
      refine lv_bipush (v := 9) hx hb d_Sta_spendRefusal_16 (by decide) ?_
      refine lv_icmp_ne (tgt := 25) hx hb d_Sta_spendRefusal_18 (by decide) (fun c_5 => ?_) (fun c_5 => ?_)
      · replace hr := iN c_5 hr
        refine lv_iconst (v := (-1)) hx hb d_Sta_spendRefusal_25 (by decide) ?_
        obtain rfl := Option.some.inj hr
        rw [hQ]; exact k_iret C hret hW d_Sta_spendRefusal_26
      · replace hr := ip c_5 hr
        refine lv_iconst (v := 0) hx hb d_Sta_spendRefusal_21 (by decide) ?_
        refine lv_goto (tgt := 26) hx hb d_Sta_spendRefusal_22 (by decide) ?_
        obtain rfl := Option.some.inj hr
        rw [hQ]; exact k_iret C hret hW d_Sta_spendRefusal_26
def w_Sta_thingRefusal (cI : ClassId) (a_r0 : Nat) (v_r0_weights v_r0_kinds v_r0_figures v_r0_goes v_r0_hampers v_r0_days v_r0_fields v_r0_done : Value) (r0_things : Int32) : va_W := [(a_r0, .inr (1, [v_r0_weights, v_r0_kinds, v_r0_figures, v_r0_goes, .int r0_things, v_r0_hampers, v_r0_days, v_r0_fields, v_r0_done]))]
def F_Sta_thingRefusal (r0_things : Int32) (x1 : Int32) (x2 : Int32) : Option (Int32) :=
  (if x1 < 0 then (some (-2)) else (if x1 < 6 then (if (0 : Int32) ≤ x2 then (if (9 : Int32) < x2 then (some (-6)) else (if r0_things < 8 then (some 0) else (some (-6)))) else (some (-4))) else (some (-2))))
set_option maxHeartbeats 4000000 in
set_option maxRecDepth 100000 in
theorem C_Sta_thingRefusal (l : Launch) (D : va_G) (cI cS : ClassId) (a_r0 : Nat) (v_r0_weights v_r0_kinds v_r0_figures v_r0_goes v_r0_hampers v_r0_days v_r0_fields v_r0_done : Value) (r0_things : Int32) (x1 : Int32) (x2 : Int32) (o : Int32) (hr : F_Sta_thingRefusal r0_things x1 x2 = some o) : ctI l y_Sta_thingRefusal (Cond.code y_Sta_thingRefusal b_Sta_thingRefusal 3 (some FieldType.int)) (rmd 0) D (kTy cI cS) [.ref a_r0, .int x1, .int x2] (w_Sta_thingRefusal cI a_r0 v_r0_weights v_r0_kinds v_r0_figures v_r0_goes v_r0_hampers v_r0_days v_r0_fields v_r0_done r0_things) (w_Sta_thingRefusal cI a_r0 v_r0_weights v_r0_kinds v_r0_figures v_r0_goes v_r0_hampers v_r0_days v_r0_fields v_r0_done r0_things) o := by
  unfold F_Sta_thingRefusal at hr
  refine ⟨rfl, fun sz => ct_of (w0 := (w_Sta_thingRefusal cI a_r0 v_r0_weights v_r0_kinds v_r0_figures v_r0_goes v_r0_hampers v_r0_days v_r0_fields v_r0_done r0_things)) (Qc := fun A => qI D (w_Sta_thingRefusal cI a_r0 v_r0_weights v_r0_kinds v_r0_figures v_r0_goes v_r0_hampers v_r0_days v_r0_fields v_r0_done r0_things) o A) rfl (Nat.le_of_ble_eq_true rfl) ?_ sz⟩
  intro p e s m below meth c A hA C hret ls hl hW
  have C : cx p s m ([.ref a_r0, .int x1, .int x2] : List Value).toArray meth c b_Sta_thingRefusal 3 R_Sta D (kTy cI cS) (Cond.code y_Sta_thingRefusal b_Sta_thingRefusal 3 (some FieldType.int)) := C
  obtain ⟨hx, hb, hml, hown, hts, hK, hlk, hN⟩ := id C
  have hl : lv_has ls 3 [(0, .ref a_r0), (1, .int x1), (2, .int x2)] := hl
  obtain ⟨Q, hQ⟩ : ∃ Q, Q = MQ below (qI D (w_Sta_thingRefusal cI a_r0 v_r0_weights v_r0_kinds v_r0_figures v_r0_goes v_r0_hampers v_r0_days v_r0_fields v_r0_done r0_things) o A) ([.ref a_r0, .int x1, .int x2] : List Value).toArray s 0 0 A := ⟨_, rfl⟩
  rw [← hQ]
  refine lv_iload_n hx hb d_Sta_thingRefusal_0 rfl (lv_at hl 1 rfl) ?_
  refine lv_if_lt (tgt := 10) hx hb d_Sta_thingRefusal_1 (by decide) (fun c_1 => ?_) (fun c_1 => ?_)
  · replace hr := ip c_1 hr
    refine lv_bipush (v := (-2)) hx hb d_Sta_thingRefusal_10 (by decide) ?_
    obtain rfl := Option.some.inj hr
    rw [hQ]; exact k_iret C hret hW d_Sta_thingRefusal_12
  · replace hr := iN c_1 hr
    refine lv_iload_n hx hb d_Sta_thingRefusal_4 rfl (lv_at hl 1 rfl) ?_
    refine lv_bipush (v := 6) hx hb d_Sta_thingRefusal_5 (by decide) ?_
    refine lv_icmp_lt (tgt := 13) hx hb d_Sta_thingRefusal_7 (by decide) (fun c_2 => ?_) (fun c_2 => ?_)
    · replace hr := ip c_2 hr
      refine lv_iload_n hx hb d_Sta_thingRefusal_13 rfl (lv_at hl 2 rfl) ?_
      refine lv_if_ge (tgt := 20) hx hb d_Sta_thingRefusal_14 (by decide) (fun c_3 => ?_) (fun c_3 => ?_)
      · replace hr := ip c_3 hr
        refine lv_iload_n hx hb d_Sta_thingRefusal_20 rfl (lv_at hl 2 rfl) ?_
        refine lv_bipush (v := 9) hx hb d_Sta_thingRefusal_21 (by decide) ?_
        refine lv_icmp_gt (tgt := 35) hx hb d_Sta_thingRefusal_23 (by decide) (fun c_4 => ?_) (fun c_4 => ?_)
        · replace hr := ip c_4 hr
          refine lv_bipush (v := (-6)) hx hb d_Sta_thingRefusal_35 (by decide) ?_
          refine lv_goto (tgt := 41) hx hb d_Sta_thingRefusal_37 (by decide) ?_
          obtain rfl := Option.some.inj hr
          rw [hQ]; exact k_iret C hret hW d_Sta_thingRefusal_41
        · replace hr := iN c_4 hr
          refine lv_aload_n hx hb d_Sta_thingRefusal_26 rfl (lv_at hl 0 rfl) ?_
          refine k_get i_Sta C hW 0 rfl rfl 4 (by decide) qf_Sta_43 rfl rfl d_Sta_thingRefusal_27 ?_
          refine lv_bipush (v := 8) hx hb d_Sta_thingRefusal_30 (by decide) ?_
          refine lv_icmp_lt (tgt := 40) hx hb d_Sta_thingRefusal_32 (by decide) (fun c_5 => ?_) (fun c_5 => ?_)
          · replace hr := ip c_5 hr
            refine lv_iconst (v := 0) hx hb d_Sta_thingRefusal_40 (by decide) ?_
            obtain rfl := Option.some.inj hr
            rw [hQ]; exact k_iret C hret hW d_Sta_thingRefusal_41
          · replace hr := iN c_5 hr
            refine lv_bipush (v := (-6)) hx hb d_Sta_thingRefusal_35 (by decide) ?_
            refine lv_goto (tgt := 41) hx hb d_Sta_thingRefusal_37 (by decide) ?_
            obtain rfl := Option.some.inj hr
            rw [hQ]; exact k_iret C hret hW d_Sta_thingRefusal_41
      · replace hr := iN c_3 hr
        refine lv_bipush (v := (-4)) hx hb d_Sta_thingRefusal_17 (by decide) ?_
        obtain rfl := Option.some.inj hr
        rw [hQ]; exact k_iret C hret hW d_Sta_thingRefusal_19
    · replace hr := iN c_2 hr
      refine lv_bipush (v := (-2)) hx hb d_Sta_thingRefusal_10 (by decide) ?_
      obtain rfl := Option.some.inj hr
      rw [hQ]; exact k_iret C hret hW d_Sta_thingRefusal_12
def F_Sta_weightRefusal (x0 : Int32) (x1 : Int32) : Option (Int32) :=
  ((F_H_isWeather x0).bind (fun q_1 => (if q_1 = 0 then (some (-1)) else (if (0 : Int32) ≤ x1 then (if x1 ≤ 9 then (some 0) else (some (-6))) else (some (-4))))))
set_option maxHeartbeats 4000000 in
set_option maxRecDepth 100000 in
theorem C_Sta_weightRefusal (l : Launch) (D : va_G) (cI cS : ClassId) (x0 : Int32) (x1 : Int32) (o : Int32) (hr : F_Sta_weightRefusal x0 x1 = some o) : ctI l y_Sta_weightRefusal (Cond.code y_Sta_weightRefusal b_Sta_weightRefusal 2 (some FieldType.int)) (rmd 1) D (kTy cI cS) [.int x0, .int x1] [] [] o := by
  unfold F_Sta_weightRefusal at hr
  refine ⟨rfl, fun sz => ct_of (w0 := []) (Qc := fun A => qI D [] o A) rfl (Nat.le_of_ble_eq_true rfl) ?_ sz⟩
  intro p e s m below meth c A hA C hret ls hl hW
  have C : cx p s m ([.int x0, .int x1] : List Value).toArray meth c b_Sta_weightRefusal 2 R_Sta D (kTy cI cS) (Cond.code y_Sta_weightRefusal b_Sta_weightRefusal 2 (some FieldType.int)) := C
  obtain ⟨hx, hb, hml, hown, hts, hK, hlk, hN⟩ := id C
  have hl : lv_has ls 2 [(0, .int x0), (1, .int x1)] := hl
  obtain ⟨Q, hQ⟩ : ∃ Q, Q = MQ below (qI D [] o A) ([.int x0, .int x1] : List Value).toArray s 0 0 A := ⟨_, rfl⟩
  rw [← hQ]
  refine lv_iload_n hx hb d_Sta_weightRefusal_0 rfl (lv_at hl 0 rfl) ?_
  obtain ⟨q_1, hc_1, hr⟩ := ob hr
  have ct_1 := C_H_isWeather l D cI cS x0 q_1 hc_1
  refine k_goIp hA hW [] rfl rfl (k_runSN C hA hW mw_H_isWeather ms_H_isWeather (ct_1.2 _) [] rfl rfl qm_Sta_61 ⟨Nat.le_of_ble_eq_true rfl, Nat.le_of_ble_eq_true rfl, Nat.zero_le _, Nat.zero_le _⟩ rfl rfl (Nat.le_of_ble_eq_true rfl) hl.1 d_Sta_weightRefusal_1) (fun H locs hW => ?_)
  refine lv_if_ne (tgt := 9) hx hb d_Sta_weightRefusal_4 (by decide) (fun c_2 => ?_) (fun c_2 => ?_)
  · replace hr := iN c_2 hr
    refine lv_iload_n hx hb d_Sta_weightRefusal_9 rfl (lv_at hl 1 rfl) ?_
    refine lv_if_ge (tgt := 16) hx hb d_Sta_weightRefusal_10 (by decide) (fun c_3 => ?_) (fun c_3 => ?_)
    · replace hr := ip c_3 hr
      refine lv_iload_n hx hb d_Sta_weightRefusal_16 rfl (lv_at hl 1 rfl) ?_
      refine lv_bipush (v := 9) hx hb d_Sta_weightRefusal_17 (by decide) ?_
      refine lv_icmp_le (tgt := 27) hx hb d_Sta_weightRefusal_19 (by decide) (fun c_4 => ?_) (fun c_4 => ?_)
      · replace hr := ip c_4 hr
        refine lv_iconst (v := 0) hx hb d_Sta_weightRefusal_27 (by decide) ?_
        obtain rfl := Option.some.inj hr
        rw [hQ]; exact k_iret C hret hW d_Sta_weightRefusal_28
      · replace hr := iN c_4 hr
        refine lv_bipush (v := (-6)) hx hb d_Sta_weightRefusal_22 (by decide) ?_
        refine lv_goto (tgt := 28) hx hb d_Sta_weightRefusal_24 (by decide) ?_
        obtain rfl := Option.some.inj hr
        rw [hQ]; exact k_iret C hret hW d_Sta_weightRefusal_28
    · replace hr := iN c_3 hr
      refine lv_bipush (v := (-4)) hx hb d_Sta_weightRefusal_13 (by decide) ?_
      obtain rfl := Option.some.inj hr
      rw [hQ]; exact k_iret C hret hW d_Sta_weightRefusal_15
  · replace hr := ip c_2 hr
    refine lv_iconst (v := (-1)) hx hb d_Sta_weightRefusal_7 (by decide) ?_
    obtain rfl := Option.some.inj hr
    rw [hQ]; exact k_iret C hret hW d_Sta_weightRefusal_8
def w_Let_refusalAt (cI : ClassId) (a_r0 : Nat) (a_r0_letters : Nat) (a_r1 : Nat) (v_r1_weights v_r1_kinds v_r1_figures v_r1_goes v_r1_hampers v_r1_fields v_r1_done : Value) (r0_count : Int32) (r0_letters : Nat → Int32) (r1_days : Int32) (r1_things : Int32) : va_W := [(a_r0, .inr (5, [.ref a_r0_letters, .int r0_count])), (a_r0_letters, .inl (cI, 96, .inl r0_letters)), (a_r1, .inr (1, [v_r1_weights, v_r1_kinds, v_r1_figures, v_r1_goes, .int r1_things, v_r1_hampers, .int r1_days, v_r1_fields, v_r1_done]))]
def F_Let_refusalAt (r0_count : Int32) (r0_letters : Nat → Int32) (r1_days : Int32) (r1_things : Int32) (x2 : Int32) : Option (Int32) :=
  ((F_Let_number r0_count r0_letters (x2 + 1) (1 : Int32)).bind (fun q_1 => ((F_Let_number r0_count r0_letters (x2 + 2) (1 : Int32)).bind (fun q_2 => ((F_Let_letterAt r0_count r0_letters x2).bind (fun q_3 => (if q_3 = 100 then ((F_Let_number r0_count r0_letters (x2 + 1) (3 : Int32)).bind (fun q_5 => ((F_Sta_dayRefusal r1_days r1_things q_5).bind (fun q_6 => (some q_6))))) else (if q_3 = 102 then ((F_Let_number r0_count r0_letters (x2 + 2) (2 : Int32)).bind (fun q_8 => ((F_Let_number r0_count r0_letters (x2 + 4) (1 : Int32)).bind (fun q_9 => ((F_Fld_wishRefusal q_1 q_8 q_9).bind (fun q_10 => (some q_10))))))) else (if q_3 = 112 then ((F_Sta_packRefusal r1_days r1_things q_1 q_2).bind (fun q_12 => (some q_12))) else (if q_3 = 115 then ((F_Sta_spendRefusal r1_days q_1 (9 : Int32)).bind (fun q_14 => (some q_14))) else (if q_3 = 116 then ((F_Sta_thingRefusal r1_things q_1 q_2).bind (fun q_16 => (some q_16))) else (if q_3 = 119 then ((F_Sta_weightRefusal q_1 q_2).bind (fun q_18 => (some q_18))) else (some (-2))))))))))))))
set_option maxHeartbeats 4000000 in
set_option maxRecDepth 100000 in
theorem C_Let_refusalAt (l : Launch) (D : va_G) (cI cS : ClassId) (a_r0 : Nat) (a_r0_letters : Nat) (a_r1 : Nat) (v_r1_weights v_r1_kinds v_r1_figures v_r1_goes v_r1_hampers v_r1_fields v_r1_done : Value) (r0_count : Int32) (r0_letters : Nat → Int32) (r1_days : Int32) (r1_things : Int32) (x2 : Int32) (o : Int32) (hr : F_Let_refusalAt r0_count r0_letters r1_days r1_things x2 = some o) : ctI l y_Let_refusalAt (Cond.code y_Let_refusalAt b_Let_refusalAt 5 (some FieldType.int)) (rmd 2) D (kTy cI cS) [.ref a_r0, .ref a_r1, .int x2] (w_Let_refusalAt cI a_r0 a_r0_letters a_r1 v_r1_weights v_r1_kinds v_r1_figures v_r1_goes v_r1_hampers v_r1_fields v_r1_done r0_count r0_letters r1_days r1_things) (w_Let_refusalAt cI a_r0 a_r0_letters a_r1 v_r1_weights v_r1_kinds v_r1_figures v_r1_goes v_r1_hampers v_r1_fields v_r1_done r0_count r0_letters r1_days r1_things) o := by
  unfold F_Let_refusalAt at hr
  refine ⟨rfl, fun sz => ct_of (w0 := (w_Let_refusalAt cI a_r0 a_r0_letters a_r1 v_r1_weights v_r1_kinds v_r1_figures v_r1_goes v_r1_hampers v_r1_fields v_r1_done r0_count r0_letters r1_days r1_things)) (Qc := fun A => qI D (w_Let_refusalAt cI a_r0 a_r0_letters a_r1 v_r1_weights v_r1_kinds v_r1_figures v_r1_goes v_r1_hampers v_r1_fields v_r1_done r0_count r0_letters r1_days r1_things) o A) rfl (Nat.le_of_ble_eq_true rfl) ?_ sz⟩
  intro p e s m below meth c A hA C hret ls hl hW
  have C : cx p s m ([.ref a_r0, .ref a_r1, .int x2] : List Value).toArray meth c b_Let_refusalAt 5 R_Let D (kTy cI cS) (Cond.code y_Let_refusalAt b_Let_refusalAt 5 (some FieldType.int)) := C
  obtain ⟨hx, hb, hml, hown, hts, hK, hlk, hN⟩ := id C
  have hl : lv_has ls 5 [(0, .ref a_r0), (1, .ref a_r1), (2, .int x2)] := hl
  obtain ⟨Q, hQ⟩ : ∃ Q, Q = MQ below (qI D (w_Let_refusalAt cI a_r0 a_r0_letters a_r1 v_r1_weights v_r1_kinds v_r1_figures v_r1_goes v_r1_hampers v_r1_fields v_r1_done r0_count r0_letters r1_days r1_things) o A) ([.ref a_r0, .ref a_r1, .int x2] : List Value).toArray s 0 0 A := ⟨_, rfl⟩
  rw [← hQ]
  refine lv_aload_n hx hb d_Let_refusalAt_0 rfl (lv_at hl 0 rfl) ?_
  refine lv_iload_n hx hb d_Let_refusalAt_1 rfl (lv_at hl 2 rfl) ?_
  refine lv_iconst (v := 1) hx hb d_Let_refusalAt_2 (by decide) ?_
  refine lv_iadd hx hb d_Let_refusalAt_3 ?_
  refine lv_iconst (v := 1) hx hb d_Let_refusalAt_4 (by decide) ?_
  obtain ⟨q_1, hc_1, hr⟩ := ob hr
  have ct_1 := C_Let_number l D cI cS a_r0 a_r0_letters r0_count r0_letters (x2 + 1) 1 q_1 hc_1
  refine k_goIp hA hW [0, 1] rfl rfl (k_runV C hA hW mw_Let_number mv_Let_number (ct_1.2 _) [0, 1] rfl rfl 0 rfl rfl qm_Let_44 ⟨Nat.le_of_ble_eq_true rfl, Nat.le_of_ble_eq_true rfl, Nat.zero_le _, Nat.zero_le _⟩ rfl rfl (Nat.le_of_ble_eq_true rfl) hl.1 d_Let_refusalAt_5) (fun H locs hW => ?_)
  refine lv_istore_n (lv' := [(3, .int q_1), (0, .ref a_r0), (1, .ref a_r1), (2, .int x2)]) hx hb d_Let_refusalAt_8 rfl hl (by decide) rfl (fun ls hl => ?_)
  refine lv_aload_n hx hb d_Let_refusalAt_9 rfl (lv_at hl 1 rfl) ?_
  refine lv_iload_n hx hb d_Let_refusalAt_10 rfl (lv_at hl 3 rfl) ?_
  refine lv_iconst (v := 2) hx hb d_Let_refusalAt_11 (by decide) ?_
  refine lv_iadd hx hb d_Let_refusalAt_12 ?_
  refine lv_iconst (v := 1) hx hb d_Let_refusalAt_13 (by decide) ?_
  obtain ⟨q_2, hc_2, hr⟩ := ob hr
  have ct_2 := C_Let_number l D cI cS a_r0 a_r0_letters r0_count r0_letters (x2 + 2) 1 q_2 hc_2
  refine k_goIp hA hW [0, 1] rfl rfl (k_runV C hA hW mw_Let_number mv_Let_number (ct_2.2 _) [0, 1] rfl rfl 0 rfl rfl qm_Let_44 ⟨Nat.le_of_ble_eq_true rfl, Nat.le_of_ble_eq_true rfl, Nat.zero_le _, Nat.zero_le _⟩ rfl rfl (Nat.le_of_ble_eq_true rfl) hl.1 d_Let_refusalAt_14) (fun H locs hW => ?_)
  refine lv_istore (lv' := [(4, .int q_2), (3, .int q_1), (0, .ref a_r0), (1, .ref a_r1), (2, .int x2)]) hx hb d_Let_refusalAt_17 hl (by decide) rfl (fun ls hl => ?_)
  refine lv_aload_n hx hb d_Let_refusalAt_19 rfl (lv_at hl 2 rfl) ?_
  refine lv_iload_n hx hb d_Let_refusalAt_20 rfl (lv_at hl 4 rfl) ?_
  obtain ⟨q_3, hc_3, hr⟩ := ob hr
  have ct_3 := C_Let_letterAt l D cI cS a_r0 a_r0_letters r0_count r0_letters x2 q_3 hc_3
  refine k_goIp hA hW [0, 1] rfl rfl (k_runV C hA hW mw_Let_letterAt mv_Let_letterAt (ct_3.2 _) [0, 1] rfl rfl 0 rfl rfl qm_Let_29 ⟨Nat.le_of_ble_eq_true rfl, Nat.le_of_ble_eq_true rfl, Nat.zero_le _, Nat.zero_le _⟩ rfl rfl (Nat.le_of_ble_eq_true rfl) hl.1 d_Let_refusalAt_21) (fun H locs hW => ?_)
  by_cases c_4 : q_3 = 100
  · replace hr := ip c_4 hr
    refine k_tabIn (tgt := 128) (off := 104) c_4 hx hb d_Let_refusalAt_24 (by decide) (by decide) (by decide) (by decide) ?_
    refine lv_aload_n hx hb d_Let_refusalAt_128 rfl (lv_at hl 3 rfl) ?_
    refine lv_aload_n hx hb d_Let_refusalAt_129 rfl (lv_at hl 2 rfl) ?_
    refine lv_iload_n hx hb d_Let_refusalAt_130 rfl (lv_at hl 4 rfl) ?_
    refine lv_iconst (v := 1) hx hb d_Let_refusalAt_131 (by decide) ?_
    refine lv_iadd hx hb d_Let_refusalAt_132 ?_
    refine lv_iconst (v := 3) hx hb d_Let_refusalAt_133 (by decide) ?_
    obtain ⟨q_5, hc_5, hr⟩ := ob hr
    have ct_5 := C_Let_number l D cI cS a_r0 a_r0_letters r0_count r0_letters (x2 + 1) 3 q_5 hc_5
    refine k_goIp hA hW [0, 1] rfl rfl (k_runV C hA hW mw_Let_number mv_Let_number (ct_5.2 _) [0, 1] rfl rfl 0 rfl rfl qm_Let_44 ⟨Nat.le_of_ble_eq_true rfl, Nat.le_of_ble_eq_true rfl, Nat.zero_le _, Nat.zero_le _⟩ rfl rfl (Nat.le_of_ble_eq_true rfl) hl.1 d_Let_refusalAt_134) (fun H locs hW => ?_)
    obtain ⟨q_6, hc_6, hr⟩ := ob hr
    have ct_6 := C_Sta_dayRefusal l D cI cS a_r1 v_r1_weights v_r1_kinds v_r1_figures v_r1_goes v_r1_hampers v_r1_fields v_r1_done r1_days r1_things q_5 q_6 hc_6
    refine k_goIp hA hW [2] rfl rfl (k_runV C hA hW mw_Sta_dayRefusal mv_Sta_dayRefusal (ct_6.2 _) [2] rfl rfl 2 rfl rfl qm_Let_51 ⟨Nat.le_of_ble_eq_true rfl, Nat.le_of_ble_eq_true rfl, Nat.zero_le _, Nat.zero_le _⟩ rfl rfl (Nat.le_of_ble_eq_true rfl) hl.1 d_Let_refusalAt_137) (fun H locs hW => ?_)
    obtain rfl := Option.some.inj hr
    rw [hQ]; exact k_iret C hret hW d_Let_refusalAt_140
  · replace hr := iN c_4 hr
    by_cases c_7 : q_3 = 102
    · replace hr := ip c_7 hr
      refine k_tabIn (tgt := 148) (off := 124) c_7 hx hb d_Let_refusalAt_24 (by decide) (by decide) (by decide) (by decide) ?_
      refine lv_iload_n hx hb d_Let_refusalAt_148 rfl (lv_at hl 1 rfl) ?_
      refine lv_aload_n hx hb d_Let_refusalAt_149 rfl (lv_at hl 2 rfl) ?_
      refine lv_iload_n hx hb d_Let_refusalAt_150 rfl (lv_at hl 4 rfl) ?_
      refine lv_iconst (v := 2) hx hb d_Let_refusalAt_151 (by decide) ?_
      refine lv_iadd hx hb d_Let_refusalAt_152 ?_
      refine lv_iconst (v := 2) hx hb d_Let_refusalAt_153 (by decide) ?_
      obtain ⟨q_8, hc_8, hr⟩ := ob hr
      have ct_8 := C_Let_number l D cI cS a_r0 a_r0_letters r0_count r0_letters (x2 + 2) 2 q_8 hc_8
      refine k_goIp hA hW [0, 1] rfl rfl (k_runV C hA hW mw_Let_number mv_Let_number (ct_8.2 _) [0, 1] rfl rfl 0 rfl rfl qm_Let_44 ⟨Nat.le_of_ble_eq_true rfl, Nat.le_of_ble_eq_true rfl, Nat.zero_le _, Nat.zero_le _⟩ rfl rfl (Nat.le_of_ble_eq_true rfl) hl.1 d_Let_refusalAt_154) (fun H locs hW => ?_)
      refine lv_aload_n hx hb d_Let_refusalAt_157 rfl (lv_at hl 2 rfl) ?_
      refine lv_iload_n hx hb d_Let_refusalAt_158 rfl (lv_at hl 4 rfl) ?_
      refine lv_iconst (v := 4) hx hb d_Let_refusalAt_159 (by decide) ?_
      refine lv_iadd hx hb d_Let_refusalAt_160 ?_
      refine lv_iconst (v := 1) hx hb d_Let_refusalAt_161 (by decide) ?_
      obtain ⟨q_9, hc_9, hr⟩ := ob hr
      have ct_9 := C_Let_number l D cI cS a_r0 a_r0_letters r0_count r0_letters (x2 + 4) 1 q_9 hc_9
      refine k_goIp hA hW [0, 1] rfl rfl (k_runV C hA hW mw_Let_number mv_Let_number (ct_9.2 _) [0, 1] rfl rfl 0 rfl rfl qm_Let_44 ⟨Nat.le_of_ble_eq_true rfl, Nat.le_of_ble_eq_true rfl, Nat.zero_le _, Nat.zero_le _⟩ rfl rfl (Nat.le_of_ble_eq_true rfl) hl.1 d_Let_refusalAt_162) (fun H locs hW => ?_)
      obtain ⟨q_10, hc_10, hr⟩ := ob hr
      have ct_10 := C_Fld_wishRefusal l D cI cS q_1 q_8 q_9 q_10 hc_10
      refine k_goIp hA hW [] rfl rfl (k_runS C hA hW mw_Fld_wishRefusal ms_Fld_wishRefusal (ct_10.2 _) [] rfl rfl qm_Let_57 ⟨Nat.le_of_ble_eq_true rfl, Nat.le_of_ble_eq_true rfl, Nat.zero_le _, Nat.zero_le _⟩ rfl rfl (Nat.le_of_ble_eq_true rfl) hl.1 d_Let_refusalAt_165) (fun H locs hW => ?_)
      obtain rfl := Option.some.inj hr
      rw [hQ]; exact k_iret C hret hW d_Let_refusalAt_168
    · replace hr := iN c_7 hr
      by_cases c_11 : q_3 = 112
      · replace hr := ip c_11 hr
        refine k_tabIn (tgt := 177) (off := 153) c_11 hx hb d_Let_refusalAt_24 (by decide) (by decide) (by decide) (by decide) ?_
        refine lv_aload_n hx hb d_Let_refusalAt_177 rfl (lv_at hl 3 rfl) ?_
        refine lv_iload_n hx hb d_Let_refusalAt_178 rfl (lv_at hl 1 rfl) ?_
        refine lv_iload hx hb d_Let_refusalAt_179 (lv_at hl 0 rfl) ?_
        obtain ⟨q_12, hc_12, hr⟩ := ob hr
        have ct_12 := C_Sta_packRefusal l D cI cS a_r1 v_r1_weights v_r1_kinds v_r1_figures v_r1_goes v_r1_hampers v_r1_fields v_r1_done r1_days r1_things q_1 q_2 q_12 hc_12
        refine k_goIp hA hW [2] rfl rfl (k_runV C hA hW mw_Sta_packRefusal mv_Sta_packRefusal (ct_12.2 _) [2] rfl rfl 2 rfl rfl qm_Let_66 ⟨Nat.le_of_ble_eq_true rfl, Nat.le_of_ble_eq_true rfl, Nat.zero_le _, Nat.zero_le _⟩ rfl rfl (Nat.le_of_ble_eq_true rfl) hl.1 d_Let_refusalAt_181) (fun H locs hW => ?_)
        obtain rfl := Option.some.inj hr
        rw [hQ]; exact k_iret C hret hW d_Let_refusalAt_184
      · replace hr := iN c_11 hr
        by_cases c_13 : q_3 = 115
        · replace hr := ip c_13 hr
          refine k_tabIn (tgt := 169) (off := 145) c_13 hx hb d_Let_refusalAt_24 (by decide) (by decide) (by decide) (by decide) ?_
          refine lv_aload_n hx hb d_Let_refusalAt_169 rfl (lv_at hl 3 rfl) ?_
          refine lv_iload_n hx hb d_Let_refusalAt_170 rfl (lv_at hl 1 rfl) ?_
          refine lv_bipush (v := 9) hx hb d_Let_refusalAt_171 (by decide) ?_
          obtain ⟨q_14, hc_14, hr⟩ := ob hr
          have ct_14 := C_Sta_spendRefusal l D cI cS a_r1 v_r1_weights v_r1_kinds v_r1_figures v_r1_goes (Value.int r1_things) v_r1_hampers v_r1_fields v_r1_done r1_days q_1 9 q_14 hc_14
          refine k_goIp hA hW [2] rfl rfl (k_runV C hA hW mw_Sta_spendRefusal mv_Sta_spendRefusal (ct_14.2 _) [2] rfl rfl 2 rfl rfl qm_Let_63 ⟨Nat.le_of_ble_eq_true rfl, Nat.le_of_ble_eq_true rfl, Nat.zero_le _, Nat.zero_le _⟩ rfl rfl (Nat.le_of_ble_eq_true rfl) hl.1 d_Let_refusalAt_173) (fun H locs hW => ?_)
          obtain rfl := Option.some.inj hr
          rw [hQ]; exact k_iret C hret hW d_Let_refusalAt_176
        · replace hr := iN c_13 hr
          by_cases c_15 : q_3 = 116
          · replace hr := ip c_15 hr
            refine k_tabIn (tgt := 120) (off := 96) c_15 hx hb d_Let_refusalAt_24 (by decide) (by decide) (by decide) (by decide) ?_
            refine lv_aload_n hx hb d_Let_refusalAt_120 rfl (lv_at hl 3 rfl) ?_
            refine lv_iload_n hx hb d_Let_refusalAt_121 rfl (lv_at hl 1 rfl) ?_
            refine lv_iload hx hb d_Let_refusalAt_122 (lv_at hl 0 rfl) ?_
            obtain ⟨q_16, hc_16, hr⟩ := ob hr
            have ct_16 := C_Sta_thingRefusal l D cI cS a_r1 v_r1_weights v_r1_kinds v_r1_figures v_r1_goes v_r1_hampers (Value.int r1_days) v_r1_fields v_r1_done r1_things q_1 q_2 q_16 hc_16
            refine k_goIp hA hW [2] rfl rfl (k_runV C hA hW mw_Sta_thingRefusal mv_Sta_thingRefusal (ct_16.2 _) [2] rfl rfl 2 rfl rfl qm_Let_48 ⟨Nat.le_of_ble_eq_true rfl, Nat.le_of_ble_eq_true rfl, Nat.zero_le _, Nat.zero_le _⟩ rfl rfl (Nat.le_of_ble_eq_true rfl) hl.1 d_Let_refusalAt_124) (fun H locs hW => ?_)
            obtain rfl := Option.some.inj hr
            rw [hQ]; exact k_iret C hret hW d_Let_refusalAt_127
          · replace hr := iN c_15 hr
            by_cases c_17 : q_3 = 119
            · replace hr := ip c_17 hr
              refine k_tabIn (tgt := 141) (off := 117) c_17 hx hb d_Let_refusalAt_24 (by decide) (by decide) (by decide) (by decide) ?_
              refine lv_iload_n hx hb d_Let_refusalAt_141 rfl (lv_at hl 1 rfl) ?_
              refine lv_iload hx hb d_Let_refusalAt_142 (lv_at hl 0 rfl) ?_
              obtain ⟨q_18, hc_18, hr⟩ := ob hr
              have ct_18 := C_Sta_weightRefusal l D cI cS q_1 q_2 q_18 hc_18
              refine k_goIp hA hW [] rfl rfl (k_runS C hA hW mw_Sta_weightRefusal ms_Sta_weightRefusal (ct_18.2 _) [] rfl rfl qm_Let_54 ⟨Nat.le_of_ble_eq_true rfl, Nat.le_of_ble_eq_true rfl, Nat.zero_le _, Nat.zero_le _⟩ rfl rfl (Nat.le_of_ble_eq_true rfl) hl.1 d_Let_refusalAt_144) (fun H locs hW => ?_)
              obtain rfl := Option.some.inj hr
              rw [hQ]; exact k_iret C hret hW d_Let_refusalAt_147
            · replace hr := iN c_17 hr
              refine k_tabDef (tgt := 185) [100, 102, 112, 115, 116, 119] (by decide +kernel) (by simp only [List.forall_mem_cons]; exact ⟨c_4, c_7, c_11, c_13, c_15, c_17, fun _ h => absurd h List.not_mem_nil⟩) hx hb d_Let_refusalAt_24 (by decide) ?_
              refine lv_bipush (v := (-2)) hx hb d_Let_refusalAt_185 (by decide) ?_
              obtain rfl := Option.some.inj hr
              rw [hQ]; exact k_iret C hret hW d_Let_refusalAt_187
def w_Sta_copyFrom (cI : ClassId) (a_r0 : Nat) (a_r0_fields : Nat) (a_r0_fields_lefts : Nat) (a_r0_fields_wishes : Nat) (a_r0_figures : Nat) (a_r0_goes : Nat) (a_r0_hampers : Nat) (a_r0_kinds : Nat) (a_r0_weights : Nat) (a_r1 : Nat) (a_r1_fields : Nat) (a_r1_fields_lefts : Nat) (a_r1_fields_wishes : Nat) (a_r1_figures : Nat) (a_r1_goes : Nat) (a_r1_hampers : Nat) (a_r1_kinds : Nat) (a_r1_weights : Nat) (r0_days : Int32) (r0_done : Int32) (r0_things : Int32) (r0_fields_lefts : Nat → Int32) (r0_fields_wishes : Nat → Int32) (r0_figures : Nat → Int32) (r0_goes : Nat → Int32) (r0_hampers : Nat → Int32) (r0_kinds : Nat → Int32) (r0_weights : Nat → Int32) (r1_days : Int32) (r1_done : Int32) (r1_things : Int32) (r1_fields_lefts : Nat → Int32) (r1_fields_wishes : Nat → Int32) (r1_figures : Nat → Int32) (r1_goes : Nat → Int32) (r1_hampers : Nat → Int32) (r1_kinds : Nat → Int32) (r1_weights : Nat → Int32) : va_W := [(a_r0, .inr (1, [.ref a_r0_weights, .ref a_r0_kinds, .ref a_r0_figures, .ref a_r0_goes, .int r0_things, .ref a_r0_hampers, .int r0_days, .ref a_r0_fields, .int r0_done])), (a_r0_fields, .inr (2, [.ref a_r0_fields_wishes, .ref a_r0_fields_lefts])), (a_r0_fields_lefts, .inl (cI, 4, .inl r0_fields_lefts)), (a_r0_fields_wishes, .inl (cI, 4, .inl r0_fields_wishes)), (a_r0_figures, .inl (cI, 8, .inl r0_figures)), (a_r0_goes, .inl (cI, 8, .inl r0_goes)), (a_r0_hampers, .inl (cI, 8, .inl r0_hampers)), (a_r0_kinds, .inl (cI, 8, .inl r0_kinds)), (a_r0_weights, .inl (cI, 6, .inl r0_weights)), (a_r1, .inr (1, [.ref a_r1_weights, .ref a_r1_kinds, .ref a_r1_figures, .ref a_r1_goes, .int r1_things, .ref a_r1_hampers, .int r1_days, .ref a_r1_fields, .int r1_done])), (a_r1_fields, .inr (2, [.ref a_r1_fields_wishes, .ref a_r1_fields_lefts])), (a_r1_fields_lefts, .inl (cI, 4, .inl r1_fields_lefts)), (a_r1_fields_wishes, .inl (cI, 4, .inl r1_fields_wishes)), (a_r1_figures, .inl (cI, 8, .inl r1_figures)), (a_r1_goes, .inl (cI, 8, .inl r1_goes)), (a_r1_hampers, .inl (cI, 8, .inl r1_hampers)), (a_r1_kinds, .inl (cI, 8, .inl r1_kinds)), (a_r1_weights, .inl (cI, 6, .inl r1_weights))]
def F_Sta_copyFrom (r0_fields_lefts : Nat → Int32) (r0_fields_wishes : Nat → Int32) (r0_figures : Nat → Int32) (r0_goes : Nat → Int32) (r0_hampers : Nat → Int32) (r0_kinds : Nat → Int32) (r0_weights : Nat → Int32) (r1_days : Int32) (r1_done : Int32) (r1_things : Int32) (r1_fields_lefts : Nat → Int32) (r1_fields_wishes : Nat → Int32) (r1_figures : Nat → Int32) (r1_goes : Nat → Int32) (r1_hampers : Nat → Int32) (r1_kinds : Nat → Int32) (r1_weights : Nat → Int32) : Option ((Int32) × (Int32) × (Int32) × (Nat → Int32) × (Nat → Int32) × (Nat → Int32) × (Nat → Int32) × (Nat → Int32) × (Nat → Int32) × (Nat → Int32)) :=
  ((F_Fld_copyFrom r0_fields_lefts r0_fields_wishes r1_fields_lefts r1_fields_wishes).bind (fun q_1 => (some (r1_days, r1_done, r1_things, q_1.1, q_1.2, (va_cpy r1_figures r0_figures 0 0 8), (va_cpy r1_goes r0_goes 0 0 8), (va_cpy r1_hampers r0_hampers 0 0 8), (va_cpy r1_kinds r0_kinds 0 0 8), (va_cpy r1_weights r0_weights 0 0 6)))))
set_option maxHeartbeats 4000000 in
set_option maxRecDepth 100000 in
theorem C_Sta_copyFrom (l : Launch) (D : va_G) (cI cS : ClassId) (a_r0 : Nat) (a_r0_fields : Nat) (a_r0_fields_lefts : Nat) (a_r0_fields_wishes : Nat) (a_r0_figures : Nat) (a_r0_goes : Nat) (a_r0_hampers : Nat) (a_r0_kinds : Nat) (a_r0_weights : Nat) (a_r1 : Nat) (a_r1_fields : Nat) (a_r1_fields_lefts : Nat) (a_r1_fields_wishes : Nat) (a_r1_figures : Nat) (a_r1_goes : Nat) (a_r1_hampers : Nat) (a_r1_kinds : Nat) (a_r1_weights : Nat) (r0_days : Int32) (r0_done : Int32) (r0_things : Int32) (r0_fields_lefts : Nat → Int32) (r0_fields_wishes : Nat → Int32) (r0_figures : Nat → Int32) (r0_goes : Nat → Int32) (r0_hampers : Nat → Int32) (r0_kinds : Nat → Int32) (r0_weights : Nat → Int32) (r1_days : Int32) (r1_done : Int32) (r1_things : Int32) (r1_fields_lefts : Nat → Int32) (r1_fields_wishes : Nat → Int32) (r1_figures : Nat → Int32) (r1_goes : Nat → Int32) (r1_hampers : Nat → Int32) (r1_kinds : Nat → Int32) (r1_weights : Nat → Int32) (o : (Int32) × (Int32) × (Int32) × (Nat → Int32) × (Nat → Int32) × (Nat → Int32) × (Nat → Int32) × (Nat → Int32) × (Nat → Int32) × (Nat → Int32)) (hr : F_Sta_copyFrom r0_fields_lefts r0_fields_wishes r0_figures r0_goes r0_hampers r0_kinds r0_weights r1_days r1_done r1_things r1_fields_lefts r1_fields_wishes r1_figures r1_goes r1_hampers r1_kinds r1_weights = some o) : ctV l y_Sta_copyFrom (Cond.code y_Sta_copyFrom b_Sta_copyFrom 2 none) (rmd 1) D (kTy cI cS) [.ref a_r0, .ref a_r1] (w_Sta_copyFrom cI a_r0 a_r0_fields a_r0_fields_lefts a_r0_fields_wishes a_r0_figures a_r0_goes a_r0_hampers a_r0_kinds a_r0_weights a_r1 a_r1_fields a_r1_fields_lefts a_r1_fields_wishes a_r1_figures a_r1_goes a_r1_hampers a_r1_kinds a_r1_weights r0_days r0_done r0_things r0_fields_lefts r0_fields_wishes r0_figures r0_goes r0_hampers r0_kinds r0_weights r1_days r1_done r1_things r1_fields_lefts r1_fields_wishes r1_figures r1_goes r1_hampers r1_kinds r1_weights) (w_Sta_copyFrom cI a_r0 a_r0_fields a_r0_fields_lefts a_r0_fields_wishes a_r0_figures a_r0_goes a_r0_hampers a_r0_kinds a_r0_weights a_r1 a_r1_fields a_r1_fields_lefts a_r1_fields_wishes a_r1_figures a_r1_goes a_r1_hampers a_r1_kinds a_r1_weights o.1 o.2.1 o.2.2.1 o.2.2.2.1 o.2.2.2.2.1 o.2.2.2.2.2.1 o.2.2.2.2.2.2.1 o.2.2.2.2.2.2.2.1 o.2.2.2.2.2.2.2.2.1 o.2.2.2.2.2.2.2.2.2 r1_days r1_done r1_things r1_fields_lefts r1_fields_wishes r1_figures r1_goes r1_hampers r1_kinds r1_weights) := by
  unfold F_Sta_copyFrom at hr
  refine ⟨rfl, fun sz => ct_of (w0 := (w_Sta_copyFrom cI a_r0 a_r0_fields a_r0_fields_lefts a_r0_fields_wishes a_r0_figures a_r0_goes a_r0_hampers a_r0_kinds a_r0_weights a_r1 a_r1_fields a_r1_fields_lefts a_r1_fields_wishes a_r1_figures a_r1_goes a_r1_hampers a_r1_kinds a_r1_weights r0_days r0_done r0_things r0_fields_lefts r0_fields_wishes r0_figures r0_goes r0_hampers r0_kinds r0_weights r1_days r1_done r1_things r1_fields_lefts r1_fields_wishes r1_figures r1_goes r1_hampers r1_kinds r1_weights)) (Qc := fun A => qV D (w_Sta_copyFrom cI a_r0 a_r0_fields a_r0_fields_lefts a_r0_fields_wishes a_r0_figures a_r0_goes a_r0_hampers a_r0_kinds a_r0_weights a_r1 a_r1_fields a_r1_fields_lefts a_r1_fields_wishes a_r1_figures a_r1_goes a_r1_hampers a_r1_kinds a_r1_weights o.1 o.2.1 o.2.2.1 o.2.2.2.1 o.2.2.2.2.1 o.2.2.2.2.2.1 o.2.2.2.2.2.2.1 o.2.2.2.2.2.2.2.1 o.2.2.2.2.2.2.2.2.1 o.2.2.2.2.2.2.2.2.2 r1_days r1_done r1_things r1_fields_lefts r1_fields_wishes r1_figures r1_goes r1_hampers r1_kinds r1_weights) A) rfl (Nat.le_of_ble_eq_true rfl) ?_ sz⟩
  intro p e s m below meth c A hA C hret ls hl hW
  have C : cx p s m ([.ref a_r0, .ref a_r1] : List Value).toArray meth c b_Sta_copyFrom 2 R_Sta D (kTy cI cS) (Cond.code y_Sta_copyFrom b_Sta_copyFrom 2 none) := C
  obtain ⟨hx, hb, hml, hown, hts, hK, hlk, hN⟩ := id C
  have hl : lv_has ls 2 [(0, .ref a_r0), (1, .ref a_r1)] := hl
  obtain ⟨Q, hQ⟩ : ∃ Q, Q = MQ below (qV D (w_Sta_copyFrom cI a_r0 a_r0_fields a_r0_fields_lefts a_r0_fields_wishes a_r0_figures a_r0_goes a_r0_hampers a_r0_kinds a_r0_weights a_r1 a_r1_fields a_r1_fields_lefts a_r1_fields_wishes a_r1_figures a_r1_goes a_r1_hampers a_r1_kinds a_r1_weights o.1 o.2.1 o.2.2.1 o.2.2.2.1 o.2.2.2.2.1 o.2.2.2.2.2.1 o.2.2.2.2.2.2.1 o.2.2.2.2.2.2.2.1 o.2.2.2.2.2.2.2.2.1 o.2.2.2.2.2.2.2.2.2 r1_days r1_done r1_things r1_fields_lefts r1_fields_wishes r1_figures r1_goes r1_hampers r1_kinds r1_weights) A) ([.ref a_r0, .ref a_r1] : List Value).toArray s 0 0 A := ⟨_, rfl⟩
  rw [← hQ]
  refine lv_aload_n hx hb d_Sta_copyFrom_0 rfl (lv_at hl 1 rfl) ?_
  refine k_get i_Sta C hW 9 rfl rfl 0 (by decide) qf_Sta_9 rfl rfl d_Sta_copyFrom_1 ?_
  refine lv_iconst (v := 0) hx hb d_Sta_copyFrom_4 (by decide) ?_
  refine lv_aload_n hx hb d_Sta_copyFrom_5 rfl (lv_at hl 0 rfl) ?_
  refine k_get i_Sta C hW 0 rfl rfl 0 (by decide) qf_Sta_9 rfl rfl d_Sta_copyFrom_6 ?_
  refine lv_iconst (v := 0) hx hb d_Sta_copyFrom_9 (by decide) ?_
  refine lv_bipush (v := 6) hx hb d_Sta_copyFrom_10 (by decide) ?_
  refine k_copy C hW 17 8 rfl rfl (n := 6) (k := 6) (by decide) (by decide) (by decide) (by decide) qm_Sta_37 ⟨Nat.le_of_ble_eq_true rfl, Nat.le_of_ble_eq_true rfl⟩ hl.1 (ws' := (w_Sta_copyFrom cI a_r0 a_r0_fields a_r0_fields_lefts a_r0_fields_wishes a_r0_figures a_r0_goes a_r0_hampers a_r0_kinds a_r0_weights a_r1 a_r1_fields a_r1_fields_lefts a_r1_fields_wishes a_r1_figures a_r1_goes a_r1_hampers a_r1_kinds a_r1_weights r0_days r0_done r0_things r0_fields_lefts r0_fields_wishes r0_figures r0_goes r0_hampers r0_kinds (va_cpy r1_weights r0_weights 0 0 6) r1_days r1_done r1_things r1_fields_lefts r1_fields_wishes r1_figures r1_goes r1_hampers r1_kinds r1_weights)) rfl d_Sta_copyFrom_12 (fun H locs hW => ?_)
  refine lv_aload_n hx hb d_Sta_copyFrom_15 rfl (lv_at hl 1 rfl) ?_
  refine k_get i_Sta C hW 9 rfl rfl 1 (by decide) qf_Sta_15 rfl rfl d_Sta_copyFrom_16 ?_
  refine lv_iconst (v := 0) hx hb d_Sta_copyFrom_19 (by decide) ?_
  refine lv_aload_n hx hb d_Sta_copyFrom_20 rfl (lv_at hl 0 rfl) ?_
  refine k_get i_Sta C hW 0 rfl rfl 1 (by decide) qf_Sta_15 rfl rfl d_Sta_copyFrom_21 ?_
  refine lv_iconst (v := 0) hx hb d_Sta_copyFrom_24 (by decide) ?_
  refine lv_bipush (v := 8) hx hb d_Sta_copyFrom_25 (by decide) ?_
  refine k_copy C hW 16 7 rfl rfl (n := 8) (k := 8) (by decide) (by decide) (by decide) (by decide) qm_Sta_37 ⟨Nat.le_of_ble_eq_true rfl, Nat.le_of_ble_eq_true rfl⟩ hl.1 (ws' := (w_Sta_copyFrom cI a_r0 a_r0_fields a_r0_fields_lefts a_r0_fields_wishes a_r0_figures a_r0_goes a_r0_hampers a_r0_kinds a_r0_weights a_r1 a_r1_fields a_r1_fields_lefts a_r1_fields_wishes a_r1_figures a_r1_goes a_r1_hampers a_r1_kinds a_r1_weights r0_days r0_done r0_things r0_fields_lefts r0_fields_wishes r0_figures r0_goes r0_hampers (va_cpy r1_kinds r0_kinds 0 0 8) (va_cpy r1_weights r0_weights 0 0 6) r1_days r1_done r1_things r1_fields_lefts r1_fields_wishes r1_figures r1_goes r1_hampers r1_kinds r1_weights)) rfl d_Sta_copyFrom_27 (fun H locs hW => ?_)
  refine lv_aload_n hx hb d_Sta_copyFrom_30 rfl (lv_at hl 1 rfl) ?_
  refine k_get i_Sta C hW 9 rfl rfl 2 (by decide) qf_Sta_18 rfl rfl d_Sta_copyFrom_31 ?_
  refine lv_iconst (v := 0) hx hb d_Sta_copyFrom_34 (by decide) ?_
  refine lv_aload_n hx hb d_Sta_copyFrom_35 rfl (lv_at hl 0 rfl) ?_
  refine k_get i_Sta C hW 0 rfl rfl 2 (by decide) qf_Sta_18 rfl rfl d_Sta_copyFrom_36 ?_
  refine lv_iconst (v := 0) hx hb d_Sta_copyFrom_39 (by decide) ?_
  refine lv_bipush (v := 8) hx hb d_Sta_copyFrom_40 (by decide) ?_
  refine k_copy C hW 13 4 rfl rfl (n := 8) (k := 8) (by decide) (by decide) (by decide) (by decide) qm_Sta_37 ⟨Nat.le_of_ble_eq_true rfl, Nat.le_of_ble_eq_true rfl⟩ hl.1 (ws' := (w_Sta_copyFrom cI a_r0 a_r0_fields a_r0_fields_lefts a_r0_fields_wishes a_r0_figures a_r0_goes a_r0_hampers a_r0_kinds a_r0_weights a_r1 a_r1_fields a_r1_fields_lefts a_r1_fields_wishes a_r1_figures a_r1_goes a_r1_hampers a_r1_kinds a_r1_weights r0_days r0_done r0_things r0_fields_lefts r0_fields_wishes (va_cpy r1_figures r0_figures 0 0 8) r0_goes r0_hampers (va_cpy r1_kinds r0_kinds 0 0 8) (va_cpy r1_weights r0_weights 0 0 6) r1_days r1_done r1_things r1_fields_lefts r1_fields_wishes r1_figures r1_goes r1_hampers r1_kinds r1_weights)) rfl d_Sta_copyFrom_42 (fun H locs hW => ?_)
  refine lv_aload_n hx hb d_Sta_copyFrom_45 rfl (lv_at hl 1 rfl) ?_
  refine k_get i_Sta C hW 9 rfl rfl 3 (by decide) qf_Sta_21 rfl rfl d_Sta_copyFrom_46 ?_
  refine lv_iconst (v := 0) hx hb d_Sta_copyFrom_49 (by decide) ?_
  refine lv_aload_n hx hb d_Sta_copyFrom_50 rfl (lv_at hl 0 rfl) ?_
  refine k_get i_Sta C hW 0 rfl rfl 3 (by decide) qf_Sta_21 rfl rfl d_Sta_copyFrom_51 ?_
  refine lv_iconst (v := 0) hx hb d_Sta_copyFrom_54 (by decide) ?_
  refine lv_bipush (v := 8) hx hb d_Sta_copyFrom_55 (by decide) ?_
  refine k_copy C hW 14 5 rfl rfl (n := 8) (k := 8) (by decide) (by decide) (by decide) (by decide) qm_Sta_37 ⟨Nat.le_of_ble_eq_true rfl, Nat.le_of_ble_eq_true rfl⟩ hl.1 (ws' := (w_Sta_copyFrom cI a_r0 a_r0_fields a_r0_fields_lefts a_r0_fields_wishes a_r0_figures a_r0_goes a_r0_hampers a_r0_kinds a_r0_weights a_r1 a_r1_fields a_r1_fields_lefts a_r1_fields_wishes a_r1_figures a_r1_goes a_r1_hampers a_r1_kinds a_r1_weights r0_days r0_done r0_things r0_fields_lefts r0_fields_wishes (va_cpy r1_figures r0_figures 0 0 8) (va_cpy r1_goes r0_goes 0 0 8) r0_hampers (va_cpy r1_kinds r0_kinds 0 0 8) (va_cpy r1_weights r0_weights 0 0 6) r1_days r1_done r1_things r1_fields_lefts r1_fields_wishes r1_figures r1_goes r1_hampers r1_kinds r1_weights)) rfl d_Sta_copyFrom_57 (fun H locs hW => ?_)
  refine lv_aload_n hx hb d_Sta_copyFrom_60 rfl (lv_at hl 1 rfl) ?_
  refine k_get i_Sta C hW 9 rfl rfl 5 (by decide) qf_Sta_24 rfl rfl d_Sta_copyFrom_61 ?_
  refine lv_iconst (v := 0) hx hb d_Sta_copyFrom_64 (by decide) ?_
  refine lv_aload_n hx hb d_Sta_copyFrom_65 rfl (lv_at hl 0 rfl) ?_
  refine k_get i_Sta C hW 0 rfl rfl 5 (by decide) qf_Sta_24 rfl rfl d_Sta_copyFrom_66 ?_
  refine lv_iconst (v := 0) hx hb d_Sta_copyFrom_69 (by decide) ?_
  refine lv_bipush (v := 8) hx hb d_Sta_copyFrom_70 (by decide) ?_
  refine k_copy C hW 15 6 rfl rfl (n := 8) (k := 8) (by decide) (by decide) (by decide) (by decide) qm_Sta_37 ⟨Nat.le_of_ble_eq_true rfl, Nat.le_of_ble_eq_true rfl⟩ hl.1 (ws' := (w_Sta_copyFrom cI a_r0 a_r0_fields a_r0_fields_lefts a_r0_fields_wishes a_r0_figures a_r0_goes a_r0_hampers a_r0_kinds a_r0_weights a_r1 a_r1_fields a_r1_fields_lefts a_r1_fields_wishes a_r1_figures a_r1_goes a_r1_hampers a_r1_kinds a_r1_weights r0_days r0_done r0_things r0_fields_lefts r0_fields_wishes (va_cpy r1_figures r0_figures 0 0 8) (va_cpy r1_goes r0_goes 0 0 8) (va_cpy r1_hampers r0_hampers 0 0 8) (va_cpy r1_kinds r0_kinds 0 0 8) (va_cpy r1_weights r0_weights 0 0 6) r1_days r1_done r1_things r1_fields_lefts r1_fields_wishes r1_figures r1_goes r1_hampers r1_kinds r1_weights)) rfl d_Sta_copyFrom_72 (fun H locs hW => ?_)
  refine lv_aload_n hx hb d_Sta_copyFrom_75 rfl (lv_at hl 0 rfl) ?_
  refine lv_aload_n hx hb d_Sta_copyFrom_76 rfl (lv_at hl 1 rfl) ?_
  refine k_get i_Sta C hW 9 rfl rfl 4 (by decide) qf_Sta_43 rfl rfl d_Sta_copyFrom_77 ?_
  refine k_put i_Sta t_Sta_ok n_Sta C hW 0 rfl rfl 4 (by decide) qf_Sta_43 rfl rfl (ty := .int) rfl rfl rfl (Nat.le_of_ble_eq_true rfl) (ws' := (w_Sta_copyFrom cI a_r0 a_r0_fields a_r0_fields_lefts a_r0_fields_wishes a_r0_figures a_r0_goes a_r0_hampers a_r0_kinds a_r0_weights a_r1 a_r1_fields a_r1_fields_lefts a_r1_fields_wishes a_r1_figures a_r1_goes a_r1_hampers a_r1_kinds a_r1_weights r0_days r0_done r1_things r0_fields_lefts r0_fields_wishes (va_cpy r1_figures r0_figures 0 0 8) (va_cpy r1_goes r0_goes 0 0 8) (va_cpy r1_hampers r0_hampers 0 0 8) (va_cpy r1_kinds r0_kinds 0 0 8) (va_cpy r1_weights r0_weights 0 0 6) r1_days r1_done r1_things r1_fields_lefts r1_fields_wishes r1_figures r1_goes r1_hampers r1_kinds r1_weights)) rfl d_Sta_copyFrom_80 (fun H locs hW => ?_)
  refine lv_aload_n hx hb d_Sta_copyFrom_83 rfl (lv_at hl 0 rfl) ?_
  refine lv_aload_n hx hb d_Sta_copyFrom_84 rfl (lv_at hl 1 rfl) ?_
  refine k_get i_Sta C hW 9 rfl rfl 6 (by decide) qf_Sta_47 rfl rfl d_Sta_copyFrom_85 ?_
  refine k_put i_Sta t_Sta_ok n_Sta C hW 0 rfl rfl 6 (by decide) qf_Sta_47 rfl rfl (ty := .int) rfl rfl rfl (Nat.le_of_ble_eq_true rfl) (ws' := (w_Sta_copyFrom cI a_r0 a_r0_fields a_r0_fields_lefts a_r0_fields_wishes a_r0_figures a_r0_goes a_r0_hampers a_r0_kinds a_r0_weights a_r1 a_r1_fields a_r1_fields_lefts a_r1_fields_wishes a_r1_figures a_r1_goes a_r1_hampers a_r1_kinds a_r1_weights r1_days r0_done r1_things r0_fields_lefts r0_fields_wishes (va_cpy r1_figures r0_figures 0 0 8) (va_cpy r1_goes r0_goes 0 0 8) (va_cpy r1_hampers r0_hampers 0 0 8) (va_cpy r1_kinds r0_kinds 0 0 8) (va_cpy r1_weights r0_weights 0 0 6) r1_days r1_done r1_things r1_fields_lefts r1_fields_wishes r1_figures r1_goes r1_hampers r1_kinds r1_weights)) rfl d_Sta_copyFrom_88 (fun H locs hW => ?_)
  refine lv_aload_n hx hb d_Sta_copyFrom_91 rfl (lv_at hl 0 rfl) ?_
  refine k_get i_Sta C hW 0 rfl rfl 7 (by decide) qf_Sta_30 rfl rfl d_Sta_copyFrom_92 ?_
  refine lv_aload_n hx hb d_Sta_copyFrom_95 rfl (lv_at hl 1 rfl) ?_
  refine k_get i_Sta C hW 9 rfl rfl 7 (by decide) qf_Sta_30 rfl rfl d_Sta_copyFrom_96 ?_
  obtain ⟨q_1, hc_1, hr⟩ := ob hr
  have ct_1 := C_Fld_copyFrom l D cI cS a_r0_fields a_r0_fields_lefts a_r0_fields_wishes a_r1_fields a_r1_fields_lefts a_r1_fields_wishes r0_fields_lefts r0_fields_wishes r1_fields_lefts r1_fields_wishes q_1 hc_1
  refine k_goV hA hW [1, 2, 3, 10, 11, 12] rfl ct_1.1 (ws' := (w_Sta_copyFrom cI a_r0 a_r0_fields a_r0_fields_lefts a_r0_fields_wishes a_r0_figures a_r0_goes a_r0_hampers a_r0_kinds a_r0_weights a_r1 a_r1_fields a_r1_fields_lefts a_r1_fields_wishes a_r1_figures a_r1_goes a_r1_hampers a_r1_kinds a_r1_weights r1_days r0_done r1_things q_1.1 q_1.2 (va_cpy r1_figures r0_figures 0 0 8) (va_cpy r1_goes r0_goes 0 0 8) (va_cpy r1_hampers r0_hampers 0 0 8) (va_cpy r1_kinds r0_kinds 0 0 8) (va_cpy r1_weights r0_weights 0 0 6) r1_days r1_done r1_things r1_fields_lefts r1_fields_wishes r1_figures r1_goes r1_hampers r1_kinds r1_weights)) rfl (k_runV C hA hW mw_Fld_copyFrom mv_Fld_copyFrom (ct_1.2 _) [1, 2, 3, 10, 11, 12] rfl rfl 1 rfl rfl qm_Sta_50 ⟨Nat.le_of_ble_eq_true rfl, Nat.le_of_ble_eq_true rfl, Nat.zero_le _, Nat.zero_le _⟩ rfl rfl (Nat.le_of_ble_eq_true rfl) hl.1 d_Sta_copyFrom_99) (fun H locs hW => ?_)
  refine lv_aload_n hx hb d_Sta_copyFrom_102 rfl (lv_at hl 0 rfl) ?_
  refine lv_aload_n hx hb d_Sta_copyFrom_103 rfl (lv_at hl 1 rfl) ?_
  refine k_get i_Sta C hW 9 rfl rfl 8 (by decide) qf_Sta_54 rfl rfl d_Sta_copyFrom_104 ?_
  refine k_put i_Sta t_Sta_ok n_Sta C hW 0 rfl rfl 8 (by decide) qf_Sta_54 rfl rfl (ty := .int) rfl rfl rfl (Nat.le_of_ble_eq_true rfl) (ws' := (w_Sta_copyFrom cI a_r0 a_r0_fields a_r0_fields_lefts a_r0_fields_wishes a_r0_figures a_r0_goes a_r0_hampers a_r0_kinds a_r0_weights a_r1 a_r1_fields a_r1_fields_lefts a_r1_fields_wishes a_r1_figures a_r1_goes a_r1_hampers a_r1_kinds a_r1_weights r1_days r1_done r1_things q_1.1 q_1.2 (va_cpy r1_figures r0_figures 0 0 8) (va_cpy r1_goes r0_goes 0 0 8) (va_cpy r1_hampers r0_hampers 0 0 8) (va_cpy r1_kinds r0_kinds 0 0 8) (va_cpy r1_weights r0_weights 0 0 6) r1_days r1_done r1_things r1_fields_lefts r1_fields_wishes r1_figures r1_goes r1_hampers r1_kinds r1_weights)) rfl d_Sta_copyFrom_107 (fun H locs hW => ?_)
  obtain rfl := Option.some.inj hr
  rw [hQ]; exact k_vret C hret hW d_Sta_copyFrom_110
