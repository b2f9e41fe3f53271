def w_Dia_withSoMany (cI : ClassId) (a_r0 : Nat) (a_r0_goes : Nat) (a_r0_hampers : Nat) (v_r0_weights v_r0_kinds v_r0_figures v_r0_things v_r0_fields v_r0_done : Value) (r0_days : Int32) (r0_goes : Nat → Int32) (r0_hampers : Nat → Int32) : va_W := [(a_r0, .inr (1, [v_r0_weights, v_r0_kinds, v_r0_figures, .ref a_r0_goes, v_r0_things, .ref a_r0_hampers, .int r0_days, v_r0_fields, v_r0_done])), (a_r0_goes, .inl (cI, 8, .inl r0_goes)), (a_r0_hampers, .inl (cI, 8, .inl r0_hampers))]
def F_Dia_withSoMany_L4 (r0_days : Int32) (r0_goes : Nat → Int32) (r0_hampers : Nat → Int32) (x1 : Int32) (y2_1 : Int32) (y3_1 : Int32) : Option (((Int32) × (Int32)) ⊕ ((Int32))) :=
  (if (8 : Int32) ≤ y3_1 then (some (.inr y2_1)) else ((F_Sta_hasDay r0_days y3_1).bind (fun q_3 => (if q_3 = 0 then (some (.inl (y2_1, (y3_1 + 1)))) else ((F_Sta_hamperOf r0_days r0_hampers y3_1).bind (fun q_5 => ((F_Sta_couldBe r0_goes q_5).bind (fun q_6 => ((F_Jint_bitCount q_6).bind (fun q_7 => (if q_7 = x1 then (some (.inl ((y2_1 ||| ((1 : Int32) <<< ((y3_1 : Int32) &&& 31))), (y3_1 + 1)))) else (some (.inl (y2_1, (y3_1 + 1)))))))))))))))
def F_Dia_withSoMany (r0_days : Int32) (r0_goes : Nat → Int32) (r0_hampers : Nat → Int32) (x1 : Int32) : Option (Int32) :=
  ((wh (fun (s : (Int32) × (Int32)) => F_Dia_withSoMany_L4 r0_days r0_goes r0_hampers x1 s.1 s.2) 400 ((0 : Int32), (0 : Int32))).bind (fun e_1 => (some e_1)))
set_option maxHeartbeats 4000000 in
set_option maxRecDepth 100000 in
theorem C_Dia_withSoMany (l : Launch) (D : va_G) (cI cS : ClassId) (a_r0 : Nat) (a_r0_goes : Nat) (a_r0_hampers : Nat) (v_r0_weights v_r0_kinds v_r0_figures v_r0_things v_r0_fields v_r0_done : Value) (r0_days : Int32) (r0_goes : Nat → Int32) (r0_hampers : Nat → Int32) (x1 : Int32) (o : Int32) (hr : F_Dia_withSoMany r0_days r0_goes r0_hampers x1 = some o) : ctI l y_Dia_withSoMany (Cond.code y_Dia_withSoMany b_Dia_withSoMany 4 (some FieldType.int)) (rmd 2) D (kTy cI cS) [.ref a_r0, .int x1] (w_Dia_withSoMany cI a_r0 a_r0_goes a_r0_hampers v_r0_weights v_r0_kinds v_r0_figures v_r0_things v_r0_fields v_r0_done r0_days r0_goes r0_hampers) (w_Dia_withSoMany cI a_r0 a_r0_goes a_r0_hampers v_r0_weights v_r0_kinds v_r0_figures v_r0_things v_r0_fields v_r0_done r0_days r0_goes r0_hampers) o := by
  unfold F_Dia_withSoMany at hr
  refine ⟨rfl, fun sz => ct_of (w0 := (w_Dia_withSoMany cI a_r0 a_r0_goes a_r0_hampers v_r0_weights v_r0_kinds v_r0_figures v_r0_things v_r0_fields v_r0_done r0_days r0_goes r0_hampers)) (Qc := fun A => qI D (w_Dia_withSoMany cI a_r0 a_r0_goes a_r0_hampers v_r0_weights v_r0_kinds v_r0_figures v_r0_things v_r0_fields v_r0_done r0_days r0_goes r0_hampers) o A) rfl (Nat.le_of_ble_eq_true rfl) ?_ sz⟩
  intro p e s m below meth c A hA C hret ls hl hW
  have C : cx p s m ([.ref a_r0, .int x1] : List Value).toArray meth c b_Dia_withSoMany 4 R_Dia D (kTy cI cS) (Cond.code y_Dia_withSoMany b_Dia_withSoMany 4 (some FieldType.int)) := C
  obtain ⟨hx, hb, hml, hown, hts, hK, hlk, hN⟩ := id C
  have hl : lv_has ls 4 [(0, .ref a_r0), (1, .int x1)] := hl
  obtain ⟨Q, hQ⟩ : ∃ Q, Q = MQ below (qI D (w_Dia_withSoMany cI a_r0 a_r0_goes a_r0_hampers v_r0_weights v_r0_kinds v_r0_figures v_r0_things v_r0_fields v_r0_done r0_days r0_goes r0_hampers) o A) ([.ref a_r0, .int x1] : List Value).toArray s 0 0 A := ⟨_, rfl⟩
  rw [← hQ]
  refine lv_iconst (v := 0) hx hb d_Dia_withSoMany_0 (by decide) ?_
  refine lv_istore_n (lv' := [(2, .int 0), (0, .ref a_r0), (1, .int x1)]) hx hb d_Dia_withSoMany_1 rfl hl (by decide) rfl (fun ls hl => ?_)
  refine lv_iconst (v := 0) hx hb d_Dia_withSoMany_2 (by decide) ?_
  refine lv_istore_n (lv' := [(3, .int 0), (2, .int 0), (0, .ref a_r0), (1, .int x1)]) hx hb d_Dia_withSoMany_3 rfl hl (by decide) rfl (fun ls hl => ?_)
  obtain ⟨ex_1, hw_1, hk_1⟩ := ob hr
  have hx_1 : ∀ (e_1 : (Int32)), e_1 = ex_1 → ∀ (H : Heap) (locs : List Loc) (ls : Array Slot), wd A s.heap D (w_Dia_withSoMany cI a_r0 a_r0_goes a_r0_hampers v_r0_weights v_r0_kinds v_r0_figures v_r0_things v_r0_fields v_r0_done r0_days r0_goes r0_hampers) H locs → lv_has ls 4 [(2, .int e_1)] → W p l e (rmd 2) s m ([.ref a_r0, .int x1] : List Value).toArray below meth c H locs 0 0 Q (F0 m 46 ls []) := by
    intro e_1 hE H locs ls hW hl
    subst hE; have hr := hk_1
    refine lv_iload_n hx hb d_Dia_withSoMany_46 rfl (lv_at hl 0 rfl) ?_
    obtain rfl := Option.some.inj hr
    rw [hQ]; exact k_iret C hret hW d_Dia_withSoMany_47
  have hl_1 : ∀ (k : Nat) (y2_1 : Int32) (y3_1 : Int32), wh (fun (s : (Int32) × (Int32)) => F_Dia_withSoMany_L4 r0_days r0_goes r0_hampers x1 s.1 s.2) k (y2_1, y3_1) = some ex_1 → ∀ (H : Heap) (locs : List Loc) (ls : Array Slot), wd A s.heap D (w_Dia_withSoMany cI a_r0 a_r0_goes a_r0_hampers v_r0_weights v_r0_kinds v_r0_figures v_r0_things v_r0_fields v_r0_done r0_days r0_goes r0_hampers) H locs → lv_has ls 4 [(0, .ref a_r0), (1, .int x1), (2, .int y2_1), (3, .int y3_1)] → W p l e (rmd 2) s m ([.ref a_r0, .int x1] : List Value).toArray below meth c H locs 0 0 Q (F0 m 4 ls []) := by
    intro k
    induction k with
    | zero => intro y2_1 y3_1 hw; exact absurd hw wh_0
    | succ k ih_1 =>
      intro y2_1 y3_1 hw H locs ls hW hl
      obtain ⟨z_1, hr, hz1_1, hz2_1⟩ := wh_s hw
      have hr : F_Dia_withSoMany_L4 r0_days r0_goes r0_hampers x1 y2_1 y3_1 = some z_1 := hr
      unfold F_Dia_withSoMany_L4 at hr
      refine lv_iload_n hx hb d_Dia_withSoMany_4 rfl (lv_at hl 3 rfl) ?_
      refine lv_bipush (v := 8) hx hb d_Dia_withSoMany_5 (by decide) ?_
      refine lv_icmp_ge (tgt := 46) hx hb d_Dia_withSoMany_7 (by decide) (fun c_2 => ?_) (fun c_2 => ?_)
      · replace hr := ip c_2 hr
        exact hx_1 _ (hz2_1 _ (Option.some.inj hr).symm) _ _ _ hW (lv_sub hl [2] rfl)
      · replace hr := iN c_2 hr
        refine lv_aload_n hx hb d_Dia_withSoMany_10 rfl (lv_at hl 0 rfl) ?_
        refine lv_iload_n hx hb d_Dia_withSoMany_11 rfl (lv_at hl 3 rfl) ?_
        obtain ⟨q_3, hc_3, hr⟩ := ob hr
        have ct_3 := C_Sta_hasDay l D cI cS a_r0 v_r0_weights v_r0_kinds v_r0_figures (Value.ref a_r0_goes) v_r0_things (Value.ref a_r0_hampers) v_r0_fields v_r0_done r0_days y3_1 q_3 hc_3
        refine k_goIp hA hW [0] rfl rfl (k_runV C hA hW mw_Sta_hasDay mv_Sta_hasDay (ct_3.2 _) [0] rfl rfl 0 rfl rfl qm_Dia_23 ⟨Nat.le_of_ble_eq_true rfl, Nat.le_of_ble_eq_true rfl, Nat.zero_le _, Nat.zero_le _⟩ rfl rfl (Nat.le_of_ble_eq_true rfl) hl.1 d_Dia_withSoMany_12) (fun H locs hW => ?_)
        refine lv_if_eq (tgt := 40) hx hb d_Dia_withSoMany_15 (by decide) (fun c_4 => ?_) (fun c_4 => ?_)
        · replace hr := ip c_4 hr
          refine lv_iinc (v := (y3_1 + 1)) (lv' := [(3, .int (y3_1 + 1)), (0, .ref a_r0), (1, .int x1), (2, .int y2_1)]) hx hb d_Dia_withSoMany_40 hl (k := 3) rfl rfl (by decide) rfl (fun ls hl => ?_)
          refine lv_goto (tgt := 4) hx hb d_Dia_withSoMany_43 (by decide) ?_
          exact ih_1 y2_1 (y3_1 + 1) (hz1_1 _ (Option.some.inj hr).symm) _ _ _ hW (lv_sub hl [1, 2, 3, 0] rfl)
        · replace hr := iN c_4 hr
          refine lv_aload_n hx hb d_Dia_withSoMany_18 rfl (lv_at hl 0 rfl) ?_
          refine lv_aload_n hx hb d_Dia_withSoMany_19 rfl (lv_at hl 0 rfl) ?_
          refine lv_iload_n hx hb d_Dia_withSoMany_20 rfl (lv_at hl 3 rfl) ?_
          obtain ⟨q_5, hc_5, hr⟩ := ob hr
          have ct_5 := C_Sta_hamperOf l D cI cS a_r0 a_r0_hampers v_r0_weights v_r0_kinds v_r0_figures (Value.ref a_r0_goes) v_r0_things v_r0_fields v_r0_done r0_days r0_hampers y3_1 q_5 hc_5
          refine k_goIp hA hW [0, 2] rfl rfl (k_runV C hA hW mw_Sta_hamperOf mv_Sta_hamperOf (ct_5.2 _) [0, 2] rfl rfl 0 rfl rfl qm_Dia_9 ⟨Nat.le_of_ble_eq_true rfl, Nat.le_of_ble_eq_true rfl, Nat.zero_le _, Nat.zero_le _⟩ rfl rfl (Nat.le_of_ble_eq_true rfl) hl.1 d_Dia_withSoMany_21) (fun H locs hW => ?_)
          obtain ⟨q_6, hc_6, hr⟩ := ob hr
          have ct_6 := C_Sta_couldBe l D cI cS a_r0 a_r0_goes v_r0_weights v_r0_kinds v_r0_figures v_r0_things (Value.ref a_r0_hampers) (Value.int r0_days) v_r0_fields v_r0_done r0_goes q_5 q_6 hc_6
          refine k_goIp hA hW [0, 1] rfl rfl (k_runV C hA hW mw_Sta_couldBe mv_Sta_couldBe (ct_6.2 _) [0, 1] rfl rfl 0 rfl rfl qm_Dia_27 ⟨Nat.le_of_ble_eq_true rfl, Nat.le_of_ble_eq_true rfl, Nat.zero_le _, Nat.zero_le _⟩ rfl rfl (Nat.le_of_ble_eq_true rfl) hl.1 d_Dia_withSoMany_24) (fun H locs hW => ?_)
          obtain ⟨q_7, hc_7, hr⟩ := ob hr
          have ct_7 := C_Jint_bitCount l D cI cS q_6 q_7 hc_7
          refine k_goIp hA hW [] rfl rfl (k_runS C hA hW mw_Jint_bitCount ms_Jint_bitCount (ct_7.2 _) [] rfl rfl qm_Dia_34 ⟨Nat.le_of_ble_eq_true rfl, Nat.le_of_ble_eq_true rfl, Nat.zero_le _, Nat.zero_le _⟩ rfl rfl (Nat.le_of_ble_eq_true rfl) hl.1 d_Dia_withSoMany_27) (fun H locs hW => ?_)
          refine lv_iload_n hx hb d_Dia_withSoMany_30 rfl (lv_at hl 1 rfl) ?_
          refine lv_icmp_ne (tgt := 40) hx hb d_Dia_withSoMany_31 (by decide) (fun c_8 => ?_) (fun c_8 => ?_)
          · replace hr := iN c_8 hr
            refine lv_iinc (v := (y3_1 + 1)) (lv' := [(3, .int (y3_1 + 1)), (0, .ref a_r0), (1, .int x1), (2, .int y2_1)]) hx hb d_Dia_withSoMany_40 hl (k := 3) rfl rfl (by decide) rfl (fun ls hl => ?_)
            refine lv_goto (tgt := 4) hx hb d_Dia_withSoMany_43 (by decide) ?_
            exact ih_1 y2_1 (y3_1 + 1) (hz1_1 _ (Option.some.inj hr).symm) _ _ _ hW (lv_sub hl [1, 2, 3, 0] rfl)
          · replace hr := ip c_8 hr
            refine lv_iload_n hx hb d_Dia_withSoMany_34 rfl (lv_at hl 2 rfl) ?_
            refine lv_iconst (v := 1) hx hb d_Dia_withSoMany_35 (by decide) ?_
            refine lv_iload_n hx hb d_Dia_withSoMany_36 rfl (lv_at hl 3 rfl) ?_
            refine lv_ishl hx hb d_Dia_withSoMany_37 ?_
            refine lv_ior hx hb d_Dia_withSoMany_38 ?_
            refine lv_istore_n (lv' := [(2, .int (y2_1 ||| ((1 : Int32) <<< ((y3_1 : Int32) &&& 31)))), (0, .ref a_r0), (1, .int x1), (3, .int y3_1)]) hx hb d_Dia_withSoMany_39 rfl hl (by decide) rfl (fun ls hl => ?_)
            refine lv_iinc (v := (y3_1 + 1)) (lv' := [(3, .int (y3_1 + 1)), (2, .int (y2_1 ||| ((1 : Int32) <<< ((y3_1 : Int32) &&& 31)))), (0, .ref a_r0), (1, .int x1)]) hx hb d_Dia_withSoMany_40 hl (k := 3) rfl rfl (by decide) rfl (fun ls hl => ?_)
            refine lv_goto (tgt := 4) hx hb d_Dia_withSoMany_43 (by decide) ?_
            exact ih_1 (y2_1 ||| ((1 : Int32) <<< ((y3_1 : Int32) &&& 31))) (y3_1 + 1) (hz1_1 _ (Option.some.inj hr).symm) _ _ _ hW (lv_sub hl [2, 3, 1, 0] rfl)
  exact hl_1 _ 0 0 hw_1 _ _ _ hW (lv_sub hl [2, 3, 1, 0] rfl)
def w_Fld_leftAmong (cI : ClassId) (a_r0 : Nat) (a_r0_lefts : Nat) (v_r0_wishes : Value) (r0_lefts : Nat → Int32) : va_W := [(a_r0, .inr (2, [v_r0_wishes, .ref a_r0_lefts])), (a_r0_lefts, .inl (cI, 4, .inl r0_lefts))]
def F_Fld_leftAmong_L4 (r0_lefts : Nat → Int32) (x1 : Int32) (y2_1 : Int32) (y3_1 : Int32) : Option (((Int32) × (Int32)) ⊕ ((Int32))) :=
  (if (4 : Int32) ≤ y3_1 then (some (.inr y2_1)) else ((F_H_holds x1 y3_1).bind (fun q_3 => (if q_3 = 0 then (some (.inl (y2_1, (y3_1 + 1)))) else (ck y3_1 4 (some (.inl ((y2_1 + (r0_lefts (Int32.toNatClampNeg y3_1))), (y3_1 + 1)))))))))
def F_Fld_leftAmong (r0_lefts : Nat → Int32) (x1 : Int32) : Option (Int32) :=
  ((wh (fun (s : (Int32) × (Int32)) => F_Fld_leftAmong_L4 r0_lefts x1 s.1 s.2) 400 ((0 : Int32), (0 : Int32))).bind (fun e_1 => (some e_1)))
set_option maxHeartbeats 4000000 in
set_option maxRecDepth 100000 in
theorem C_Fld_leftAmong (l : Launch) (D : va_G) (cI cS : ClassId) (a_r0 : Nat) (a_r0_lefts : Nat) (v_r0_wishes : Value) (r0_lefts : Nat → Int32) (x1 : Int32) (o : Int32) (hr : F_Fld_leftAmong r0_lefts x1 = some o) : ctI l y_Fld_leftAmong (Cond.code y_Fld_leftAmong b_Fld_leftAmong 4 (some FieldType.int)) (rmd 1) D (kTy cI cS) [.ref a_r0, .int x1] (w_Fld_leftAmong cI a_r0 a_r0_lefts v_r0_wishes r0_lefts) (w_Fld_leftAmong cI a_r0 a_r0_lefts v_r0_wishes r0_lefts) o := by
  unfold F_Fld_leftAmong at hr
  refine ⟨rfl, fun sz => ct_of (w0 := (w_Fld_leftAmong cI a_r0 a_r0_lefts v_r0_wishes r0_lefts)) (Qc := fun A => qI D (w_Fld_leftAmong cI a_r0 a_r0_lefts v_r0_wishes r0_lefts) o A) rfl (Nat.le_of_ble_eq_true rfl) ?_ sz⟩
  intro p e s m below meth c A hA C hret ls hl hW
  have C : cx p s m ([.ref a_r0, .int x1] : List Value).toArray meth c b_Fld_leftAmong 4 R_Fld D (kTy cI cS) (Cond.code y_Fld_leftAmong b_Fld_leftAmong 4 (some FieldType.int)) := C
  obtain ⟨hx, hb, hml, hown, hts, hK, hlk, hN⟩ := id C
  have hl : lv_has ls 4 [(0, .ref a_r0), (1, .int x1)] := hl
  obtain ⟨Q, hQ⟩ : ∃ Q, Q = MQ below (qI D (w_Fld_leftAmong cI a_r0 a_r0_lefts v_r0_wishes r0_lefts) o A) ([.ref a_r0, .int x1] : List Value).toArray s 0 0 A := ⟨_, rfl⟩
  rw [← hQ]
  refine lv_iconst (v := 0) hx hb d_Fld_leftAmong_0 (by decide) ?_
  refine lv_istore_n (lv' := [(2, .int 0), (0, .ref a_r0), (1, .int x1)]) hx hb d_Fld_leftAmong_1 rfl hl (by decide) rfl (fun ls hl => ?_)
  refine lv_iconst (v := 0) hx hb d_Fld_leftAmong_2 (by decide) ?_
  refine lv_istore_n (lv' := [(3, .int 0), (2, .int 0), (0, .ref a_r0), (1, .int x1)]) hx hb d_Fld_leftAmong_3 rfl hl (by decide) rfl (fun ls hl => ?_)
  obtain ⟨ex_1, hw_1, hk_1⟩ := ob hr
  have hx_1 : ∀ (e_1 : (Int32)), e_1 = ex_1 → ∀ (H : Heap) (locs : List Loc) (ls : Array Slot), wd A s.heap D (w_Fld_leftAmong cI a_r0 a_r0_lefts v_r0_wishes r0_lefts) H locs → lv_has ls 4 [(2, .int e_1)] → W p l e (rmd 1) s m ([.ref a_r0, .int x1] : List Value).toArray below meth c H locs 0 0 Q (F0 m 32 ls []) := by
    intro e_1 hE H locs ls hW hl
    subst hE; have hr := hk_1
    refine lv_iload_n hx hb d_Fld_leftAmong_32 rfl (lv_at hl 0 rfl) ?_
    obtain rfl := Option.some.inj hr
    rw [hQ]; exact k_iret C hret hW d_Fld_leftAmong_33
  have hl_1 : ∀ (k : Nat) (y2_1 : Int32) (y3_1 : Int32), wh (fun (s : (Int32) × (Int32)) => F_Fld_leftAmong_L4 r0_lefts x1 s.1 s.2) k (y2_1, y3_1) = some ex_1 → ∀ (H : Heap) (locs : List Loc) (ls : Array Slot), wd A s.heap D (w_Fld_leftAmong cI a_r0 a_r0_lefts v_r0_wishes r0_lefts) H locs → lv_has ls 4 [(0, .ref a_r0), (1, .int x1), (2, .int y2_1), (3, .int y3_1)] → W p l e (rmd 1) s m ([.ref a_r0, .int x1] : List Value).toArray below meth c H locs 0 0 Q (F0 m 4 ls []) := by
    intro k
    induction k with
    | zero => intro y2_1 y3_1 hw; exact absurd hw wh_0
    | succ k ih_1 =>
      intro y2_1 y3_1 hw H locs ls hW hl
      obtain ⟨z_1, hr, hz1_1, hz2_1⟩ := wh_s hw
      have hr : F_Fld_leftAmong_L4 r0_lefts x1 y2_1 y3_1 = some z_1 := hr
      unfold F_Fld_leftAmong_L4 at hr
      refine lv_iload_n hx hb d_Fld_leftAmong_4 rfl (lv_at hl 3 rfl) ?_
      refine lv_iconst (v := 4) hx hb d_Fld_leftAmong_5 (by decide) ?_
      refine lv_icmp_ge (tgt := 32) hx hb d_Fld_leftAmong_6 (by decide) (fun c_2 => ?_) (fun c_2 => ?_)
      · replace hr := ip c_2 hr
        exact hx_1 _ (hz2_1 _ (Option.some.inj hr).symm) _ _ _ hW (lv_sub hl [2] rfl)
      · replace hr := iN c_2 hr
        refine lv_iload_n hx hb d_Fld_leftAmong_9 rfl (lv_at hl 1 rfl) ?_
        refine lv_iload_n hx hb d_Fld_leftAmong_10 rfl (lv_at hl 3 rfl) ?_
        obtain ⟨q_3, hc_3, hr⟩ := ob hr
        have ct_3 := C_H_holds l D cI cS x1 y3_1 q_3 hc_3
        refine k_goIp hA hW [] rfl rfl (k_runSN C hA hW mw_H_holds ms_H_holds (ct_3.2 _) [] rfl rfl qm_Fld_22 ⟨Nat.le_of_ble_eq_true rfl, Nat.le_of_ble_eq_true rfl, Nat.zero_le _, Nat.zero_le _⟩ rfl rfl (Nat.le_of_ble_eq_true rfl) hl.1 d_Fld_leftAmong_11) (fun H locs hW => ?_)
        refine lv_if_eq (tgt := 26) hx hb d_Fld_leftAmong_14 (by decide) (fun c_4 => ?_) (fun c_4 => ?_)
        · replace hr := ip c_4 hr
          refine lv_iinc (v := (y3_1 + 1)) (lv' := [(3, .int (y3_1 + 1)), (0, .ref a_r0), (1, .int x1), (2, .int y2_1)]) hx hb d_Fld_leftAmong_26 hl (k := 3) rfl rfl (by decide) rfl (fun ls hl => ?_)
          refine lv_goto (tgt := 4) hx hb d_Fld_leftAmong_29 (by decide) ?_
          exact ih_1 y2_1 (y3_1 + 1) (hz1_1 _ (Option.some.inj hr).symm) _ _ _ hW (lv_sub hl [1, 2, 3, 0] rfl)
        · replace hr := iN c_4 hr
          refine lv_iload_n hx hb d_Fld_leftAmong_17 rfl (lv_at hl 2 rfl) ?_
          refine lv_aload_n hx hb d_Fld_leftAmong_18 rfl (lv_at hl 0 rfl) ?_
          refine k_get i_Fld C hW 0 rfl rfl 1 (by decide) qf_Fld_15 rfl rfl d_Fld_leftAmong_19 ?_
          refine lv_iload_n hx hb d_Fld_leftAmong_22 rfl (lv_at hl 3 rfl) ?_
          obtain ⟨h_5, hr⟩ := ck_some hr
          refine k_iald C hW 1 rfl h_5 d_Fld_leftAmong_23 ?_
          refine lv_iadd hx hb d_Fld_leftAmong_24 ?_
          refine lv_istore_n (lv' := [(2, .int (y2_1 + (r0_lefts (Int32.toNatClampNeg y3_1)))), (0, .ref a_r0), (1, .int x1), (3, .int y3_1)]) hx hb d_Fld_leftAmong_25 rfl hl (by decide) rfl (fun ls hl => ?_)
          refine lv_iinc (v := (y3_1 + 1)) (lv' := [(3, .int (y3_1 + 1)), (2, .int (y2_1 + (r0_lefts (Int32.toNatClampNeg y3_1)))), (0, .ref a_r0), (1, .int x1)]) hx hb d_Fld_leftAmong_26 hl (k := 3) rfl rfl (by decide) rfl (fun ls hl => ?_)
          refine lv_goto (tgt := 4) hx hb d_Fld_leftAmong_29 (by decide) ?_
          exact ih_1 (y2_1 + (r0_lefts (Int32.toNatClampNeg y3_1))) (y3_1 + 1) (hz1_1 _ (Option.some.inj hr).symm) _ _ _ hW (lv_sub hl [2, 3, 1, 0] rfl)
  exact hl_1 _ 0 0 hw_1 _ _ _ hW (lv_sub hl [2, 3, 1, 0] rfl)
def w_Fld_allLeft (cI : ClassId) (a_r0 : Nat) (a_r0_lefts : Nat) (v_r0_wishes : Value) (r0_lefts : Nat → Int32) : va_W := [(a_r0, .inr (2, [v_r0_wishes, .ref a_r0_lefts])), (a_r0_lefts, .inl (cI, 4, .inl r0_lefts))]
def F_Fld_allLeft (r0_lefts : Nat → Int32) : Option (Int32) :=
  ((F_Fld_leftAmong r0_lefts (15 : Int32)).bind (fun q_1 => (some q_1)))
set_option maxHeartbeats 4000000 in
set_option maxRecDepth 100000 in
theorem C_Fld_allLeft (l : Launch) (D : va_G) (cI cS : ClassId) (a_r0 : Nat) (a_r0_lefts : Nat) (v_r0_wishes : Value) (r0_lefts : Nat → Int32) (o : Int32) (hr : F_Fld_allLeft r0_lefts = some o) : ctI l y_Fld_allLeft (Cond.code y_Fld_allLeft b_Fld_allLeft 1 (some FieldType.int)) (rmd 2) D (kTy cI cS) [.ref a_r0] (w_Fld_allLeft cI a_r0 a_r0_lefts v_r0_wishes r0_lefts) (w_Fld_allLeft cI a_r0 a_r0_lefts v_r0_wishes r0_lefts) o := by
  unfold F_Fld_allLeft at hr
  refine ⟨rfl, fun sz => ct_of (w0 := (w_Fld_allLeft cI a_r0 a_r0_lefts v_r0_wishes r0_lefts)) (Qc := fun A => qI D (w_Fld_allLeft cI a_r0 a_r0_lefts v_r0_wishes r0_lefts) o A) rfl (Nat.le_of_ble_eq_true rfl) ?_ sz⟩
  intro p e s m below meth c A hA C hret ls hl hW
  have C : cx p s m ([.ref a_r0] : List Value).toArray meth c b_Fld_allLeft 1 R_Fld D (kTy cI cS) (Cond.code y_Fld_allLeft b_Fld_allLeft 1 (some FieldType.int)) := C
  obtain ⟨hx, hb, hml, hown, hts, hK, hlk, hN⟩ := id C
  have hl : lv_has ls 1 [(0, .ref a_r0)] := hl
  obtain ⟨Q, hQ⟩ : ∃ Q, Q = MQ below (qI D (w_Fld_allLeft cI a_r0 a_r0_lefts v_r0_wishes r0_lefts) o A) ([.ref a_r0] : List Value).toArray s 0 0 A := ⟨_, rfl⟩
  rw [← hQ]
  refine lv_aload_n hx hb d_Fld_allLeft_0 rfl (lv_at hl 0 rfl) ?_
  refine lv_bipush (v := 15) hx hb d_Fld_allLeft_1 (by decide) ?_
  obtain ⟨q_1, hc_1, hr⟩ := ob hr
  have ct_1 := C_Fld_leftAmong l D cI cS a_r0 a_r0_lefts v_r0_wishes r0_lefts 15 q_1 hc_1
  refine k_goIp hA hW [0, 1] rfl rfl (k_runV C hA hW mw_Fld_leftAmong mv_Fld_leftAmong (ct_1.2 _) [0, 1] rfl rfl 0 rfl rfl qm_Fld_30 ⟨Nat.le_of_ble_eq_true rfl, Nat.le_of_ble_eq_true rfl, Nat.zero_le _, Nat.zero_le _⟩ rfl rfl (Nat.le_of_ble_eq_true rfl) hl.1 d_Fld_allLeft_3) (fun H locs hW => ?_)
  obtain rfl := Option.some.inj hr
  rw [hQ]; exact k_iret C hret hW d_Fld_allLeft_6
def F_H_isField (x0 : Int32) : Option (Int32) :=
  (if x0 < 0 then (some 0) else (if (4 : Int32) ≤ x0 then (some 0) else (some 1)))
set_option maxHeartbeats 4000000 in
set_option maxRecDepth 100000 in
theorem C_H_isField (l : Launch) (D : va_G) (cI cS : ClassId) (x0 : Int32) (o : Int32) (hr : F_H_isField x0 = some o) : ctI l y_H_isField (Cond.code y_H_isField b_H_isField 1 (some FieldType.boolean)) (rmd 0) D (kTy cI cS) [.int x0] [] [] o := by
  unfold F_H_isField at hr
  refine ⟨rfl, fun sz => ct_of (w0 := []) (Qc := fun A => qI D [] o A) rfl (Nat.le_of_ble_eq_true rfl) ?_ sz⟩
  intro p e s m below meth c A hA C hret ls hl hW
  have C : cx p s m ([.int x0] : List Value).toArray meth c b_H_isField 1 R_H D (kTy cI cS) (Cond.code y_H_isField b_H_isField 1 (some FieldType.boolean)) := C
  obtain ⟨hx, hb, hml, hown, hts, hK, hlk, hN⟩ := id C
  have hl : lv_has ls 1 [(0, .int x0)] := hl
  obtain ⟨Q, hQ⟩ : ∃ Q, Q = MQ below (qI D [] o A) ([.int x0] : List Value).toArray s 0 0 A := ⟨_, rfl⟩
  rw [← hQ]
  refine lv_iload_n hx hb d_H_isField_0 rfl (lv_at hl 0 rfl) ?_
  refine lv_if_lt (tgt := 13) hx hb d_H_isField_1 (by decide) (fun c_1 => ?_) (fun c_1 => ?_)
  · replace hr := ip c_1 hr
    refine lv_iconst (v := 0) hx hb d_H_isField_13 (by decide) ?_
    obtain rfl := Option.some.inj hr
    rw [hQ]; exact k_zret C hret nar0 hW d_H_isField_14
  · replace hr := iN c_1 hr
    refine lv_iload_n hx hb d_H_isField_4 rfl (lv_at hl 0 rfl) ?_
    refine lv_iconst (v := 4) hx hb d_H_isField_5 (by decide) ?_
    refine lv_icmp_ge (tgt := 13) hx hb d_H_isField_6 (by decide) (fun c_2 => ?_) (fun c_2 => ?_)
    · replace hr := ip c_2 hr
      refine lv_iconst (v := 0) hx hb d_H_isField_13 (by decide) ?_
      obtain rfl := Option.some.inj hr
      rw [hQ]; exact k_zret C hret nar0 hW d_H_isField_14
    · replace hr := iN c_2 hr
      refine lv_iconst (v := 1) hx hb d_H_isField_9 (by decide) ?_
      refine lv_goto (tgt := 14) hx hb d_H_isField_10 (by decide) ?_
      obtain rfl := Option.some.inj hr
      rw [hQ]; exact k_zret C hret nar1 hW d_H_isField_14
def w_Fld_become (cI : ClassId) (a_r0 : Nat) (a_r0_lefts : Nat) (a_r0_wishes : Nat) (r0_lefts : Nat → Int32) (r0_wishes : Nat → Int32) : va_W := [(a_r0, .inr (2, [.ref a_r0_wishes, .ref a_r0_lefts])), (a_r0_lefts, .inl (cI, 4, .inl r0_lefts)), (a_r0_wishes, .inl (cI, 4, .inl r0_wishes))]
def F_Fld_become (r0_lefts : Nat → Int32) (r0_wishes : Nat → Int32) (x1 : Int32) (x2 : Int32) (x3 : Int32) : Option ((Nat → Int32) × (Nat → Int32)) :=
  ((F_H_isField x1).bind (fun q_1 => (if q_1 = 0 then (some (r0_lefts, r0_wishes)) else (ck x1 4 (ck x1 4 (some ((upd r0_lefts (Int32.toNatClampNeg x1) x3), (upd r0_wishes (Int32.toNatClampNeg x1) x2))))))))
set_option maxHeartbeats 4000000 in
set_option maxRecDepth 100000 in
theorem C_Fld_become (l : Launch) (D : va_G) (cI cS : ClassId) (a_r0 : Nat) (a_r0_lefts : Nat) (a_r0_wishes : Nat) (r0_lefts : Nat → Int32) (r0_wishes : Nat → Int32) (x1 : Int32) (x2 : Int32) (x3 : Int32) (o : (Nat → Int32) × (Nat → Int32)) (hr : F_Fld_become r0_lefts r0_wishes x1 x2 x3 = some o) : ctV l y_Fld_become (Cond.code y_Fld_become b_Fld_become 4 none) (rmd 1) D (kTy cI cS) [.ref a_r0, .int x1, .int x2, .int x3] (w_Fld_become cI a_r0 a_r0_lefts a_r0_wishes r0_lefts r0_wishes) (w_Fld_become cI a_r0 a_r0_lefts a_r0_wishes o.1 o.2) := by
  unfold F_Fld_become at hr
  refine ⟨rfl, fun sz => ct_of (w0 := (w_Fld_become cI a_r0 a_r0_lefts a_r0_wishes r0_lefts r0_wishes)) (Qc := fun A => qV D (w_Fld_become cI a_r0 a_r0_lefts a_r0_wishes o.1 o.2) A) rfl (Nat.le_of_ble_eq_true rfl) ?_ sz⟩
  intro p e s m below meth c A hA C hret ls hl hW
  have C : cx p s m ([.ref a_r0, .int x1, .int x2, .int x3] : List Value).toArray meth c b_Fld_become 4 R_Fld D (kTy cI cS) (Cond.code y_Fld_become b_Fld_become 4 none) := C
  obtain ⟨hx, hb, hml, hown, hts, hK, hlk, hN⟩ := id C
  have hl : lv_has ls 4 [(0, .ref a_r0), (1, .int x1), (2, .int x2), (3, .int x3)] := hl
  obtain ⟨Q, hQ⟩ : ∃ Q, Q = MQ below (qV D (w_Fld_become cI a_r0 a_r0_lefts a_r0_wishes o.1 o.2) A) ([.ref a_r0, .int x1, .int x2, .int x3] : List Value).toArray s 0 0 A := ⟨_, rfl⟩
  rw [← hQ]
  refine lv_iload_n hx hb d_Fld_become_0 rfl (lv_at hl 1 rfl) ?_
  obtain ⟨q_1, hc_1, hr⟩ := ob hr
  have ct_1 := C_H_isField l D cI cS x1 q_1 hc_1
  refine k_goIp hA hW [] rfl rfl (k_runSN C hA hW mw_H_isField ms_H_isField (ct_1.2 _) [] rfl rfl qm_Fld_18 ⟨Nat.le_of_ble_eq_true rfl, Nat.le_of_ble_eq_true rfl, Nat.zero_le _, Nat.zero_le _⟩ rfl rfl (Nat.le_of_ble_eq_true rfl) hl.1 d_Fld_become_1) (fun H locs hW => ?_)
  refine lv_if_eq (tgt := 21) hx hb d_Fld_become_4 (by decide) (fun c_2 => ?_) (fun c_2 => ?_)
  · replace hr := ip c_2 hr
    obtain rfl := Option.some.inj hr
    rw [hQ]; exact k_vret C hret hW d_Fld_become_21
  · replace hr := iN c_2 hr
    refine lv_aload_n hx hb d_Fld_become_7 rfl (lv_at hl 0 rfl) ?_
    refine k_get i_Fld C hW 0 rfl rfl 0 (by decide) qf_Fld_9 rfl rfl d_Fld_become_8 ?_
    refine lv_iload_n hx hb d_Fld_become_11 rfl (lv_at hl 1 rfl) ?_
    refine lv_iload_n hx hb d_Fld_become_12 rfl (lv_at hl 2 rfl) ?_
    obtain ⟨h_3, hr⟩ := ck_some hr
    refine k_iast C hW 2 rfl h_3 (ws' := (w_Fld_become cI a_r0 a_r0_lefts a_r0_wishes r0_lefts (upd r0_wishes (Int32.toNatClampNeg x1) x2))) rfl d_Fld_become_13 (fun H locs hW => ?_)
    refine lv_aload_n hx hb d_Fld_become_14 rfl (lv_at hl 0 rfl) ?_
    refine k_get i_Fld C hW 0 rfl rfl 1 (by decide) qf_Fld_15 rfl rfl d_Fld_become_15 ?_
    refine lv_iload_n hx hb d_Fld_become_18 rfl (lv_at hl 1 rfl) ?_
    refine lv_iload_n hx hb d_Fld_become_19 rfl (lv_at hl 3 rfl) ?_
    obtain ⟨h_4, hr⟩ := ck_some hr
    refine k_iast C hW 1 rfl h_4 (ws' := (w_Fld_become cI a_r0 a_r0_lefts a_r0_wishes (upd r0_lefts (Int32.toNatClampNeg x1) x3) (upd r0_wishes (Int32.toNatClampNeg x1) x2))) rfl d_Fld_become_20 (fun H locs hW => ?_)
    obtain rfl := Option.some.inj hr
    rw [hQ]; exact k_vret C hret hW d_Fld_become_21
def w_Fld_copyFrom (cI : ClassId) (a_r0 : Nat) (a_r0_lefts : Nat) (a_r0_wishes : Nat) (a_r1 : Nat) (a_r1_lefts : Nat) (a_r1_wishes : Nat) (r0_lefts : Nat → Int32) (r0_wishes : Nat → Int32) (r1_lefts : Nat → Int32) (r1_wishes : Nat → Int32) : va_W := [(a_r0, .inr (2, [.ref a_r0_wishes, .ref a_r0_lefts])), (a_r0_lefts, .inl (cI, 4, .inl r0_lefts)), (a_r0_wishes, .inl (cI, 4, .inl r0_wishes)), (a_r1, .inr (2, [.ref a_r1_wishes, .ref a_r1_lefts])), (a_r1_lefts, .inl (cI, 4, .inl r1_lefts)), (a_r1_wishes, .inl (cI, 4, .inl r1_wishes))]
def F_Fld_copyFrom_L2 (r1_lefts : Nat → Int32) (r1_wishes : Nat → Int32) (y2_1 : Int32) (r0_lefts_1 : Nat → Int32) (r0_wishes_1 : Nat → Int32) : Option (((Int32) × (Nat → Int32) × (Nat → Int32)) ⊕ ((Nat → Int32) × (Nat → Int32))) :=
  (if (4 : Int32) ≤ y2_1 then (some (.inr (r0_lefts_1, r0_wishes_1))) else (ck y2_1 4 (ck y2_1 4 (ck y2_1 4 (ck y2_1 4 (some (.inl ((y2_1 + 1), (upd r0_lefts_1 (Int32.toNatClampNeg y2_1) (r1_lefts (Int32.toNatClampNeg y2_1))), (upd r0_wishes_1 (Int32.toNatClampNeg y2_1) (r1_wishes (Int32.toNatClampNeg y2_1)))))))))))
def F_Fld_copyFrom (r0_lefts : Nat → Int32) (r0_wishes : Nat → Int32) (r1_lefts : Nat → Int32) (r1_wishes : Nat → Int32) : Option ((Nat → Int32) × (Nat → Int32)) :=
  ((wh (fun (s : (Int32) × (Nat → Int32) × (Nat → Int32)) => F_Fld_copyFrom_L2 r1_lefts r1_wishes s.1 s.2.1 s.2.2) 400 ((0 : Int32), r0_lefts, r0_wishes)).bind (fun e_1 => (some (e_1.1, e_1.2))))
set_option maxHeartbeats 4000000 in
set_option maxRecDepth 100000 in
theorem C_Fld_copyFrom (l : Launch) (D : va_G) (cI cS : ClassId) (a_r0 : Nat) (a_r0_lefts : Nat) (a_r0_wishes : Nat) (a_r1 : Nat) (a_r1_lefts : Nat) (a_r1_wishes : Nat) (r0_lefts : Nat → Int32) (r0_wishes : Nat → Int32) (r1_lefts : Nat → Int32) (r1_wishes : Nat → Int32) (o : (Nat → Int32) × (Nat → Int32)) (hr : F_Fld_copyFrom r0_lefts r0_wishes r1_lefts r1_wishes = some o) : ctV l y_Fld_copyFrom (Cond.code y_Fld_copyFrom b_Fld_copyFrom 3 none) (rmd 0) D (kTy cI cS) [.ref a_r0, .ref a_r1] (w_Fld_copyFrom cI a_r0 a_r0_lefts a_r0_wishes a_r1 a_r1_lefts a_r1_wishes r0_lefts r0_wishes r1_lefts r1_wishes) (w_Fld_copyFrom cI a_r0 a_r0_lefts a_r0_wishes a_r1 a_r1_lefts a_r1_wishes o.1 o.2 r1_lefts r1_wishes) := by
  unfold F_Fld_copyFrom at hr
  refine ⟨rfl, fun sz => ct_of (w0 := (w_Fld_copyFrom cI a_r0 a_r0_lefts a_r0_wishes a_r1 a_r1_lefts a_r1_wishes r0_lefts r0_wishes r1_lefts r1_wishes)) (Qc := fun A => qV D (w_Fld_copyFrom cI a_r0 a_r0_lefts a_r0_wishes a_r1 a_r1_lefts a_r1_wishes o.1 o.2 r1_lefts r1_wishes) A) rfl (Nat.le_of_ble_eq_true rfl) ?_ sz⟩
  intro p e s m below meth c A hA C hret ls hl hW
  have C : cx p s m ([.ref a_r0, .ref a_r1] : List Value).toArray meth c b_Fld_copyFrom 3 R_Fld D (kTy cI cS) (Cond.code y_Fld_copyFrom b_Fld_copyFrom 3 none) := C
  obtain ⟨hx, hb, hml, hown, hts, hK, hlk, hN⟩ := id C
  have hl : lv_has ls 3 [(0, .ref a_r0), (1, .ref a_r1)] := hl
  obtain ⟨Q, hQ⟩ : ∃ Q, Q = MQ below (qV D (w_Fld_copyFrom cI a_r0 a_r0_lefts a_r0_wishes a_r1 a_r1_lefts a_r1_wishes o.1 o.2 r1_lefts r1_wishes) A) ([.ref a_r0, .ref a_r1] : List Value).toArray s 0 0 A := ⟨_, rfl⟩
  rw [← hQ]
  refine lv_iconst (v := 0) hx hb d_Fld_copyFrom_0 (by decide) ?_
  refine lv_istore_n (lv' := [(2, .int 0), (0, .ref a_r0), (1, .ref a_r1)]) hx hb d_Fld_copyFrom_1 rfl hl (by decide) rfl (fun ls hl => ?_)
  obtain ⟨ex_1, hw_1, hk_1⟩ := ob hr
  have hx_1 : ∀ (e_1 : (Nat → Int32) × (Nat → Int32)), e_1 = ex_1 → ∀ (H : Heap) (locs : List Loc) (ls : Array Slot), wd A s.heap D (w_Fld_copyFrom cI a_r0 a_r0_lefts a_r0_wishes a_r1 a_r1_lefts a_r1_wishes e_1.1 e_1.2 r1_lefts r1_wishes) H locs → lv_has ls 3 [] → W p l e (rmd 0) s m ([.ref a_r0, .ref a_r1] : List Value).toArray below meth c H locs 0 0 Q (F0 m 37 ls []) := by
    intro e_1 hE H locs ls hW hl
    subst hE; have hr := hk_1
    obtain rfl := Option.some.inj hr
    rw [hQ]; exact k_vret C hret hW d_Fld_copyFrom_37
  have hl_1 : ∀ (k : Nat) (y2_1 : Int32) (r0_lefts_1 : Nat → Int32) (r0_wishes_1 : Nat → Int32), wh (fun (s : (Int32) × (Nat → Int32) × (Nat → Int32)) => F_Fld_copyFrom_L2 r1_lefts r1_wishes s.1 s.2.1 s.2.2) k (y2_1, r0_lefts_1, r0_wishes_1) = some ex_1 → ∀ (H : Heap) (locs : List Loc) (ls : Array Slot), wd A s.heap D (w_Fld_copyFrom cI a_r0 a_r0_lefts a_r0_wishes a_r1 a_r1_lefts a_r1_wishes r0_lefts_1 r0_wishes_1 r1_lefts r1_wishes) H locs → lv_has ls 3 [(0, .ref a_r0), (1, .ref a_r1), (2, .int y2_1)] → W p l e (rmd 0) s m ([.ref a_r0, .ref a_r1] : List Value).toArray below meth c H locs 0 0 Q (F0 m 2 ls []) := by
    intro k
    induction k with
    | zero => intro y2_1 r0_lefts_1 r0_wishes_1 hw; exact absurd hw wh_0
    | succ k ih_1 =>
      intro y2_1 r0_lefts_1 r0_wishes_1 hw H locs ls hW hl
      obtain ⟨z_1, hr, hz1_1, hz2_1⟩ := wh_s hw
      have hr : F_Fld_copyFrom_L2 r1_lefts r1_wishes y2_1 r0_lefts_1 r0_wishes_1 = some z_1 := hr
      unfold F_Fld_copyFrom_L2 at hr
      refine lv_iload_n hx hb d_Fld_copyFrom_2 rfl (lv_at hl 2 rfl) ?_
      refine lv_iconst (v := 4) hx hb d_Fld_copyFrom_3 (by decide) ?_
      refine lv_icmp_ge (tgt := 37) hx hb d_Fld_copyFrom_4 (by decide) (fun c_2 => ?_) (fun c_2 => ?_)
      · replace hr := ip c_2 hr
        exact hx_1 _ (hz2_1 _ (Option.some.inj hr).symm) _ _ _ hW (lv_sub hl [] rfl)
      · replace hr := iN c_2 hr
        refine lv_aload_n hx hb d_Fld_copyFrom_7 rfl (lv_at hl 0 rfl) ?_
        refine k_get i_Fld C hW 0 rfl rfl 0 (by decide) qf_Fld_9 rfl rfl d_Fld_copyFrom_8 ?_
        refine lv_iload_n hx hb d_Fld_copyFrom_11 rfl (lv_at hl 2 rfl) ?_
        refine lv_aload_n hx hb d_Fld_copyFrom_12 rfl (lv_at hl 1 rfl) ?_
        refine k_get i_Fld C hW 3 rfl rfl 0 (by decide) qf_Fld_9 rfl rfl d_Fld_copyFrom_13 ?_
        refine lv_iload_n hx hb d_Fld_copyFrom_16 rfl (lv_at hl 2 rfl) ?_
        obtain ⟨h_3, hr⟩ := ck_some hr
        refine k_iald C hW 5 rfl h_3 d_Fld_copyFrom_17 ?_
        obtain ⟨h_4, hr⟩ := ck_some hr
        refine k_iast C hW 2 rfl h_4 (ws' := (w_Fld_copyFrom cI a_r0 a_r0_lefts a_r0_wishes a_r1 a_r1_lefts a_r1_wishes r0_lefts_1 (upd r0_wishes_1 (Int32.toNatClampNeg y2_1) (r1_wishes (Int32.toNatClampNeg y2_1))) r1_lefts r1_wishes)) rfl d_Fld_copyFrom_18 (fun H locs hW => ?_)
        refine lv_aload_n hx hb d_Fld_copyFrom_19 rfl (lv_at hl 0 rfl) ?_
        refine k_get i_Fld C hW 0 rfl rfl 1 (by decide) qf_Fld_15 rfl rfl d_Fld_copyFrom_20 ?_
        refine lv_iload_n hx hb d_Fld_copyFrom_23 rfl (lv_at hl 2 rfl) ?_
        refine lv_aload_n hx hb d_Fld_copyFrom_24 rfl (lv_at hl 1 rfl) ?_
        refine k_get i_Fld C hW 3 rfl rfl 1 (by decide) qf_Fld_15 rfl rfl d_Fld_copyFrom_25 ?_
        refine lv_iload_n hx hb d_Fld_copyFrom_28 rfl (lv_at hl 2 rfl) ?_
        obtain ⟨h_5, hr⟩ := ck_some hr
        refine k_iald C hW 4 rfl h_5 d_Fld_copyFrom_29 ?_
        obtain ⟨h_6, hr⟩ := ck_some hr
        refine k_iast C hW 1 rfl h_6 (ws' := (w_Fld_copyFrom cI a_r0 a_r0_lefts a_r0_wishes a_r1 a_r1_lefts a_r1_wishes (upd r0_lefts_1 (Int32.toNatClampNeg y2_1) (r1_lefts (Int32.toNatClampNeg y2_1))) (upd r0_wishes_1 (Int32.toNatClampNeg y2_1) (r1_wishes (Int32.toNatClampNeg y2_1))) r1_lefts r1_wishes)) rfl d_Fld_copyFrom_30 (fun H locs hW => ?_)
        refine lv_iinc (v := (y2_1 + 1)) (lv' := [(2, .int (y2_1 + 1)), (0, .ref a_r0), (1, .ref a_r1)]) hx hb d_Fld_copyFrom_31 hl (k := 2) rfl rfl (by decide) rfl (fun ls hl => ?_)
        refine lv_goto (tgt := 2) hx hb d_Fld_copyFrom_34 (by decide) ?_
        exact ih_1 (y2_1 + 1) (upd r0_lefts_1 (Int32.toNatClampNeg y2_1) (r1_lefts (Int32.toNatClampNeg y2_1))) (upd r0_wishes_1 (Int32.toNatClampNeg y2_1) (r1_wishes (Int32.toNatClampNeg y2_1))) (hz1_1 _ (Option.some.inj hr).symm) _ _ _ hW (lv_sub hl [1, 2, 0] rfl)
  exact hl_1 _ 0 r0_lefts r0_wishes hw_1 _ _ _ hW (lv_sub hl [1, 2, 0] rfl)
def w_Fld_emptied (cI : ClassId) (a_r0 : Nat) (a_r0_lefts : Nat) (v_r0_wishes : Value) (r0_lefts : Nat → Int32) : va_W := [(a_r0, .inr (2, [v_r0_wishes, .ref a_r0_lefts])), (a_r0_lefts, .inl (cI, 4, .inl r0_lefts))]
def F_Fld_emptied_L4 (r0_lefts : Nat → Int32) (y1_1 : Int32) (y2_1 : Int32) : Option (((Int32) × (Int32)) ⊕ ((Int32))) :=
  (if (4 : Int32) ≤ y2_1 then (some (.inr y1_1)) else (ck y2_1 4 (if (r0_lefts (Int32.toNatClampNeg y2_1)) = 0 then (some (.inl ((y1_1 ||| ((1 : Int32) <<< ((y2_1 : Int32) &&& 31))), (y2_1 + 1)))) else (some (.inl (y1_1, (y2_1 + 1)))))))
def F_Fld_emptied (r0_lefts : Nat → Int32) : Option (Int32) :=
  ((wh (fun (s : (Int32) × (Int32)) => F_Fld_emptied_L4 r0_lefts s.1 s.2) 400 ((0 : Int32), (0 : Int32))).bind (fun e_1 => (some e_1)))
set_option maxHeartbeats 4000000 in
set_option maxRecDepth 100000 in
theorem C_Fld_emptied (l : Launch) (D : va_G) (cI cS : ClassId) (a_r0 : Nat) (a_r0_lefts : Nat) (v_r0_wishes : Value) (r0_lefts : Nat → Int32) (o : Int32) (hr : F_Fld_emptied r0_lefts = some o) : ctI l y_Fld_emptied (Cond.code y_Fld_emptied b_Fld_emptied 3 (some FieldType.int)) (rmd 0) D (kTy cI cS) [.ref a_r0] (w_Fld_emptied cI a_r0 a_r0_lefts v_r0_wishes r0_lefts) (w_Fld_emptied cI a_r0 a_r0_lefts v_r0_wishes r0_lefts) o := by
  unfold F_Fld_emptied at hr
  refine ⟨rfl, fun sz => ct_of (w0 := (w_Fld_emptied cI a_r0 a_r0_lefts v_r0_wishes r0_lefts)) (Qc := fun A => qI D (w_Fld_emptied cI a_r0 a_r0_lefts v_r0_wishes r0_lefts) o A) rfl (Nat.le_of_ble_eq_true rfl) ?_ sz⟩
  intro p e s m below meth c A hA C hret ls hl hW
  have C : cx p s m ([.ref a_r0] : List Value).toArray meth c b_Fld_emptied 3 R_Fld D (kTy cI cS) (Cond.code y_Fld_emptied b_Fld_emptied 3 (some FieldType.int)) := C
  obtain ⟨hx, hb, hml, hown, hts, hK, hlk, hN⟩ := id C
  have hl : lv_has ls 3 [(0, .ref a_r0)] := hl
  obtain ⟨Q, hQ⟩ : ∃ Q, Q = MQ below (qI D (w_Fld_emptied cI a_r0 a_r0_lefts v_r0_wishes r0_lefts) o A) ([.ref a_r0] : List Value).toArray s 0 0 A := ⟨_, rfl⟩
  rw [← hQ]
  refine lv_iconst (v := 0) hx hb d_Fld_emptied_0 (by decide) ?_
  refine lv_istore_n (lv' := [(1, .int 0), (0, .ref a_r0)]) hx hb d_Fld_emptied_1 rfl hl (by decide) rfl (fun ls hl => ?_)
  refine lv_iconst (v := 0) hx hb d_Fld_emptied_2 (by decide) ?_
  refine lv_istore_n (lv' := [(2, .int 0), (1, .int 0), (0, .ref a_r0)]) hx hb d_Fld_emptied_3 rfl hl (by decide) rfl (fun ls hl => ?_)
  obtain ⟨ex_1, hw_1, hk_1⟩ := ob hr
  have hx_1 : ∀ (e_1 : (Int32)), e_1 = ex_1 → ∀ (H : Heap) (locs : List Loc) (ls : Array Slot), wd A s.heap D (w_Fld_emptied cI a_r0 a_r0_lefts v_r0_wishes r0_lefts) H locs → lv_has ls 3 [(1, .int e_1)] → W p l e (rmd 0) s m ([.ref a_r0] : List Value).toArray below meth c H locs 0 0 Q (F0 m 30 ls []) := by
    intro e_1 hE H locs ls hW hl
    subst hE; have hr := hk_1
    refine lv_iload_n hx hb d_Fld_emptied_30 rfl (lv_at hl 0 rfl) ?_
    obtain rfl := Option.some.inj hr
    rw [hQ]; exact k_iret C hret hW d_Fld_emptied_31
  have hl_1 : ∀ (k : Nat) (y1_1 : Int32) (y2_1 : Int32), wh (fun (s : (Int32) × (Int32)) => F_Fld_emptied_L4 r0_lefts s.1 s.2) k (y1_1, y2_1) = some ex_1 → ∀ (H : Heap) (locs : List Loc) (ls : Array Slot), wd A s.heap D (w_Fld_emptied cI a_r0 a_r0_lefts v_r0_wishes r0_lefts) H locs → lv_has ls 3 [(0, .ref a_r0), (1, .int y1_1), (2, .int y2_1)] → W p l e (rmd 0) s m ([.ref a_r0] : List Value).toArray below meth c H locs 0 0 Q (F0 m 4 ls []) := by
    intro k
    induction k with
    | zero => intro y1_1 y2_1 hw; exact absurd hw wh_0
    | succ k ih_1 =>
      intro y1_1 y2_1 hw H locs ls hW hl
      obtain ⟨z_1, hr, hz1_1, hz2_1⟩ := wh_s hw
      have hr : F_Fld_emptied_L4 r0_lefts y1_1 y2_1 = some z_1 := hr
      unfold F_Fld_emptied_L4 at hr
      refine lv_iload_n hx hb d_Fld_emptied_4 rfl (lv_at hl 2 rfl) ?_
      refine lv_iconst (v := 4) hx hb d_Fld_emptied_5 (by decide) ?_
      refine lv_icmp_ge (tgt := 30) hx hb d_Fld_emptied_6 (by decide) (fun c_2 => ?_) (fun c_2 => ?_)
      · replace hr := ip c_2 hr
        exact hx_1 _ (hz2_1 _ (Option.some.inj hr).symm) _ _ _ hW (lv_sub hl [1] rfl)
      · replace hr := iN c_2 hr
        refine lv_aload_n hx hb d_Fld_emptied_9 rfl (lv_at hl 0 rfl) ?_
        refine k_get i_Fld C hW 0 rfl rfl 1 (by decide) qf_Fld_15 rfl rfl d_Fld_emptied_10 ?_
        refine lv_iload_n hx hb d_Fld_emptied_13 rfl (lv_at hl 2 rfl) ?_
        obtain ⟨h_3, hr⟩ := ck_some hr
        refine k_iald C hW 1 rfl h_3 d_Fld_emptied_14 ?_
        refine lv_if_ne (tgt := 24) hx hb d_Fld_emptied_15 (by decide) (fun c_4 => ?_) (fun c_4 => ?_)
        · replace hr := iN c_4 hr
          refine lv_iinc (v := (y2_1 + 1)) (lv' := [(2, .int (y2_1 + 1)), (0, .ref a_r0), (1, .int y1_1)]) hx hb d_Fld_emptied_24 hl (k := 2) rfl rfl (by decide) rfl (fun ls hl => ?_)
          refine lv_goto (tgt := 4) hx hb d_Fld_emptied_27 (by decide) ?_
          exact ih_1 y1_1 (y2_1 + 1) (hz1_1 _ (Option.some.inj hr).symm) _ _ _ hW (lv_sub hl [1, 2, 0] rfl)
        · replace hr := ip c_4 hr
          refine lv_iload_n hx hb d_Fld_emptied_18 rfl (lv_at hl 1 rfl) ?_
          refine lv_iconst (v := 1) hx hb d_Fld_emptied_19 (by decide) ?_
          refine lv_iload_n hx hb d_Fld_emptied_20 rfl (lv_at hl 2 rfl) ?_
          refine lv_ishl hx hb d_Fld_emptied_21 ?_
          refine lv_ior hx hb d_Fld_emptied_22 ?_
          refine lv_istore_n (lv' := [(1, .int (y1_1 ||| ((1 : Int32) <<< ((y2_1 : Int32) &&& 31)))), (0, .ref a_r0), (2, .int y2_1)]) hx hb d_Fld_emptied_23 rfl hl (by decide) rfl (fun ls hl => ?_)
          refine lv_iinc (v := (y2_1 + 1)) (lv' := [(2, .int (y2_1 + 1)), (1, .int (y1_1 ||| ((1 : Int32) <<< ((y2_1 : Int32) &&& 31)))), (0, .ref a_r0)]) hx hb d_Fld_emptied_24 hl (k := 2) rfl rfl (by decide) rfl (fun ls hl => ?_)
          refine lv_goto (tgt := 4) hx hb d_Fld_emptied_27 (by decide) ?_
          exact ih_1 (y1_1 ||| ((1 : Int32) <<< ((y2_1 : Int32) &&& 31))) (y2_1 + 1) (hz1_1 _ (Option.some.inj hr).symm) _ _ _ hW (lv_sub hl [2, 1, 0] rfl)
  exact hl_1 _ 0 0 hw_1 _ _ _ hW (lv_sub hl [2, 1, 0] rfl)
def w_Fld_fieldFor (cI : ClassId) (a_r0 : Nat) (a_r0_lefts : Nat) (a_r0_wishes : Nat) (r0_lefts : Nat → Int32) (r0_wishes : Nat → Int32) : va_W := [(a_r0, .inr (2, [.ref a_r0_wishes, .ref a_r0_lefts])), (a_r0_lefts, .inl (cI, 4, .inl r0_lefts)), (a_r0_wishes, .inl (cI, 4, .inl r0_wishes))]
def F_Fld_fieldFor_L2 (r0_lefts : Nat → Int32) (r0_wishes : Nat → Int32) (x1 : Int32) (y2_1 : Int32) : Option (((Int32)) ⊕ (((Unit) ⊕ (Int32)))) :=
  (if (4 : Int32) ≤ y2_1 then (some (.inr (.inl ()))) else (ck y2_1 4 (if (r0_lefts (Int32.toNatClampNeg y2_1)) ≤ 0 then (some (.inl (y2_1 + 1))) else (ck y2_1 4 ((F_H_holds (r0_wishes (Int32.toNatClampNeg y2_1)) x1).bind (fun q_6 => (if q_6 = 0 then (some (.inl (y2_1 + 1))) else (some (.inr (.inr y2_1))))))))))
def F_Fld_fieldFor (r0_lefts : Nat → Int32) (r0_wishes : Nat → Int32) (x1 : Int32) : Option (Int32) :=
  ((wh (fun (s : (Int32)) => F_Fld_fieldFor_L2 r0_lefts r0_wishes x1 s) 400 (0 : Int32)).bind (sx (fun e_1 => (some (-9))) (fun o => some o)))
set_option maxHeartbeats 4000000 in
set_option maxRecDepth 100000 in
theorem C_Fld_fieldFor (l : Launch) (D : va_G) (cI cS : ClassId) (a_r0 : Nat) (a_r0_lefts : Nat) (a_r0_wishes : Nat) (r0_lefts : Nat → Int32) (r0_wishes : Nat → Int32) (x1 : Int32) (o : Int32) (hr : F_Fld_fieldFor r0_lefts r0_wishes x1 = some o) : ctI l y_Fld_fieldFor (Cond.code y_Fld_fieldFor b_Fld_fieldFor 3 (some FieldType.int)) (rmd 1) D (kTy cI cS) [.ref a_r0, .int x1] (w_Fld_fieldFor cI a_r0 a_r0_lefts a_r0_wishes r0_lefts r0_wishes) (w_Fld_fieldFor cI a_r0 a_r0_lefts a_r0_wishes r0_lefts r0_wishes) o := by
  unfold F_Fld_fieldFor at hr
  refine ⟨rfl, fun sz => ct_of (w0 := (w_Fld_fieldFor cI a_r0 a_r0_lefts a_r0_wishes r0_lefts r0_wishes)) (Qc := fun A => qI D (w_Fld_fieldFor cI a_r0 a_r0_lefts a_r0_wishes r0_lefts r0_wishes) o A) rfl (Nat.le_of_ble_eq_true rfl) ?_ sz⟩
  intro p e s m below meth c A hA C hret ls hl hW
  have C : cx p s m ([.ref a_r0, .int x1] : List Value).toArray meth c b_Fld_fieldFor 3 R_Fld D (kTy cI cS) (Cond.code y_Fld_fieldFor b_Fld_fieldFor 3 (some FieldType.int)) := C
  obtain ⟨hx, hb, hml, hown, hts, hK, hlk, hN⟩ := id C
  have hl : lv_has ls 3 [(0, .ref a_r0), (1, .int x1)] := hl
  obtain ⟨Q, hQ⟩ : ∃ Q, Q = MQ below (qI D (w_Fld_fieldFor cI a_r0 a_r0_lefts a_r0_wishes r0_lefts r0_wishes) o A) ([.ref a_r0, .int x1] : List Value).toArray s 0 0 A := ⟨_, rfl⟩
  rw [← hQ]
  refine lv_iconst (v := 0) hx hb d_Fld_fieldFor_0 (by decide) ?_
  refine lv_istore_n (lv' := [(2, .int 0), (0, .ref a_r0), (1, .int x1)]) hx hb d_Fld_fieldFor_1 rfl hl (by decide) rfl (fun ls hl => ?_)
  obtain ⟨ex_1, hw_1, hk_1⟩ := ob hr
  have hx_1 : ∀ (e_1 : Unit), Sum.inl e_1 = ex_1 → ∀ (H : Heap) (locs : List Loc) (ls : Array Slot), wd A s.heap D (w_Fld_fieldFor cI a_r0 a_r0_lefts a_r0_wishes r0_lefts r0_wishes) H locs → lv_has ls 3 [] → W p l e (rmd 1) s m ([.ref a_r0, .int x1] : List Value).toArray below meth c H locs 0 0 Q (F0 m 37 ls []) := by
    intro e_1 hE H locs ls hW hl
    have hr := sx_l hE.symm hk_1
    refine lv_bipush (v := (-9)) hx hb d_Fld_fieldFor_37 (by decide) ?_
    obtain rfl := Option.some.inj hr
    rw [hQ]; exact k_iret C hret hW d_Fld_fieldFor_39
  have hl_1 : ∀ (k : Nat) (y2_1 : Int32), wh (fun (s : (Int32)) => F_Fld_fieldFor_L2 r0_lefts r0_wishes x1 s) k y2_1 = some ex_1 → ∀ (H : Heap) (locs : List Loc) (ls : Array Slot), wd A s.heap D (w_Fld_fieldFor cI a_r0 a_r0_lefts a_r0_wishes r0_lefts r0_wishes) H locs → lv_has ls 3 [(0, .ref a_r0), (1, .int x1), (2, .int y2_1)] → W p l e (rmd 1) s m ([.ref a_r0, .int x1] : List Value).toArray below meth c H locs 0 0 Q (F0 m 2 ls []) := by
    intro k
    induction k with
    | zero => intro y2_1 hw; exact absurd hw wh_0
    | succ k ih_1 =>
      intro y2_1 hw H locs ls hW hl
      obtain ⟨z_1, hr, hz1_1, hz2_1⟩ := wh_s hw
      have hr : F_Fld_fieldFor_L2 r0_lefts r0_wishes x1 y2_1 = some z_1 := hr
      unfold F_Fld_fieldFor_L2 at hr
      refine lv_iload_n hx hb d_Fld_fieldFor_2 rfl (lv_at hl 2 rfl) ?_
      refine lv_iconst (v := 4) hx hb d_Fld_fieldFor_3 (by decide) ?_
      refine lv_icmp_ge (tgt := 37) hx hb d_Fld_fieldFor_4 (by decide) (fun c_2 => ?_) (fun c_2 => ?_)
      · replace hr := ip c_2 hr
        exact hx_1 _ (hz2_1 _ (Option.some.inj hr).symm) _ _ _ hW (lv_sub hl [] rfl)
      · replace hr := iN c_2 hr
        refine lv_aload_n hx hb d_Fld_fieldFor_7 rfl (lv_at hl 0 rfl) ?_
        refine k_get i_Fld C hW 0 rfl rfl 1 (by decide) qf_Fld_15 rfl rfl d_Fld_fieldFor_8 ?_
        refine lv_iload_n hx hb d_Fld_fieldFor_11 rfl (lv_at hl 2 rfl) ?_
        obtain ⟨h_3, hr⟩ := ck_some hr
        refine k_iald C hW 1 rfl h_3 d_Fld_fieldFor_12 ?_
        refine lv_if_le (tgt := 31) hx hb d_Fld_fieldFor_13 (by decide) (fun c_4 => ?_) (fun c_4 => ?_)
        · replace hr := ip c_4 hr
          refine lv_iinc (v := (y2_1 + 1)) (lv' := [(2, .int (y2_1 + 1)), (0, .ref a_r0), (1, .int x1)]) hx hb d_Fld_fieldFor_31 hl (k := 2) rfl rfl (by decide) rfl (fun ls hl => ?_)
          refine lv_goto (tgt := 2) hx hb d_Fld_fieldFor_34 (by decide) ?_
          exact ih_1 (y2_1 + 1) (hz1_1 _ (Option.some.inj hr).symm) _ _ _ hW (lv_sub hl [1, 2, 0] rfl)
        · replace hr := iN c_4 hr
          refine lv_aload_n hx hb d_Fld_fieldFor_16 rfl (lv_at hl 0 rfl) ?_
          refine k_get i_Fld C hW 0 rfl rfl 0 (by decide) qf_Fld_9 rfl rfl d_Fld_fieldFor_17 ?_
          refine lv_iload_n hx hb d_Fld_fieldFor_20 rfl (lv_at hl 2 rfl) ?_
          obtain ⟨h_5, hr⟩ := ck_some hr
          refine k_iald C hW 2 rfl h_5 d_Fld_fieldFor_21 ?_
          refine lv_iload_n hx hb d_Fld_fieldFor_22 rfl (lv_at hl 1 rfl) ?_
          obtain ⟨q_6, hc_6, hr⟩ := ob hr
          have ct_6 := C_H_holds l D cI cS (r0_wishes (Int32.toNatClampNeg y2_1)) x1 q_6 hc_6
          refine k_goIp hA hW [] rfl rfl (k_runSN C hA hW mw_H_holds ms_H_holds (ct_6.2 _) [] rfl rfl qm_Fld_22 ⟨Nat.le_of_ble_eq_true rfl, Nat.le_of_ble_eq_true rfl, Nat.zero_le _, Nat.zero_le _⟩ rfl rfl (Nat.le_of_ble_eq_true rfl) hl.1 d_Fld_fieldFor_23) (fun H locs hW => ?_)
          refine lv_if_eq (tgt := 31) hx hb d_Fld_fieldFor_26 (by decide) (fun c_7 => ?_) (fun c_7 => ?_)
          · replace hr := ip c_7 hr
            refine lv_iinc (v := (y2_1 + 1)) (lv' := [(2, .int (y2_1 + 1)), (0, .ref a_r0), (1, .int x1)]) hx hb d_Fld_fieldFor_31 hl (k := 2) rfl rfl (by decide) rfl (fun ls hl => ?_)
            refine lv_goto (tgt := 2) hx hb d_Fld_fieldFor_34 (by decide) ?_
            exact ih_1 (y2_1 + 1) (hz1_1 _ (Option.some.inj hr).symm) _ _ _ hW (lv_sub hl [1, 2, 0] rfl)
          · replace hr := iN c_7 hr
            refine lv_iload_n hx hb d_Fld_fieldFor_29 rfl (lv_at hl 2 rfl) ?_
            have hr := sx_r (hz2_1 _ (Option.some.inj hr).symm).symm hk_1
            obtain rfl := Option.some.inj hr
            rw [hQ]; exact k_iret C hret hW d_Fld_fieldFor_30
  exact hl_1 _ 0 hw_1 _ _ _ hW (lv_sub hl [1, 2, 0] rfl)
def w_Fld_leftOf (cI : ClassId) (a_r0 : Nat) (a_r0_lefts : Nat) (v_r0_wishes : Value) (r0_lefts : Nat → Int32) : va_W := [(a_r0, .inr (2, [v_r0_wishes, .ref a_r0_lefts])), (a_r0_lefts, .inl (cI, 4, .inl r0_lefts))]
def F_Fld_leftOf (r0_lefts : Nat → Int32) (x1 : Int32) : Option (Int32) :=
  ((F_H_isField x1).bind (fun q_1 => (if q_1 = 0 then (some 0) else (ck x1 4 (some (r0_lefts (Int32.toNatClampNeg x1)))))))
set_option maxHeartbeats 4000000 in
set_option maxRecDepth 100000 in
theorem C_Fld_leftOf (l : Launch) (D : va_G) (cI cS : ClassId) (a_r0 : Nat) (a_r0_lefts : Nat) (v_r0_wishes : Value) (r0_lefts : Nat → Int32) (x1 : Int32) (o : Int32) (hr : F_Fld_leftOf r0_lefts x1 = some o) : ctI l y_Fld_leftOf (Cond.code y_Fld_leftOf b_Fld_leftOf 2 (some FieldType.int)) (rmd 1) D (kTy cI cS) [.ref a_r0, .int x1] (w_Fld_leftOf cI a_r0 a_r0_lefts v_r0_wishes r0_lefts) (w_Fld_leftOf cI a_r0 a_r0_lefts v_r0_wishes r0_lefts) o := by
  unfold F_Fld_leftOf at hr
  refine ⟨rfl, fun sz => ct_of (w0 := (w_Fld_leftOf cI a_r0 a_r0_lefts v_r0_wishes r0_lefts)) (Qc := fun A => qI D (w_Fld_leftOf cI a_r0 a_r0_lefts v_r0_wishes r0_lefts) o A) rfl (Nat.le_of_ble_eq_true rfl) ?_ sz⟩
  intro p e s m below meth c A hA C hret ls hl hW
  have C : cx p s m ([.ref a_r0, .int x1] : List Value).toArray meth c b_Fld_leftOf 2 R_Fld D (kTy cI cS) (Cond.code y_Fld_leftOf b_Fld_leftOf 2 (some FieldType.int)) := C
  obtain ⟨hx, hb, hml, hown, hts, hK, hlk, hN⟩ := id C
  have hl : lv_has ls 2 [(0, .ref a_r0), (1, .int x1)] := hl
  obtain ⟨Q, hQ⟩ : ∃ Q, Q = MQ below (qI D (w_Fld_leftOf cI a_r0 a_r0_lefts v_r0_wishes r0_lefts) o A) ([.ref a_r0, .int x1] : List Value).toArray s 0 0 A := ⟨_, rfl⟩
  rw [← hQ]
  refine lv_iload_n hx hb d_Fld_leftOf_0 rfl (lv_at hl 1 rfl) ?_
  obtain ⟨q_1, hc_1, hr⟩ := ob hr
  have ct_1 := C_H_isField l D cI cS x1 q_1 hc_1
  refine k_goIp hA hW [] rfl rfl (k_runSN C hA hW mw_H_isField ms_H_isField (ct_1.2 _) [] rfl rfl qm_Fld_18 ⟨Nat.le_of_ble_eq_true rfl, Nat.le_of_ble_eq_true rfl, Nat.zero_le _, Nat.zero_le _⟩ rfl rfl (Nat.le_of_ble_eq_true rfl) hl.1 d_Fld_leftOf_1) (fun H locs hW => ?_)
  refine lv_if_eq (tgt := 16) hx hb d_Fld_leftOf_4 (by decide) (fun c_2 => ?_) (fun c_2 => ?_)
  · replace hr := ip c_2 hr
    refine lv_iconst (v := 0) hx hb d_Fld_leftOf_16 (by decide) ?_
    obtain rfl := Option.some.inj hr
    rw [hQ]; exact k_iret C hret hW d_Fld_leftOf_17
  · replace hr := iN c_2 hr
    refine lv_aload_n hx hb d_Fld_leftOf_7 rfl (lv_at hl 0 rfl) ?_
    refine k_get i_Fld C hW 0 rfl rfl 1 (by decide) qf_Fld_15 rfl rfl d_Fld_leftOf_8 ?_
    refine lv_iload_n hx hb d_Fld_leftOf_11 rfl (lv_at hl 1 rfl) ?_
    obtain ⟨h_3, hr⟩ := ck_some hr
    refine k_iald C hW 1 rfl h_3 d_Fld_leftOf_12 ?_
    refine lv_goto (tgt := 17) hx hb d_Fld_leftOf_13 (by decide) ?_
    obtain rfl := Option.some.inj hr
    rw [hQ]; exact k_iret C hret hW d_Fld_leftOf_17
def w_Fld_neediest (cI : ClassId) (a_r0 : Nat) (a_r0_lefts : Nat) (v_r0_wishes : Value) (r0_lefts : Nat → Int32) : va_W := [(a_r0, .inr (2, [v_r0_wishes, .ref a_r0_lefts])), (a_r0_lefts, .inl (cI, 4, .inl r0_lefts))]
def F_Fld_neediest_L4 (r0_lefts : Nat → Int32) (y1_1 : Int32) (y2_1 : Int32) : Option (((Int32) × (Int32)) ⊕ ((Int32))) :=
  (if (4 : Int32) ≤ y2_1 then (some (.inr y1_1)) else (ck y2_1 4 ((F_Fld_leftOf r0_lefts y1_1).bind (fun q_4 => (if (r0_lefts (Int32.toNatClampNeg y2_1)) ≤ q_4 then (some (.inl (y1_1, (y2_1 + 1)))) else (some (.inl (y2_1, (y2_1 + 1)))))))))
def F_Fld_neediest (r0_lefts : Nat → Int32) : Option (Int32) :=
  ((wh (fun (s : (Int32) × (Int32)) => F_Fld_neediest_L4 r0_lefts s.1 s.2) 400 ((0 : Int32), (1 : Int32))).bind (fun e_1 => (some e_1)))
set_option maxHeartbeats 4000000 in
set_option maxRecDepth 100000 in
theorem C_Fld_neediest (l : Launch) (D : va_G) (cI cS : ClassId) (a_r0 : Nat) (a_r0_lefts : Nat) (v_r0_wishes : Value) (r0_lefts : Nat → Int32) (o : Int32) (hr : F_Fld_neediest r0_lefts = some o) : ctI l y_Fld_neediest (Cond.code y_Fld_neediest b_Fld_neediest 3 (some FieldType.int)) (rmd 2) D (kTy cI cS) [.ref a_r0] (w_Fld_neediest cI a_r0 a_r0_lefts v_r0_wishes r0_lefts) (w_Fld_neediest cI a_r0 a_r0_lefts v_r0_wishes r0_lefts) o := by
  unfold F_Fld_neediest at hr
  refine ⟨rfl, fun sz => ct_of (w0 := (w_Fld_neediest cI a_r0 a_r0_lefts v_r0_wishes r0_lefts)) (Qc := fun A => qI D (w_Fld_neediest cI a_r0 a_r0_lefts v_r0_wishes r0_lefts) o A) rfl (Nat.le_of_ble_eq_true rfl) ?_ sz⟩
  intro p e s m below meth c A hA C hret ls hl hW
  have C : cx p s m ([.ref a_r0] : List Value).toArray meth c b_Fld_neediest 3 R_Fld D (kTy cI cS) (Cond.code y_Fld_neediest b_Fld_neediest 3 (some FieldType.int)) := C
  obtain ⟨hx, hb, hml, hown, hts, hK, hlk, hN⟩ := id C
  have hl : lv_has ls 3 [(0, .ref a_r0)] := hl
  obtain ⟨Q, hQ⟩ : ∃ Q, Q = MQ below (qI D (w_Fld_neediest cI a_r0 a_r0_lefts v_r0_wishes r0_lefts) o A) ([.ref a_r0] : List Value).toArray s 0 0 A := ⟨_, rfl⟩
  rw [← hQ]
  refine lv_iconst (v := 0) hx hb d_Fld_neediest_0 (by decide) ?_
  refine lv_istore_n (lv' := [(1, .int 0), (0, .ref a_r0)]) hx hb d_Fld_neediest_1 rfl hl (by decide) rfl (fun ls hl => ?_)
  refine lv_iconst (v := 1) hx hb d_Fld_neediest_2 (by decide) ?_
  refine lv_istore_n (lv' := [(2, .int 1), (1, .int 0), (0, .ref a_r0)]) hx hb d_Fld_neediest_3 rfl hl (by decide) rfl (fun ls hl => ?_)
  obtain ⟨ex_1, hw_1, hk_1⟩ := ob hr
  have hx_1 : ∀ (e_1 : (Int32)), e_1 = ex_1 → ∀ (H : Heap) (locs : List Loc) (ls : Array Slot), wd A s.heap D (w_Fld_neediest cI a_r0 a_r0_lefts v_r0_wishes r0_lefts) H locs → lv_has ls 3 [(1, .int e_1)] → W p l e (rmd 2) s m ([.ref a_r0] : List Value).toArray below meth c H locs 0 0 Q (F0 m 31 ls []) := by
    intro e_1 hE H locs ls hW hl
    subst hE; have hr := hk_1
    refine lv_iload_n hx hb d_Fld_neediest_31 rfl (lv_at hl 0 rfl) ?_
    obtain rfl := Option.some.inj hr
    rw [hQ]; exact k_iret C hret hW d_Fld_neediest_32
  have hl_1 : ∀ (k : Nat) (y1_1 : Int32) (y2_1 : Int32), wh (fun (s : (Int32) × (Int32)) => F_Fld_neediest_L4 r0_lefts s.1 s.2) k (y1_1, y2_1) = some ex_1 → ∀ (H : Heap) (locs : List Loc) (ls : Array Slot), wd A s.heap D (w_Fld_neediest cI a_r0 a_r0_lefts v_r0_wishes r0_lefts) H locs → lv_has ls 3 [(0, .ref a_r0), (1, .int y1_1), (2, .int y2_1)] → W p l e (rmd 2) s m ([.ref a_r0] : List Value).toArray below meth c H locs 0 0 Q (F0 m 4 ls []) := by
    intro k
    induction k with
    | zero => intro y1_1 y2_1 hw; exact absurd hw wh_0
    | succ k ih_1 =>
      intro y1_1 y2_1 hw H locs ls hW hl
      obtain ⟨z_1, hr, hz1_1, hz2_1⟩ := wh_s hw
      have hr : F_Fld_neediest_L4 r0_lefts y1_1 y2_1 = some z_1 := hr
      unfold F_Fld_neediest_L4 at hr
      refine lv_iload_n hx hb d_Fld_neediest_4 rfl (lv_at hl 2 rfl) ?_
      refine lv_iconst (v := 4) hx hb d_Fld_neediest_5 (by decide) ?_
      refine lv_icmp_ge (tgt := 31) hx hb d_Fld_neediest_6 (by decide) (fun c_2 => ?_) (fun c_2 => ?_)
      · replace hr := ip c_2 hr
        exact hx_1 _ (hz2_1 _ (Option.some.inj hr).symm) _ _ _ hW (lv_sub hl [1] rfl)
      · replace hr := iN c_2 hr
        refine lv_aload_n hx hb d_Fld_neediest_9 rfl (lv_at hl 0 rfl) ?_
        refine k_get i_Fld C hW 0 rfl rfl 1 (by decide) qf_Fld_15 rfl rfl d_Fld_neediest_10 ?_
        refine lv_iload_n hx hb d_Fld_neediest_13 rfl (lv_at hl 2 rfl) ?_
        obtain ⟨h_3, hr⟩ := ck_some hr
        refine k_iald C hW 1 rfl h_3 d_Fld_neediest_14 ?_
        refine lv_aload_n hx hb d_Fld_neediest_15 rfl (lv_at hl 0 rfl) ?_
        refine lv_iload_n hx hb d_Fld_neediest_16 rfl (lv_at hl 1 rfl) ?_
        obtain ⟨q_4, hc_4, hr⟩ := ob hr
        have ct_4 := C_Fld_leftOf l D cI cS a_r0 a_r0_lefts v_r0_wishes r0_lefts y1_1 q_4 hc_4
        refine k_goIp hA hW [0, 1] rfl rfl (k_runV C hA hW mw_Fld_leftOf mv_Fld_leftOf (ct_4.2 _) [0, 1] rfl rfl 0 rfl rfl qm_Fld_33 ⟨Nat.le_of_ble_eq_true rfl, Nat.le_of_ble_eq_true rfl, Nat.zero_le _, Nat.zero_le _⟩ rfl rfl (Nat.le_of_ble_eq_true rfl) hl.1 d_Fld_neediest_17) (fun H locs hW => ?_)
        refine lv_icmp_le (tgt := 25) hx hb d_Fld_neediest_20 (by decide) (fun c_5 => ?_) (fun c_5 => ?_)
        · replace hr := ip c_5 hr
          refine lv_iinc (v := (y2_1 + 1)) (lv' := [(2, .int (y2_1 + 1)), (0, .ref a_r0), (1, .int y1_1)]) hx hb d_Fld_neediest_25 hl (k := 2) rfl rfl (by decide) rfl (fun ls hl => ?_)
          refine lv_goto (tgt := 4) hx hb d_Fld_neediest_28 (by decide) ?_
          exact ih_1 y1_1 (y2_1 + 1) (hz1_1 _ (Option.some.inj hr).symm) _ _ _ hW (lv_sub hl [1, 2, 0] rfl)
        · replace hr := iN c_5 hr
          refine lv_iload_n hx hb d_Fld_neediest_23 rfl (lv_at hl 2 rfl) ?_
          refine lv_istore_n (lv' := [(1, .int y2_1), (0, .ref a_r0), (2, .int y2_1)]) hx hb d_Fld_neediest_24 rfl hl (by decide) rfl (fun ls hl => ?_)
          refine lv_iinc (v := (y2_1 + 1)) (lv' := [(2, .int (y2_1 + 1)), (1, .int y2_1), (0, .ref a_r0)]) hx hb d_Fld_neediest_25 hl (k := 2) rfl rfl (by decide) rfl (fun ls hl => ?_)
          refine lv_goto (tgt := 4) hx hb d_Fld_neediest_28 (by decide) ?_
          exact ih_1 y2_1 (y2_1 + 1) (hz1_1 _ (Option.some.inj hr).symm) _ _ _ hW (lv_sub hl [2, 1, 0] rfl)
  exact hl_1 _ 0 1 hw_1 _ _ _ hW (lv_sub hl [2, 1, 0] rfl)
def w_Fld_undoWork (cI : ClassId) (a_r0 : Nat) (a_r0_lefts : Nat) (v_r0_wishes : Value) (r0_lefts : Nat → Int32) : va_W := [(a_r0, .inr (2, [v_r0_wishes, .ref a_r0_lefts])), (a_r0_lefts, .inl (cI, 4, .inl r0_lefts))]
def F_Fld_undoWork (r0_lefts : Nat → Int32) (x1 : Int32) : Option ((Nat → Int32)) :=
  ((F_H_isField x1).bind (fun q_1 => (if q_1 = 0 then (some r0_lefts) else (ck x1 4 (ck x1 4 (some (upd r0_lefts (Int32.toNatClampNeg x1) ((r0_lefts (Int32.toNatClampNeg x1)) + 1))))))))
set_option maxHeartbeats 4000000 in
set_option maxRecDepth 100000 in
theorem C_Fld_undoWork (l : Launch) (D : va_G) (cI cS : ClassId) (a_r0 : Nat) (a_r0_lefts : Nat) (v_r0_wishes : Value) (r0_lefts : Nat → Int32) (x1 : Int32) (o : (Nat → Int32)) (hr : F_Fld_undoWork r0_lefts x1 = some o) : ctV l y_Fld_undoWork (Cond.code y_Fld_undoWork b_Fld_undoWork 2 none) (rmd 1) D (kTy cI cS) [.ref a_r0, .int x1] (w_Fld_undoWork cI a_r0 a_r0_lefts v_r0_wishes r0_lefts) (w_Fld_undoWork cI a_r0 a_r0_lefts v_r0_wishes o) := by
  unfold F_Fld_undoWork at hr
  refine ⟨rfl, fun sz => ct_of (w0 := (w_Fld_undoWork cI a_r0 a_r0_lefts v_r0_wishes r0_lefts)) (Qc := fun A => qV D (w_Fld_undoWork cI a_r0 a_r0_lefts v_r0_wishes o) A) rfl (Nat.le_of_ble_eq_true rfl) ?_ sz⟩
  intro p e s m below meth c A hA C hret ls hl hW
  have C : cx p s m ([.ref a_r0, .int x1] : List Value).toArray meth c b_Fld_undoWork 2 R_Fld D (kTy cI cS) (Cond.code y_Fld_undoWork b_Fld_undoWork 2 none) := C
  obtain ⟨hx, hb, hml, hown, hts, hK, hlk, hN⟩ := id C
  have hl : lv_has ls 2 [(0, .ref a_r0), (1, .int x1)] := hl
  obtain ⟨Q, hQ⟩ : ∃ Q, Q = MQ below (qV D (w_Fld_undoWork cI a_r0 a_r0_lefts v_r0_wishes o) A) ([.ref a_r0, .int x1] : List Value).toArray s 0 0 A := ⟨_, rfl⟩
  rw [← hQ]
  refine lv_iload_n hx hb d_Fld_undoWork_0 rfl (lv_at hl 1 rfl) ?_
  obtain ⟨q_1, hc_1, hr⟩ := ob hr
  have ct_1 := C_H_isField l D cI cS x1 q_1 hc_1
  refine k_goIp hA hW [] rfl rfl (k_runSN C hA hW mw_H_isField ms_H_isField (ct_1.2 _) [] rfl rfl qm_Fld_18 ⟨Nat.le_of_ble_eq_true rfl, Nat.le_of_ble_eq_true rfl, Nat.zero_le _, Nat.zero_le _⟩ rfl rfl (Nat.le_of_ble_eq_true rfl) hl.1 d_Fld_undoWork_1) (fun H locs hW => ?_)
  refine lv_if_eq (tgt := 17) hx hb d_Fld_undoWork_4 (by decide) (fun c_2 => ?_) (fun c_2 => ?_)
  · replace hr := ip c_2 hr
    obtain rfl := Option.some.inj hr
    rw [hQ]; exact k_vret C hret hW d_Fld_undoWork_17
  · replace hr := iN c_2 hr
    refine lv_aload_n hx hb d_Fld_undoWork_7 rfl (lv_at hl 0 rfl) ?_
    refine k_get i_Fld C hW 0 rfl rfl 1 (by decide) qf_Fld_15 rfl rfl d_Fld_undoWork_8 ?_
    refine lv_iload_n hx hb d_Fld_undoWork_11 rfl (lv_at hl 1 rfl) ?_
    refine lv_dup2_11 hx hb d_Fld_undoWork_12 rfl rfl ?_
    obtain ⟨h_3, hr⟩ := ck_some hr
    refine k_iald C hW 1 rfl h_3 d_Fld_undoWork_13 ?_
    refine lv_iconst (v := 1) hx hb d_Fld_undoWork_14 (by decide) ?_
    refine lv_iadd hx hb d_Fld_undoWork_15 ?_
    obtain ⟨h_4, hr⟩ := ck_some hr
    refine k_iast C hW 1 rfl h_4 (ws' := (w_Fld_undoWork cI a_r0 a_r0_lefts v_r0_wishes (upd r0_lefts (Int32.toNatClampNeg x1) ((r0_lefts (Int32.toNatClampNeg x1)) + 1)))) rfl d_Fld_undoWork_16 (fun H locs hW => ?_)
    obtain rfl := Option.some.inj hr
    rw [hQ]; exact k_vret C hret hW d_Fld_undoWork_17
def F_Fld_wishRefusal (x0 : Int32) (x1 : Int32) (x2 : Int32) : Option (Int32) :=
  ((F_H_isField x0).bind (fun q_1 => (if q_1 = 0 then (some (-1)) else (if x1 < 0 then (some (-4)) else (if (0 : Int32) ≤ x2 then (if (63 : Int32) < x1 then (some (-6)) else (if x2 ≤ 9 then (some 0) else (some (-6)))) else (some (-4)))))))
set_option maxHeartbeats 4000000 in
set_option maxRecDepth 100000 in
theorem C_Fld_wishRefusal (l : Launch) (D : va_G) (cI cS : ClassId) (x0 : Int32) (x1 : Int32) (x2 : Int32) (o : Int32) (hr : F_Fld_wishRefusal x0 x1 x2 = some o) : ctI l y_Fld_wishRefusal (Cond.code y_Fld_wishRefusal b_Fld_wishRefusal 3 (some FieldType.int)) (rmd 1) D (kTy cI cS) [.int x0, .int x1, .int x2] [] [] o := by
  unfold F_Fld_wishRefusal at hr
  refine ⟨rfl, fun sz => ct_of (w0 := []) (Qc := fun A => qI D [] o A) rfl (Nat.le_of_ble_eq_true rfl) ?_ sz⟩
  intro p e s m below meth c A hA C hret ls hl hW
  have C : cx p s m ([.int x0, .int x1, .int x2] : List Value).toArray meth c b_Fld_wishRefusal 3 R_Fld D (kTy cI cS) (Cond.code y_Fld_wishRefusal b_Fld_wishRefusal 3 (some FieldType.int)) := C
  obtain ⟨hx, hb, hml, hown, hts, hK, hlk, hN⟩ := id C
  have hl : lv_has ls 3 [(0, .int x0), (1, .int x1), (2, .int x2)] := hl
  obtain ⟨Q, hQ⟩ : ∃ Q, Q = MQ below (qI D [] o A) ([.int x0, .int x1, .int x2] : List Value).toArray s 0 0 A := ⟨_, rfl⟩
  rw [← hQ]
  refine lv_iload_n hx hb d_Fld_wishRefusal_0 rfl (lv_at hl 0 rfl) ?_
  obtain ⟨q_1, hc_1, hr⟩ := ob hr
  have ct_1 := C_H_isField l D cI cS x0 q_1 hc_1
  refine k_goIp hA hW [] rfl rfl (k_runSN C hA hW mw_H_isField ms_H_isField (ct_1.2 _) [] rfl rfl qm_Fld_18 ⟨Nat.le_of_ble_eq_true rfl, Nat.le_of_ble_eq_true rfl, Nat.zero_le _, Nat.zero_le _⟩ rfl rfl (Nat.le_of_ble_eq_true rfl) hl.1 d_Fld_wishRefusal_1) (fun H locs hW => ?_)
  refine lv_if_ne (tgt := 9) hx hb d_Fld_wishRefusal_4 (by decide) (fun c_2 => ?_) (fun c_2 => ?_)
  · replace hr := iN c_2 hr
    refine lv_iload_n hx hb d_Fld_wishRefusal_9 rfl (lv_at hl 1 rfl) ?_
    refine lv_if_lt (tgt := 17) hx hb d_Fld_wishRefusal_10 (by decide) (fun c_3 => ?_) (fun c_3 => ?_)
    · replace hr := ip c_3 hr
      refine lv_bipush (v := (-4)) hx hb d_Fld_wishRefusal_17 (by decide) ?_
      obtain rfl := Option.some.inj hr
      rw [hQ]; exact k_iret C hret hW d_Fld_wishRefusal_19
    · replace hr := iN c_3 hr
      refine lv_iload_n hx hb d_Fld_wishRefusal_13 rfl (lv_at hl 2 rfl) ?_
      refine lv_if_ge (tgt := 20) hx hb d_Fld_wishRefusal_14 (by decide) (fun c_4 => ?_) (fun c_4 => ?_)
      · replace hr := ip c_4 hr
        refine lv_iload_n hx hb d_Fld_wishRefusal_20 rfl (lv_at hl 1 rfl) ?_
        refine lv_bipush (v := 63) hx hb d_Fld_wishRefusal_21 (by decide) ?_
        refine lv_icmp_gt (tgt := 32) hx hb d_Fld_wishRefusal_23 (by decide) (fun c_5 => ?_) (fun c_5 => ?_)
        · replace hr := ip c_5 hr
          refine lv_bipush (v := (-6)) hx hb d_Fld_wishRefusal_32 (by decide) ?_
          refine lv_goto (tgt := 38) hx hb d_Fld_wishRefusal_34 (by decide) ?_
          obtain rfl := Option.some.inj hr
          rw [hQ]; exact k_iret C hret hW d_Fld_wishRefusal_38
        · replace hr := iN c_5 hr
          refine lv_iload_n hx hb d_Fld_wishRefusal_26 rfl (lv_at hl 2 rfl) ?_
          refine lv_bipush (v := 9) hx hb d_Fld_wishRefusal_27 (by decide) ?_
          refine lv_icmp_le (tgt := 37) hx hb d_Fld_wishRefusal_29 (by decide) (fun c_6 => ?_) (fun c_6 => ?_)
          · replace hr := ip c_6 hr
            refine lv_iconst (v := 0) hx hb d_Fld_wishRefusal_37 (by decide) ?_
            obtain rfl := Option.some.inj hr
            rw [hQ]; exact k_iret C hret hW d_Fld_wishRefusal_38
          · replace hr := iN c_6 hr
            refine lv_bipush (v := (-6)) hx hb d_Fld_wishRefusal_32 (by decide) ?_
            refine lv_goto (tgt := 38) hx hb d_Fld_wishRefusal_34 (by decide) ?_
            obtain rfl := Option.some.inj hr
            rw [hQ]; exact k_iret C hret hW d_Fld_wishRefusal_38
      · replace hr := iN c_4 hr
        refine lv_bipush (v := (-4)) hx hb d_Fld_wishRefusal_17 (by decide) ?_
        obtain rfl := Option.some.inj hr
        rw [hQ]; exact k_iret C hret hW d_Fld_wishRefusal_19
  · replace hr := ip c_2 hr
    refine lv_iconst (v := (-1)) hx hb d_Fld_wishRefusal_7 (by decide) ?_
    obtain rfl := Option.some.inj hr
    rw [hQ]; exact k_iret C hret hW d_Fld_wishRefusal_8
def w_Fld_wishersOf (cI : ClassId) (a_r0 : Nat) (a_r0_wishes : Nat) (v_r0_lefts : Value) (r0_wishes : Nat → Int32) : va_W := [(a_r0, .inr (2, [.ref a_r0_wishes, v_r0_lefts])), (a_r0_wishes, .inl (cI, 4, .inl r0_wishes))]
def F_Fld_wishersOf_L4 (r0_wishes : Nat → Int32) (x1 : Int32) (y2_1 : Int32) (y3_1 : Int32) : Option (((Int32) × (Int32)) ⊕ ((Int32))) :=
  (if (4 : Int32) ≤ y3_1 then (some (.inr y2_1)) else (ck y3_1 4 ((F_H_holds (r0_wishes (Int32.toNatClampNeg y3_1)) x1).bind (fun q_4 => (if q_4 = 0 then (some (.inl (y2_1, (y3_1 + 1)))) else (some (.inl ((y2_1 ||| ((1 : Int32) <<< ((y3_1 : Int32) &&& 31))), (y3_1 + 1)))))))))
def F_Fld_wishersOf (r0_wishes : Nat → Int32) (x1 : Int32) : Option (Int32) :=
  ((wh (fun (s : (Int32) × (Int32)) => F_Fld_wishersOf_L4 r0_wishes x1 s.1 s.2) 400 ((0 : Int32), (0 : Int32))).bind (fun e_1 => (some e_1)))
set_option maxHeartbeats 4000000 in
set_option maxRecDepth 100000 in
theorem C_Fld_wishersOf (l : Launch) (D : va_G) (cI cS : ClassId) (a_r0 : Nat) (a_r0_wishes : Nat) (v_r0_lefts : Value) (r0_wishes : Nat → Int32) (x1 : Int32) (o : Int32) (hr : F_Fld_wishersOf r0_wishes x1 = some o) : ctI l y_Fld_wishersOf (Cond.code y_Fld_wishersOf b_Fld_wishersOf 4 (some FieldType.int)) (rmd 1) D (kTy cI cS) [.ref a_r0, .int x1] (w_Fld_wishersOf cI a_r0 a_r0_wishes v_r0_lefts r0_wishes) (w_Fld_wishersOf cI a_r0 a_r0_wishes v_r0_lefts r0_wishes) o := by
  unfold F_Fld_wishersOf at hr
  refine ⟨rfl, fun sz => ct_of (w0 := (w_Fld_wishersOf cI a_r0 a_r0_wishes v_r0_lefts r0_wishes)) (Qc := fun A => qI D (w_Fld_wishersOf cI a_r0 a_r0_wishes v_r0_lefts r0_wishes) o A) rfl (Nat.le_of_ble_eq_true rfl) ?_ sz⟩
  intro p e s m below meth c A hA C hret ls hl hW
  have C : cx p s m ([.ref a_r0, .int x1] : List Value).toArray meth c b_Fld_wishersOf 4 R_Fld D (kTy cI cS) (Cond.code y_Fld_wishersOf b_Fld_wishersOf 4 (some FieldType.int)) := C
  obtain ⟨hx, hb, hml, hown, hts, hK, hlk, hN⟩ := id C
  have hl : lv_has ls 4 [(0, .ref a_r0), (1, .int x1)] := hl
  obtain ⟨Q, hQ⟩ : ∃ Q, Q = MQ below (qI D (w_Fld_wishersOf cI a_r0 a_r0_wishes v_r0_lefts r0_wishes) o A) ([.ref a_r0, .int x1] : List Value).toArray s 0 0 A := ⟨_, rfl⟩
  rw [← hQ]
  refine lv_iconst (v := 0) hx hb d_Fld_wishersOf_0 (by decide) ?_
  refine lv_istore_n (lv' := [(2, .int 0), (0, .ref a_r0), (1, .int x1)]) hx hb d_Fld_wishersOf_1 rfl hl (by decide) rfl (fun ls hl => ?_)
  refine lv_iconst (v := 0) hx hb d_Fld_wishersOf_2 (by decide) ?_
  refine lv_istore_n (lv' := [(3, .int 0), (2, .int 0), (0, .ref a_r0), (1, .int x1)]) hx hb d_Fld_wishersOf_3 rfl hl (by decide) rfl (fun ls hl => ?_)
  obtain ⟨ex_1, hw_1, hk_1⟩ := ob hr
  have hx_1 : ∀ (e_1 : (Int32)), e_1 = ex_1 → ∀ (H : Heap) (locs : List Loc) (ls : Array Slot), wd A s.heap D (w_Fld_wishersOf cI a_r0 a_r0_wishes v_r0_lefts r0_wishes) H locs → lv_has ls 4 [(2, .int e_1)] → W p l e (rmd 1) s m ([.ref a_r0, .int x1] : List Value).toArray below meth c H locs 0 0 Q (F0 m 34 ls []) := by
    intro e_1 hE H locs ls hW hl
    subst hE; have hr := hk_1
    refine lv_iload_n hx hb d_Fld_wishersOf_34 rfl (lv_at hl 0 rfl) ?_
    obtain rfl := Option.some.inj hr
    rw [hQ]; exact k_iret C hret hW d_Fld_wishersOf_35
  have hl_1 : ∀ (k : Nat) (y2_1 : Int32) (y3_1 : Int32), wh (fun (s : (Int32) × (Int32)) => F_Fld_wishersOf_L4 r0_wishes x1 s.1 s.2) k (y2_1, y3_1) = some ex_1 → ∀ (H : Heap) (locs : List Loc) (ls : Array Slot), wd A s.heap D (w_Fld_wishersOf cI a_r0 a_r0_wishes v_r0_lefts r0_wishes) H locs → lv_has ls 4 [(0, .ref a_r0), (1, .int x1), (2, .int y2_1), (3, .int y3_1)] → W p l e (rmd 1) s m ([.ref a_r0, .int x1] : List Value).toArray below meth c H locs 0 0 Q (F0 m 4 ls []) := by
    intro k
    induction k with
    | zero => intro y2_1 y3_1 hw; exact absurd hw wh_0
    | succ k ih_1 =>
      intro y2_1 y3_1 hw H locs ls hW hl
      obtain ⟨z_1, hr, hz1_1, hz2_1⟩ := wh_s hw
      have hr : F_Fld_wishersOf_L4 r0_wishes x1 y2_1 y3_1 = some z_1 := hr
      unfold F_Fld_wishersOf_L4 at hr
      refine lv_iload_n hx hb d_Fld_wishersOf_4 rfl (lv_at hl 3 rfl) ?_
      refine lv_iconst (v := 4) hx hb d_Fld_wishersOf_5 (by decide) ?_
      refine lv_icmp_ge (tgt := 34) hx hb d_Fld_wishersOf_6 (by decide) (fun c_2 => ?_) (fun c_2 => ?_)
      · replace hr := ip c_2 hr
        exact hx_1 _ (hz2_1 _ (Option.some.inj hr).symm) _ _ _ hW (lv_sub hl [2] rfl)
      · replace hr := iN c_2 hr
        refine lv_aload_n hx hb d_Fld_wishersOf_9 rfl (lv_at hl 0 rfl) ?_
        refine k_get i_Fld C hW 0 rfl rfl 0 (by decide) qf_Fld_9 rfl rfl d_Fld_wishersOf_10 ?_
        refine lv_iload_n hx hb d_Fld_wishersOf_13 rfl (lv_at hl 3 rfl) ?_
        obtain ⟨h_3, hr⟩ := ck_some hr
        refine k_iald C hW 1 rfl h_3 d_Fld_wishersOf_14 ?_
        refine lv_iload_n hx hb d_Fld_wishersOf_15 rfl (lv_at hl 1 rfl) ?_
        obtain ⟨q_4, hc_4, hr⟩ := ob hr
        have ct_4 := C_H_holds l D cI cS (r0_wishes (Int32.toNatClampNeg y3_1)) x1 q_4 hc_4
        refine k_goIp hA hW [] rfl rfl (k_runSN C hA hW mw_H_holds ms_H_holds (ct_4.2 _) [] rfl rfl qm_Fld_22 ⟨Nat.le_of_ble_eq_true rfl, Nat.le_of_ble_eq_true rfl, Nat.zero_le _, Nat.zero_le _⟩ rfl rfl (Nat.le_of_ble_eq_true rfl) hl.1 d_Fld_wishersOf_16) (fun H locs hW => ?_)
        refine lv_if_eq (tgt := 28) hx hb d_Fld_wishersOf_19 (by decide) (fun c_5 => ?_) (fun c_5 => ?_)
        · replace hr := ip c_5 hr
          refine lv_iinc (v := (y3_1 + 1)) (lv' := [(3, .int (y3_1 + 1)), (0, .ref a_r0), (1, .int x1), (2, .int y2_1)]) hx hb d_Fld_wishersOf_28 hl (k := 3) rfl rfl (by decide) rfl (fun ls hl => ?_)
          refine lv_goto (tgt := 4) hx hb d_Fld_wishersOf_31 (by decide) ?_
          exact ih_1 y2_1 (y3_1 + 1) (hz1_1 _ (Option.some.inj hr).symm) _ _ _ hW (lv_sub hl [1, 2, 3, 0] rfl)
        · replace hr := iN c_5 hr
          refine lv_iload_n hx hb d_Fld_wishersOf_22 rfl (lv_at hl 2 rfl) ?_
          refine lv_iconst (v := 1) hx hb d_Fld_wishersOf_23 (by decide) ?_
          refine lv_iload_n hx hb d_Fld_wishersOf_24 rfl (lv_at hl 3 rfl) ?_
          refine lv_ishl hx hb d_Fld_wishersOf_25 ?_
          refine lv_ior hx hb d_Fld_wishersOf_26 ?_
          refine lv_istore_n (lv' := [(2, .int (y2_1 ||| ((1 : Int32) <<< ((y3_1 : Int32) &&& 31)))), (0, .ref a_r0), (1, .int x1), (3, .int y3_1)]) hx hb d_Fld_wishersOf_27 rfl hl (by decide) rfl (fun ls hl => ?_)
          refine lv_iinc (v := (y3_1 + 1)) (lv' := [(3, .int (y3_1 + 1)), (2, .int (y2_1 ||| ((1 : Int32) <<< ((y3_1 : Int32) &&& 31)))), (0, .ref a_r0), (1, .int x1)]) hx hb d_Fld_wishersOf_28 hl (k := 3) rfl rfl (by decide) rfl (fun ls hl => ?_)
          refine lv_goto (tgt := 4) hx hb d_Fld_wishersOf_31 (by decide) ?_
          exact ih_1 (y2_1 ||| ((1 : Int32) <<< ((y3_1 : Int32) &&& 31))) (y3_1 + 1) (hz1_1 _ (Option.some.inj hr).symm) _ _ _ hW (lv_sub hl [2, 3, 1, 0] rfl)
  exact hl_1 _ 0 0 hw_1 _ _ _ hW (lv_sub hl [2, 3, 1, 0] rfl)
def w_Fld_work (cI : ClassId) (a_r0 : Nat) (a_r0_lefts : Nat) (a_r0_wishes : Nat) (r0_lefts : Nat → Int32) (r0_wishes : Nat → Int32) : va_W := [(a_r0, .inr (2, [.ref a_r0_wishes, .ref a_r0_lefts])), (a_r0_lefts, .inl (cI, 4, .inl r0_lefts)), (a_r0_wishes, .inl (cI, 4, .inl r0_wishes))]
def F_Fld_work (r0_lefts : Nat → Int32) (r0_wishes : Nat → Int32) (x1 : Int32) : Option (Int32 × (Nat → Int32)) :=
  ((F_Fld_fieldFor r0_lefts r0_wishes x1).bind (fun q_1 => ((F_H_isField q_1).bind (fun q_2 => (if q_2 = 0 then (some (q_1, r0_lefts)) else (ck q_1 4 (ck q_1 4 (some (q_1, (upd r0_lefts (Int32.toNatClampNeg q_1) ((r0_lefts (Int32.toNatClampNeg q_1)) - 1)))))))))))
set_option maxHeartbeats 4000000 in
set_option maxRecDepth 100000 in
theorem C_Fld_work (l : Launch) (D : va_G) (cI cS : ClassId) (a_r0 : Nat) (a_r0_lefts : Nat) (a_r0_wishes : Nat) (r0_lefts : Nat → Int32) (r0_wishes : Nat → Int32) (x1 : Int32) (o : Int32 × (Nat → Int32)) (hr : F_Fld_work r0_lefts r0_wishes x1 = some o) : ctI l y_Fld_work (Cond.code y_Fld_work b_Fld_work 3 (some FieldType.int)) (rmd 2) D (kTy cI cS) [.ref a_r0, .int x1] (w_Fld_work cI a_r0 a_r0_lefts a_r0_wishes r0_lefts r0_wishes) (w_Fld_work cI a_r0 a_r0_lefts a_r0_wishes o.2 r0_wishes) o.1 := by
  unfold F_Fld_work at hr
  refine ⟨rfl, fun sz => ct_of (w0 := (w_Fld_work cI a_r0 a_r0_lefts a_r0_wishes r0_lefts r0_wishes)) (Qc := fun A => qI D (w_Fld_work cI a_r0 a_r0_lefts a_r0_wishes o.2 r0_wishes) o.1 A) rfl (Nat.le_of_ble_eq_true rfl) ?_ sz⟩
  intro p e s m below meth c A hA C hret ls hl hW
  have C : cx p s m ([.ref a_r0, .int x1] : List Value).toArray meth c b_Fld_work 3 R_Fld D (kTy cI cS) (Cond.code y_Fld_work b_Fld_work 3 (some FieldType.int)) := C
  obtain ⟨hx, hb, hml, hown, hts, hK, hlk, hN⟩ := id C
  have hl : lv_has ls 3 [(0, .ref a_r0), (1, .int x1)] := hl
  obtain ⟨Q, hQ⟩ : ∃ Q, Q = MQ below (qI D (w_Fld_work cI a_r0 a_r0_lefts a_r0_wishes o.2 r0_wishes) o.1 A) ([.ref a_r0, .int x1] : List Value).toArray s 0 0 A := ⟨_, rfl⟩
  rw [← hQ]
  refine lv_aload_n hx hb d_Fld_work_0 rfl (lv_at hl 0 rfl) ?_
  refine lv_iload_n hx hb d_Fld_work_1 rfl (lv_at hl 1 rfl) ?_
  obtain ⟨q_1, hc_1, hr⟩ := ob hr
  have ct_1 := C_Fld_fieldFor l D cI cS a_r0 a_r0_lefts a_r0_wishes r0_lefts r0_wishes x1 q_1 hc_1
  refine k_goIp hA hW [0, 1, 2] rfl rfl (k_runV C hA hW mw_Fld_fieldFor mv_Fld_fieldFor (ct_1.2 _) [0, 1, 2] rfl rfl 0 rfl rfl qm_Fld_26 ⟨Nat.le_of_ble_eq_true rfl, Nat.le_of_ble_eq_true rfl, Nat.zero_le _, Nat.zero_le _⟩ rfl rfl (Nat.le_of_ble_eq_true rfl) hl.1 d_Fld_work_2) (fun H locs hW => ?_)
  refine lv_istore_n (lv' := [(2, .int q_1), (0, .ref a_r0), (1, .int x1)]) hx hb d_Fld_work_5 rfl hl (by decide) rfl (fun ls hl => ?_)
  refine lv_iload_n hx hb d_Fld_work_6 rfl (lv_at hl 0 rfl) ?_
  obtain ⟨q_2, hc_2, hr⟩ := ob hr
  have ct_2 := C_H_isField l D cI cS q_1 q_2 hc_2
  refine k_goIp hA hW [] rfl rfl (k_runSN C hA hW mw_H_isField ms_H_isField (ct_2.2 _) [] rfl rfl qm_Fld_18 ⟨Nat.le_of_ble_eq_true rfl, Nat.le_of_ble_eq_true rfl, Nat.zero_le _, Nat.zero_le _⟩ rfl rfl (Nat.le_of_ble_eq_true rfl) hl.1 d_Fld_work_7) (fun H locs hW => ?_)
  refine lv_if_eq (tgt := 23) hx hb d_Fld_work_10 (by decide) (fun c_3 => ?_) (fun c_3 => ?_)
  · replace hr := ip c_3 hr
    refine lv_iload_n hx hb d_Fld_work_23 rfl (lv_at hl 0 rfl) ?_
    obtain rfl := Option.some.inj hr
    rw [hQ]; exact k_iret C hret hW d_Fld_work_24
  · replace hr := iN c_3 hr
    refine lv_aload_n hx hb d_Fld_work_13 rfl (lv_at hl 1 rfl) ?_
    refine k_get i_Fld C hW 0 rfl rfl 1 (by decide) qf_Fld_15 rfl rfl d_Fld_work_14 ?_
    refine lv_iload_n hx hb d_Fld_work_17 rfl (lv_at hl 0 rfl) ?_
    refine lv_dup2_11 hx hb d_Fld_work_18 rfl rfl ?_
    obtain ⟨h_4, hr⟩ := ck_some hr
    refine k_iald C hW 1 rfl h_4 d_Fld_work_19 ?_
    refine lv_iconst (v := 1) hx hb d_Fld_work_20 (by decide) ?_
    refine lv_isub hx hb d_Fld_work_21 ?_
    obtain ⟨h_5, hr⟩ := ck_some hr
    refine k_iast C hW 1 rfl h_5 (ws' := (w_Fld_work cI a_r0 a_r0_lefts a_r0_wishes (upd r0_lefts (Int32.toNatClampNeg q_1) ((r0_lefts (Int32.toNatClampNeg q_1)) - 1)) r0_wishes)) rfl d_Fld_work_22 (fun H locs hW => ?_)
    refine lv_iload_n hx hb d_Fld_work_23 rfl (lv_at hl 0 rfl) ?_
    obtain rfl := Option.some.inj hr
    rw [hQ]; exact k_iret C hret hW d_Fld_work_24
def F_Frc_greatestShared_L9 (y4_1 : Int64) (y6_1 : Int64) (y8_1 : Int32) : Option (((Int64) × (Int64) × (Int32)) ⊕ ((Int64))) :=
  (if (200 : Int32) ≤ y8_1 then (some (.inr y4_1)) else (if (lg_cmp y6_1 0) = 0 then (some (.inr y4_1)) else (ck0L y6_1 (some (.inl (y6_1, (y4_1 - y4_1 / y6_1 * y6_1), (y8_1 + 1)))))))
def F_Frc_greatestShared (x0 : Int64) (x2 : Int64) : Option (Int64) :=
  ((wh (fun (s : (Int64) × (Int64) × (Int32)) => F_Frc_greatestShared_L9 s.1 s.2.1 s.2.2) 400 (x0, x2, (0 : Int32))).bind (fun e_1 => (some e_1)))
set_option maxHeartbeats 4000000 in
set_option maxRecDepth 100000 in
theorem C_Frc_greatestShared (l : Launch) (D : va_G) (cI cS : ClassId) (x0 : Int64) (x2 : Int64) (o : Int64) (hr : F_Frc_greatestShared x0 x2 = some o) : ctL l y_Frc_greatestShared (Cond.code y_Frc_greatestShared b_Frc_greatestShared 11 (some FieldType.long)) (rmd 0) D (kTy cI cS) [.long x0, .long x2] [] [] o := by
  unfold F_Frc_greatestShared at hr
  refine ⟨rfl, fun sz => ct_of (w0 := []) (Qc := fun A => qL D [] o A) rfl (Nat.le_of_ble_eq_true rfl) ?_ sz⟩
  intro p e s m below meth c A hA C hret ls hl hW
  have C : cx p s m ([.long x0, .long x2] : List Value).toArray meth c b_Frc_greatestShared 11 R_Frc D (kTy cI cS) (Cond.code y_Frc_greatestShared b_Frc_greatestShared 11 (some FieldType.long)) := C
  obtain ⟨hx, hb, hml, hown, hts, hK, hlk, hN⟩ := id C
  have hl : lv_has ls 11 [(0, .long x0), (2, .long x2)] := hl
  obtain ⟨Q, hQ⟩ : ∃ Q, Q = MQ below (qL D [] o A) ([.long x0, .long x2] : List Value).toArray s 0 0 A := ⟨_, rfl⟩
  rw [← hQ]
  refine lv_lload_n hx hb d_Frc_greatestShared_0 rfl (lv_at hl 0 rfl) ?_
  refine lv_lstore (lv' := [(4, .long x0), (0, .long x0), (2, .long x2)]) hx hb d_Frc_greatestShared_1 hl (by decide) rfl (fun ls hl => ?_)
  refine lv_lload_n hx hb d_Frc_greatestShared_3 rfl (lv_at hl 2 rfl) ?_
  refine lv_lstore (lv' := [(6, .long x2), (4, .long x0), (0, .long x0), (2, .long x2)]) hx hb d_Frc_greatestShared_4 hl (by decide) rfl (fun ls hl => ?_)
  refine lv_iconst (v := 0) hx hb d_Frc_greatestShared_6 (by decide) ?_
  refine lv_istore (lv' := [(8, .int 0), (6, .long x2), (4, .long x0), (0, .long x0), (2, .long x2)]) hx hb d_Frc_greatestShared_7 hl (by decide) rfl (fun ls hl => ?_)
  obtain ⟨ex_1, hw_1, hk_1⟩ := ob hr
  have hx_1 : ∀ (e_1 : (Int64)), e_1 = ex_1 → ∀ (H : Heap) (locs : List Loc) (ls : Array Slot), wd A s.heap D [] H locs → lv_has ls 11 [(4, .long e_1)] → W p l e (rmd 0) s m ([.long x0, .long x2] : List Value).toArray below meth c H locs 0 0 Q (F0 m 45 ls []) := by
    intro e_1 hE H locs ls hW hl
    subst hE; have hr := hk_1
    refine lv_lload hx hb d_Frc_greatestShared_45 (lv_at hl 0 rfl) ?_
    obtain rfl := Option.some.inj hr
    rw [hQ]; exact k_lret C hret hW d_Frc_greatestShared_47
  have hl_1 : ∀ (k : Nat) (y4_1 : Int64) (y6_1 : Int64) (y8_1 : Int32), wh (fun (s : (Int64) × (Int64) × (Int32)) => F_Frc_greatestShared_L9 s.1 s.2.1 s.2.2) k (y4_1, y6_1, y8_1) = some ex_1 → ∀ (H : Heap) (locs : List Loc) (ls : Array Slot), wd A s.heap D [] H locs → lv_has ls 11 [(4, .long y4_1), (6, .long y6_1), (8, .int y8_1)] → W p l e (rmd 0) s m ([.long x0, .long x2] : List Value).toArray below meth c H locs 0 0 Q (F0 m 9 ls []) := by
    intro k
    induction k with
    | zero => intro y4_1 y6_1 y8_1 hw; exact absurd hw wh_0
    | succ k ih_1 =>
      intro y4_1 y6_1 y8_1 hw H locs ls hW hl
      obtain ⟨z_1, hr, hz1_1, hz2_1⟩ := wh_s hw
      have hr : F_Frc_greatestShared_L9 y4_1 y6_1 y8_1 = some z_1 := hr
      unfold F_Frc_greatestShared_L9 at hr
      refine lv_iload hx hb d_Frc_greatestShared_9 (lv_at hl 2 rfl) ?_
      refine lv_sipush (v := 200) hx hb d_Frc_greatestShared_11 (by decide) ?_
      refine lv_icmp_ge (tgt := 45) hx hb d_Frc_greatestShared_14 (by decide) (fun c_2 => ?_) (fun c_2 => ?_)
      · replace hr := ip c_2 hr
        exact hx_1 _ (hz2_1 _ (Option.some.inj hr).symm) _ _ _ hW (lv_sub hl [0] rfl)
      · replace hr := iN c_2 hr
        refine lv_lload hx hb d_Frc_greatestShared_17 (lv_at hl 1 rfl) ?_
        refine lv_lconst (v := 0) hx hb d_Frc_greatestShared_19 (by decide) ?_
        refine W.lcmp hx hb d_Frc_greatestShared_20 ?_
        refine lv_if_eq (tgt := 45) hx hb d_Frc_greatestShared_21 (by decide) (fun c_3 => ?_) (fun c_3 => ?_)
        · replace hr := ip c_3 hr
          exact hx_1 _ (hz2_1 _ (Option.some.inj hr).symm) _ _ _ hW (lv_sub hl [0] rfl)
        · replace hr := iN c_3 hr
          refine lv_lload hx hb d_Frc_greatestShared_24 (lv_at hl 0 rfl) ?_
          refine lv_lload hx hb d_Frc_greatestShared_26 (lv_at hl 1 rfl) ?_
          obtain ⟨h_4, hr⟩ := ck0L_some hr
          refine lv_lrem hx hb d_Frc_greatestShared_28 h_4 ?_
          refine lv_lstore (lv' := [(9, .long (y4_1 - y4_1 / y6_1 * y6_1)), (4, .long y4_1), (6, .long y6_1), (8, .int y8_1)]) hx hb d_Frc_greatestShared_29 hl (by decide) rfl (fun ls hl => ?_)
          refine lv_lload hx hb d_Frc_greatestShared_31 (lv_at hl 2 rfl) ?_
          refine lv_lstore (lv' := [(4, .long y6_1), (9, .long (y4_1 - y4_1 / y6_1 * y6_1)), (6, .long y6_1), (8, .int y8_1)]) hx hb d_Frc_greatestShared_33 hl (by decide) rfl (fun ls hl => ?_)
          refine lv_lload hx hb d_Frc_greatestShared_35 (lv_at hl 1 rfl) ?_
          refine lv_lstore (lv' := [(6, .long (y4_1 - y4_1 / y6_1 * y6_1)), (4, .long y6_1), (9, .long (y4_1 - y4_1 / y6_1 * y6_1)), (8, .int y8_1)]) hx hb d_Frc_greatestShared_37 hl (by decide) rfl (fun ls hl => ?_)
          refine lv_iinc (v := (y8_1 + 1)) (lv' := [(8, .int (y8_1 + 1)), (6, .long (y4_1 - y4_1 / y6_1 * y6_1)), (4, .long y6_1), (9, .long (y4_1 - y4_1 / y6_1 * y6_1))]) hx hb d_Frc_greatestShared_39 hl (k := 3) rfl rfl (by decide) rfl (fun ls hl => ?_)
          refine lv_goto (tgt := 9) hx hb d_Frc_greatestShared_42 (by decide) ?_
          exact ih_1 y6_1 (y4_1 - y4_1 / y6_1 * y6_1) (y8_1 + 1) (hz1_1 _ (Option.some.inj hr).symm) _ _ _ hW (lv_sub hl [2, 1, 0] rfl)
  exact hl_1 _ x0 x2 0 hw_1 _ _ _ hW (lv_sub hl [2, 1, 0] rfl)
def w_Frc_become (cI : ClassId) (a_r0 : Nat) (r0_above : Int64) (r0_below : Int64) : va_W := [(a_r0, .inr (8, [.long r0_above, .long r0_below]))]
def F_Frc_become (x1 : Int64) (x3 : Int64) : Option ((Int64) × (Int64)) :=
  (if (lg_cmp x1 0) ≤ 0 then (some (0, 1)) else (if (lg_cmp x3 0) ≤ 0 then (some (0, 1)) else ((F_Frc_greatestShared x1 x3).bind (fun q_3 => (if (lg_cmp q_3 0) ≤ 0 then (some (0, 1)) else (ck0L q_3 (ck0L q_3 (some ((x1 / q_3), (x3 / q_3))))))))))
set_option maxHeartbeats 4000000 in
set_option maxRecDepth 100000 in
theorem C_Frc_become (l : Launch) (D : va_G) (cI cS : ClassId) (a_r0 : Nat) (r0_above : Int64) (r0_below : Int64) (x1 : Int64) (x3 : Int64) (o : (Int64) × (Int64)) (hr : F_Frc_become x1 x3 = some o) : ctV l y_Frc_become (Cond.code y_Frc_become b_Frc_become 7 none) (rmd 1) D (kTy cI cS) [.ref a_r0, .long x1, .long x3] (w_Frc_become cI a_r0 r0_above r0_below) (w_Frc_become cI a_r0 o.1 o.2) := by
  unfold F_Frc_become at hr
  refine ⟨rfl, fun sz => ct_of (w0 := (w_Frc_become cI a_r0 r0_above r0_below)) (Qc := fun A => qV D (w_Frc_become cI a_r0 o.1 o.2) A) rfl (Nat.le_of_ble_eq_true rfl) ?_ sz⟩
  intro p e s m below meth c A hA C hret ls hl hW
  have C : cx p s m ([.ref a_r0, .long x1, .long x3] : List Value).toArray meth c b_Frc_become 7 R_Frc D (kTy cI cS) (Cond.code y_Frc_become b_Frc_become 7 none) := C
  obtain ⟨hx, hb, hml, hown, hts, hK, hlk, hN⟩ := id C
  have hl : lv_has ls 7 [(0, .ref a_r0), (1, .long x1), (3, .long x3)] := hl
  obtain ⟨Q, hQ⟩ : ∃ Q, Q = MQ below (qV D (w_Frc_become cI a_r0 o.1 o.2) A) ([.ref a_r0, .long x1, .long x3] : List Value).toArray s 0 0 A := ⟨_, rfl⟩
  rw [← hQ]
  refine lv_aload_n hx hb d_Frc_become_0 rfl (lv_at hl 0 rfl) ?_
  refine lv_lconst (v := 0) hx hb d_Frc_become_1 (by decide) ?_
  refine k_put i_Frc t_Frc_ok n_Frc C hW 0 rfl rfl 0 (by decide) qf_Frc_7 rfl rfl (ty := .long) rfl rfl rfl (Nat.le_of_ble_eq_true rfl) (ws' := (w_Frc_become cI a_r0 0 r0_below)) rfl d_Frc_become_2 (fun H locs hW => ?_)
  refine lv_aload_n hx hb d_Frc_become_5 rfl (lv_at hl 0 rfl) ?_
  refine lv_lconst (v := 1) hx hb d_Frc_become_6 (by decide) ?_
  refine k_put i_Frc t_Frc_ok n_Frc C hW 0 rfl rfl 1 (by decide) qf_Frc_13 rfl rfl (ty := .long) rfl rfl rfl (Nat.le_of_ble_eq_true rfl) (ws' := (w_Frc_become cI a_r0 0 1)) rfl d_Frc_become_7 (fun H locs hW => ?_)
  refine lv_lload_n hx hb d_Frc_become_10 rfl (lv_at hl 1 rfl) ?_
  refine lv_lconst (v := 0) hx hb d_Frc_become_11 (by decide) ?_
  refine W.lcmp hx hb d_Frc_become_12 ?_
  refine lv_if_le (tgt := 52) hx hb d_Frc_become_13 (by decide) (fun c_1 => ?_) (fun c_1 => ?_)
  · replace hr := ip c_1 hr
    obtain rfl := Option.some.inj hr
    rw [hQ]; exact k_vret C hret hW d_Frc_become_52
  · replace hr := iN c_1 hr
    refine lv_lload_n hx hb d_Frc_become_16 rfl (lv_at hl 2 rfl) ?_
    refine lv_lconst (v := 0) hx hb d_Frc_become_17 (by decide) ?_
    refine W.lcmp hx hb d_Frc_become_18 ?_
    refine lv_if_le (tgt := 52) hx hb d_Frc_become_19 (by decide) (fun c_2 => ?_) (fun c_2 => ?_)
    · replace hr := ip c_2 hr
      obtain rfl := Option.some.inj hr
      rw [hQ]; exact k_vret C hret hW d_Frc_become_52
    · replace hr := iN c_2 hr
      refine lv_lload_n hx hb d_Frc_become_22 rfl (lv_at hl 1 rfl) ?_
      refine lv_lload_n hx hb d_Frc_become_23 rfl (lv_at hl 2 rfl) ?_
      obtain ⟨q_3, hc_3, hr⟩ := ob hr
      have ct_3 := C_Frc_greatestShared l D cI cS x1 x3 q_3 hc_3
      refine k_goLp hA hW [] rfl rfl (k_runS C hA hW mw_Frc_greatestShared ms_Frc_greatestShared (ct_3.2 _) [] rfl rfl qm_Frc_16 ⟨Nat.le_of_ble_eq_true rfl, Nat.le_of_ble_eq_true rfl, Nat.zero_le _, Nat.zero_le _⟩ rfl rfl (Nat.le_of_ble_eq_true rfl) hl.1 d_Frc_become_24) (fun H locs hW => ?_)
      refine lv_lstore (lv' := [(5, .long q_3), (0, .ref a_r0), (1, .long x1), (3, .long x3)]) hx hb d_Frc_become_27 hl (by decide) rfl (fun ls hl => ?_)
      refine lv_lload hx hb d_Frc_become_29 (lv_at hl 0 rfl) ?_
      refine lv_lconst (v := 0) hx hb d_Frc_become_31 (by decide) ?_
      refine W.lcmp hx hb d_Frc_become_32 ?_
      refine lv_if_le (tgt := 52) hx hb d_Frc_become_33 (by decide) (fun c_4 => ?_) (fun c_4 => ?_)
      · replace hr := ip c_4 hr
        obtain rfl := Option.some.inj hr
        rw [hQ]; exact k_vret C hret hW d_Frc_become_52
      · replace hr := iN c_4 hr
        refine lv_aload_n hx hb d_Frc_become_36 rfl (lv_at hl 1 rfl) ?_
        refine lv_lload_n hx hb d_Frc_become_37 rfl (lv_at hl 2 rfl) ?_
        refine lv_lload hx hb d_Frc_become_38 (lv_at hl 0 rfl) ?_
        obtain ⟨h_5, hr⟩ := ck0L_some hr
        refine lv_ldiv hx hb d_Frc_become_40 h_5 ?_
        refine k_put i_Frc t_Frc_ok n_Frc C hW 0 rfl rfl 0 (by decide) qf_Frc_7 rfl rfl (ty := .long) rfl rfl rfl (Nat.le_of_ble_eq_true rfl) (ws' := (w_Frc_become cI a_r0 (x1 / q_3) 1)) rfl d_Frc_become_41 (fun H locs hW => ?_)
        refine lv_aload_n hx hb d_Frc_become_44 rfl (lv_at hl 1 rfl) ?_
        refine lv_lload_n hx hb d_Frc_become_45 rfl (lv_at hl 3 rfl) ?_
        refine lv_lload hx hb d_Frc_become_46 (lv_at hl 0 rfl) ?_
        obtain ⟨h_6, hr⟩ := ck0L_some hr
        refine lv_ldiv hx hb d_Frc_become_48 h_6 ?_
        refine k_put i_Frc t_Frc_ok n_Frc C hW 0 rfl rfl 1 (by decide) qf_Frc_13 rfl rfl (ty := .long) rfl rfl rfl (Nat.le_of_ble_eq_true rfl) (ws' := (w_Frc_become cI a_r0 (x1 / q_3) (x3 / q_3))) rfl d_Frc_become_49 (fun H locs hW => ?_)
        obtain rfl := Option.some.inj hr
        rw [hQ]; exact k_vret C hret hW d_Frc_become_52
def w_Frc_told (cI : ClassId) (a_r0 : Nat) (r0_above : Int64) (r0_below : Int64) : va_W := [(a_r0, .inr (8, [.long r0_above, .long r0_below]))]
def F_Frc_told (r0_above : Int64) (r0_below : Int64) (x1 : Int32) : Option (Int64) :=
  (if x1 = 0 then (some r0_above) else (some r0_below))
set_option maxHeartbeats 4000000 in
set_option maxRecDepth 100000 in
theorem C_Frc_told (l : Launch) (D : va_G) (cI cS : ClassId) (a_r0 : Nat) (r0_above : Int64) (r0_below : Int64) (x1 : Int32) (o : Int64) (hr : F_Frc_told r0_above r0_below x1 = some o) : ctL l y_Frc_told (Cond.code y_Frc_told b_Frc_told 2 (some FieldType.long)) (rmd 0) D (kTy cI cS) [.ref a_r0, .int x1] (w_Frc_told cI a_r0 r0_above r0_below) (w_Frc_told cI a_r0 r0_above r0_below) o := by
  unfold F_Frc_told at hr
  refine ⟨rfl, fun sz => ct_of (w0 := (w_Frc_told cI a_r0 r0_above r0_below)) (Qc := fun A => qL D (w_Frc_told cI a_r0 r0_above r0_below) o A) rfl (Nat.le_of_ble_eq_true rfl) ?_ sz⟩
  intro p e s m below meth c A hA C hret ls hl hW
  have C : cx p s m ([.ref a_r0, .int x1] : List Value).toArray meth c b_Frc_told 2 R_Frc D (kTy cI cS) (Cond.code y_Frc_told b_Frc_told 2 (some FieldType.long)) := C
  obtain ⟨hx, hb, hml, hown, hts, hK, hlk, hN⟩ := id C
  have hl : lv_has ls 2 [(0, .ref a_r0), (1, .int x1)] := hl
  obtain ⟨Q, hQ⟩ : ∃ Q, Q = MQ below (qL D (w_Frc_told cI a_r0 r0_above r0_below) o A) ([.ref a_r0, .int x1] : List Value).toArray s 0 0 A := ⟨_, rfl⟩
  rw [← hQ]
  refine lv_iload_n hx hb d_Frc_told_0 rfl (lv_at hl 1 rfl) ?_
  refine lv_if_ne (tgt := 11) hx hb d_Frc_told_1 (by decide) (fun c_1 => ?_) (fun c_1 => ?_)
  · replace hr := iN c_1 hr
    refine lv_aload_n hx hb d_Frc_told_11 rfl (lv_at hl 0 rfl) ?_
    refine k_get i_Frc C hW 0 rfl rfl 1 (by decide) qf_Frc_13 rfl rfl d_Frc_told_12 ?_
    obtain rfl := Option.some.inj hr
    rw [hQ]; exact k_lret C hret hW d_Frc_told_15
  · replace hr := ip c_1 hr
    refine lv_aload_n hx hb d_Frc_told_4 rfl (lv_at hl 0 rfl) ?_
    refine k_get i_Frc C hW 0 rfl rfl 0 (by decide) qf_Frc_7 rfl rfl d_Frc_told_5 ?_
    refine lv_goto (tgt := 15) hx hb d_Frc_told_8 (by decide) ?_
    obtain rfl := Option.some.inj hr
    rw [hQ]; exact k_lret C hret hW d_Frc_told_15
def w_Har_ableWithout (cI : ClassId) (a_r0 : Nat) (a_r0_fields : Nat) (a_r0_fields_lefts : Nat) (a_r0_fields_wishes : Nat) (a_r0_weathers : Nat) (v_r0_path v_r0_best v_r0_counted v_r0_atMost v_r0_most v_r0_oneIn v_r0_lotsDone v_r0_lotsNone : Value) (r0_days : Int32) (r0_fields_lefts : Nat → Int32) (r0_fields_wishes : Nat → Int32) (r0_weathers : Nat → Int32) : va_W := [(a_r0, .inr (7, [.ref a_r0_fields, .ref a_r0_weathers, .int r0_days, v_r0_path, v_r0_best, v_r0_counted, v_r0_atMost, v_r0_most, v_r0_oneIn, v_r0_lotsDone, v_r0_lotsNone])), (a_r0_fields, .inr (2, [.ref a_r0_fields_wishes, .ref a_r0_fields_lefts])), (a_r0_fields_lefts, .inl (cI, 4, .inl r0_fields_lefts)), (a_r0_fields_wishes, .inl (cI, 4, .inl r0_fields_wishes)), (a_r0_weathers, .inl (cI, 8, .inl r0_weathers))]
def F_Har_ableWithout_L4 (r0_days : Int32) (r0_fields_lefts : Nat → Int32) (r0_fields_wishes : Nat → Int32) (r0_weathers : Nat → Int32) (x1 : Int32) (y2_1 : Int32) (y3_1 : Int32) : Option (((Int32) × (Int32)) ⊕ ((Int32))) :=
  (if r0_days ≤ y3_1 then (some (.inr y2_1)) else ((F_H_holds x1 y3_1).bind (fun q_3 => (if q_3 = 0 then (ck y3_1 8 ((F_Fld_fieldFor r0_fields_lefts r0_fields_wishes (r0_weathers (Int32.toNatClampNeg y3_1))).bind (fun q_6 => (if q_6 < 0 then (some (.inl (y2_1, (y3_1 + 1)))) else (some (.inl ((y2_1 + 1), (y3_1 + 1)))))))) else (some (.inl (y2_1, (y3_1 + 1))))))))
def F_Har_ableWithout (r0_days : Int32) (r0_fields_lefts : Nat → Int32) (r0_fields_wishes : Nat → Int32) (r0_weathers : Nat → Int32) (x1 : Int32) : Option (Int32) :=
  ((wh (fun (s : (Int32) × (Int32)) => F_Har_ableWithout_L4 r0_days r0_fields_lefts r0_fields_wishes r0_weathers x1 s.1 s.2) 400 ((0 : Int32), (0 : Int32))).bind (fun e_1 => (some e_1)))
set_option maxHeartbeats 4000000 in
set_option maxRecDepth 100000 in
theorem C_Har_ableWithout (l : Launch) (D : va_G) (cI cS : ClassId) (a_r0 : Nat) (a_r0_fields : Nat) (a_r0_fields_lefts : Nat) (a_r0_fields_wishes : Nat) (a_r0_weathers : Nat) (v_r0_path v_r0_best v_r0_counted v_r0_atMost v_r0_most v_r0_oneIn v_r0_lotsDone v_r0_lotsNone : Value) (r0_days : Int32) (r0_fields_lefts : Nat → Int32) (r0_fields_wishes : Nat → Int32) (r0_weathers : Nat → Int32) (x1 : Int32) (o : Int32) (hr : F_Har_ableWithout r0_days r0_fields_lefts r0_fields_wishes r0_weathers x1 = some o) : ctI l y_Har_ableWithout (Cond.code y_Har_ableWithout b_Har_ableWithout 4 (some FieldType.int)) (rmd 2) D (kTy cI cS) [.ref a_r0, .int x1] (w_Har_ableWithout cI a_r0 a_r0_fields a_r0_fields_lefts a_r0_fields_wishes a_r0_weathers v_r0_path v_r0_best v_r0_counted v_r0_atMost v_r0_most v_r0_oneIn v_r0_lotsDone v_r0_lotsNone r0_days r0_fields_lefts r0_fields_wishes r0_weathers) (w_Har_ableWithout cI a_r0 a_r0_fields a_r0_fields_lefts a_r0_fields_wishes a_r0_weathers v_r0_path v_r0_best v_r0_counted v_r0_atMost v_r0_most v_r0_oneIn v_r0_lotsDone v_r0_lotsNone r0_days r0_fields_lefts r0_fields_wishes r0_weathers) o := by
  unfold F_Har_ableWithout at hr
  refine ⟨rfl, fun sz => ct_of (w0 := (w_Har_ableWithout cI a_r0 a_r0_fields a_r0_fields_lefts a_r0_fields_wishes a_r0_weathers v_r0_path v_r0_best v_r0_counted v_r0_atMost v_r0_most v_r0_oneIn v_r0_lotsDone v_r0_lotsNone r0_days r0_fields_lefts r0_fields_wishes r0_weathers)) (Qc := fun A => qI D (w_Har_ableWithout cI a_r0 a_r0_fields a_r0_fields_lefts a_r0_fields_wishes a_r0_weathers v_r0_path v_r0_best v_r0_counted v_r0_atMost v_r0_most v_r0_oneIn v_r0_lotsDone v_r0_lotsNone r0_days r0_fields_lefts r0_fields_wishes r0_weathers) o A) rfl (Nat.le_of_ble_eq_true rfl) ?_ sz⟩
  intro p e s m below meth c A hA C hret ls hl hW
  have C : cx p s m ([.ref a_r0, .int x1] : List Value).toArray meth c b_Har_ableWithout 4 R_Har D (kTy cI cS) (Cond.code y_Har_ableWithout b_Har_ableWithout 4 (some FieldType.int)) := C
  obtain ⟨hx, hb, hml, hown, hts, hK, hlk, hN⟩ := id C
  have hl : lv_has ls 4 [(0, .ref a_r0), (1, .int x1)] := hl
  obtain ⟨Q, hQ⟩ : ∃ Q, Q = MQ below (qI D (w_Har_ableWithout cI a_r0 a_r0_fields a_r0_fields_lefts a_r0_fields_wishes a_r0_weathers v_r0_path v_r0_best v_r0_counted v_r0_atMost v_r0_most v_r0_oneIn v_r0_lotsDone v_r0_lotsNone r0_days r0_fields_lefts r0_fields_wishes r0_weathers) o A) ([.ref a_r0, .int x1] : List Value).toArray s 0 0 A := ⟨_, rfl⟩
  rw [← hQ]
  refine lv_iconst (v := 0) hx hb d_Har_ableWithout_0 (by decide) ?_
  refine lv_istore_n (lv' := [(2, .int 0), (0, .ref a_r0), (1, .int x1)]) hx hb d_Har_ableWithout_1 rfl hl (by decide) rfl (fun ls hl => ?_)
  refine lv_iconst (v := 0) hx hb d_Har_ableWithout_2 (by decide) ?_
  refine lv_istore_n (lv' := [(3, .int 0), (2, .int 0), (0, .ref a_r0), (1, .int x1)]) hx hb d_Har_ableWithout_3 rfl hl (by decide) rfl (fun ls hl => ?_)
  obtain ⟨ex_1, hw_1, hk_1⟩ := ob hr
  have hx_1 : ∀ (e_1 : (Int32)), e_1 = ex_1 → ∀ (H : Heap) (locs : List Loc) (ls : Array Slot), wd A s.heap D (w_Har_ableWithout cI a_r0 a_r0_fields a_r0_fields_lefts a_r0_fields_wishes a_r0_weathers v_r0_path v_r0_best v_r0_counted v_r0_atMost v_r0_most v_r0_oneIn v_r0_lotsDone v_r0_lotsNone r0_days r0_fields_lefts r0_fields_wishes r0_weathers) H locs → lv_has ls 4 [(2, .int e_1)] → W p l e (rmd 2) s m ([.ref a_r0, .int x1] : List Value).toArray below meth c H locs 0 0 Q (F0 m 45 ls []) := by
    intro e_1 hE H locs ls hW hl
    subst hE; have hr := hk_1
    refine lv_iload_n hx hb d_Har_ableWithout_45 rfl (lv_at hl 0 rfl) ?_
    obtain rfl := Option.some.inj hr
    rw [hQ]; exact k_iret C hret hW d_Har_ableWithout_46
  have hl_1 : ∀ (k : Nat) (y2_1 : Int32) (y3_1 : Int32), wh (fun (s : (Int32) × (Int32)) => F_Har_ableWithout_L4 r0_days r0_fields_lefts r0_fields_wishes r0_weathers x1 s.1 s.2) k (y2_1, y3_1) = some ex_1 → ∀ (H : Heap) (locs : List Loc) (ls : Array Slot), wd A s.heap D (w_Har_ableWithout cI a_r0 a_r0_fields a_r0_fields_lefts a_r0_fields_wishes a_r0_weathers v_r0_path v_r0_best v_r0_counted v_r0_atMost v_r0_most v_r0_oneIn v_r0_lotsDone v_r0_lotsNone r0_days r0_fields_lefts r0_fields_wishes r0_weathers) H locs → lv_has ls 4 [(0, .ref a_r0), (1, .int x1), (2, .int y2_1), (3, .int y3_1)] → W p l e (rmd 2) s m ([.ref a_r0, .int x1] : List Value).toArray below meth c H locs 0 0 Q (F0 m 4 ls []) := by
    intro k
    induction k with
    | zero => intro y2_1 y3_1 hw; exact absurd hw wh_0
    | succ k ih_1 =>
      intro y2_1 y3_1 hw H locs ls hW hl
      obtain ⟨z_1, hr, hz1_1, hz2_1⟩ := wh_s hw
      have hr : F_Har_ableWithout_L4 r0_days r0_fields_lefts r0_fields_wishes r0_weathers x1 y2_1 y3_1 = some z_1 := hr
      unfold F_Har_ableWithout_L4 at hr
      refine lv_iload_n hx hb d_Har_ableWithout_4 rfl (lv_at hl 3 rfl) ?_
      refine lv_aload_n hx hb d_Har_ableWithout_5 rfl (lv_at hl 0 rfl) ?_
      refine k_get i_Har C hW 0 rfl rfl 2 (by decide) qf_Har_48 rfl rfl d_Har_ableWithout_6 ?_
      refine lv_icmp_ge (tgt := 45) hx hb d_Har_ableWithout_9 (by decide) (fun c_2 => ?_) (fun c_2 => ?_)
      · replace hr := ip c_2 hr
        exact hx_1 _ (hz2_1 _ (Option.some.inj hr).symm) _ _ _ hW (lv_sub hl [2] rfl)
      · replace hr := iN c_2 hr
        refine lv_iload_n hx hb d_Har_ableWithout_12 rfl (lv_at hl 1 rfl) ?_
        refine lv_iload_n hx hb d_Har_ableWithout_13 rfl (lv_at hl 3 rfl) ?_
        obtain ⟨q_3, hc_3, hr⟩ := ob hr
        have ct_3 := C_H_holds l D cI cS x1 y3_1 q_3 hc_3
        refine k_goIp hA hW [] rfl rfl (k_runSN C hA hW mw_H_holds ms_H_holds (ct_3.2 _) [] rfl rfl qm_Har_64 ⟨Nat.le_of_ble_eq_true rfl, Nat.le_of_ble_eq_true rfl, Nat.zero_le _, Nat.zero_le _⟩ rfl rfl (Nat.le_of_ble_eq_true rfl) hl.1 d_Har_ableWithout_14) (fun H locs hW => ?_)
        refine lv_if_ne (tgt := 39) hx hb d_Har_ableWithout_17 (by decide) (fun c_4 => ?_) (fun c_4 => ?_)
        · replace hr := iN c_4 hr
          refine lv_iinc (v := (y3_1 + 1)) (lv' := [(3, .int (y3_1 + 1)), (0, .ref a_r0), (1, .int x1), (2, .int y2_1)]) hx hb d_Har_ableWithout_39 hl (k := 3) rfl rfl (by decide) rfl (fun ls hl => ?_)
          refine lv_goto (tgt := 4) hx hb d_Har_ableWithout_42 (by decide) ?_
          exact ih_1 y2_1 (y3_1 + 1) (hz1_1 _ (Option.some.inj hr).symm) _ _ _ hW (lv_sub hl [1, 2, 3, 0] rfl)
        · replace hr := ip c_4 hr
          refine lv_aload_n hx hb d_Har_ableWithout_20 rfl (lv_at hl 0 rfl) ?_
          refine k_get i_Har C hW 0 rfl rfl 0 (by decide) qf_Har_12 rfl rfl d_Har_ableWithout_21 ?_
          refine lv_aload_n hx hb d_Har_ableWithout_24 rfl (lv_at hl 0 rfl) ?_
          refine k_get i_Har C hW 0 rfl rfl 1 (by decide) qf_Har_18 rfl rfl d_Har_ableWithout_25 ?_
          refine lv_iload_n hx hb d_Har_ableWithout_28 rfl (lv_at hl 3 rfl) ?_
          obtain ⟨h_5, hr⟩ := ck_some hr
          refine k_iald C hW 4 rfl h_5 d_Har_ableWithout_29 ?_
          obtain ⟨q_6, hc_6, hr⟩ := ob hr
          have ct_6 := C_Fld_fieldFor l D cI cS a_r0_fields a_r0_fields_lefts a_r0_fields_wishes r0_fields_lefts r0_fields_wishes (r0_weathers (Int32.toNatClampNeg y3_1)) q_6 hc_6
          refine k_goIp hA hW [1, 2, 3] rfl rfl (k_runV C hA hW mw_Fld_fieldFor mv_Fld_fieldFor (ct_6.2 _) [1, 2, 3] rfl rfl 1 rfl rfl qm_Har_108 ⟨Nat.le_of_ble_eq_true rfl, Nat.le_of_ble_eq_true rfl, Nat.zero_le _, Nat.zero_le _⟩ rfl rfl (Nat.le_of_ble_eq_true rfl) hl.1 d_Har_ableWithout_30) (fun H locs hW => ?_)
          refine lv_if_lt (tgt := 39) hx hb d_Har_ableWithout_33 (by decide) (fun c_7 => ?_) (fun c_7 => ?_)
          · replace hr := ip c_7 hr
            refine lv_iinc (v := (y3_1 + 1)) (lv' := [(3, .int (y3_1 + 1)), (0, .ref a_r0), (1, .int x1), (2, .int y2_1)]) hx hb d_Har_ableWithout_39 hl (k := 3) rfl rfl (by decide) rfl (fun ls hl => ?_)
            refine lv_goto (tgt := 4) hx hb d_Har_ableWithout_42 (by decide) ?_
            exact ih_1 y2_1 (y3_1 + 1) (hz1_1 _ (Option.some.inj hr).symm) _ _ _ hW (lv_sub hl [1, 2, 3, 0] rfl)
          · replace hr := iN c_7 hr
            refine lv_iinc (v := (y2_1 + 1)) (lv' := [(2, .int (y2_1 + 1)), (0, .ref a_r0), (1, .int x1), (3, .int y3_1)]) hx hb d_Har_ableWithout_36 hl (k := 2) rfl rfl (by decide) rfl (fun ls hl => ?_)
            refine lv_iinc (v := (y3_1 + 1)) (lv' := [(3, .int (y3_1 + 1)), (2, .int (y2_1 + 1)), (0, .ref a_r0), (1, .int x1)]) hx hb d_Har_ableWithout_39 hl (k := 3) rfl rfl (by decide) rfl (fun ls hl => ?_)
            refine lv_goto (tgt := 4) hx hb d_Har_ableWithout_42 (by decide) ?_
            exact ih_1 (y2_1 + 1) (y3_1 + 1) (hz1_1 _ (Option.some.inj hr).symm) _ _ _ hW (lv_sub hl [2, 3, 1, 0] rfl)
  exact hl_1 _ 0 0 hw_1 _ _ _ hW (lv_sub hl [2, 3, 1, 0] rfl)
def w_Har_begin (cI : ClassId) (a_r0 : Nat) (a_r0_fields : Nat) (a_r0_fields_lefts : Nat) (a_r0_fields_wishes : Nat) (a_r0_weathers : Nat) (a_r1 : Nat) (a_r1_fields : Nat) (a_r1_fields_lefts : Nat) (a_r1_fields_wishes : Nat) (a_r1_goes : Nat) (a_r1_hampers : Nat) (a_r1_weights : Nat) (v_r0_path v_r0_best v_r0_counted v_r0_atMost v_r0_most v_r0_oneIn v_r0_lotsDone v_r0_lotsNone v_r1_kinds v_r1_figures v_r1_things v_r1_done : Value) (r0_days : Int32) (r0_fields_lefts : Nat → Int32) (r0_fields_wishes : Nat → Int32) (r0_weathers : Nat → Int32) (r1_days : Int32) (r1_fields_lefts : Nat → Int32) (r1_fields_wishes : Nat → Int32) (r1_goes : Nat → Int32) (r1_hampers : Nat → Int32) (r1_weights : Nat → Int32) : va_W := [(a_r0, .inr (7, [.ref a_r0_fields, .ref a_r0_weathers, .int r0_days, v_r0_path, v_r0_best, v_r0_counted, v_r0_atMost, v_r0_most, v_r0_oneIn, v_r0_lotsDone, v_r0_lotsNone])), (a_r0_fields, .inr (2, [.ref a_r0_fields_wishes, .ref a_r0_fields_lefts])), (a_r0_fields_lefts, .inl (cI, 4, .inl r0_fields_lefts)), (a_r0_fields_wishes, .inl (cI, 4, .inl r0_fields_wishes)), (a_r0_weathers, .inl (cI, 8, .inl r0_weathers)), (a_r1, .inr (1, [.ref a_r1_weights, v_r1_kinds, v_r1_figures, .ref a_r1_goes, v_r1_things, .ref a_r1_hampers, .int r1_days, .ref a_r1_fields, v_r1_done])), (a_r1_fields, .inr (2, [.ref a_r1_fields_wishes, .ref a_r1_fields_lefts])), (a_r1_fields_lefts, .inl (cI, 4, .inl r1_fields_lefts)), (a_r1_fields_wishes, .inl (cI, 4, .inl r1_fields_wishes)), (a_r1_goes, .inl (cI, 8, .inl r1_goes)), (a_r1_hampers, .inl (cI, 8, .inl r1_hampers)), (a_r1_weights, .inl (cI, 6, .inl r1_weights))]
def F_Har_begin_L30 (r1_days : Int32) (r1_goes : Nat → Int32) (r1_hampers : Nat → Int32) (r1_weights : Nat → Int32) (y2_2 : Int32) (r0_weathers_2 : Nat → Int32) : Option (((Int32) × (Nat → Int32)) ⊕ ((Nat → Int32))) :=
  (if (8 : Int32) ≤ y2_2 then (some (.inr r0_weathers_2)) else ((F_Sta_hasDay r1_days y2_2).bind (fun q_4 => (if q_4 = 0 then (ck y2_2 8 (some (.inl ((y2_2 + 1), (upd r0_weathers_2 (Int32.toNatClampNeg y2_2) (-9)))))) else ((F_Sta_hamperOf r1_days r1_hampers y2_2).bind (fun q_7 => ((F_Sta_likeliestBy r1_goes r1_weights q_7).bind (fun q_8 => (ck y2_2 8 (some (.inl ((y2_2 + 1), (upd r0_weathers_2 (Int32.toNatClampNeg y2_2) q_8)))))))))))))
def F_Har_begin (r0_fields_lefts : Nat → Int32) (r0_fields_wishes : Nat → Int32) (r0_weathers : Nat → Int32) (r1_days : Int32) (r1_fields_lefts : Nat → Int32) (r1_fields_wishes : Nat → Int32) (r1_goes : Nat → Int32) (r1_hampers : Nat → Int32) (r1_weights : Nat → Int32) : Option ((Int32) × (Nat → Int32) × (Nat → Int32) × (Nat → Int32)) :=
  ((F_Fld_copyFrom r0_fields_lefts r0_fields_wishes r1_fields_lefts r1_fields_wishes).bind (fun q_1 => ((wh (fun (s : (Int32) × (Nat → Int32)) => F_Har_begin_L30 r1_days r1_goes r1_hampers r1_weights s.1 s.2) 400 ((0 : Int32), r0_weathers)).bind (fun e_2 => (some ((if (0 : Int32) < (if (8 : Int32) < r1_days then (8 : Int32) else r1_days) then (if (8 : Int32) < r1_days then (8 : Int32) else r1_days) else (0 : Int32)), q_1.1, q_1.2, e_2))))))
set_option maxHeartbeats 4000000 in
set_option maxRecDepth 100000 in
theorem C_Har_begin (l : Launch) (D : va_G) (cI cS : ClassId) (a_r0 : Nat) (a_r0_fields : Nat) (a_r0_fields_lefts : Nat) (a_r0_fields_wishes : Nat) (a_r0_weathers : Nat) (a_r1 : Nat) (a_r1_fields : Nat) (a_r1_fields_lefts : Nat) (a_r1_fields_wishes : Nat) (a_r1_goes : Nat) (a_r1_hampers : Nat) (a_r1_weights : Nat) (v_r0_path v_r0_best v_r0_counted v_r0_atMost v_r0_most v_r0_oneIn v_r0_lotsDone v_r0_lotsNone v_r1_kinds v_r1_figures v_r1_things v_r1_done : Value) (r0_days : Int32) (r0_fields_lefts : Nat → Int32) (r0_fields_wishes : Nat → Int32) (r0_weathers : Nat → Int32) (r1_days : Int32) (r1_fields_lefts : Nat → Int32) (r1_fields_wishes : Nat → Int32) (r1_goes : Nat → Int32) (r1_hampers : Nat → Int32) (r1_weights : Nat → Int32) (o : (Int32) × (Nat → Int32) × (Nat → Int32) × (Nat → Int32)) (hr : F_Har_begin r0_fields_lefts r0_fields_wishes r0_weathers r1_days r1_fields_lefts r1_fields_wishes r1_goes r1_hampers r1_weights = some o) : ctV l y_Har_begin (Cond.code y_Har_begin b_Har_begin 3 none) (rmd 3) D (kTy cI cS) [.ref a_r0, .ref a_r1] (w_Har_begin cI a_r0 a_r0_fields a_r0_fields_lefts a_r0_fields_wishes a_r0_weathers a_r1 a_r1_fields a_r1_fields_lefts a_r1_fields_wishes a_r1_goes a_r1_hampers a_r1_weights v_r0_path v_r0_best v_r0_counted v_r0_atMost v_r0_most v_r0_oneIn v_r0_lotsDone v_r0_lotsNone v_r1_kinds v_r1_figures v_r1_things v_r1_done r0_days r0_fields_lefts r0_fields_wishes r0_weathers r1_days r1_fields_lefts r1_fields_wishes r1_goes r1_hampers r1_weights) (w_Har_begin cI a_r0 a_r0_fields a_r0_fields_lefts a_r0_fields_wishes a_r0_weathers a_r1 a_r1_fields a_r1_fields_lefts a_r1_fields_wishes a_r1_goes a_r1_hampers a_r1_weights v_r0_path v_r0_best v_r0_counted v_r0_atMost v_r0_most v_r0_oneIn v_r0_lotsDone v_r0_lotsNone v_r1_kinds v_r1_figures v_r1_things v_r1_done o.1 o.2.1 o.2.2.1 o.2.2.2 r1_days r1_fields_lefts r1_fields_wishes r1_goes r1_hampers r1_weights) := by
  unfold F_Har_begin at hr
  refine ⟨rfl, fun sz => ct_of (w0 := (w_Har_begin cI a_r0 a_r0_fields a_r0_fields_lefts a_r0_fields_wishes a_r0_weathers a_r1 a_r1_fields a_r1_fields_lefts a_r1_fields_wishes a_r1_goes a_r1_hampers a_r1_weights v_r0_path v_r0_best v_r0_counted v_r0_atMost v_r0_most v_r0_oneIn v_r0_lotsDone v_r0_lotsNone v_r1_kinds v_r1_figures v_r1_things v_r1_done r0_days r0_fields_lefts r0_fields_wishes r0_weathers r1_days r1_fields_lefts r1_fields_wishes r1_goes r1_hampers r1_weights)) (Qc := fun A => qV D (w_Har_begin cI a_r0 a_r0_fields a_r0_fields_lefts a_r0_fields_wishes a_r0_weathers a_r1 a_r1_fields a_r1_fields_lefts a_r1_fields_wishes a_r1_goes a_r1_hampers a_r1_weights v_r0_path v_r0_best v_r0_counted v_r0_atMost v_r0_most v_r0_oneIn v_r0_lotsDone v_r0_lotsNone v_r1_kinds v_r1_figures v_r1_things v_r1_done o.1 o.2.1 o.2.2.1 o.2.2.2 r1_days r1_fields_lefts r1_fields_wishes r1_goes r1_hampers r1_weights) A) rfl (Nat.le_of_ble_eq_true rfl) ?_ sz⟩
  intro p e s m below meth c A hA C hret ls hl hW
  have C : cx p s m ([.ref a_r0, .ref a_r1] : List Value).toArray meth c b_Har_begin 3 R_Har D (kTy cI cS) (Cond.code y_Har_begin b_Har_begin 3 none) := C
  obtain ⟨hx, hb, hml, hown, hts, hK, hlk, hN⟩ := id C
  have hl : lv_has ls 3 [(0, .ref a_r0), (1, .ref a_r1)] := hl
  obtain ⟨Q, hQ⟩ : ∃ Q, Q = MQ below (qV D (w_Har_begin cI a_r0 a_r0_fields a_r0_fields_lefts a_r0_fields_wishes a_r0_weathers a_r1 a_r1_fields a_r1_fields_lefts a_r1_fields_wishes a_r1_goes a_r1_hampers a_r1_weights v_r0_path v_r0_best v_r0_counted v_r0_atMost v_r0_most v_r0_oneIn v_r0_lotsDone v_r0_lotsNone v_r1_kinds v_r1_figures v_r1_things v_r1_done o.1 o.2.1 o.2.2.1 o.2.2.2 r1_days r1_fields_lefts r1_fields_wishes r1_goes r1_hampers r1_weights) A) ([.ref a_r0, .ref a_r1] : List Value).toArray s 0 0 A := ⟨_, rfl⟩
  rw [← hQ]
  refine lv_aload_n hx hb d_Har_begin_0 rfl (lv_at hl 0 rfl) ?_
  refine k_get i_Har C hW 0 rfl rfl 0 (by decide) qf_Har_12 rfl rfl d_Har_begin_1 ?_
  refine lv_aload_n hx hb d_Har_begin_4 rfl (lv_at hl 1 rfl) ?_
  refine k_getN i_Sta C hW 5 rfl rfl 7 (by decide) qf_Har_28 rfl rfl d_Har_begin_5 ?_
  obtain ⟨q_1, hc_1, hr⟩ := ob hr
  have ct_1 := C_Fld_copyFrom l D cI cS a_r0_fields a_r0_fields_lefts a_r0_fields_wishes a_r1_fields a_r1_fields_lefts a_r1_fields_wishes r0_fields_lefts r0_fields_wishes r1_fields_lefts r1_fields_wishes q_1 hc_1
  refine k_goV hA hW [1, 2, 3, 6, 7, 8] rfl ct_1.1 (ws' := (w_Har_begin cI a_r0 a_r0_fields a_r0_fields_lefts a_r0_fields_wishes a_r0_weathers a_r1 a_r1_fields a_r1_fields_lefts a_r1_fields_wishes a_r1_goes a_r1_hampers a_r1_weights v_r0_path v_r0_best v_r0_counted v_r0_atMost v_r0_most v_r0_oneIn v_r0_lotsDone v_r0_lotsNone v_r1_kinds v_r1_figures v_r1_things v_r1_done r0_days q_1.1 q_1.2 r0_weathers r1_days r1_fields_lefts r1_fields_wishes r1_goes r1_hampers r1_weights)) rfl (k_runV C hA hW mw_Fld_copyFrom mv_Fld_copyFrom (ct_1.2 _) [1, 2, 3, 6, 7, 8] rfl rfl 1 rfl rfl qm_Har_31 ⟨Nat.le_of_ble_eq_true rfl, Nat.le_of_ble_eq_true rfl, Nat.zero_le _, Nat.zero_le _⟩ rfl rfl (Nat.le_of_ble_eq_true rfl) hl.1 d_Har_begin_8) (fun H locs hW => ?_)
  refine lv_aload_n hx hb d_Har_begin_11 rfl (lv_at hl 0 rfl) ?_
  refine lv_iconst (v := 0) hx hb d_Har_begin_12 (by decide) ?_
  refine lv_aload_n hx hb d_Har_begin_13 rfl (lv_at hl 1 rfl) ?_
  refine k_getN i_Sta C hW 5 rfl rfl 6 (by decide) qf_Har_35 rfl rfl d_Har_begin_14 ?_
  refine lv_bipush (v := 8) hx hb d_Har_begin_17 (by decide) ?_
  refine k_mmin C qm_Har_39 ⟨Nat.le_of_ble_eq_true rfl, Nat.le_of_ble_eq_true rfl, Nat.zero_le _, Nat.zero_le _⟩ hl.1 d_Har_begin_19 ?_
  refine k_mmax C qm_Har_45 ⟨Nat.le_of_ble_eq_true rfl, Nat.le_of_ble_eq_true rfl, Nat.zero_le _, Nat.zero_le _⟩ hl.1 d_Har_begin_22 ?_
  refine k_put i_Har t_Har_ok n_Har C hW 0 rfl rfl 2 (by decide) qf_Har_48 rfl rfl (ty := .int) rfl rfl rfl (Nat.le_of_ble_eq_true rfl) (ws' := (w_Har_begin cI a_r0 a_r0_fields a_r0_fields_lefts a_r0_fields_wishes a_r0_weathers a_r1 a_r1_fields a_r1_fields_lefts a_r1_fields_wishes a_r1_goes a_r1_hampers a_r1_weights v_r0_path v_r0_best v_r0_counted v_r0_atMost v_r0_most v_r0_oneIn v_r0_lotsDone v_r0_lotsNone v_r1_kinds v_r1_figures v_r1_things v_r1_done (if (0 : Int32) < (if (8 : Int32) < r1_days then (8 : Int32) else r1_days) then (if (8 : Int32) < r1_days then (8 : Int32) else r1_days) else (0 : Int32)) q_1.1 q_1.2 r0_weathers r1_days r1_fields_lefts r1_fields_wishes r1_goes r1_hampers r1_weights)) rfl d_Har_begin_25 (fun H locs hW => ?_)
  refine lv_iconst (v := 0) hx hb d_Har_begin_28 (by decide) ?_
  refine lv_istore_n (lv' := [(2, .int 0), (0, .ref a_r0), (1, .ref a_r1)]) hx hb d_Har_begin_29 rfl hl (by decide) rfl (fun ls hl => ?_)
  obtain ⟨ex_2, hw_2, hk_2⟩ := ob hr
  have hx_2 : ∀ (e_2 : (Nat → Int32)), e_2 = ex_2 → ∀ (H : Heap) (locs : List Loc) (ls : Array Slot), wd A s.heap D (w_Har_begin cI a_r0 a_r0_fields a_r0_fields_lefts a_r0_fields_wishes a_r0_weathers a_r1 a_r1_fields a_r1_fields_lefts a_r1_fields_wishes a_r1_goes a_r1_hampers a_r1_weights v_r0_path v_r0_best v_r0_counted v_r0_atMost v_r0_most v_r0_oneIn v_r0_lotsDone v_r0_lotsNone v_r1_kinds v_r1_figures v_r1_things v_r1_done (if (0 : Int32) < (if (8 : Int32) < r1_days then (8 : Int32) else r1_days) then (if (8 : Int32) < r1_days then (8 : Int32) else r1_days) else (0 : Int32)) q_1.1 q_1.2 e_2 r1_days r1_fields_lefts r1_fields_wishes r1_goes r1_hampers r1_weights) H locs → lv_has ls 3 [] → W p l e (rmd 3) s m ([.ref a_r0, .ref a_r1] : List Value).toArray below meth c H locs 0 0 Q (F0 m 70 ls []) := by
    intro e_2 hE H locs ls hW hl
    subst hE; have hr := hk_2
    obtain rfl := Option.some.inj hr
    rw [hQ]; exact k_vret C hret hW d_Har_begin_70
  have hl_2 : ∀ (k : Nat) (y2_2 : Int32) (r0_weathers_2 : Nat → Int32), wh (fun (s : (Int32) × (Nat → Int32)) => F_Har_begin_L30 r1_days r1_goes r1_hampers r1_weights s.1 s.2) k (y2_2, r0_weathers_2) = some ex_2 → ∀ (H : Heap) (locs : List Loc) (ls : Array Slot), wd A s.heap D (w_Har_begin cI a_r0 a_r0_fields a_r0_fields_lefts a_r0_fields_wishes a_r0_weathers a_r1 a_r1_fields a_r1_fields_lefts a_r1_fields_wishes a_r1_goes a_r1_hampers a_r1_weights v_r0_path v_r0_best v_r0_counted v_r0_atMost v_r0_most v_r0_oneIn v_r0_lotsDone v_r0_lotsNone v_r1_kinds v_r1_figures v_r1_things v_r1_done (if (0 : Int32) < (if (8 : Int32) < r1_days then (8 : Int32) else r1_days) then (if (8 : Int32) < r1_days then (8 : Int32) else r1_days) else (0 : Int32)) q_1.1 q_1.2 r0_weathers_2 r1_days r1_fields_lefts r1_fields_wishes r1_goes r1_hampers r1_weights) H locs → lv_has ls 3 [(0, .ref a_r0), (1, .ref a_r1), (2, .int y2_2)] → W p l e (rmd 3) s m ([.ref a_r0, .ref a_r1] : List Value).toArray below meth c H locs 0 0 Q (F0 m 30 ls []) := by
    intro k
    induction k with
    | zero => intro y2_2 r0_weathers_2 hw; exact absurd hw wh_0
    | succ k ih_2 =>
      intro y2_2 r0_weathers_2 hw H locs ls hW hl
      obtain ⟨z_2, hr, hz1_2, hz2_2⟩ := wh_s hw
      have hr : F_Har_begin_L30 r1_days r1_goes r1_hampers r1_weights y2_2 r0_weathers_2 = some z_2 := hr
      unfold F_Har_begin_L30 at hr
      refine lv_iload_n hx hb d_Har_begin_30 rfl (lv_at hl 2 rfl) ?_
      refine lv_bipush (v := 8) hx hb d_Har_begin_31 (by decide) ?_
      refine lv_icmp_ge (tgt := 70) hx hb d_Har_begin_33 (by decide) (fun c_3 => ?_) (fun c_3 => ?_)
      · replace hr := ip c_3 hr
        exact hx_2 _ (hz2_2 _ (Option.some.inj hr).symm) _ _ _ hW (lv_sub hl [] rfl)
      · replace hr := iN c_3 hr
        refine lv_aload_n hx hb d_Har_begin_36 rfl (lv_at hl 0 rfl) ?_
        refine k_get i_Har C hW 0 rfl rfl 1 (by decide) qf_Har_18 rfl rfl d_Har_begin_37 ?_
        refine lv_iload_n hx hb d_Har_begin_40 rfl (lv_at hl 2 rfl) ?_
        refine lv_aload_n hx hb d_Har_begin_41 rfl (lv_at hl 1 rfl) ?_
        refine lv_iload_n hx hb d_Har_begin_42 rfl (lv_at hl 2 rfl) ?_
        obtain ⟨q_4, hc_4, hr⟩ := ob hr
        have ct_4 := C_Sta_hasDay l D cI cS a_r1 (Value.ref a_r1_weights) v_r1_kinds v_r1_figures (Value.ref a_r1_goes) v_r1_things (Value.ref a_r1_hampers) (Value.ref a_r1_fields) v_r1_done r1_days y2_2 q_4 hc_4
        refine k_goIp hA hW [5] rfl rfl (k_runV C hA hW mw_Sta_hasDay mv_Sta_hasDay (ct_4.2 _) [5] rfl rfl 5 rfl rfl qm_Har_49 ⟨Nat.le_of_ble_eq_true rfl, Nat.le_of_ble_eq_true rfl, Nat.zero_le _, Nat.zero_le _⟩ rfl rfl (Nat.le_of_ble_eq_true rfl) hl.1 d_Har_begin_43) (fun H locs hW => ?_)
        refine lv_if_eq (tgt := 61) hx hb d_Har_begin_46 (by decide) (fun c_5 => ?_) (fun c_5 => ?_)
        · replace hr := ip c_5 hr
          refine lv_bipush (v := (-9)) hx hb d_Har_begin_61 (by decide) ?_
          obtain ⟨h_6, hr⟩ := ck_some hr
          refine k_iast C hW 4 rfl h_6 (ws' := (w_Har_begin cI a_r0 a_r0_fields a_r0_fields_lefts a_r0_fields_wishes a_r0_weathers a_r1 a_r1_fields a_r1_fields_lefts a_r1_fields_wishes a_r1_goes a_r1_hampers a_r1_weights v_r0_path v_r0_best v_r0_counted v_r0_atMost v_r0_most v_r0_oneIn v_r0_lotsDone v_r0_lotsNone v_r1_kinds v_r1_figures v_r1_things v_r1_done (if (0 : Int32) < (if (8 : Int32) < r1_days then (8 : Int32) else r1_days) then (if (8 : Int32) < r1_days then (8 : Int32) else r1_days) else (0 : Int32)) q_1.1 q_1.2 (upd r0_weathers_2 (Int32.toNatClampNeg y2_2) (-9)) r1_days r1_fields_lefts r1_fields_wishes r1_goes r1_hampers r1_weights)) rfl d_Har_begin_63 (fun H locs hW => ?_)
          refine lv_iinc (v := (y2_2 + 1)) (lv' := [(2, .int (y2_2 + 1)), (0, .ref a_r0), (1, .ref a_r1)]) hx hb d_Har_begin_64 hl (k := 2) rfl rfl (by decide) rfl (fun ls hl => ?_)
          refine lv_goto (tgt := 30) hx hb d_Har_begin_67 (by decide) ?_
          exact ih_2 (y2_2 + 1) (upd r0_weathers_2 (Int32.toNatClampNeg y2_2) (-9)) (hz1_2 _ (Option.some.inj hr).symm) _ _ _ hW (lv_sub hl [1, 2, 0] rfl)
        · replace hr := iN c_5 hr
          refine lv_aload_n hx hb d_Har_begin_49 rfl (lv_at hl 1 rfl) ?_
          refine lv_aload_n hx hb d_Har_begin_50 rfl (lv_at hl 1 rfl) ?_
          refine lv_iload_n hx hb d_Har_begin_51 rfl (lv_at hl 2 rfl) ?_
          obtain ⟨q_7, hc_7, hr⟩ := ob hr
          have ct_7 := C_Sta_hamperOf l D cI cS a_r1 a_r1_hampers (Value.ref a_r1_weights) v_r1_kinds v_r1_figures (Value.ref a_r1_goes) v_r1_things (Value.ref a_r1_fields) v_r1_done r1_days r1_hampers y2_2 q_7 hc_7
          refine k_goIp hA hW [5, 10] rfl rfl (k_runV C hA hW mw_Sta_hamperOf mv_Sta_hamperOf (ct_7.2 _) [5, 10] rfl rfl 5 rfl rfl qm_Har_53 ⟨Nat.le_of_ble_eq_true rfl, Nat.le_of_ble_eq_true rfl, Nat.zero_le _, Nat.zero_le _⟩ rfl rfl (Nat.le_of_ble_eq_true rfl) hl.1 d_Har_begin_52) (fun H locs hW => ?_)
          obtain ⟨q_8, hc_8, hr⟩ := ob hr
          have ct_8 := C_Sta_likeliestBy l D cI cS a_r1 a_r1_goes a_r1_weights v_r1_kinds v_r1_figures v_r1_things (Value.ref a_r1_hampers) (Value.int r1_days) (Value.ref a_r1_fields) v_r1_done r1_goes r1_weights q_7 q_8 hc_8
          refine k_goIp hA hW [5, 9, 11] rfl rfl (k_runV C hA hW mw_Sta_likeliestBy mv_Sta_likeliestBy (ct_8.2 _) [5, 9, 11] rfl rfl 5 rfl rfl qm_Har_57 ⟨Nat.le_of_ble_eq_true rfl, Nat.le_of_ble_eq_true rfl, Nat.zero_le _, Nat.zero_le _⟩ rfl rfl (Nat.le_of_ble_eq_true rfl) hl.1 d_Har_begin_55) (fun H locs hW => ?_)
          refine lv_goto (tgt := 63) hx hb d_Har_begin_58 (by decide) ?_
          obtain ⟨h_9, hr⟩ := ck_some hr
          refine k_iast C hW 4 rfl h_9 (ws' := (w_Har_begin cI a_r0 a_r0_fields a_r0_fields_lefts a_r0_fields_wishes a_r0_weathers a_r1 a_r1_fields a_r1_fields_lefts a_r1_fields_wishes a_r1_goes a_r1_hampers a_r1_weights v_r0_path v_r0_best v_r0_counted v_r0_atMost v_r0_most v_r0_oneIn v_r0_lotsDone v_r0_lotsNone v_r1_kinds v_r1_figures v_r1_things v_r1_done (if (0 : Int32) < (if (8 : Int32) < r1_days then (8 : Int32) else r1_days) then (if (8 : Int32) < r1_days then (8 : Int32) else r1_days) else (0 : Int32)) q_1.1 q_1.2 (upd r0_weathers_2 (Int32.toNatClampNeg y2_2) q_8) r1_days r1_fields_lefts r1_fields_wishes r1_goes r1_hampers r1_weights)) rfl d_Har_begin_63 (fun H locs hW => ?_)
          refine lv_iinc (v := (y2_2 + 1)) (lv' := [(2, .int (y2_2 + 1)), (0, .ref a_r0), (1, .ref a_r1)]) hx hb d_Har_begin_64 hl (k := 2) rfl rfl (by decide) rfl (fun ls hl => ?_)
          refine lv_goto (tgt := 30) hx hb d_Har_begin_67 (by decide) ?_
          exact ih_2 (y2_2 + 1) (upd r0_weathers_2 (Int32.toNatClampNeg y2_2) q_8) (hz1_2 _ (Option.some.inj hr).symm) _ _ _ hW (lv_sub hl [1, 2, 0] rfl)
  exact hl_2 _ 0 r0_weathers hw_2 _ _ _ hW (lv_sub hl [1, 2, 0] rfl)
def F_Har_drawn (x0 : Int32) (x1 : Int32) : Option (Int32) :=
  (if x1 ≤ 0 then (some 0) else (ck0 x1 (some (((x0 &&& (2147483647 : Int32)) / ((65536 : Int32) : Int32)) - ((x0 &&& (2147483647 : Int32)) / ((65536 : Int32) : Int32)) / x1 * x1))))
set_option maxHeartbeats 4000000 in
set_option maxRecDepth 100000 in
theorem C_Har_drawn (l : Launch) (D : va_G) (cI cS : ClassId) (x0 : Int32) (x1 : Int32) (o : Int32) (hr : F_Har_drawn x0 x1 = some o) : ctI l y_Har_drawn (Cond.code y_Har_drawn b_Har_drawn 2 (some FieldType.int)) (rmd 0) D (kTy cI cS) [.int x0, .int x1] [] [] o := by
  unfold F_Har_drawn at hr
  refine ⟨rfl, fun sz => ct_of (w0 := []) (Qc := fun A => qI D [] o A) rfl (Nat.le_of_ble_eq_true rfl) ?_ sz⟩
  intro p e s m below meth c A hA C hret ls hl hW
  have C : cx p s m ([.int x0, .int x1] : List Value).toArray meth c b_Har_drawn 2 R_Har D (kTy cI cS) (Cond.code y_Har_drawn b_Har_drawn 2 (some FieldType.int)) := C
  obtain ⟨hx, hb, hml, hown, hts, hK, hlk, hN⟩ := id C
  have hl : lv_has ls 2 [(0, .int x0), (1, .int x1)] := hl
  obtain ⟨Q, hQ⟩ : ∃ Q, Q = MQ below (qI D [] o A) ([.int x0, .int x1] : List Value).toArray s 0 0 A := ⟨_, rfl⟩
  rw [← hQ]
  refine lv_iload_n hx hb d_Har_drawn_0 rfl (lv_at hl 1 rfl) ?_
  refine lv_if_le (tgt := 16) hx hb d_Har_drawn_1 (by decide) (fun c_1 => ?_) (fun c_1 => ?_)
  · replace hr := ip c_1 hr
    refine lv_iconst (v := 0) hx hb d_Har_drawn_16 (by decide) ?_
    obtain rfl := Option.some.inj hr
    rw [hQ]; exact k_iret C hret hW d_Har_drawn_17
  · replace hr := iN c_1 hr
    refine lv_iload_n hx hb d_Har_drawn_4 rfl (lv_at hl 0 rfl) ?_
    refine lv_ldc (v := 2147483647) hx hb hown (hts _ (List.mem_cons_of_mem _ (qc_Har_134))) d_Har_drawn_5 ?_
    refine lv_iand hx hb d_Har_drawn_7 ?_
    refine lv_ldc (v := 65536) hx hb hown (hts _ (List.mem_cons_of_mem _ (qc_Har_135))) d_Har_drawn_8 ?_
    refine lv_idiv hx hb d_Har_drawn_10 (by decide) ?_
    refine lv_iload_n hx hb d_Har_drawn_11 rfl (lv_at hl 1 rfl) ?_
    obtain ⟨h_2, hr⟩ := ck0_some hr
    refine lv_irem hx hb d_Har_drawn_12 h_2 ?_
    refine lv_goto (tgt := 17) hx hb d_Har_drawn_13 (by decide) ?_
    obtain rfl := Option.some.inj hr
    rw [hQ]; exact k_iret C hret hW d_Har_drawn_17
def w_Har_keepPath (cI : ClassId) (a_r0 : Nat) (a_r0_best : Nat) (a_r0_path : Nat) (v_r0_fields v_r0_weathers v_r0_atMost v_r0_most v_r0_oneIn v_r0_lotsDone v_r0_lotsNone : Value) (r0_counted : Int32) (r0_days : Int32) (r0_best : Nat → Int32) (r0_path : Nat → Int32) : va_W := [(a_r0, .inr (7, [v_r0_fields, v_r0_weathers, .int r0_days, .ref a_r0_path, .ref a_r0_best, .int r0_counted, v_r0_atMost, v_r0_most, v_r0_oneIn, v_r0_lotsDone, v_r0_lotsNone])), (a_r0_best, .inl (cI, 8, .inl r0_best)), (a_r0_path, .inl (cI, 8, .inl r0_path))]
def F_Har_keepPath_L2 (r0_counted : Int32) (r0_path : Nat → Int32) (y2_1 : Int32) (r0_best_1 : Nat → Int32) : Option (((Int32) × (Nat → Int32)) ⊕ ((Int32) × (Nat → Int32))) :=
  (if r0_counted ≤ y2_1 then (some (.inr (y2_1, r0_best_1))) else (if (8 : Int32) ≤ y2_1 then (some (.inr (y2_1, r0_best_1))) else (ck y2_1 8 (ck y2_1 8 (some (.inl ((y2_1 + 1), (upd r0_best_1 (Int32.toNatClampNeg y2_1) (r0_path (Int32.toNatClampNeg y2_1))))))))))
def F_Har_keepPath_L36 (r0_days : Int32) (x1 : Int32) (y2_6 : Int32) (y3_6 : Int32) (r0_best_6 : Nat → Int32) : Option (((Int32) × (Int32) × (Nat → Int32)) ⊕ ((Nat → Int32))) :=
  (if r0_days ≤ y3_6 then (some (.inr r0_best_6)) else ((F_H_holds x1 y3_6).bind (fun q_8 => (if q_8 = 0 then (if (8 : Int32) ≤ y2_6 then (some (.inl (y2_6, (y3_6 + 1), r0_best_6))) else (ck y2_6 8 (some (.inl ((y2_6 + 1), (y3_6 + 1), (upd r0_best_6 (Int32.toNatClampNeg y2_6) y3_6)))))) else (some (.inl (y2_6, (y3_6 + 1), r0_best_6)))))))
def F_Har_keepPath (r0_counted : Int32) (r0_days : Int32) (r0_best : Nat → Int32) (r0_path : Nat → Int32) (x1 : Int32) : Option ((Nat → Int32)) :=
  ((wh (fun (s : (Int32) × (Nat → Int32)) => F_Har_keepPath_L2 r0_counted r0_path s.1 s.2) 400 ((0 : Int32), r0_best)).bind (fun e_1 => ((wh (fun (s : (Int32) × (Int32) × (Nat → Int32)) => F_Har_keepPath_L36 r0_days x1 s.1 s.2.1 s.2.2) 400 (e_1.1, (0 : Int32), e_1.2)).bind (fun e_6 => (some e_6)))))
set_option maxHeartbeats 4000000 in
set_option maxRecDepth 100000 in
theorem C_Har_keepPath (l : Launch) (D : va_G) (cI cS : ClassId) (a_r0 : Nat) (a_r0_best : Nat) (a_r0_path : Nat) (v_r0_fields v_r0_weathers v_r0_atMost v_r0_most v_r0_oneIn v_r0_lotsDone v_r0_lotsNone : Value) (r0_counted : Int32) (r0_days : Int32) (r0_best : Nat → Int32) (r0_path : Nat → Int32) (x1 : Int32) (o : (Nat → Int32)) (hr : F_Har_keepPath r0_counted r0_days r0_best r0_path x1 = some o) : ctV l y_Har_keepPath (Cond.code y_Har_keepPath b_Har_keepPath 4 none) (rmd 1) D (kTy cI cS) [.ref a_r0, .int x1] (w_Har_keepPath cI a_r0 a_r0_best a_r0_path v_r0_fields v_r0_weathers v_r0_atMost v_r0_most v_r0_oneIn v_r0_lotsDone v_r0_lotsNone r0_counted r0_days r0_best r0_path) (w_Har_keepPath cI a_r0 a_r0_best a_r0_path v_r0_fields v_r0_weathers v_r0_atMost v_r0_most v_r0_oneIn v_r0_lotsDone v_r0_lotsNone r0_counted r0_days o r0_path) := by
  unfold F_Har_keepPath at hr
  refine ⟨rfl, fun sz => ct_of (w0 := (w_Har_keepPath cI a_r0 a_r0_best a_r0_path v_r0_fields v_r0_weathers v_r0_atMost v_r0_most v_r0_oneIn v_r0_lotsDone v_r0_lotsNone r0_counted r0_days r0_best r0_path)) (Qc := fun A => qV D (w_Har_keepPath cI a_r0 a_r0_best a_r0_path v_r0_fields v_r0_weathers v_r0_atMost v_r0_most v_r0_oneIn v_r0_lotsDone v_r0_lotsNone r0_counted r0_days o r0_path) A) rfl (Nat.le_of_ble_eq_true rfl) ?_ sz⟩
  intro p e s m below meth c A hA C hret ls hl hW
  have C : cx p s m ([.ref a_r0, .int x1] : List Value).toArray meth c b_Har_keepPath 4 R_Har D (kTy cI cS) (Cond.code y_Har_keepPath b_Har_keepPath 4 none) := C
  obtain ⟨hx, hb, hml, hown, hts, hK, hlk, hN⟩ := id C
  have hl : lv_has ls 4 [(0, .ref a_r0), (1, .int x1)] := hl
  obtain ⟨Q, hQ⟩ : ∃ Q, Q = MQ below (qV D (w_Har_keepPath cI a_r0 a_r0_best a_r0_path v_r0_fields v_r0_weathers v_r0_atMost v_r0_most v_r0_oneIn v_r0_lotsDone v_r0_lotsNone r0_counted r0_days o r0_path) A) ([.ref a_r0, .int x1] : List Value).toArray s 0 0 A := ⟨_, rfl⟩
  rw [← hQ]
  refine lv_iconst (v := 0) hx hb d_Har_keepPath_0 (by decide) ?_
  refine lv_istore_n (lv' := [(2, .int 0), (0, .ref a_r0), (1, .int x1)]) hx hb d_Har_keepPath_1 rfl hl (by decide) rfl (fun ls hl => ?_)
  obtain ⟨ex_1, hw_1, hk_1⟩ := ob hr
  have hx_1 : ∀ (e_1 : (Int32) × (Nat → Int32)), e_1 = ex_1 → ∀ (H : Heap) (locs : List Loc) (ls : Array Slot), wd A s.heap D (w_Har_keepPath cI a_r0 a_r0_best a_r0_path v_r0_fields v_r0_weathers v_r0_atMost v_r0_most v_r0_oneIn v_r0_lotsDone v_r0_lotsNone r0_counted r0_days e_1.2 r0_path) H locs → lv_has ls 4 [(0, .ref a_r0), (1, .int x1), (2, .int e_1.1)] → W p l e (rmd 1) s m ([.ref a_r0, .int x1] : List Value).toArray below meth c H locs 0 0 Q (F0 m 34 ls []) := by
    intro e_1 hE H locs ls hW hl
    subst hE; have hr := hk_1
    refine lv_iconst (v := 0) hx hb d_Har_keepPath_34 (by decide) ?_
    refine lv_istore_n (lv' := [(3, .int 0), (0, .ref a_r0), (1, .int x1), (2, .int e_1.1)]) hx hb d_Har_keepPath_35 rfl hl (by decide) rfl (fun ls hl => ?_)
    obtain ⟨ex_6, hw_6, hk_6⟩ := ob hr
    have hx_6 : ∀ (e_6 : (Nat → Int32)), e_6 = ex_6 → ∀ (H : Heap) (locs : List Loc) (ls : Array Slot), wd A s.heap D (w_Har_keepPath cI a_r0 a_r0_best a_r0_path v_r0_fields v_r0_weathers v_r0_atMost v_r0_most v_r0_oneIn v_r0_lotsDone v_r0_lotsNone r0_counted r0_days e_6 r0_path) H locs → lv_has ls 4 [] → W p l e (rmd 1) s m ([.ref a_r0, .int x1] : List Value).toArray below meth c H locs 0 0 Q (F0 m 74 ls []) := by
      intro e_6 hE H locs ls hW hl
      subst hE; have hr := hk_6
      obtain rfl := Option.some.inj hr
      rw [hQ]; exact k_vret C hret hW d_Har_keepPath_74
    have hl_6 : ∀ (k : Nat) (y2_6 : Int32) (y3_6 : Int32) (r0_best_6 : Nat → Int32), wh (fun (s : (Int32) × (Int32) × (Nat → Int32)) => F_Har_keepPath_L36 r0_days x1 s.1 s.2.1 s.2.2) k (y2_6, y3_6, r0_best_6) = some ex_6 → ∀ (H : Heap) (locs : List Loc) (ls : Array Slot), wd A s.heap D (w_Har_keepPath cI a_r0 a_r0_best a_r0_path v_r0_fields v_r0_weathers v_r0_atMost v_r0_most v_r0_oneIn v_r0_lotsDone v_r0_lotsNone r0_counted r0_days r0_best_6 r0_path) H locs → lv_has ls 4 [(0, .ref a_r0), (1, .int x1), (2, .int y2_6), (3, .int y3_6)] → W p l e (rmd 1) s m ([.ref a_r0, .int x1] : List Value).toArray below meth c H locs 0 0 Q (F0 m 36 ls []) := by
      intro k
      induction k with
      | zero => intro y2_6 y3_6 r0_best_6 hw; exact absurd hw wh_0
      | succ k ih_6 =>
        intro y2_6 y3_6 r0_best_6 hw H locs ls hW hl
        obtain ⟨z_6, hr, hz1_6, hz2_6⟩ := wh_s hw
        have hr : F_Har_keepPath_L36 r0_days x1 y2_6 y3_6 r0_best_6 = some z_6 := hr
        unfold F_Har_keepPath_L36 at hr
        refine lv_iload_n hx hb d_Har_keepPath_36 rfl (lv_at hl 3 rfl) ?_
        refine lv_aload_n hx hb d_Har_keepPath_37 rfl (lv_at hl 0 rfl) ?_
        refine k_get i_Har C hW 0 rfl rfl 2 (by decide) qf_Har_48 rfl rfl d_Har_keepPath_38 ?_
        refine lv_icmp_ge (tgt := 74) hx hb d_Har_keepPath_41 (by decide) (fun c_7 => ?_) (fun c_7 => ?_)
        · replace hr := ip c_7 hr
          exact hx_6 _ (hz2_6 _ (Option.some.inj hr).symm) _ _ _ hW (lv_sub hl [] rfl)
        · replace hr := iN c_7 hr
          refine lv_iload_n hx hb d_Har_keepPath_44 rfl (lv_at hl 1 rfl) ?_
          refine lv_iload_n hx hb d_Har_keepPath_45 rfl (lv_at hl 3 rfl) ?_
          obtain ⟨q_8, hc_8, hr⟩ := ob hr
          have ct_8 := C_H_holds l D cI cS x1 y3_6 q_8 hc_8
          refine k_goIp hA hW [] rfl rfl (k_runSN C hA hW mw_H_holds ms_H_holds (ct_8.2 _) [] rfl rfl qm_Har_64 ⟨Nat.le_of_ble_eq_true rfl, Nat.le_of_ble_eq_true rfl, Nat.zero_le _, Nat.zero_le _⟩ rfl rfl (Nat.le_of_ble_eq_true rfl) hl.1 d_Har_keepPath_46) (fun H locs hW => ?_)
          refine lv_if_ne (tgt := 68) hx hb d_Har_keepPath_49 (by decide) (fun c_9 => ?_) (fun c_9 => ?_)
          · replace hr := iN c_9 hr
            refine lv_iinc (v := (y3_6 + 1)) (lv' := [(3, .int (y3_6 + 1)), (0, .ref a_r0), (1, .int x1), (2, .int y2_6)]) hx hb d_Har_keepPath_68 hl (k := 3) rfl rfl (by decide) rfl (fun ls hl => ?_)
            refine lv_goto (tgt := 36) hx hb d_Har_keepPath_71 (by decide) ?_
            exact ih_6 y2_6 (y3_6 + 1) r0_best_6 (hz1_6 _ (Option.some.inj hr).symm) _ _ _ hW (lv_sub hl [1, 2, 3, 0] rfl)
          · replace hr := ip c_9 hr
            refine lv_iload_n hx hb d_Har_keepPath_52 rfl (lv_at hl 2 rfl) ?_
            refine lv_bipush (v := 8) hx hb d_Har_keepPath_53 (by decide) ?_
            refine lv_icmp_ge (tgt := 68) hx hb d_Har_keepPath_55 (by decide) (fun c_10 => ?_) (fun c_10 => ?_)
            · replace hr := ip c_10 hr
              refine lv_iinc (v := (y3_6 + 1)) (lv' := [(3, .int (y3_6 + 1)), (0, .ref a_r0), (1, .int x1), (2, .int y2_6)]) hx hb d_Har_keepPath_68 hl (k := 3) rfl rfl (by decide) rfl (fun ls hl => ?_)
              refine lv_goto (tgt := 36) hx hb d_Har_keepPath_71 (by decide) ?_
              exact ih_6 y2_6 (y3_6 + 1) r0_best_6 (hz1_6 _ (Option.some.inj hr).symm) _ _ _ hW (lv_sub hl [1, 2, 3, 0] rfl)
            · replace hr := iN c_10 hr
              refine lv_aload_n hx hb d_Har_keepPath_58 rfl (lv_at hl 0 rfl) ?_
              refine k_get i_Har C hW 0 rfl rfl 4 (by decide) qf_Har_25 rfl rfl d_Har_keepPath_59 ?_
              refine lv_iload_n hx hb d_Har_keepPath_62 rfl (lv_at hl 2 rfl) ?_
              refine lv_iload_n hx hb d_Har_keepPath_63 rfl (lv_at hl 3 rfl) ?_
              obtain ⟨h_11, hr⟩ := ck_some hr
              refine k_iast C hW 1 rfl h_11 (ws' := (w_Har_keepPath cI a_r0 a_r0_best a_r0_path v_r0_fields v_r0_weathers v_r0_atMost v_r0_most v_r0_oneIn v_r0_lotsDone v_r0_lotsNone r0_counted r0_days (upd r0_best_6 (Int32.toNatClampNeg y2_6) y3_6) r0_path)) rfl d_Har_keepPath_64 (fun H locs hW => ?_)
              refine lv_iinc (v := (y2_6 + 1)) (lv' := [(2, .int (y2_6 + 1)), (0, .ref a_r0), (1, .int x1), (3, .int y3_6)]) hx hb d_Har_keepPath_65 hl (k := 2) rfl rfl (by decide) rfl (fun ls hl => ?_)
              refine lv_iinc (v := (y3_6 + 1)) (lv' := [(3, .int (y3_6 + 1)), (2, .int (y2_6 + 1)), (0, .ref a_r0), (1, .int x1)]) hx hb d_Har_keepPath_68 hl (k := 3) rfl rfl (by decide) rfl (fun ls hl => ?_)
              refine lv_goto (tgt := 36) hx hb d_Har_keepPath_71 (by decide) ?_
              exact ih_6 (y2_6 + 1) (y3_6 + 1) (upd r0_best_6 (Int32.toNatClampNeg y2_6) y3_6) (hz1_6 _ (Option.some.inj hr).symm) _ _ _ hW (lv_sub hl [2, 3, 1, 0] rfl)
    exact hl_6 _ e_1.1 0 e_1.2 hw_6 _ _ _ hW (lv_sub hl [1, 2, 3, 0] rfl)
  have hl_1 : ∀ (k : Nat) (y2_1 : Int32) (r0_best_1 : Nat → Int32), wh (fun (s : (Int32) × (Nat → Int32)) => F_Har_keepPath_L2 r0_counted r0_path s.1 s.2) k (y2_1, r0_best_1) = some ex_1 → ∀ (H : Heap) (locs : List Loc) (ls : Array Slot), wd A s.heap D (w_Har_keepPath cI a_r0 a_r0_best a_r0_path v_r0_fields v_r0_weathers v_r0_atMost v_r0_most v_r0_oneIn v_r0_lotsDone v_r0_lotsNone r0_counted r0_days r0_best_1 r0_path) H locs → lv_has ls 4 [(0, .ref a_r0), (1, .int x1), (2, .int y2_1)] → W p l e (rmd 1) s m ([.ref a_r0, .int x1] : List Value).toArray below meth c H locs 0 0 Q (F0 m 2 ls []) := by
    intro k
    induction k with
    | zero => intro y2_1 r0_best_1 hw; exact absurd hw wh_0
    | succ k ih_1 =>
      intro y2_1 r0_best_1 hw H locs ls hW hl
      obtain ⟨z_1, hr, hz1_1, hz2_1⟩ := wh_s hw
      have hr : F_Har_keepPath_L2 r0_counted r0_path y2_1 r0_best_1 = some z_1 := hr
      unfold F_Har_keepPath_L2 at hr
      refine lv_iload_n hx hb d_Har_keepPath_2 rfl (lv_at hl 2 rfl) ?_
      refine lv_aload_n hx hb d_Har_keepPath_3 rfl (lv_at hl 0 rfl) ?_
      refine k_get i_Har C hW 0 rfl rfl 5 (by decide) qf_Har_85 rfl rfl d_Har_keepPath_4 ?_
      refine lv_icmp_ge (tgt := 34) hx hb d_Har_keepPath_7 (by decide) (fun c_2 => ?_) (fun c_2 => ?_)
      · replace hr := ip c_2 hr
        exact hx_1 _ (hz2_1 _ (Option.some.inj hr).symm) _ _ _ hW (lv_sub hl [0, 1, 2] rfl)
      · replace hr := iN c_2 hr
        refine lv_iload_n hx hb d_Har_keepPath_10 rfl (lv_at hl 2 rfl) ?_
        refine lv_bipush (v := 8) hx hb d_Har_keepPath_11 (by decide) ?_
        refine lv_icmp_ge (tgt := 34) hx hb d_Har_keepPath_13 (by decide) (fun c_3 => ?_) (fun c_3 => ?_)
        · replace hr := ip c_3 hr
          exact hx_1 _ (hz2_1 _ (Option.some.inj hr).symm) _ _ _ hW (lv_sub hl [0, 1, 2] rfl)
        · replace hr := iN c_3 hr
          refine lv_aload_n hx hb d_Har_keepPath_16 rfl (lv_at hl 0 rfl) ?_
          refine k_get i_Har C hW 0 rfl rfl 4 (by decide) qf_Har_25 rfl rfl d_Har_keepPath_17 ?_
          refine lv_iload_n hx hb d_Har_keepPath_20 rfl (lv_at hl 2 rfl) ?_
          refine lv_aload_n hx hb d_Har_keepPath_21 rfl (lv_at hl 0 rfl) ?_
          refine k_get i_Har C hW 0 rfl rfl 3 (by decide) qf_Har_22 rfl rfl d_Har_keepPath_22 ?_
          refine lv_iload_n hx hb d_Har_keepPath_25 rfl (lv_at hl 2 rfl) ?_
          obtain ⟨h_4, hr⟩ := ck_some hr
          refine k_iald C hW 2 rfl h_4 d_Har_keepPath_26 ?_
          obtain ⟨h_5, hr⟩ := ck_some hr
          refine k_iast C hW 1 rfl h_5 (ws' := (w_Har_keepPath cI a_r0 a_r0_best a_r0_path v_r0_fields v_r0_weathers v_r0_atMost v_r0_most v_r0_oneIn v_r0_lotsDone v_r0_lotsNone r0_counted r0_days (upd r0_best_1 (Int32.toNatClampNeg y2_1) (r0_path (Int32.toNatClampNeg y2_1))) r0_path)) rfl d_Har_keepPath_27 (fun H locs hW => ?_)
          refine lv_iinc (v := (y2_1 + 1)) (lv' := [(2, .int (y2_1 + 1)), (0, .ref a_r0), (1, .int x1)]) hx hb d_Har_keepPath_28 hl (k := 2) rfl rfl (by decide) rfl (fun ls hl => ?_)
          refine lv_goto (tgt := 2) hx hb d_Har_keepPath_31 (by decide) ?_
          exact ih_1 (y2_1 + 1) (upd r0_best_1 (Int32.toNatClampNeg y2_1) (r0_path (Int32.toNatClampNeg y2_1))) (hz1_1 _ (Option.some.inj hr).symm) _ _ _ hW (lv_sub hl [1, 2, 0] rfl)
  exact hl_1 _ 0 r0_best hw_1 _ _ _ hW (lv_sub hl [1, 2, 0] rfl)
def w_Har_extendPath (cI : ClassId) (a_r0 : Nat) (a_r0_best : Nat) (a_r0_fields : Nat) (a_r0_fields_lefts : Nat) (a_r0_fields_wishes : Nat) (a_r0_path : Nat) (a_r0_weathers : Nat) (v_r0_oneIn v_r0_lotsDone v_r0_lotsNone : Value) (r0_atMost : Int32) (r0_counted : Int32) (r0_days : Int32) (r0_most : Int32) (r0_best : Nat → Int32) (r0_fields_lefts : Nat → Int32) (r0_fields_wishes : Nat → Int32) (r0_path : Nat → Int32) (r0_weathers : Nat → Int32) : va_W := [(a_r0, .inr (7, [.ref a_r0_fields, .ref a_r0_weathers, .int r0_days, .ref a_r0_path, .ref a_r0_best, .int r0_counted, .int r0_atMost, .int r0_most, v_r0_oneIn, v_r0_lotsDone, v_r0_lotsNone])), (a_r0_best, .inl (cI, 8, .inl r0_best)), (a_r0_fields, .inr (2, [.ref a_r0_fields_wishes, .ref a_r0_fields_lefts])), (a_r0_fields_lefts, .inl (cI, 4, .inl r0_fields_lefts)), (a_r0_fields_wishes, .inl (cI, 4, .inl r0_fields_wishes)), (a_r0_path, .inl (cI, 8, .inl r0_path)), (a_r0_weathers, .inl (cI, 8, .inl r0_weathers))]
def F_Har_extendPath_J14_2 (r0_counted : Int32) (r0_days : Int32) (r0_most : Int32) (r0_best : Nat → Int32) (r0_fields_lefts : Nat → Int32) (r0_path : Nat → Int32) (x2 : Int32) (x3 : Int32) : Option ((Int32) × (Nat → Int32) × (Nat → Int32) × (Nat → Int32)) :=
  (if x3 ≤ r0_most then (some (r0_most, r0_best, r0_fields_lefts, r0_path)) else ((F_Har_keepPath r0_counted r0_days r0_best r0_path x2).bind (fun q_4 => (some (x3, q_4, r0_fields_lefts, r0_path)))))
def F_Har_extendPath_J138_16 (self : (Int32) → (Int32) → (Int32) → (Int32) → (Nat → Int32) → (Nat → Int32) → (Nat → Int32) → (Nat → Int32) → (Nat → Int32) → Int32 → Int32 → Int32 → Option ((Int32) × (Nat → Int32) × (Nat → Int32) × (Nat → Int32))) (r0_atMost : Int32) (r0_counted : Int32) (r0_days : Int32) (r0_fields_wishes : Nat → Int32) (r0_weathers : Nat → Int32) (r0_best_7 : Nat → Int32) (r0_most_7 : Int32) (r0_path_7 : Nat → Int32) (y6_7 : Int32) (q_13 : Int32 × (Nat → Int32)) (x1 : Int32) (x2 : Int32) (s3_16 : Int32) : Option (((Int32) × (Int32) × (Nat → Int32) × (Nat → Int32) × (Nat → Int32)) ⊕ ((Int32) × (Nat → Int32) × (Nat → Int32) × (Nat → Int32))) :=
  ((self r0_atMost r0_counted r0_days r0_most_7 r0_best_7 q_13.2 r0_fields_wishes (upd r0_path_7 (Int32.toNatClampNeg x1) y6_7) r0_weathers (x1 + 1) (x2 ||| ((1 : Int32) <<< ((y6_7 : Int32) &&& 31))) s3_16).bind (fun q_17 => ((F_Fld_undoWork q_17.2.2.1 q_13.1).bind (fun q_18 => (some (.inl ((y6_7 + 1), q_17.1, q_17.2.1, q_18, q_17.2.2.2)))))))
def F_Har_extendPath_L65 (self : (Int32) → (Int32) → (Int32) → (Int32) → (Nat → Int32) → (Nat → Int32) → (Nat → Int32) → (Nat → Int32) → (Nat → Int32) → Int32 → Int32 → Int32 → Option ((Int32) × (Nat → Int32) × (Nat → Int32) × (Nat → Int32))) (r0_atMost : Int32) (r0_counted : Int32) (r0_days : Int32) (r0_fields_wishes : Nat → Int32) (r0_weathers : Nat → Int32) (q_6 : Int32) (x1 : Int32) (x2 : Int32) (x3 : Int32) (y6_7 : Int32) (r0_most_7 : Int32) (r0_best_7 : Nat → Int32) (r0_fields_lefts_7 : Nat → Int32) (r0_path_7 : Nat → Int32) : Option (((Int32) × (Int32) × (Nat → Int32) × (Nat → Int32) × (Nat → Int32)) ⊕ ((Int32) × (Nat → Int32) × (Nat → Int32) × (Nat → Int32))) :=
  (if r0_days ≤ y6_7 then (some (.inr (r0_most_7, r0_best_7, r0_fields_lefts_7, r0_path_7))) else ((F_H_holds x2 y6_7).bind (fun q_9 => (if q_9 = 0 then (if (if r0_atMost < (x3 + (if q_6 < (r0_counted - x1) then q_6 else (r0_counted - x1))) then r0_atMost else (x3 + (if q_6 < (r0_counted - x1) then q_6 else (r0_counted - x1)))) ≤ r0_most_7 then (some (.inl ((y6_7 + 1), r0_most_7, r0_best_7, r0_fields_lefts_7, r0_path_7))) else (ck y6_7 8 ((F_Fld_work r0_fields_lefts_7 r0_fields_wishes (r0_weathers (Int32.toNatClampNeg y6_7))).bind (fun q_13 => (ck x1 8 (if q_13.1 < 0 then (F_Har_extendPath_J138_16 self r0_atMost r0_counted r0_days r0_fields_wishes r0_weathers r0_best_7 r0_most_7 r0_path_7 y6_7 q_13 x1 x2 x3) else (F_Har_extendPath_J138_16 self r0_atMost r0_counted r0_days r0_fields_wishes r0_weathers r0_best_7 r0_most_7 r0_path_7 y6_7 q_13 x1 x2 (x3 + 1)))))))) else (some (.inl ((y6_7 + 1), r0_most_7, r0_best_7, r0_fields_lefts_7, r0_path_7)))))))
def B_Har_extendPath (self : (Int32) → (Int32) → (Int32) → (Int32) → (Nat → Int32) → (Nat → Int32) → (Nat → Int32) → (Nat → Int32) → (Nat → Int32) → Int32 → Int32 → Int32 → Option ((Int32) × (Nat → Int32) × (Nat → Int32) × (Nat → Int32))) (r0_atMost : Int32) (r0_counted : Int32) (r0_days : Int32) (r0_most : Int32) (r0_best : Nat → Int32) (r0_fields_lefts : Nat → Int32) (r0_fields_wishes : Nat → Int32) (r0_path : Nat → Int32) (r0_weathers : Nat → Int32) (x1 : Int32) (x2 : Int32) (x3 : Int32) : Option ((Int32) × (Nat → Int32) × (Nat → Int32) × (Nat → Int32)) :=
  (if r0_counted ≤ x1 then (F_Har_extendPath_J14_2 r0_counted r0_days r0_most r0_best r0_fields_lefts r0_path x2 x3) else (if x1 < 8 then ((F_Har_ableWithout r0_days r0_fields_lefts r0_fields_wishes r0_weathers x2).bind (fun q_6 => ((wh (fun (s : (Int32) × (Int32) × (Nat → Int32) × (Nat → Int32) × (Nat → Int32)) => F_Har_extendPath_L65 self r0_atMost r0_counted r0_days r0_fields_wishes r0_weathers q_6 x1 x2 x3 s.1 s.2.1 s.2.2.1 s.2.2.2.1 s.2.2.2.2) 400 ((0 : Int32), r0_most, r0_best, r0_fields_lefts, r0_path)).bind (fun e_7 => (some (e_7.1, e_7.2.1, e_7.2.2.1, e_7.2.2.2)))))) else (F_Har_extendPath_J14_2 r0_counted r0_days r0_most r0_best r0_fields_lefts r0_path x2 x3)))
def F_Har_extendPath : Nat → (Int32) → (Int32) → (Int32) → (Int32) → (Nat → Int32) → (Nat → Int32) → (Nat → Int32) → (Nat → Int32) → (Nat → Int32) → Int32 → Int32 → Int32 → Option ((Int32) × (Nat → Int32) × (Nat → Int32) × (Nat → Int32))
  | 0 => fun _ _ _ _ _ _ _ _ _ _ _ _ => none
  | n + 1 => B_Har_extendPath (F_Har_extendPath n)
set_option maxHeartbeats 4000000 in
set_option maxRecDepth 100000 in
theorem C_Har_extendPath (l : Launch) (D : va_G) (cI cS : ClassId) : ∀ (n : Nat) (a_r0 : Nat) (a_r0_best : Nat) (a_r0_fields : Nat) (a_r0_fields_lefts : Nat) (a_r0_fields_wishes : Nat) (a_r0_path : Nat) (a_r0_weathers : Nat) (v_r0_oneIn v_r0_lotsDone v_r0_lotsNone : Value) (r0_atMost : Int32) (r0_counted : Int32) (r0_days : Int32) (r0_most : Int32) (r0_best : Nat → Int32) (r0_fields_lefts : Nat → Int32) (r0_fields_wishes : Nat → Int32) (r0_path : Nat → Int32) (r0_weathers : Nat → Int32) (x1 : Int32) (x2 : Int32) (x3 : Int32) (o : (Int32) × (Nat → Int32) × (Nat → Int32) × (Nat → Int32)), F_Har_extendPath n r0_atMost r0_counted r0_days r0_most r0_best r0_fields_lefts r0_fields_wishes r0_path r0_weathers x1 x2 x3 = some o → ctV l y_Har_extendPath (Cond.code y_Har_extendPath b_Har_extendPath 8 none) (rmd (3 + n)) D (kTy cI cS) [.ref a_r0, .int x1, .int x2, .int x3] (w_Har_extendPath cI a_r0 a_r0_best a_r0_fields a_r0_fields_lefts a_r0_fields_wishes a_r0_path a_r0_weathers v_r0_oneIn v_r0_lotsDone v_r0_lotsNone r0_atMost r0_counted r0_days r0_most r0_best r0_fields_lefts r0_fields_wishes r0_path r0_weathers) (w_Har_extendPath cI a_r0 a_r0_best a_r0_fields a_r0_fields_lefts a_r0_fields_wishes a_r0_path a_r0_weathers v_r0_oneIn v_r0_lotsDone v_r0_lotsNone r0_atMost r0_counted r0_days o.1 o.2.1 o.2.2.1 r0_fields_wishes o.2.2.2 r0_weathers) := by
  intro n
  induction n with
  | zero => intro a_r0 a_r0_best a_r0_fields a_r0_fields_lefts a_r0_fields_wishes a_r0_path a_r0_weathers v_r0_oneIn v_r0_lotsDone v_r0_lotsNone r0_atMost r0_counted r0_days r0_most r0_best r0_fields_lefts r0_fields_wishes r0_path r0_weathers x1 x2 x3 o hr; exact absurd hr (by intro h; cases h)
  | succ n ih =>
    intro a_r0 a_r0_best a_r0_fields a_r0_fields_lefts a_r0_fields_wishes a_r0_path a_r0_weathers v_r0_oneIn v_r0_lotsDone v_r0_lotsNone r0_atMost r0_counted r0_days r0_most r0_best r0_fields_lefts r0_fields_wishes r0_path r0_weathers x1 x2 x3 o hr
    have hr : B_Har_extendPath (F_Har_extendPath n) r0_atMost r0_counted r0_days r0_most r0_best r0_fields_lefts r0_fields_wishes r0_path r0_weathers x1 x2 x3 = some o := hr
    unfold B_Har_extendPath at hr
    obtain ⟨self, hself⟩ : ∃ f, f = F_Har_extendPath n := ⟨_, rfl⟩
    rw [← hself] at hr ih
    refine ⟨rfl, fun sz => ct_of (w0 := (w_Har_extendPath cI a_r0 a_r0_best a_r0_fields a_r0_fields_lefts a_r0_fields_wishes a_r0_path a_r0_weathers v_r0_oneIn v_r0_lotsDone v_r0_lotsNone r0_atMost r0_counted r0_days r0_most r0_best r0_fields_lefts r0_fields_wishes r0_path r0_weathers)) (Qc := fun A => qV D (w_Har_extendPath cI a_r0 a_r0_best a_r0_fields a_r0_fields_lefts a_r0_fields_wishes a_r0_path a_r0_weathers v_r0_oneIn v_r0_lotsDone v_r0_lotsNone r0_atMost r0_counted r0_days o.1 o.2.1 o.2.2.1 r0_fields_wishes o.2.2.2 r0_weathers) A) rfl (Nat.le_of_ble_eq_true rfl) ?_ sz⟩
    intro p e s m below meth c A hA C hret ls hl hW
    have C : cx p s m ([.ref a_r0, .int x1, .int x2, .int x3] : List Value).toArray meth c b_Har_extendPath 8 R_Har D (kTy cI cS) (Cond.code y_Har_extendPath b_Har_extendPath 8 none) := C
    obtain ⟨hx, hb, hml, hown, hts, hK, hlk, hN⟩ := id C
    have hl : lv_has ls 8 [(0, .ref a_r0), (1, .int x1), (2, .int x2), (3, .int x3)] := hl
    obtain ⟨Q, hQ⟩ : ∃ Q, Q = MQ below (qV D (w_Har_extendPath cI a_r0 a_r0_best a_r0_fields a_r0_fields_lefts a_r0_fields_wishes a_r0_path a_r0_weathers v_r0_oneIn v_r0_lotsDone v_r0_lotsNone r0_atMost r0_counted r0_days o.1 o.2.1 o.2.2.1 r0_fields_wishes o.2.2.2 r0_weathers) A) ([.ref a_r0, .int x1, .int x2, .int x3] : List Value).toArray s 0 0 A := ⟨_, rfl⟩
    rw [← hQ]
    refine lv_iload_n hx hb d_Har_extendPath_0 rfl (lv_at hl 1 rfl) ?_
    refine lv_aload_n hx hb d_Har_extendPath_1 rfl (lv_at hl 0 rfl) ?_
    refine k_get i_Har C hW 0 rfl rfl 5 (by decide) qf_Har_85 rfl rfl d_Har_extendPath_2 ?_
    have hJ_2 : ∀ (_ : Unit), F_Har_extendPath_J14_2 r0_counted r0_days r0_most r0_best r0_fields_lefts r0_path x2 x3 = some o → ∀ (H : Heap) (locs : List Loc) (ls : Array Slot), wd A s.heap D (w_Har_extendPath cI a_r0 a_r0_best a_r0_fields a_r0_fields_lefts a_r0_fields_wishes a_r0_path a_r0_weathers v_r0_oneIn v_r0_lotsDone v_r0_lotsNone r0_atMost r0_counted r0_days r0_most r0_best r0_fields_lefts r0_fields_wishes r0_path r0_weathers) H locs → lv_has ls 8 [(0, .ref a_r0), (2, .int x2), (3, .int x3)] → W p l e (rmd (3 + (n + 1))) s m ([.ref a_r0, .int x1, .int x2, .int x3] : List Value).toArray below meth c H locs 0 0 Q (F0 m 14 ls []) := by
      intro _ hr H locs ls hW hl
      unfold F_Har_extendPath_J14_2 at hr
      refine lv_iload_n hx hb d_Har_extendPath_14 rfl (lv_at hl 2 rfl) ?_
      refine lv_aload_n hx hb d_Har_extendPath_15 rfl (lv_at hl 0 rfl) ?_
      refine k_get i_Har C hW 0 rfl rfl 7 (by decide) qf_Har_91 rfl rfl d_Har_extendPath_16 ?_
      refine lv_icmp_le (tgt := 32) hx hb d_Har_extendPath_19 (by decide) (fun c_3 => ?_) (fun c_3 => ?_)
      · replace hr := ip c_3 hr
        obtain rfl := Option.some.inj hr
        rw [hQ]; exact k_vret C hret hW d_Har_extendPath_32
      · replace hr := iN c_3 hr
        refine lv_aload_n hx hb d_Har_extendPath_22 rfl (lv_at hl 0 rfl) ?_
        refine lv_iload_n hx hb d_Har_extendPath_23 rfl (lv_at hl 2 rfl) ?_
        refine k_put i_Har t_Har_ok n_Har C hW 0 rfl rfl 7 (by decide) qf_Har_91 rfl rfl (ty := .int) rfl rfl rfl (Nat.le_of_ble_eq_true rfl) (ws' := (w_Har_extendPath cI a_r0 a_r0_best a_r0_fields a_r0_fields_lefts a_r0_fields_wishes a_r0_path a_r0_weathers v_r0_oneIn v_r0_lotsDone v_r0_lotsNone r0_atMost r0_counted r0_days x3 r0_best r0_fields_lefts r0_fields_wishes r0_path r0_weathers)) rfl d_Har_extendPath_24 (fun H locs hW => ?_)
        refine lv_aload_n hx hb d_Har_extendPath_27 rfl (lv_at hl 0 rfl) ?_
        refine lv_iload_n hx hb d_Har_extendPath_28 rfl (lv_at hl 1 rfl) ?_
        obtain ⟨q_4, hc_4, hr⟩ := ob hr
        have ct_4 := C_Har_keepPath l D cI cS a_r0 a_r0_best a_r0_path (Value.ref a_r0_fields) (Value.ref a_r0_weathers) (Value.int r0_atMost) (Value.int x3) v_r0_oneIn v_r0_lotsDone v_r0_lotsNone r0_counted r0_days r0_best r0_path x2 q_4 hc_4
        refine k_goV hA hW [0, 1, 5] rfl ct_4.1 (ws' := (w_Har_extendPath cI a_r0 a_r0_best a_r0_fields a_r0_fields_lefts a_r0_fields_wishes a_r0_path a_r0_weathers v_r0_oneIn v_r0_lotsDone v_r0_lotsNone r0_atMost r0_counted r0_days x3 q_4 r0_fields_lefts r0_fields_wishes r0_path r0_weathers)) rfl (k_runV C hA hW mw_Har_keepPath mv_Har_keepPath (ct_4.2 _) [0, 1, 5] rfl rfl 0 rfl rfl qm_Har_98 ⟨by simp only [rmd]; omega, by simp only [rmd]; omega, Nat.zero_le _, Nat.zero_le _⟩ rfl rfl (Nat.le_of_ble_eq_true rfl) hl.1 d_Har_extendPath_29) (fun H locs hW => ?_)
        obtain rfl := Option.some.inj hr
        rw [hQ]; exact k_vret C hret hW d_Har_extendPath_32
    refine lv_icmp_ge (tgt := 14) hx hb d_Har_extendPath_5 (by decide) (fun c_1 => ?_) (fun c_1 => ?_)
    · replace hr := ip c_1 hr
      exact hJ_2 () hr _ _ _ hW (lv_sub hl [0, 2, 3] rfl)
    · replace hr := iN c_1 hr
      refine lv_iload_n hx hb d_Har_extendPath_8 rfl (lv_at hl 1 rfl) ?_
      refine lv_bipush (v := 8) hx hb d_Har_extendPath_9 (by decide) ?_
      refine lv_icmp_lt (tgt := 33) hx hb d_Har_extendPath_11 (by decide) (fun c_5 => ?_) (fun c_5 => ?_)
      · replace hr := ip c_5 hr
        refine lv_aload_n hx hb d_Har_extendPath_33 rfl (lv_at hl 0 rfl) ?_
        refine k_get i_Har C hW 0 rfl rfl 5 (by decide) qf_Har_85 rfl rfl d_Har_extendPath_34 ?_
        refine lv_iload_n hx hb d_Har_extendPath_37 rfl (lv_at hl 1 rfl) ?_
        refine lv_isub hx hb d_Har_extendPath_38 ?_
        refine lv_aload_n hx hb d_Har_extendPath_39 rfl (lv_at hl 0 rfl) ?_
        refine lv_iload_n hx hb d_Har_extendPath_40 rfl (lv_at hl 2 rfl) ?_
        obtain ⟨q_6, hc_6, hr⟩ := ob hr
        have ct_6 := C_Har_ableWithout l D cI cS a_r0 a_r0_fields a_r0_fields_lefts a_r0_fields_wishes a_r0_weathers (Value.ref a_r0_path) (Value.ref a_r0_best) (Value.int r0_counted) (Value.int r0_atMost) (Value.int r0_most) v_r0_oneIn v_r0_lotsDone v_r0_lotsNone r0_days r0_fields_lefts r0_fields_wishes r0_weathers x2 q_6 hc_6
        refine k_goIp hA hW [0, 2, 3, 4, 6] rfl rfl (k_runV C hA hW mw_Har_ableWithout mv_Har_ableWithout (ct_6.2 _) [0, 2, 3, 4, 6] rfl rfl 0 rfl rfl qm_Har_102 ⟨by simp only [rmd]; omega, by simp only [rmd]; omega, Nat.zero_le _, Nat.zero_le _⟩ rfl rfl (Nat.le_of_ble_eq_true rfl) hl.1 d_Har_extendPath_41) (fun H locs hW => ?_)
        refine k_mmin C qm_Har_39 ⟨by simp only [rmd]; omega, Nat.le_trans (Nat.le_of_ble_eq_true rfl : _ ≤ 60 * 3) (by simp only [rmd]; omega), Nat.zero_le _, Nat.zero_le _⟩ hl.1 d_Har_extendPath_44 ?_
        refine lv_istore (lv' := [(4, .int (if q_6 < (r0_counted - x1) then q_6 else (r0_counted - x1))), (0, .ref a_r0), (1, .int x1), (2, .int x2), (3, .int x3)]) hx hb d_Har_extendPath_47 hl (by decide) rfl (fun ls hl => ?_)
        refine lv_iload_n hx hb d_Har_extendPath_49 rfl (lv_at hl 4 rfl) ?_
        refine lv_iload hx hb d_Har_extendPath_50 (lv_at hl 0 rfl) ?_
        refine lv_iadd hx hb d_Har_extendPath_52 ?_
        refine lv_aload_n hx hb d_Har_extendPath_53 rfl (lv_at hl 1 rfl) ?_
        refine k_get i_Har C hW 0 rfl rfl 6 (by decide) qf_Har_88 rfl rfl d_Har_extendPath_54 ?_
        refine k_mmin C qm_Har_39 ⟨by simp only [rmd]; omega, Nat.le_trans (Nat.le_of_ble_eq_true rfl : _ ≤ 60 * 3) (by simp only [rmd]; omega), Nat.zero_le _, Nat.zero_le _⟩ hl.1 d_Har_extendPath_57 ?_
        refine lv_istore (lv' := [(5, .int (if r0_atMost < (x3 + (if q_6 < (r0_counted - x1) then q_6 else (r0_counted - x1))) then r0_atMost else (x3 + (if q_6 < (r0_counted - x1) then q_6 else (r0_counted - x1))))), (4, .int (if q_6 < (r0_counted - x1) then q_6 else (r0_counted - x1))), (0, .ref a_r0), (1, .int x1), (2, .int x2), (3, .int x3)]) hx hb d_Har_extendPath_60 hl (by decide) rfl (fun ls hl => ?_)
        refine lv_iconst (v := 0) hx hb d_Har_extendPath_62 (by decide) ?_
        refine lv_istore (lv' := [(6, .int 0), (5, .int (if r0_atMost < (x3 + (if q_6 < (r0_counted - x1) then q_6 else (r0_counted - x1))) then r0_atMost else (x3 + (if q_6 < (r0_counted - x1) then q_6 else (r0_counted - x1))))), (4, .int (if q_6 < (r0_counted - x1) then q_6 else (r0_counted - x1))), (0, .ref a_r0), (1, .int x1), (2, .int x2), (3, .int x3)]) hx hb d_Har_extendPath_63 hl (by decide) rfl (fun ls hl => ?_)
        obtain ⟨ex_7, hw_7, hk_7⟩ := ob hr
        have hx_7 : ∀ (e_7 : (Int32) × (Nat → Int32) × (Nat → Int32) × (Nat → Int32)), e_7 = ex_7 → ∀ (H : Heap) (locs : List Loc) (ls : Array Slot), wd A s.heap D (w_Har_extendPath cI a_r0 a_r0_best a_r0_fields a_r0_fields_lefts a_r0_fields_wishes a_r0_path a_r0_weathers v_r0_oneIn v_r0_lotsDone v_r0_lotsNone r0_atMost r0_counted r0_days e_7.1 e_7.2.1 e_7.2.2.1 r0_fields_wishes e_7.2.2.2 r0_weathers) H locs → lv_has ls 8 [] → W p l e (rmd (3 + (n + 1))) s m ([.ref a_r0, .int x1, .int x2, .int x3] : List Value).toArray below meth c H locs 0 0 Q (F0 m 156 ls []) := by
          intro e_7 hE H locs ls hW hl
          subst hE; have hr := hk_7
          obtain rfl := Option.some.inj hr
          rw [hQ]; exact k_vret C hret hW d_Har_extendPath_156
        have hl_7 : ∀ (k : Nat) (y6_7 : Int32) (r0_most_7 : Int32) (r0_best_7 : Nat → Int32) (r0_fields_lefts_7 : Nat → Int32) (r0_path_7 : Nat → Int32), wh (fun (s : (Int32) × (Int32) × (Nat → Int32) × (Nat → Int32) × (Nat → Int32)) => F_Har_extendPath_L65 self r0_atMost r0_counted r0_days r0_fields_wishes r0_weathers q_6 x1 x2 x3 s.1 s.2.1 s.2.2.1 s.2.2.2.1 s.2.2.2.2) k (y6_7, r0_most_7, r0_best_7, r0_fields_lefts_7, r0_path_7) = some ex_7 → ∀ (H : Heap) (locs : List Loc) (ls : Array Slot), wd A s.heap D (w_Har_extendPath cI a_r0 a_r0_best a_r0_fields a_r0_fields_lefts a_r0_fields_wishes a_r0_path a_r0_weathers v_r0_oneIn v_r0_lotsDone v_r0_lotsNone r0_atMost r0_counted r0_days r0_most_7 r0_best_7 r0_fields_lefts_7 r0_fields_wishes r0_path_7 r0_weathers) H locs → lv_has ls 8 [(5, .int (if r0_atMost < (x3 + (if q_6 < (r0_counted - x1) then q_6 else (r0_counted - x1))) then r0_atMost else (x3 + (if q_6 < (r0_counted - x1) then q_6 else (r0_counted - x1))))), (0, .ref a_r0), (1, .int x1), (2, .int x2), (3, .int x3), (6, .int y6_7)] → W p l e (rmd (3 + (n + 1))) s m ([.ref a_r0, .int x1, .int x2, .int x3] : List Value).toArray below meth c H locs 0 0 Q (F0 m 65 ls []) := by
          intro k
          induction k with
          | zero => intro y6_7 r0_most_7 r0_best_7 r0_fields_lefts_7 r0_path_7 hw; exact absurd hw wh_0
          | succ k ih_7 =>
            intro y6_7 r0_most_7 r0_best_7 r0_fields_lefts_7 r0_path_7 hw H locs ls hW hl
            obtain ⟨z_7, hr, hz1_7, hz2_7⟩ := wh_s hw
            have hr : F_Har_extendPath_L65 self r0_atMost r0_counted r0_days r0_fields_wishes r0_weathers q_6 x1 x2 x3 y6_7 r0_most_7 r0_best_7 r0_fields_lefts_7 r0_path_7 = some z_7 := hr
            unfold F_Har_extendPath_L65 at hr
            refine lv_iload hx hb d_Har_extendPath_65 (lv_at hl 5 rfl) ?_
            refine lv_aload_n hx hb d_Har_extendPath_67 rfl (lv_at hl 1 rfl) ?_
            refine k_get i_Har C hW 0 rfl rfl 2 (by decide) qf_Har_48 rfl rfl d_Har_extendPath_68 ?_
            refine lv_icmp_ge (tgt := 156) hx hb d_Har_extendPath_71 (by decide) (fun c_8 => ?_) (fun c_8 => ?_)
            · replace hr := ip c_8 hr
              exact hx_7 _ (hz2_7 _ (Option.some.inj hr).symm) _ _ _ hW (lv_sub hl [] rfl)
            · replace hr := iN c_8 hr
              refine lv_iload_n hx hb d_Har_extendPath_74 rfl (lv_at hl 3 rfl) ?_
              refine lv_iload hx hb d_Har_extendPath_75 (lv_at hl 5 rfl) ?_
              obtain ⟨q_9, hc_9, hr⟩ := ob hr
              have ct_9 := C_H_holds l D cI cS x2 y6_7 q_9 hc_9
              refine k_goIp hA hW [] rfl rfl (k_runSN C hA hW mw_H_holds ms_H_holds (ct_9.2 _) [] rfl rfl qm_Har_64 ⟨by simp only [rmd]; omega, by simp only [rmd]; omega, Nat.zero_le _, Nat.zero_le _⟩ rfl rfl (Nat.le_of_ble_eq_true rfl) hl.1 d_Har_extendPath_77) (fun H locs hW => ?_)
              refine lv_if_ne (tgt := 150) hx hb d_Har_extendPath_80 (by decide) (fun c_10 => ?_) (fun c_10 => ?_)
              · replace hr := iN c_10 hr
                refine lv_iinc (v := (y6_7 + 1)) (lv' := [(6, .int (y6_7 + 1)), (5, .int (if r0_atMost < (x3 + (if q_6 < (r0_counted - x1) then q_6 else (r0_counted - x1))) then r0_atMost else (x3 + (if q_6 < (r0_counted - x1) then q_6 else (r0_counted - x1))))), (0, .ref a_r0), (1, .int x1), (2, .int x2), (3, .int x3)]) hx hb d_Har_extendPath_150 hl (k := 5) rfl rfl (by decide) rfl (fun ls hl => ?_)
                refine lv_goto (tgt := 65) hx hb d_Har_extendPath_153 (by decide) ?_
                exact ih_7 (y6_7 + 1) r0_most_7 r0_best_7 r0_fields_lefts_7 r0_path_7 (hz1_7 _ (Option.some.inj hr).symm) _ _ _ hW (lv_sub hl [1, 2, 3, 4, 5, 0] rfl)
              · replace hr := ip c_10 hr
                refine lv_iload hx hb d_Har_extendPath_83 (lv_at hl 0 rfl) ?_
                refine lv_aload_n hx hb d_Har_extendPath_85 rfl (lv_at hl 1 rfl) ?_
                refine k_get i_Har C hW 0 rfl rfl 7 (by decide) qf_Har_91 rfl rfl d_Har_extendPath_86 ?_
                refine lv_icmp_le (tgt := 150) hx hb d_Har_extendPath_89 (by decide) (fun c_11 => ?_) (fun c_11 => ?_)
                · replace hr := ip c_11 hr
                  refine lv_iinc (v := (y6_7 + 1)) (lv' := [(6, .int (y6_7 + 1)), (5, .int (if r0_atMost < (x3 + (if q_6 < (r0_counted - x1) then q_6 else (r0_counted - x1))) then r0_atMost else (x3 + (if q_6 < (r0_counted - x1) then q_6 else (r0_counted - x1))))), (0, .ref a_r0), (1, .int x1), (2, .int x2), (3, .int x3)]) hx hb d_Har_extendPath_150 hl (k := 5) rfl rfl (by decide) rfl (fun ls hl => ?_)
                  refine lv_goto (tgt := 65) hx hb d_Har_extendPath_153 (by decide) ?_
                  exact ih_7 (y6_7 + 1) r0_most_7 r0_best_7 r0_fields_lefts_7 r0_path_7 (hz1_7 _ (Option.some.inj hr).symm) _ _ _ hW (lv_sub hl [1, 2, 3, 4, 5, 0] rfl)
                · replace hr := iN c_11 hr
                  refine lv_aload_n hx hb d_Har_extendPath_92 rfl (lv_at hl 1 rfl) ?_
                  refine k_get i_Har C hW 0 rfl rfl 0 (by decide) qf_Har_12 rfl rfl d_Har_extendPath_93 ?_
                  refine lv_aload_n hx hb d_Har_extendPath_96 rfl (lv_at hl 1 rfl) ?_
                  refine k_get i_Har C hW 0 rfl rfl 1 (by decide) qf_Har_18 rfl rfl d_Har_extendPath_97 ?_
                  refine lv_iload hx hb d_Har_extendPath_100 (lv_at hl 5 rfl) ?_
                  obtain ⟨h_12, hr⟩ := ck_some hr
                  refine k_iald C hW 6 rfl h_12 d_Har_extendPath_102 ?_
                  obtain ⟨q_13, hc_13, hr⟩ := ob hr
                  have ct_13 := C_Fld_work l D cI cS a_r0_fields a_r0_fields_lefts a_r0_fields_wishes r0_fields_lefts_7 r0_fields_wishes (r0_weathers (Int32.toNatClampNeg y6_7)) q_13 hc_13
                  refine k_goI hA hW [2, 3, 4] rfl ct_13.1 (ws' := (w_Har_extendPath cI a_r0 a_r0_best a_r0_fields a_r0_fields_lefts a_r0_fields_wishes a_r0_path a_r0_weathers v_r0_oneIn v_r0_lotsDone v_r0_lotsNone r0_atMost r0_counted r0_days r0_most_7 r0_best_7 q_13.2 r0_fields_wishes r0_path_7 r0_weathers)) rfl (k_runV C hA hW mw_Fld_work mv_Fld_work (ct_13.2 _) [2, 3, 4] rfl rfl 2 rfl rfl qm_Har_68 ⟨by simp only [rmd]; omega, by simp only [rmd]; omega, Nat.zero_le _, Nat.zero_le _⟩ rfl rfl (Nat.le_of_ble_eq_true rfl) hl.1 d_Har_extendPath_103) (fun H locs hW => ?_)
                  refine lv_istore (lv' := [(7, .int q_13.1), (5, .int (if r0_atMost < (x3 + (if q_6 < (r0_counted - x1) then q_6 else (r0_counted - x1))) then r0_atMost else (x3 + (if q_6 < (r0_counted - x1) then q_6 else (r0_counted - x1))))), (0, .ref a_r0), (1, .int x1), (2, .int x2), (3, .int x3), (6, .int y6_7)]) hx hb d_Har_extendPath_106 hl (by decide) rfl (fun ls hl => ?_)
                  refine lv_aload_n hx hb d_Har_extendPath_108 rfl (lv_at hl 2 rfl) ?_
                  refine k_get i_Har C hW 0 rfl rfl 3 (by decide) qf_Har_22 rfl rfl d_Har_extendPath_109 ?_
                  refine lv_iload_n hx hb d_Har_extendPath_112 rfl (lv_at hl 3 rfl) ?_
                  refine lv_iload hx hb d_Har_extendPath_113 (lv_at hl 6 rfl) ?_
                  obtain ⟨h_14, hr⟩ := ck_some hr
                  refine k_iast C hW 5 rfl h_14 (ws' := (w_Har_extendPath cI a_r0 a_r0_best a_r0_fields a_r0_fields_lefts a_r0_fields_wishes a_r0_path a_r0_weathers v_r0_oneIn v_r0_lotsDone v_r0_lotsNone r0_atMost r0_counted r0_days r0_most_7 r0_best_7 q_13.2 r0_fields_wishes (upd r0_path_7 (Int32.toNatClampNeg x1) y6_7) r0_weathers)) rfl d_Har_extendPath_115 (fun H locs hW => ?_)
                  refine lv_aload_n hx hb d_Har_extendPath_116 rfl (lv_at hl 2 rfl) ?_
                  refine lv_iload_n hx hb d_Har_extendPath_117 rfl (lv_at hl 3 rfl) ?_
                  refine lv_iconst (v := 1) hx hb d_Har_extendPath_118 (by decide) ?_
                  refine lv_iadd hx hb d_Har_extendPath_119 ?_
                  refine lv_iload_n hx hb d_Har_extendPath_120 rfl (lv_at hl 4 rfl) ?_
                  refine lv_iconst (v := 1) hx hb d_Har_extendPath_121 (by decide) ?_
                  refine lv_iload hx hb d_Har_extendPath_122 (lv_at hl 6 rfl) ?_
                  refine lv_ishl hx hb d_Har_extendPath_124 ?_
                  refine lv_ior hx hb d_Har_extendPath_125 ?_
                  refine lv_iload hx hb d_Har_extendPath_126 (lv_at hl 0 rfl) ?_
                  have hJ_16 : ∀ (s3_16 : Int32), F_Har_extendPath_J138_16 self r0_atMost r0_counted r0_days r0_fields_wishes r0_weathers r0_best_7 r0_most_7 r0_path_7 y6_7 q_13 x1 x2 s3_16 = some z_7 → ∀ (H : Heap) (locs : List Loc) (ls : Array Slot), wd A s.heap D (w_Har_extendPath cI a_r0 a_r0_best a_r0_fields a_r0_fields_lefts a_r0_fields_wishes a_r0_path a_r0_weathers v_r0_oneIn v_r0_lotsDone v_r0_lotsNone r0_atMost r0_counted r0_days r0_most_7 r0_best_7 q_13.2 r0_fields_wishes (upd r0_path_7 (Int32.toNatClampNeg x1) y6_7) r0_weathers) H locs → lv_has ls 8 [(0, .ref a_r0), (1, .int x1), (2, .int x2), (3, .int x3), (5, .int (if r0_atMost < (x3 + (if q_6 < (r0_counted - x1) then q_6 else (r0_counted - x1))) then r0_atMost else (x3 + (if q_6 < (r0_counted - x1) then q_6 else (r0_counted - x1))))), (6, .int y6_7), (7, .int q_13.1)] → W p l e (rmd (3 + (n + 1))) s m ([.ref a_r0, .int x1, .int x2, .int x3] : List Value).toArray below meth c H locs 0 0 Q (F0 m 138 ls [.int s3_16, .int (x2 ||| ((1 : Int32) <<< ((y6_7 : Int32) &&& 31))), .int (x1 + 1), .ref a_r0]) := by
                    intro s3_16 hr H locs ls hW hl
                    unfold F_Har_extendPath_J138_16 at hr
                    obtain ⟨q_17, hc_17, hr⟩ := ob hr
                    have ct_17 := ih a_r0 a_r0_best a_r0_fields a_r0_fields_lefts a_r0_fields_wishes a_r0_path a_r0_weathers v_r0_oneIn v_r0_lotsDone v_r0_lotsNone r0_atMost r0_counted r0_days r0_most_7 r0_best_7 q_13.2 r0_fields_wishes (upd r0_path_7 (Int32.toNatClampNeg x1) y6_7) r0_weathers (x1 + 1) (x2 ||| ((1 : Int32) <<< ((y6_7 : Int32) &&& 31))) s3_16 q_17 hc_17
                    refine k_goV hA hW [0, 1, 2, 3, 4, 5, 6] rfl ct_17.1 (ws' := (w_Har_extendPath cI a_r0 a_r0_best a_r0_fields a_r0_fields_lefts a_r0_fields_wishes a_r0_path a_r0_weathers v_r0_oneIn v_r0_lotsDone v_r0_lotsNone r0_atMost r0_counted r0_days q_17.1 q_17.2.1 q_17.2.2.1 r0_fields_wishes q_17.2.2.2 r0_weathers)) rfl (k_runS C hA hW mw_Har_extendPath ms_Har_extendPath (ct_17.2 _) [0, 1, 2, 3, 4, 5, 6] rfl rfl qm_Har_94 ⟨by simp only [rmd]; omega, by simp only [rmd]; omega, Nat.zero_le _, Nat.zero_le _⟩ rfl rfl (Nat.le_of_ble_eq_true rfl) hl.1 d_Har_extendPath_138) (fun H locs hW => ?_)
                    refine lv_aload_n hx hb d_Har_extendPath_141 rfl (lv_at hl 0 rfl) ?_
                    refine k_get i_Har C hW 0 rfl rfl 0 (by decide) qf_Har_12 rfl rfl d_Har_extendPath_142 ?_
                    refine lv_iload hx hb d_Har_extendPath_145 (lv_at hl 6 rfl) ?_
                    obtain ⟨q_18, hc_18, hr⟩ := ob hr
                    have ct_18 := C_Fld_undoWork l D cI cS a_r0_fields a_r0_fields_lefts (Value.ref a_r0_fields_wishes) q_17.2.2.1 q_13.1 q_18 hc_18
                    refine k_goV hA hW [2, 3] rfl ct_18.1 (ws' := (w_Har_extendPath cI a_r0 a_r0_best a_r0_fields a_r0_fields_lefts a_r0_fields_wishes a_r0_path a_r0_weathers v_r0_oneIn v_r0_lotsDone v_r0_lotsNone r0_atMost r0_counted r0_days q_17.1 q_17.2.1 q_18 r0_fields_wishes q_17.2.2.2 r0_weathers)) rfl (k_runV C hA hW mw_Fld_undoWork mv_Fld_undoWork (ct_18.2 _) [2, 3] rfl rfl 2 rfl rfl qm_Har_105 ⟨by simp only [rmd]; omega, by simp only [rmd]; omega, Nat.zero_le _, Nat.zero_le _⟩ rfl rfl (Nat.le_of_ble_eq_true rfl) hl.1 d_Har_extendPath_147) (fun H locs hW => ?_)
                    refine lv_iinc (v := (y6_7 + 1)) (lv' := [(6, .int (y6_7 + 1)), (0, .ref a_r0), (1, .int x1), (2, .int x2), (3, .int x3), (5, .int (if r0_atMost < (x3 + (if q_6 < (r0_counted - x1) then q_6 else (r0_counted - x1))) then r0_atMost else (x3 + (if q_6 < (r0_counted - x1) then q_6 else (r0_counted - x1))))), (7, .int q_13.1)]) hx hb d_Har_extendPath_150 hl (k := 5) rfl rfl (by decide) rfl (fun ls hl => ?_)
                    refine lv_goto (tgt := 65) hx hb d_Har_extendPath_153 (by decide) ?_
                    exact ih_7 (y6_7 + 1) q_17.1 q_17.2.1 q_18 q_17.2.2.2 (hz1_7 _ (Option.some.inj hr).symm) _ _ _ hW (lv_sub hl [5, 1, 2, 3, 4, 0] rfl)
                  refine lv_if_lt (tgt := 137) hx hb d_Har_extendPath_128 (by decide) (fun c_15 => ?_) (fun c_15 => ?_)
                  · replace hr := ip c_15 hr
                    refine lv_iload_n hx hb d_Har_extendPath_137 rfl (lv_at hl 5 rfl) ?_
                    exact hJ_16 x3 hr _ _ _ hW (lv_sub hl [2, 3, 4, 5, 1, 6, 0] rfl)
                  · replace hr := iN c_15 hr
                    refine lv_iload_n hx hb d_Har_extendPath_131 rfl (lv_at hl 5 rfl) ?_
                    refine lv_iconst (v := 1) hx hb d_Har_extendPath_132 (by decide) ?_
                    refine lv_iadd hx hb d_Har_extendPath_133 ?_
                    refine lv_goto (tgt := 138) hx hb d_Har_extendPath_134 (by decide) ?_
                    exact hJ_16 (x3 + 1) hr _ _ _ hW (lv_sub hl [2, 3, 4, 5, 1, 6, 0] rfl)
        exact hl_7 _ 0 r0_most r0_best r0_fields_lefts r0_path hw_7 _ _ _ hW (lv_sub hl [1, 3, 4, 5, 6, 0] rfl)
      · replace hr := iN c_5 hr
        exact hJ_2 () hr _ _ _ hW (lv_sub hl [0, 2, 3] rfl)
def w_Har_leastCut (cI : ClassId) (a_r0 : Nat) (a_r0_fields : Nat) (a_r0_fields_lefts : Nat) (a_r0_fields_wishes : Nat) (a_r0_weathers : Nat) (v_r0_path v_r0_best v_r0_counted v_r0_atMost v_r0_most v_r0_oneIn v_r0_lotsDone v_r0_lotsNone : Value) (r0_days : Int32) (r0_fields_lefts : Nat → Int32) (r0_fields_wishes : Nat → Int32) (r0_weathers : Nat → Int32) : va_W := [(a_r0, .inr (7, [.ref a_r0_fields, .ref a_r0_weathers, .int r0_days, v_r0_path, v_r0_best, v_r0_counted, v_r0_atMost, v_r0_most, v_r0_oneIn, v_r0_lotsDone, v_r0_lotsNone])), (a_r0_fields, .inr (2, [.ref a_r0_fields_wishes, .ref a_r0_fields_lefts])), (a_r0_fields_lefts, .inl (cI, 4, .inl r0_fields_lefts)), (a_r0_fields_wishes, .inl (cI, 4, .inl r0_fields_wishes)), (a_r0_weathers, .inl (cI, 8, .inl r0_weathers))]
def F_Har_leastCut_L25 (r0_days : Int32) (r0_fields_wishes : Nat → Int32) (r0_weathers : Nat → Int32) (y2_1 : Int32) (y3_4 : Int32) (y4_4 : Int32) : Option (((Int32) × (Int32)) ⊕ ((Int32))) :=
  (if r0_days ≤ y4_4 then (some (.inr y3_4)) else (ck y4_4 8 ((F_Fld_wishersOf r0_fields_wishes (r0_weathers (Int32.toNatClampNeg y4_4))).bind (fun q_7 => (if (q_7 &&& (y2_1 ^^^ (-1))) = 0 then (some (.inl (y3_4, (y4_4 + 1)))) else (some (.inl ((y3_4 + 1), (y4_4 + 1)))))))))
def F_Har_leastCut_L7 (r0_days : Int32) (r0_fields_lefts : Nat → Int32) (r0_fields_wishes : Nat → Int32) (r0_weathers : Nat → Int32) (y1_1 : Int32) (y2_1 : Int32) : Option (((Int32) × (Int32)) ⊕ ((Int32))) :=
  (if (16 : Int32) ≤ y2_1 then (some (.inr y1_1)) else ((F_Fld_leftAmong r0_fields_lefts y2_1).bind (fun q_3 => ((wh (fun (s : (Int32) × (Int32)) => F_Har_leastCut_L25 r0_days r0_fields_wishes r0_weathers y2_1 s.1 s.2) 400 (q_3, (0 : Int32))).bind (fun e_4 => (some (.inl ((if e_4 < y1_1 then e_4 else y1_1), (y2_1 + 1)))))))))
def F_Har_leastCut (r0_days : Int32) (r0_fields_lefts : Nat → Int32) (r0_fields_wishes : Nat → Int32) (r0_weathers : Nat → Int32) : Option (Int32) :=
  ((wh (fun (s : (Int32) × (Int32)) => F_Har_leastCut_L7 r0_days r0_fields_lefts r0_fields_wishes r0_weathers s.1 s.2) 400 (r0_days, (0 : Int32))).bind (fun e_1 => (some e_1)))
set_option maxHeartbeats 4000000 in
set_option maxRecDepth 100000 in
theorem C_Har_leastCut (l : Launch) (D : va_G) (cI cS : ClassId) (a_r0 : Nat) (a_r0_fields : Nat) (a_r0_fields_lefts : Nat) (a_r0_fields_wishes : Nat) (a_r0_weathers : Nat) (v_r0_path v_r0_best v_r0_counted v_r0_atMost v_r0_most v_r0_oneIn v_r0_lotsDone v_r0_lotsNone : Value) (r0_days : Int32) (r0_fields_lefts : Nat → Int32) (r0_fields_wishes : Nat → Int32) (r0_weathers : Nat → Int32) (o : Int32) (hr : F_Har_leastCut r0_days r0_fields_lefts r0_fields_wishes r0_weathers = some o) : ctI l y_Har_leastCut (Cond.code y_Har_leastCut b_Har_leastCut 5 (some FieldType.int)) (rmd 2) D (kTy cI cS) [.ref a_r0] (w_Har_leastCut cI a_r0 a_r0_fields a_r0_fields_lefts a_r0_fields_wishes a_r0_weathers v_r0_path v_r0_best v_r0_counted v_r0_atMost v_r0_most v_r0_oneIn v_r0_lotsDone v_r0_lotsNone r0_days r0_fields_lefts r0_fields_wishes r0_weathers) (w_Har_leastCut cI a_r0 a_r0_fields a_r0_fields_lefts a_r0_fields_wishes a_r0_weathers v_r0_path v_r0_best v_r0_counted v_r0_atMost v_r0_most v_r0_oneIn v_r0_lotsDone v_r0_lotsNone r0_days r0_fields_lefts r0_fields_wishes r0_weathers) o := by
  unfold F_Har_leastCut at hr
  refine ⟨rfl, fun sz => ct_of (w0 := (w_Har_leastCut cI a_r0 a_r0_fields a_r0_fields_lefts a_r0_fields_wishes a_r0_weathers v_r0_path v_r0_best v_r0_counted v_r0_atMost v_r0_most v_r0_oneIn v_r0_lotsDone v_r0_lotsNone r0_days r0_fields_lefts r0_fields_wishes r0_weathers)) (Qc := fun A => qI D (w_Har_leastCut cI a_r0 a_r0_fields a_r0_fields_lefts a_r0_fields_wishes a_r0_weathers v_r0_path v_r0_best v_r0_counted v_r0_atMost v_r0_most v_r0_oneIn v_r0_lotsDone v_r0_lotsNone r0_days r0_fields_lefts r0_fields_wishes r0_weathers) o A) rfl (Nat.le_of_ble_eq_true rfl) ?_ sz⟩
  intro p e s m below meth c A hA C hret ls hl hW
  have C : cx p s m ([.ref a_r0] : List Value).toArray meth c b_Har_leastCut 5 R_Har D (kTy cI cS) (Cond.code y_Har_leastCut b_Har_leastCut 5 (some FieldType.int)) := C
  obtain ⟨hx, hb, hml, hown, hts, hK, hlk, hN⟩ := id C
  have hl : lv_has ls 5 [(0, .ref a_r0)] := hl
  obtain ⟨Q, hQ⟩ : ∃ Q, Q = MQ below (qI D (w_Har_leastCut cI a_r0 a_r0_fields a_r0_fields_lefts a_r0_fields_wishes a_r0_weathers v_r0_path v_r0_best v_r0_counted v_r0_atMost v_r0_most v_r0_oneIn v_r0_lotsDone v_r0_lotsNone r0_days r0_fields_lefts r0_fields_wishes r0_weathers) o A) ([.ref a_r0] : List Value).toArray s 0 0 A := ⟨_, rfl⟩
  rw [← hQ]
  refine lv_aload_n hx hb d_Har_leastCut_0 rfl (lv_at hl 0 rfl) ?_
  refine k_get i_Har C hW 0 rfl rfl 2 (by decide) qf_Har_48 rfl rfl d_Har_leastCut_1 ?_
  refine lv_istore_n (lv' := [(1, .int r0_days), (0, .ref a_r0)]) hx hb d_Har_leastCut_4 rfl hl (by decide) rfl (fun ls hl => ?_)
  refine lv_iconst (v := 0) hx hb d_Har_leastCut_5 (by decide) ?_
  refine lv_istore_n (lv' := [(2, .int 0), (1, .int r0_days), (0, .ref a_r0)]) hx hb d_Har_leastCut_6 rfl hl (by decide) rfl (fun ls hl => ?_)
  obtain ⟨ex_1, hw_1, hk_1⟩ := ob hr
  have hx_1 : ∀ (e_1 : (Int32)), e_1 = ex_1 → ∀ (H : Heap) (locs : List Loc) (ls : Array Slot), wd A s.heap D (w_Har_leastCut cI a_r0 a_r0_fields a_r0_fields_lefts a_r0_fields_wishes a_r0_weathers v_r0_path v_r0_best v_r0_counted v_r0_atMost v_r0_most v_r0_oneIn v_r0_lotsDone v_r0_lotsNone r0_days r0_fields_lefts r0_fields_wishes r0_weathers) H locs → lv_has ls 5 [(1, .int e_1)] → W p l e (rmd 2) s m ([.ref a_r0] : List Value).toArray below meth c H locs 0 0 Q (F0 m 76 ls []) := by
    intro e_1 hE H locs ls hW hl
    subst hE; have hr := hk_1
    refine lv_iload_n hx hb d_Har_leastCut_76 rfl (lv_at hl 0 rfl) ?_
    obtain rfl := Option.some.inj hr
    rw [hQ]; exact k_iret C hret hW d_Har_leastCut_77
  have hl_1 : ∀ (k : Nat) (y1_1 : Int32) (y2_1 : Int32), wh (fun (s : (Int32) × (Int32)) => F_Har_leastCut_L7 r0_days r0_fields_lefts r0_fields_wishes r0_weathers s.1 s.2) k (y1_1, y2_1) = some ex_1 → ∀ (H : Heap) (locs : List Loc) (ls : Array Slot), wd A s.heap D (w_Har_leastCut cI a_r0 a_r0_fields a_r0_fields_lefts a_r0_fields_wishes a_r0_weathers v_r0_path v_r0_best v_r0_counted v_r0_atMost v_r0_most v_r0_oneIn v_r0_lotsDone v_r0_lotsNone r0_days r0_fields_lefts r0_fields_wishes r0_weathers) H locs → lv_has ls 5 [(0, .ref a_r0), (1, .int y1_1), (2, .int y2_1)] → W p l e (rmd 2) s m ([.ref a_r0] : List Value).toArray below meth c H locs 0 0 Q (F0 m 7 ls []) := by
    intro k
    induction k with
    | zero => intro y1_1 y2_1 hw; exact absurd hw wh_0
    | succ k ih_1 =>
      intro y1_1 y2_1 hw H locs ls hW hl
      obtain ⟨z_1, hr, hz1_1, hz2_1⟩ := wh_s hw
      have hr : F_Har_leastCut_L7 r0_days r0_fields_lefts r0_fields_wishes r0_weathers y1_1 y2_1 = some z_1 := hr
      unfold F_Har_leastCut_L7 at hr
      refine lv_iload_n hx hb d_Har_leastCut_7 rfl (lv_at hl 2 rfl) ?_
      refine lv_bipush (v := 16) hx hb d_Har_leastCut_8 (by decide) ?_
      refine lv_icmp_ge (tgt := 76) hx hb d_Har_leastCut_10 (by decide) (fun c_2 => ?_) (fun c_2 => ?_)
      · replace hr := ip c_2 hr
        exact hx_1 _ (hz2_1 _ (Option.some.inj hr).symm) _ _ _ hW (lv_sub hl [1] rfl)
      · replace hr := iN c_2 hr
        refine lv_aload_n hx hb d_Har_leastCut_13 rfl (lv_at hl 0 rfl) ?_
        refine k_get i_Har C hW 0 rfl rfl 0 (by decide) qf_Har_12 rfl rfl d_Har_leastCut_14 ?_
        refine lv_iload_n hx hb d_Har_leastCut_17 rfl (lv_at hl 2 rfl) ?_
        obtain ⟨q_3, hc_3, hr⟩ := ob hr
        have ct_3 := C_Fld_leftAmong l D cI cS a_r0_fields a_r0_fields_lefts (Value.ref a_r0_fields_wishes) r0_fields_lefts y2_1 q_3 hc_3
        refine k_goIp hA hW [1, 2] rfl rfl (k_runV C hA hW mw_Fld_leftAmong mv_Fld_leftAmong (ct_3.2 _) [1, 2] rfl rfl 1 rfl rfl qm_Har_79 ⟨Nat.le_of_ble_eq_true rfl, Nat.le_of_ble_eq_true rfl, Nat.zero_le _, Nat.zero_le _⟩ rfl rfl (Nat.le_of_ble_eq_true rfl) hl.1 d_Har_leastCut_18) (fun H locs hW => ?_)
        refine lv_istore_n (lv' := [(3, .int q_3), (0, .ref a_r0), (1, .int y1_1), (2, .int y2_1)]) hx hb d_Har_leastCut_21 rfl hl (by decide) rfl (fun ls hl => ?_)
        refine lv_iconst (v := 0) hx hb d_Har_leastCut_22 (by decide) ?_
        refine lv_istore (lv' := [(4, .int 0), (3, .int q_3), (0, .ref a_r0), (1, .int y1_1), (2, .int y2_1)]) hx hb d_Har_leastCut_23 hl (by decide) rfl (fun ls hl => ?_)
        obtain ⟨ex_4, hw_4, hk_4⟩ := ob hr
        have hx_4 : ∀ (e_4 : (Int32)), e_4 = ex_4 → ∀ (H : Heap) (locs : List Loc) (ls : Array Slot), wd A s.heap D (w_Har_leastCut cI a_r0 a_r0_fields a_r0_fields_lefts a_r0_fields_wishes a_r0_weathers v_r0_path v_r0_best v_r0_counted v_r0_atMost v_r0_most v_r0_oneIn v_r0_lotsDone v_r0_lotsNone r0_days r0_fields_lefts r0_fields_wishes r0_weathers) H locs → lv_has ls 5 [(0, .ref a_r0), (1, .int y1_1), (2, .int y2_1), (3, .int e_4)] → W p l e (rmd 2) s m ([.ref a_r0] : List Value).toArray below meth c H locs 0 0 Q (F0 m 64 ls []) := by
          intro e_4 hE H locs ls hW hl
          subst hE; have hr := hk_4
          refine lv_iload_n hx hb d_Har_leastCut_64 rfl (lv_at hl 1 rfl) ?_
          refine lv_iload_n hx hb d_Har_leastCut_65 rfl (lv_at hl 3 rfl) ?_
          refine k_mmin C qm_Har_39 ⟨Nat.le_of_ble_eq_true rfl, Nat.le_of_ble_eq_true rfl, Nat.zero_le _, Nat.zero_le _⟩ hl.1 d_Har_leastCut_66 ?_
          refine lv_istore_n (lv' := [(1, .int (if e_4 < y1_1 then e_4 else y1_1)), (0, .ref a_r0), (2, .int y2_1), (3, .int e_4)]) hx hb d_Har_leastCut_69 rfl hl (by decide) rfl (fun ls hl => ?_)
          refine lv_iinc (v := (y2_1 + 1)) (lv' := [(2, .int (y2_1 + 1)), (1, .int (if e_4 < y1_1 then e_4 else y1_1)), (0, .ref a_r0), (3, .int e_4)]) hx hb d_Har_leastCut_70 hl (k := 2) rfl rfl (by decide) rfl (fun ls hl => ?_)
          refine lv_goto (tgt := 7) hx hb d_Har_leastCut_73 (by decide) ?_
          exact ih_1 (if e_4 < y1_1 then e_4 else y1_1) (y2_1 + 1) (hz1_1 _ (Option.some.inj hr).symm) _ _ _ hW (lv_sub hl [2, 1, 0] rfl)
        have hl_4 : ∀ (k : Nat) (y3_4 : Int32) (y4_4 : Int32), wh (fun (s : (Int32) × (Int32)) => F_Har_leastCut_L25 r0_days r0_fields_wishes r0_weathers y2_1 s.1 s.2) k (y3_4, y4_4) = some ex_4 → ∀ (H : Heap) (locs : List Loc) (ls : Array Slot), wd A s.heap D (w_Har_leastCut cI a_r0 a_r0_fields a_r0_fields_lefts a_r0_fields_wishes a_r0_weathers v_r0_path v_r0_best v_r0_counted v_r0_atMost v_r0_most v_r0_oneIn v_r0_lotsDone v_r0_lotsNone r0_days r0_fields_lefts r0_fields_wishes r0_weathers) H locs → lv_has ls 5 [(0, .ref a_r0), (1, .int y1_1), (2, .int y2_1), (3, .int y3_4), (4, .int y4_4)] → W p l e (rmd 2) s m ([.ref a_r0] : List Value).toArray below meth c H locs 0 0 Q (F0 m 25 ls []) := by
          intro k
          induction k with
          | zero => intro y3_4 y4_4 hw; exact absurd hw wh_0
          | succ k ih_4 =>
            intro y3_4 y4_4 hw H locs ls hW hl
            obtain ⟨z_4, hr, hz1_4, hz2_4⟩ := wh_s hw
            have hr : F_Har_leastCut_L25 r0_days r0_fields_wishes r0_weathers y2_1 y3_4 y4_4 = some z_4 := hr
            unfold F_Har_leastCut_L25 at hr
            refine lv_iload hx hb d_Har_leastCut_25 (lv_at hl 4 rfl) ?_
            refine lv_aload_n hx hb d_Har_leastCut_27 rfl (lv_at hl 0 rfl) ?_
            refine k_get i_Har C hW 0 rfl rfl 2 (by decide) qf_Har_48 rfl rfl d_Har_leastCut_28 ?_
            refine lv_icmp_ge (tgt := 64) hx hb d_Har_leastCut_31 (by decide) (fun c_5 => ?_) (fun c_5 => ?_)
            · replace hr := ip c_5 hr
              exact hx_4 _ (hz2_4 _ (Option.some.inj hr).symm) _ _ _ hW (lv_sub hl [0, 1, 2, 3] rfl)
            · replace hr := iN c_5 hr
              refine lv_aload_n hx hb d_Har_leastCut_34 rfl (lv_at hl 0 rfl) ?_
              refine k_get i_Har C hW 0 rfl rfl 0 (by decide) qf_Har_12 rfl rfl d_Har_leastCut_35 ?_
              refine lv_aload_n hx hb d_Har_leastCut_38 rfl (lv_at hl 0 rfl) ?_
              refine k_get i_Har C hW 0 rfl rfl 1 (by decide) qf_Har_18 rfl rfl d_Har_leastCut_39 ?_
              refine lv_iload hx hb d_Har_leastCut_42 (lv_at hl 4 rfl) ?_
              obtain ⟨h_6, hr⟩ := ck_some hr
              refine k_iald C hW 4 rfl h_6 d_Har_leastCut_44 ?_
              obtain ⟨q_7, hc_7, hr⟩ := ob hr
              have ct_7 := C_Fld_wishersOf l D cI cS a_r0_fields a_r0_fields_wishes (Value.ref a_r0_fields_lefts) r0_fields_wishes (r0_weathers (Int32.toNatClampNeg y4_4)) q_7 hc_7
              refine k_goIp hA hW [1, 3] rfl rfl (k_runV C hA hW mw_Fld_wishersOf mv_Fld_wishersOf (ct_7.2 _) [1, 3] rfl rfl 1 rfl rfl qm_Har_82 ⟨Nat.le_of_ble_eq_true rfl, Nat.le_of_ble_eq_true rfl, Nat.zero_le _, Nat.zero_le _⟩ rfl rfl (Nat.le_of_ble_eq_true rfl) hl.1 d_Har_leastCut_45) (fun H locs hW => ?_)
              refine lv_iload_n hx hb d_Har_leastCut_48 rfl (lv_at hl 2 rfl) ?_
              refine lv_iconst (v := (-1)) hx hb d_Har_leastCut_49 (by decide) ?_
              refine lv_ixor hx hb d_Har_leastCut_50 ?_
              refine lv_iand hx hb d_Har_leastCut_51 ?_
              refine lv_if_eq (tgt := 58) hx hb d_Har_leastCut_52 (by decide) (fun c_8 => ?_) (fun c_8 => ?_)
              · replace hr := ip c_8 hr
                refine lv_iinc (v := (y4_4 + 1)) (lv' := [(4, .int (y4_4 + 1)), (0, .ref a_r0), (1, .int y1_1), (2, .int y2_1), (3, .int y3_4)]) hx hb d_Har_leastCut_58 hl (k := 4) rfl rfl (by decide) rfl (fun ls hl => ?_)
                refine lv_goto (tgt := 25) hx hb d_Har_leastCut_61 (by decide) ?_
                exact ih_4 y3_4 (y4_4 + 1) (hz1_4 _ (Option.some.inj hr).symm) _ _ _ hW (lv_sub hl [1, 2, 3, 4, 0] rfl)
              · replace hr := iN c_8 hr
                refine lv_iinc (v := (y3_4 + 1)) (lv' := [(3, .int (y3_4 + 1)), (0, .ref a_r0), (1, .int y1_1), (2, .int y2_1), (4, .int y4_4)]) hx hb d_Har_leastCut_55 hl (k := 3) rfl rfl (by decide) rfl (fun ls hl => ?_)
                refine lv_iinc (v := (y4_4 + 1)) (lv' := [(4, .int (y4_4 + 1)), (3, .int (y3_4 + 1)), (0, .ref a_r0), (1, .int y1_1), (2, .int y2_1)]) hx hb d_Har_leastCut_58 hl (k := 4) rfl rfl (by decide) rfl (fun ls hl => ?_)
                refine lv_goto (tgt := 25) hx hb d_Har_leastCut_61 (by decide) ?_
                exact ih_4 (y3_4 + 1) (y4_4 + 1) (hz1_4 _ (Option.some.inj hr).symm) _ _ _ hW (lv_sub hl [2, 3, 4, 1, 0] rfl)
        exact hl_4 _ q_3 0 hw_4 _ _ _ hW (lv_sub hl [2, 3, 4, 1, 0] rfl)
  exact hl_1 _ r0_days 0 hw_1 _ _ _ hW (lv_sub hl [2, 1, 0] rfl)
def w_Har_findOrder (cI : ClassId) (a_r0 : Nat) (a_r0_best : Nat) (a_r0_fields : Nat) (a_r0_fields_lefts : Nat) (a_r0_fields_wishes : Nat) (a_r0_path : Nat) (a_r0_weathers : Nat) (a_r1 : Nat) (a_r1_fields : Nat) (a_r1_fields_lefts : Nat) (a_r1_fields_wishes : Nat) (a_r1_goes : Nat) (a_r1_hampers : Nat) (a_r1_weights : Nat) (v_r0_oneIn v_r0_lotsDone v_r0_lotsNone v_r1_kinds v_r1_figures v_r1_things v_r1_done : Value) (r0_atMost : Int32) (r0_counted : Int32) (r0_days : Int32) (r0_most : Int32) (r0_best : Nat → Int32) (r0_fields_lefts : Nat → Int32) (r0_fields_wishes : Nat → Int32) (r0_path : Nat → Int32) (r0_weathers : Nat → Int32) (r1_days : Int32) (r1_fields_lefts : Nat → Int32) (r1_fields_wishes : Nat → Int32) (r1_goes : Nat → Int32) (r1_hampers : Nat → Int32) (r1_weights : Nat → Int32) : va_W := [(a_r0, .inr (7, [.ref a_r0_fields, .ref a_r0_weathers, .int r0_days, .ref a_r0_path, .ref a_r0_best, .int r0_counted, .int r0_atMost, .int r0_most, v_r0_oneIn, v_r0_lotsDone, v_r0_lotsNone])), (a_r0_best, .inl (cI, 8, .inl r0_best)), (a_r0_fields, .inr (2, [.ref a_r0_fields_wishes, .ref a_r0_fields_lefts])), (a_r0_fields_lefts, .inl (cI, 4, .inl r0_fields_lefts)), (a_r0_fields_wishes, .inl (cI, 4, .inl r0_fields_wishes)), (a_r0_path, .inl (cI, 8, .inl r0_path)), (a_r0_weathers, .inl (cI, 8, .inl r0_weathers)), (a_r1, .inr (1, [.ref a_r1_weights, v_r1_kinds, v_r1_figures, .ref a_r1_goes, v_r1_things, .ref a_r1_hampers, .int r1_days, .ref a_r1_fields, v_r1_done])), (a_r1_fields, .inr (2, [.ref a_r1_fields_wishes, .ref a_r1_fields_lefts])), (a_r1_fields_lefts, .inl (cI, 4, .inl r1_fields_lefts)), (a_r1_fields_wishes, .inl (cI, 4, .inl r1_fields_wishes)), (a_r1_goes, .inl (cI, 8, .inl r1_goes)), (a_r1_hampers, .inl (cI, 8, .inl r1_hampers)), (a_r1_weights, .inl (cI, 6, .inl r1_weights))]
def F_Har_findOrder (r0_best : Nat → Int32) (r0_fields_lefts : Nat → Int32) (r0_fields_wishes : Nat → Int32) (r0_path : Nat → Int32) (r0_weathers : Nat → Int32) (r1_days : Int32) (r1_fields_lefts : Nat → Int32) (r1_fields_wishes : Nat → Int32) (r1_goes : Nat → Int32) (r1_hampers : Nat → Int32) (r1_weights : Nat → Int32) (x2 : Int32) : Option ((Int32) × (Int32) × (Int32) × (Int32) × (Nat → Int32) × (Nat → Int32) × (Nat → Int32) × (Nat → Int32) × (Nat → Int32)) :=
  ((F_Har_begin r0_fields_lefts r0_fields_wishes r0_weathers r1_days r1_fields_lefts r1_fields_wishes r1_goes r1_hampers r1_weights).bind (fun q_1 => ((F_Har_leastCut q_1.1 q_1.2.1 q_1.2.2.1 q_1.2.2.2).bind (fun q_2 => ((F_Har_extendPath 10 q_2 (if q_1.1 < x2 then q_1.1 else x2) q_1.1 (-1) r0_best q_1.2.1 q_1.2.2.1 r0_path q_1.2.2.2 (0 : Int32) (0 : Int32) (0 : Int32)).bind (fun q_3 => (some (q_2, (if q_1.1 < x2 then q_1.1 else x2), q_1.1, q_3.1, q_3.2.1, q_3.2.2.1, q_1.2.2.1, q_3.2.2.2, q_1.2.2.2))))))))
set_option maxHeartbeats 4000000 in
set_option maxRecDepth 100000 in
theorem C_Har_findOrder (l : Launch) (D : va_G) (cI cS : ClassId) (a_r0 : Nat) (a_r0_best : Nat) (a_r0_fields : Nat) (a_r0_fields_lefts : Nat) (a_r0_fields_wishes : Nat) (a_r0_path : Nat) (a_r0_weathers : Nat) (a_r1 : Nat) (a_r1_fields : Nat) (a_r1_fields_lefts : Nat) (a_r1_fields_wishes : Nat) (a_r1_goes : Nat) (a_r1_hampers : Nat) (a_r1_weights : Nat) (v_r0_oneIn v_r0_lotsDone v_r0_lotsNone v_r1_kinds v_r1_figures v_r1_things v_r1_done : Value) (r0_atMost : Int32) (r0_counted : Int32) (r0_days : Int32) (r0_most : Int32) (r0_best : Nat → Int32) (r0_fields_lefts : Nat → Int32) (r0_fields_wishes : Nat → Int32) (r0_path : Nat → Int32) (r0_weathers : Nat → Int32) (r1_days : Int32) (r1_fields_lefts : Nat → Int32) (r1_fields_wishes : Nat → Int32) (r1_goes : Nat → Int32) (r1_hampers : Nat → Int32) (r1_weights : Nat → Int32) (x2 : Int32) (o : (Int32) × (Int32) × (Int32) × (Int32) × (Nat → Int32) × (Nat → Int32) × (Nat → Int32) × (Nat → Int32) × (Nat → Int32)) (hr : F_Har_findOrder r0_best r0_fields_lefts r0_fields_wishes r0_path r0_weathers r1_days r1_fields_lefts r1_fields_wishes r1_goes r1_hampers r1_weights x2 = some o) : ctV l y_Har_findOrder (Cond.code y_Har_findOrder b_Har_findOrder 3 none) (rmd 14) D (kTy cI cS) [.ref a_r0, .ref a_r1, .int x2] (w_Har_findOrder cI a_r0 a_r0_best a_r0_fields a_r0_fields_lefts a_r0_fields_wishes a_r0_path a_r0_weathers a_r1 a_r1_fields a_r1_fields_lefts a_r1_fields_wishes a_r1_goes a_r1_hampers a_r1_weights v_r0_oneIn v_r0_lotsDone v_r0_lotsNone v_r1_kinds v_r1_figures v_r1_things v_r1_done r0_atMost r0_counted r0_days r0_most r0_best r0_fields_lefts r0_fields_wishes r0_path r0_weathers r1_days r1_fields_lefts r1_fields_wishes r1_goes r1_hampers r1_weights) (w_Har_findOrder cI a_r0 a_r0_best a_r0_fields a_r0_fields_lefts a_r0_fields_wishes a_r0_path a_r0_weathers a_r1 a_r1_fields a_r1_fields_lefts a_r1_fields_wishes a_r1_goes a_r1_hampers a_r1_weights v_r0_oneIn v_r0_lotsDone v_r0_lotsNone v_r1_kinds v_r1_figures v_r1_things v_r1_done o.1 o.2.1 o.2.2.1 o.2.2.2.1 o.2.2.2.2.1 o.2.2.2.2.2.1 o.2.2.2.2.2.2.1 o.2.2.2.2.2.2.2.1 o.2.2.2.2.2.2.2.2 r1_days r1_fields_lefts r1_fields_wishes r1_goes r1_hampers r1_weights) := by
  unfold F_Har_findOrder at hr
  refine ⟨rfl, fun sz => ct_of (w0 := (w_Har_findOrder cI a_r0 a_r0_best a_r0_fields a_r0_fields_lefts a_r0_fields_wishes a_r0_path a_r0_weathers a_r1 a_r1_fields a_r1_fields_lefts a_r1_fields_wishes a_r1_goes a_r1_hampers a_r1_weights v_r0_oneIn v_r0_lotsDone v_r0_lotsNone v_r1_kinds v_r1_figures v_r1_things v_r1_done r0_atMost r0_counted r0_days r0_most r0_best r0_fields_lefts r0_fields_wishes r0_path r0_weathers r1_days r1_fields_lefts r1_fields_wishes r1_goes r1_hampers r1_weights)) (Qc := fun A => qV D (w_Har_findOrder cI a_r0 a_r0_best a_r0_fields a_r0_fields_lefts a_r0_fields_wishes a_r0_path a_r0_weathers a_r1 a_r1_fields a_r1_fields_lefts a_r1_fields_wishes a_r1_goes a_r1_hampers a_r1_weights v_r0_oneIn v_r0_lotsDone v_r0_lotsNone v_r1_kinds v_r1_figures v_r1_things v_r1_done o.1 o.2.1 o.2.2.1 o.2.2.2.1 o.2.2.2.2.1 o.2.2.2.2.2.1 o.2.2.2.2.2.2.1 o.2.2.2.2.2.2.2.1 o.2.2.2.2.2.2.2.2 r1_days r1_fields_lefts r1_fields_wishes r1_goes r1_hampers r1_weights) A) rfl (Nat.le_of_ble_eq_true rfl) ?_ sz⟩
  intro p e s m below meth c A hA C hret ls hl hW
  have C : cx p s m ([.ref a_r0, .ref a_r1, .int x2] : List Value).toArray meth c b_Har_findOrder 3 R_Har D (kTy cI cS) (Cond.code y_Har_findOrder b_Har_findOrder 3 none) := C
  obtain ⟨hx, hb, hml, hown, hts, hK, hlk, hN⟩ := id C
  have hl : lv_has ls 3 [(0, .ref a_r0), (1, .ref a_r1), (2, .int x2)] := hl
  obtain ⟨Q, hQ⟩ : ∃ Q, Q = MQ below (qV D (w_Har_findOrder cI a_r0 a_r0_best a_r0_fields a_r0_fields_lefts a_r0_fields_wishes a_r0_path a_r0_weathers a_r1 a_r1_fields a_r1_fields_lefts a_r1_fields_wishes a_r1_goes a_r1_hampers a_r1_weights v_r0_oneIn v_r0_lotsDone v_r0_lotsNone v_r1_kinds v_r1_figures v_r1_things v_r1_done o.1 o.2.1 o.2.2.1 o.2.2.2.1 o.2.2.2.2.1 o.2.2.2.2.2.1 o.2.2.2.2.2.2.1 o.2.2.2.2.2.2.2.1 o.2.2.2.2.2.2.2.2 r1_days r1_fields_lefts r1_fields_wishes r1_goes r1_hampers r1_weights) A) ([.ref a_r0, .ref a_r1, .int x2] : List Value).toArray s 0 0 A := ⟨_, rfl⟩
  rw [← hQ]
  refine lv_aload_n hx hb d_Har_findOrder_0 rfl (lv_at hl 0 rfl) ?_
  refine lv_aload_n hx hb d_Har_findOrder_1 rfl (lv_at hl 1 rfl) ?_
  obtain ⟨q_1, hc_1, hr⟩ := ob hr
  have ct_1 := C_Har_begin l D cI cS a_r0 a_r0_fields a_r0_fields_lefts a_r0_fields_wishes a_r0_weathers a_r1 a_r1_fields a_r1_fields_lefts a_r1_fields_wishes a_r1_goes a_r1_hampers a_r1_weights (Value.ref a_r0_path) (Value.ref a_r0_best) (Value.int r0_counted) (Value.int r0_atMost) (Value.int r0_most) v_r0_oneIn v_r0_lotsDone v_r0_lotsNone v_r1_kinds v_r1_figures v_r1_things v_r1_done r0_days r0_fields_lefts r0_fields_wishes r0_weathers r1_days r1_fields_lefts r1_fields_wishes r1_goes r1_hampers r1_weights q_1 hc_1
  refine k_goV hA hW [0, 2, 3, 4, 6, 7, 8, 9, 10, 11, 12, 13] rfl ct_1.1 (ws' := (w_Har_findOrder cI a_r0 a_r0_best a_r0_fields a_r0_fields_lefts a_r0_fields_wishes a_r0_path a_r0_weathers a_r1 a_r1_fields a_r1_fields_lefts a_r1_fields_wishes a_r1_goes a_r1_hampers a_r1_weights v_r0_oneIn v_r0_lotsDone v_r0_lotsNone v_r1_kinds v_r1_figures v_r1_things v_r1_done r0_atMost r0_counted q_1.1 r0_most r0_best q_1.2.1 q_1.2.2.1 r0_path q_1.2.2.2 r1_days r1_fields_lefts r1_fields_wishes r1_goes r1_hampers r1_weights)) rfl (k_runV C hA hW mw_Har_begin mv_Har_begin (ct_1.2 _) [0, 2, 3, 4, 6, 7, 8, 9, 10, 11, 12, 13] rfl rfl 0 rfl rfl qm_Har_60 ⟨Nat.le_of_ble_eq_true rfl, Nat.le_of_ble_eq_true rfl, Nat.zero_le _, Nat.zero_le _⟩ rfl rfl (Nat.le_of_ble_eq_true rfl) hl.1 d_Har_findOrder_2) (fun H locs hW => ?_)
  refine lv_aload_n hx hb d_Har_findOrder_5 rfl (lv_at hl 0 rfl) ?_
  refine lv_iload_n hx hb d_Har_findOrder_6 rfl (lv_at hl 2 rfl) ?_
  refine lv_aload_n hx hb d_Har_findOrder_7 rfl (lv_at hl 0 rfl) ?_
  refine k_get i_Har C hW 0 rfl rfl 2 (by decide) qf_Har_48 rfl rfl d_Har_findOrder_8 ?_
  refine k_mmin C qm_Har_39 ⟨Nat.le_of_ble_eq_true rfl, Nat.le_of_ble_eq_true rfl, Nat.zero_le _, Nat.zero_le _⟩ hl.1 d_Har_findOrder_11 ?_
  refine k_put i_Har t_Har_ok n_Har C hW 0 rfl rfl 5 (by decide) qf_Har_85 rfl rfl (ty := .int) rfl rfl rfl (Nat.le_of_ble_eq_true rfl) (ws' := (w_Har_findOrder cI a_r0 a_r0_best a_r0_fields a_r0_fields_lefts a_r0_fields_wishes a_r0_path a_r0_weathers a_r1 a_r1_fields a_r1_fields_lefts a_r1_fields_wishes a_r1_goes a_r1_hampers a_r1_weights v_r0_oneIn v_r0_lotsDone v_r0_lotsNone v_r1_kinds v_r1_figures v_r1_things v_r1_done r0_atMost (if q_1.1 < x2 then q_1.1 else x2) q_1.1 r0_most r0_best q_1.2.1 q_1.2.2.1 r0_path q_1.2.2.2 r1_days r1_fields_lefts r1_fields_wishes r1_goes r1_hampers r1_weights)) rfl d_Har_findOrder_14 (fun H locs hW => ?_)
  refine lv_aload_n hx hb d_Har_findOrder_17 rfl (lv_at hl 0 rfl) ?_
  refine lv_aload_n hx hb d_Har_findOrder_18 rfl (lv_at hl 0 rfl) ?_
  obtain ⟨q_2, hc_2, hr⟩ := ob hr
  have ct_2 := C_Har_leastCut l D cI cS a_r0 a_r0_fields a_r0_fields_lefts a_r0_fields_wishes a_r0_weathers (Value.ref a_r0_path) (Value.ref a_r0_best) (Value.int (if q_1.1 < x2 then q_1.1 else x2)) (Value.int r0_atMost) (Value.int r0_most) v_r0_oneIn v_r0_lotsDone v_r0_lotsNone q_1.1 q_1.2.1 q_1.2.2.1 q_1.2.2.2 q_2 hc_2
  refine k_goIp hA hW [0, 2, 3, 4, 6] rfl rfl (k_runV C hA hW mw_Har_leastCut mv_Har_leastCut (ct_2.2 _) [0, 2, 3, 4, 6] rfl rfl 0 rfl rfl qm_Har_75 ⟨Nat.le_of_ble_eq_true rfl, Nat.le_of_ble_eq_true rfl, Nat.zero_le _, Nat.zero_le _⟩ rfl rfl (Nat.le_of_ble_eq_true rfl) hl.1 d_Har_findOrder_19) (fun H locs hW => ?_)
  refine k_put i_Har t_Har_ok n_Har C hW 0 rfl rfl 6 (by decide) qf_Har_88 rfl rfl (ty := .int) rfl rfl rfl (Nat.le_of_ble_eq_true rfl) (ws' := (w_Har_findOrder cI a_r0 a_r0_best a_r0_fields a_r0_fields_lefts a_r0_fields_wishes a_r0_path a_r0_weathers a_r1 a_r1_fields a_r1_fields_lefts a_r1_fields_wishes a_r1_goes a_r1_hampers a_r1_weights v_r0_oneIn v_r0_lotsDone v_r0_lotsNone v_r1_kinds v_r1_figures v_r1_things v_r1_done q_2 (if q_1.1 < x2 then q_1.1 else x2) q_1.1 r0_most r0_best q_1.2.1 q_1.2.2.1 r0_path q_1.2.2.2 r1_days r1_fields_lefts r1_fields_wishes r1_goes r1_hampers r1_weights)) rfl d_Har_findOrder_22 (fun H locs hW => ?_)
  refine lv_aload_n hx hb d_Har_findOrder_25 rfl (lv_at hl 0 rfl) ?_
  refine lv_iconst (v := (-1)) hx hb d_Har_findOrder_26 (by decide) ?_
  refine k_put i_Har t_Har_ok n_Har C hW 0 rfl rfl 7 (by decide) qf_Har_91 rfl rfl (ty := .int) rfl rfl rfl (Nat.le_of_ble_eq_true rfl) (ws' := (w_Har_findOrder cI a_r0 a_r0_best a_r0_fields a_r0_fields_lefts a_r0_fields_wishes a_r0_path a_r0_weathers a_r1 a_r1_fields a_r1_fields_lefts a_r1_fields_wishes a_r1_goes a_r1_hampers a_r1_weights v_r0_oneIn v_r0_lotsDone v_r0_lotsNone v_r1_kinds v_r1_figures v_r1_things v_r1_done q_2 (if q_1.1 < x2 then q_1.1 else x2) q_1.1 (-1) r0_best q_1.2.1 q_1.2.2.1 r0_path q_1.2.2.2 r1_days r1_fields_lefts r1_fields_wishes r1_goes r1_hampers r1_weights)) rfl d_Har_findOrder_27 (fun H locs hW => ?_)
  refine lv_aload_n hx hb d_Har_findOrder_30 rfl (lv_at hl 0 rfl) ?_
  refine lv_iconst (v := 0) hx hb d_Har_findOrder_31 (by decide) ?_
  refine lv_iconst (v := 0) hx hb d_Har_findOrder_32 (by decide) ?_
  refine lv_iconst (v := 0) hx hb d_Har_findOrder_33 (by decide) ?_
  obtain ⟨q_3, hc_3, hr⟩ := ob hr
  have ct_3 := C_Har_extendPath l D cI cS 10 a_r0 a_r0_best a_r0_fields a_r0_fields_lefts a_r0_fields_wishes a_r0_path a_r0_weathers v_r0_oneIn v_r0_lotsDone v_r0_lotsNone q_2 (if q_1.1 < x2 then q_1.1 else x2) q_1.1 (-1) r0_best q_1.2.1 q_1.2.2.1 r0_path q_1.2.2.2 0 0 0 q_3 hc_3
  refine k_goV hA hW [0, 1, 2, 3, 4, 5, 6] rfl ct_3.1 (ws' := (w_Har_findOrder cI a_r0 a_r0_best a_r0_fields a_r0_fields_lefts a_r0_fields_wishes a_r0_path a_r0_weathers a_r1 a_r1_fields a_r1_fields_lefts a_r1_fields_wishes a_r1_goes a_r1_hampers a_r1_weights v_r0_oneIn v_r0_lotsDone v_r0_lotsNone v_r1_kinds v_r1_figures v_r1_things v_r1_done q_2 (if q_1.1 < x2 then q_1.1 else x2) q_1.1 q_3.1 q_3.2.1 q_3.2.2.1 q_1.2.2.1 q_3.2.2.2 q_1.2.2.2 r1_days r1_fields_lefts r1_fields_wishes r1_goes r1_hampers r1_weights)) rfl (k_runS C hA hW mw_Har_extendPath ms_Har_extendPath (ct_3.2 _) [0, 1, 2, 3, 4, 5, 6] rfl rfl qm_Har_94 ⟨Nat.le_of_ble_eq_true rfl, Nat.le_of_ble_eq_true rfl, Nat.zero_le _, Nat.zero_le _⟩ rfl rfl (Nat.le_of_ble_eq_true rfl) hl.1 d_Har_findOrder_34) (fun H locs hW => ?_)
  obtain rfl := Option.some.inj hr
  rw [hQ]; exact k_vret C hret hW d_Har_findOrder_37
def w_Har_gather (cI : ClassId) (a_r0 : Nat) (a_r0_fields : Nat) (a_r0_fields_lefts : Nat) (a_r0_fields_wishes : Nat) (a_r0_weathers : Nat) (a_r1 : Nat) (a_r1_fields : Nat) (a_r1_fields_lefts : Nat) (a_r1_fields_wishes : Nat) (a_r1_goes : Nat) (a_r1_hampers : Nat) (a_r1_weights : Nat) (v_r0_path v_r0_best v_r0_counted v_r0_atMost v_r0_most v_r0_oneIn v_r0_lotsDone v_r0_lotsNone v_r1_kinds v_r1_figures v_r1_things v_r1_done : Value) (r0_days : Int32) (r0_fields_lefts : Nat → Int32) (r0_fields_wishes : Nat → Int32) (r0_weathers : Nat → Int32) (r1_days : Int32) (r1_fields_lefts : Nat → Int32) (r1_fields_wishes : Nat → Int32) (r1_goes : Nat → Int32) (r1_hampers : Nat → Int32) (r1_weights : Nat → Int32) : va_W := [(a_r0, .inr (7, [.ref a_r0_fields, .ref a_r0_weathers, .int r0_days, v_r0_path, v_r0_best, v_r0_counted, v_r0_atMost, v_r0_most, v_r0_oneIn, v_r0_lotsDone, v_r0_lotsNone])), (a_r0_fields, .inr (2, [.ref a_r0_fields_wishes, .ref a_r0_fields_lefts])), (a_r0_fields_lefts, .inl (cI, 4, .inl r0_fields_lefts)), (a_r0_fields_wishes, .inl (cI, 4, .inl r0_fields_wishes)), (a_r0_weathers, .inl (cI, 8, .inl r0_weathers)), (a_r1, .inr (1, [.ref a_r1_weights, v_r1_kinds, v_r1_figures, .ref a_r1_goes, v_r1_things, .ref a_r1_hampers, .int r1_days, .ref a_r1_fields, v_r1_done])), (a_r1_fields, .inr (2, [.ref a_r1_fields_wishes, .ref a_r1_fields_lefts])), (a_r1_fields_lefts, .inl (cI, 4, .inl r1_fields_lefts)), (a_r1_fields_wishes, .inl (cI, 4, .inl r1_fields_wishes)), (a_r1_goes, .inl (cI, 8, .inl r1_goes)), (a_r1_hampers, .inl (cI, 8, .inl r1_hampers)), (a_r1_weights, .inl (cI, 6, .inl r1_weights))]
def F_Har_gather_L10 (q_1 : (Int32) × (Nat → Int32) × (Nat → Int32) × (Nat → Int32)) (x2 : Int32) (y3_2 : Int32) (y4_2 : Int32) (r0_fields_lefts_2 : Nat → Int32) : Option (((Int32) × (Int32) × (Nat → Int32)) ⊕ ((Int32) × (Nat → Int32))) :=
  (if q_1.1 ≤ y4_2 then (some (.inr (y3_2, r0_fields_lefts_2))) else ((F_H_holds x2 y4_2).bind (fun q_4 => (if q_4 = 0 then (ck y4_2 8 ((F_Fld_work r0_fields_lefts_2 q_1.2.2.1 (q_1.2.2.2 (Int32.toNatClampNeg y4_2))).bind (fun q_7 => (if q_7.1 < 0 then (some (.inl (y3_2, (y4_2 + 1), q_7.2))) else (some (.inl ((y3_2 + 1), (y4_2 + 1), q_7.2))))))) else (some (.inl (y3_2, (y4_2 + 1), r0_fields_lefts_2)))))))
def F_Har_gather (r0_fields_lefts : Nat → Int32) (r0_fields_wishes : Nat → Int32) (r0_weathers : Nat → Int32) (r1_days : Int32) (r1_fields_lefts : Nat → Int32) (r1_fields_wishes : Nat → Int32) (r1_goes : Nat → Int32) (r1_hampers : Nat → Int32) (r1_weights : Nat → Int32) (x2 : Int32) : Option (Int32 × (Int32) × (Nat → Int32) × (Nat → Int32) × (Nat → Int32)) :=
  ((F_Har_begin r0_fields_lefts r0_fields_wishes r0_weathers r1_days r1_fields_lefts r1_fields_wishes r1_goes r1_hampers r1_weights).bind (fun q_1 => ((wh (fun (s : (Int32) × (Int32) × (Nat → Int32)) => F_Har_gather_L10 q_1 x2 s.1 s.2.1 s.2.2) 400 ((0 : Int32), (0 : Int32), q_1.2.1)).bind (fun e_2 => (some (e_2.1, q_1.1, e_2.2, q_1.2.2.1, q_1.2.2.2))))))
set_option maxHeartbeats 4000000 in
set_option maxRecDepth 100000 in
theorem C_Har_gather (l : Launch) (D : va_G) (cI cS : ClassId) (a_r0 : Nat) (a_r0_fields : Nat) (a_r0_fields_lefts : Nat) (a_r0_fields_wishes : Nat) (a_r0_weathers : Nat) (a_r1 : Nat) (a_r1_fields : Nat) (a_r1_fields_lefts : Nat) (a_r1_fields_wishes : Nat) (a_r1_goes : Nat) (a_r1_hampers : Nat) (a_r1_weights : Nat) (v_r0_path v_r0_best v_r0_counted v_r0_atMost v_r0_most v_r0_oneIn v_r0_lotsDone v_r0_lotsNone v_r1_kinds v_r1_figures v_r1_things v_r1_done : Value) (r0_days : Int32) (r0_fields_lefts : Nat → Int32) (r0_fields_wishes : Nat → Int32) (r0_weathers : Nat → Int32) (r1_days : Int32) (r1_fields_lefts : Nat → Int32) (r1_fields_wishes : Nat → Int32) (r1_goes : Nat → Int32) (r1_hampers : Nat → Int32) (r1_weights : Nat → Int32) (x2 : Int32) (o : Int32 × (Int32) × (Nat → Int32) × (Nat → Int32) × (Nat → Int32)) (hr : F_Har_gather r0_fields_lefts r0_fields_wishes r0_weathers r1_days r1_fields_lefts r1_fields_wishes r1_goes r1_hampers r1_weights x2 = some o) : ctI l y_Har_gather (Cond.code y_Har_gather b_Har_gather 5 (some FieldType.int)) (rmd 4) D (kTy cI cS) [.ref a_r0, .ref a_r1, .int x2] (w_Har_gather cI a_r0 a_r0_fields a_r0_fields_lefts a_r0_fields_wishes a_r0_weathers a_r1 a_r1_fields a_r1_fields_lefts a_r1_fields_wishes a_r1_goes a_r1_hampers a_r1_weights v_r0_path v_r0_best v_r0_counted v_r0_atMost v_r0_most v_r0_oneIn v_r0_lotsDone v_r0_lotsNone v_r1_kinds v_r1_figures v_r1_things v_r1_done r0_days r0_fields_lefts r0_fields_wishes r0_weathers r1_days r1_fields_lefts r1_fields_wishes r1_goes r1_hampers r1_weights) (w_Har_gather cI a_r0 a_r0_fields a_r0_fields_lefts a_r0_fields_wishes a_r0_weathers a_r1 a_r1_fields a_r1_fields_lefts a_r1_fields_wishes a_r1_goes a_r1_hampers a_r1_weights v_r0_path v_r0_best v_r0_counted v_r0_atMost v_r0_most v_r0_oneIn v_r0_lotsDone v_r0_lotsNone v_r1_kinds v_r1_figures v_r1_things v_r1_done o.2.1 o.2.2.1 o.2.2.2.1 o.2.2.2.2 r1_days r1_fields_lefts r1_fields_wishes r1_goes r1_hampers r1_weights) o.1 := by
  unfold F_Har_gather at hr
  refine ⟨rfl, fun sz => ct_of (w0 := (w_Har_gather cI a_r0 a_r0_fields a_r0_fields_lefts a_r0_fields_wishes a_r0_weathers a_r1 a_r1_fields a_r1_fields_lefts a_r1_fields_wishes a_r1_goes a_r1_hampers a_r1_weights v_r0_path v_r0_best v_r0_counted v_r0_atMost v_r0_most v_r0_oneIn v_r0_lotsDone v_r0_lotsNone v_r1_kinds v_r1_figures v_r1_things v_r1_done r0_days r0_fields_lefts r0_fields_wishes r0_weathers r1_days r1_fields_lefts r1_fields_wishes r1_goes r1_hampers r1_weights)) (Qc := fun A => qI D (w_Har_gather cI a_r0 a_r0_fields a_r0_fields_lefts a_r0_fields_wishes a_r0_weathers a_r1 a_r1_fields a_r1_fields_lefts a_r1_fields_wishes a_r1_goes a_r1_hampers a_r1_weights v_r0_path v_r0_best v_r0_counted v_r0_atMost v_r0_most v_r0_oneIn v_r0_lotsDone v_r0_lotsNone v_r1_kinds v_r1_figures v_r1_things v_r1_done o.2.1 o.2.2.1 o.2.2.2.1 o.2.2.2.2 r1_days r1_fields_lefts r1_fields_wishes r1_goes r1_hampers r1_weights) o.1 A) rfl (Nat.le_of_ble_eq_true rfl) ?_ sz⟩
  intro p e s m below meth c A hA C hret ls hl hW
  have C : cx p s m ([.ref a_r0, .ref a_r1, .int x2] : List Value).toArray meth c b_Har_gather 5 R_Har D (kTy cI cS) (Cond.code y_Har_gather b_Har_gather 5 (some FieldType.int)) := C
  obtain ⟨hx, hb, hml, hown, hts, hK, hlk, hN⟩ := id C
  have hl : lv_has ls 5 [(0, .ref a_r0), (1, .ref a_r1), (2, .int x2)] := hl
  obtain ⟨Q, hQ⟩ : ∃ Q, Q = MQ below (qI D (w_Har_gather cI a_r0 a_r0_fields a_r0_fields_lefts a_r0_fields_wishes a_r0_weathers a_r1 a_r1_fields a_r1_fields_lefts a_r1_fields_wishes a_r1_goes a_r1_hampers a_r1_weights v_r0_path v_r0_best v_r0_counted v_r0_atMost v_r0_most v_r0_oneIn v_r0_lotsDone v_r0_lotsNone v_r1_kinds v_r1_figures v_r1_things v_r1_done o.2.1 o.2.2.1 o.2.2.2.1 o.2.2.2.2 r1_days r1_fields_lefts r1_fields_wishes r1_goes r1_hampers r1_weights) o.1 A) ([.ref a_r0, .ref a_r1, .int x2] : List Value).toArray s 0 0 A := ⟨_, rfl⟩
  rw [← hQ]
  refine lv_aload_n hx hb d_Har_gather_0 rfl (lv_at hl 0 rfl) ?_
  refine lv_aload_n hx hb d_Har_gather_1 rfl (lv_at hl 1 rfl) ?_
  obtain ⟨q_1, hc_1, hr⟩ := ob hr
  have ct_1 := C_Har_begin l D cI cS a_r0 a_r0_fields a_r0_fields_lefts a_r0_fields_wishes a_r0_weathers a_r1 a_r1_fields a_r1_fields_lefts a_r1_fields_wishes a_r1_goes a_r1_hampers a_r1_weights v_r0_path v_r0_best v_r0_counted v_r0_atMost v_r0_most v_r0_oneIn v_r0_lotsDone v_r0_lotsNone v_r1_kinds v_r1_figures v_r1_things v_r1_done r0_days r0_fields_lefts r0_fields_wishes r0_weathers r1_days r1_fields_lefts r1_fields_wishes r1_goes r1_hampers r1_weights q_1 hc_1
  refine k_goV hA hW [0, 1, 2, 3, 4, 5, 6, 7, 8, 9, 10, 11] rfl ct_1.1 (ws' := (w_Har_gather cI a_r0 a_r0_fields a_r0_fields_lefts a_r0_fields_wishes a_r0_weathers a_r1 a_r1_fields a_r1_fields_lefts a_r1_fields_wishes a_r1_goes a_r1_hampers a_r1_weights v_r0_path v_r0_best v_r0_counted v_r0_atMost v_r0_most v_r0_oneIn v_r0_lotsDone v_r0_lotsNone v_r1_kinds v_r1_figures v_r1_things v_r1_done q_1.1 q_1.2.1 q_1.2.2.1 q_1.2.2.2 r1_days r1_fields_lefts r1_fields_wishes r1_goes r1_hampers r1_weights)) rfl (k_runV C hA hW mw_Har_begin mv_Har_begin (ct_1.2 _) [0, 1, 2, 3, 4, 5, 6, 7, 8, 9, 10, 11] rfl rfl 0 rfl rfl qm_Har_60 ⟨Nat.le_of_ble_eq_true rfl, Nat.le_of_ble_eq_true rfl, Nat.zero_le _, Nat.zero_le _⟩ rfl rfl (Nat.le_of_ble_eq_true rfl) hl.1 d_Har_gather_2) (fun H locs hW => ?_)
  refine lv_iconst (v := 0) hx hb d_Har_gather_5 (by decide) ?_
  refine lv_istore_n (lv' := [(3, .int 0), (0, .ref a_r0), (1, .ref a_r1), (2, .int x2)]) hx hb d_Har_gather_6 rfl hl (by decide) rfl (fun ls hl => ?_)
  refine lv_iconst (v := 0) hx hb d_Har_gather_7 (by decide) ?_
  refine lv_istore (lv' := [(4, .int 0), (3, .int 0), (0, .ref a_r0), (1, .ref a_r1), (2, .int x2)]) hx hb d_Har_gather_8 hl (by decide) rfl (fun ls hl => ?_)
  obtain ⟨ex_2, hw_2, hk_2⟩ := ob hr
  have hx_2 : ∀ (e_2 : (Int32) × (Nat → Int32)), e_2 = ex_2 → ∀ (H : Heap) (locs : List Loc) (ls : Array Slot), wd A s.heap D (w_Har_gather cI a_r0 a_r0_fields a_r0_fields_lefts a_r0_fields_wishes a_r0_weathers a_r1 a_r1_fields a_r1_fields_lefts a_r1_fields_wishes a_r1_goes a_r1_hampers a_r1_weights v_r0_path v_r0_best v_r0_counted v_r0_atMost v_r0_most v_r0_oneIn v_r0_lotsDone v_r0_lotsNone v_r1_kinds v_r1_figures v_r1_things v_r1_done q_1.1 e_2.2 q_1.2.2.1 q_1.2.2.2 r1_days r1_fields_lefts r1_fields_wishes r1_goes r1_hampers r1_weights) H locs → lv_has ls 5 [(3, .int e_2.1)] → W p l e (rmd 4) s m ([.ref a_r0, .ref a_r1, .int x2] : List Value).toArray below meth c H locs 0 0 Q (F0 m 54 ls []) := by
    intro e_2 hE H locs ls hW hl
    subst hE; have hr := hk_2
    refine lv_iload_n hx hb d_Har_gather_54 rfl (lv_at hl 0 rfl) ?_
    obtain rfl := Option.some.inj hr
    rw [hQ]; exact k_iret C hret hW d_Har_gather_55
  have hl_2 : ∀ (k : Nat) (y3_2 : Int32) (y4_2 : Int32) (r0_fields_lefts_2 : Nat → Int32), wh (fun (s : (Int32) × (Int32) × (Nat → Int32)) => F_Har_gather_L10 q_1 x2 s.1 s.2.1 s.2.2) k (y3_2, y4_2, r0_fields_lefts_2) = some ex_2 → ∀ (H : Heap) (locs : List Loc) (ls : Array Slot), wd A s.heap D (w_Har_gather cI a_r0 a_r0_fields a_r0_fields_lefts a_r0_fields_wishes a_r0_weathers a_r1 a_r1_fields a_r1_fields_lefts a_r1_fields_wishes a_r1_goes a_r1_hampers a_r1_weights v_r0_path v_r0_best v_r0_counted v_r0_atMost v_r0_most v_r0_oneIn v_r0_lotsDone v_r0_lotsNone v_r1_kinds v_r1_figures v_r1_things v_r1_done q_1.1 r0_fields_lefts_2 q_1.2.2.1 q_1.2.2.2 r1_days r1_fields_lefts r1_fields_wishes r1_goes r1_hampers r1_weights) H locs → lv_has ls 5 [(0, .ref a_r0), (2, .int x2), (3, .int y3_2), (4, .int y4_2)] → W p l e (rmd 4) s m ([.ref a_r0, .ref a_r1, .int x2] : List Value).toArray below meth c H locs 0 0 Q (F0 m 10 ls []) := by
    intro k
    induction k with
    | zero => intro y3_2 y4_2 r0_fields_lefts_2 hw; exact absurd hw wh_0
    | succ k ih_2 =>
      intro y3_2 y4_2 r0_fields_lefts_2 hw H locs ls hW hl
      obtain ⟨z_2, hr, hz1_2, hz2_2⟩ := wh_s hw
      have hr : F_Har_gather_L10 q_1 x2 y3_2 y4_2 r0_fields_lefts_2 = some z_2 := hr
      unfold F_Har_gather_L10 at hr
      refine lv_iload hx hb d_Har_gather_10 (lv_at hl 3 rfl) ?_
      refine lv_aload_n hx hb d_Har_gather_12 rfl (lv_at hl 0 rfl) ?_
      refine k_get i_Har C hW 0 rfl rfl 2 (by decide) qf_Har_48 rfl rfl d_Har_gather_13 ?_
      refine lv_icmp_ge (tgt := 54) hx hb d_Har_gather_16 (by decide) (fun c_3 => ?_) (fun c_3 => ?_)
      · replace hr := ip c_3 hr
        exact hx_2 _ (hz2_2 _ (Option.some.inj hr).symm) _ _ _ hW (lv_sub hl [2] rfl)
      · replace hr := iN c_3 hr
        refine lv_iload_n hx hb d_Har_gather_19 rfl (lv_at hl 1 rfl) ?_
        refine lv_iload hx hb d_Har_gather_20 (lv_at hl 3 rfl) ?_
        obtain ⟨q_4, hc_4, hr⟩ := ob hr
        have ct_4 := C_H_holds l D cI cS x2 y4_2 q_4 hc_4
        refine k_goIp hA hW [] rfl rfl (k_runSN C hA hW mw_H_holds ms_H_holds (ct_4.2 _) [] rfl rfl qm_Har_64 ⟨Nat.le_of_ble_eq_true rfl, Nat.le_of_ble_eq_true rfl, Nat.zero_le _, Nat.zero_le _⟩ rfl rfl (Nat.le_of_ble_eq_true rfl) hl.1 d_Har_gather_22) (fun H locs hW => ?_)
        refine lv_if_ne (tgt := 48) hx hb d_Har_gather_25 (by decide) (fun c_5 => ?_) (fun c_5 => ?_)
        · replace hr := iN c_5 hr
          refine lv_iinc (v := (y4_2 + 1)) (lv' := [(4, .int (y4_2 + 1)), (0, .ref a_r0), (2, .int x2), (3, .int y3_2)]) hx hb d_Har_gather_48 hl (k := 3) rfl rfl (by decide) rfl (fun ls hl => ?_)
          refine lv_goto (tgt := 10) hx hb d_Har_gather_51 (by decide) ?_
          exact ih_2 y3_2 (y4_2 + 1) r0_fields_lefts_2 (hz1_2 _ (Option.some.inj hr).symm) _ _ _ hW (lv_sub hl [1, 2, 3, 0] rfl)
        · replace hr := ip c_5 hr
          refine lv_aload_n hx hb d_Har_gather_28 rfl (lv_at hl 0 rfl) ?_
          refine k_get i_Har C hW 0 rfl rfl 0 (by decide) qf_Har_12 rfl rfl d_Har_gather_29 ?_
          refine lv_aload_n hx hb d_Har_gather_32 rfl (lv_at hl 0 rfl) ?_
          refine k_get i_Har C hW 0 rfl rfl 1 (by decide) qf_Har_18 rfl rfl d_Har_gather_33 ?_
          refine lv_iload hx hb d_Har_gather_36 (lv_at hl 3 rfl) ?_
          obtain ⟨h_6, hr⟩ := ck_some hr
          refine k_iald C hW 4 rfl h_6 d_Har_gather_38 ?_
          obtain ⟨q_7, hc_7, hr⟩ := ob hr
          have ct_7 := C_Fld_work l D cI cS a_r0_fields a_r0_fields_lefts a_r0_fields_wishes r0_fields_lefts_2 q_1.2.2.1 (q_1.2.2.2 (Int32.toNatClampNeg y4_2)) q_7 hc_7
          refine k_goI hA hW [1, 2, 3] rfl ct_7.1 (ws' := (w_Har_gather cI a_r0 a_r0_fields a_r0_fields_lefts a_r0_fields_wishes a_r0_weathers a_r1 a_r1_fields a_r1_fields_lefts a_r1_fields_wishes a_r1_goes a_r1_hampers a_r1_weights v_r0_path v_r0_best v_r0_counted v_r0_atMost v_r0_most v_r0_oneIn v_r0_lotsDone v_r0_lotsNone v_r1_kinds v_r1_figures v_r1_things v_r1_done q_1.1 q_7.2 q_1.2.2.1 q_1.2.2.2 r1_days r1_fields_lefts r1_fields_wishes r1_goes r1_hampers r1_weights)) rfl (k_runV C hA hW mw_Fld_work mv_Fld_work (ct_7.2 _) [1, 2, 3] rfl rfl 1 rfl rfl qm_Har_68 ⟨Nat.le_of_ble_eq_true rfl, Nat.le_of_ble_eq_true rfl, Nat.zero_le _, Nat.zero_le _⟩ rfl rfl (Nat.le_of_ble_eq_true rfl) hl.1 d_Har_gather_39) (fun H locs hW => ?_)
          refine lv_if_lt (tgt := 48) hx hb d_Har_gather_42 (by decide) (fun c_8 => ?_) (fun c_8 => ?_)
          · replace hr := ip c_8 hr
            refine lv_iinc (v := (y4_2 + 1)) (lv' := [(4, .int (y4_2 + 1)), (0, .ref a_r0), (2, .int x2), (3, .int y3_2)]) hx hb d_Har_gather_48 hl (k := 3) rfl rfl (by decide) rfl (fun ls hl => ?_)
            refine lv_goto (tgt := 10) hx hb d_Har_gather_51 (by decide) ?_
            exact ih_2 y3_2 (y4_2 + 1) q_7.2 (hz1_2 _ (Option.some.inj hr).symm) _ _ _ hW (lv_sub hl [1, 2, 3, 0] rfl)
          · replace hr := iN c_8 hr
            refine lv_iinc (v := (y3_2 + 1)) (lv' := [(3, .int (y3_2 + 1)), (0, .ref a_r0), (2, .int x2), (4, .int y4_2)]) hx hb d_Har_gather_45 hl (k := 2) rfl rfl (by decide) rfl (fun ls hl => ?_)
            refine lv_iinc (v := (y4_2 + 1)) (lv' := [(4, .int (y4_2 + 1)), (3, .int (y3_2 + 1)), (0, .ref a_r0), (2, .int x2)]) hx hb d_Har_gather_48 hl (k := 3) rfl rfl (by decide) rfl (fun ls hl => ?_)
            refine lv_goto (tgt := 10) hx hb d_Har_gather_51 (by decide) ?_
            exact ih_2 (y3_2 + 1) (y4_2 + 1) q_7.2 (hz1_2 _ (Option.some.inj hr).symm) _ _ _ hW (lv_sub hl [2, 3, 1, 0] rfl)
  exact hl_2 _ 0 0 q_1.2.1 hw_2 _ _ _ hW (lv_sub hl [2, 4, 1, 0] rfl)
def w_Har_mostByPlan (cI : ClassId) (a_r0 : Nat) (a_r0_fields : Nat) (a_r0_fields_lefts : Nat) (a_r0_fields_wishes : Nat) (a_r0_weathers : Nat) (a_r1 : Nat) (a_r1_fields : Nat) (a_r1_fields_lefts : Nat) (a_r1_fields_wishes : Nat) (a_r1_goes : Nat) (a_r1_hampers : Nat) (a_r1_weights : Nat) (v_r0_path v_r0_best v_r0_counted v_r0_atMost v_r0_most v_r0_oneIn v_r0_lotsDone v_r0_lotsNone v_r1_kinds v_r1_figures v_r1_things v_r1_done : Value) (r0_days : Int32) (r0_fields_lefts : Nat → Int32) (r0_fields_wishes : Nat → Int32) (r0_weathers : Nat → Int32) (r1_days : Int32) (r1_fields_lefts : Nat → Int32) (r1_fields_wishes : Nat → Int32) (r1_goes : Nat → Int32) (r1_hampers : Nat → Int32) (r1_weights : Nat → Int32) : va_W := [(a_r0, .inr (7, [.ref a_r0_fields, .ref a_r0_weathers, .int r0_days, v_r0_path, v_r0_best, v_r0_counted, v_r0_atMost, v_r0_most, v_r0_oneIn, v_r0_lotsDone, v_r0_lotsNone])), (a_r0_fields, .inr (2, [.ref a_r0_fields_wishes, .ref a_r0_fields_lefts])), (a_r0_fields_lefts, .inl (cI, 4, .inl r0_fields_lefts)), (a_r0_fields_wishes, .inl (cI, 4, .inl r0_fields_wishes)), (a_r0_weathers, .inl (cI, 8, .inl r0_weathers)), (a_r1, .inr (1, [.ref a_r1_weights, v_r1_kinds, v_r1_figures, .ref a_r1_goes, v_r1_things, .ref a_r1_hampers, .int r1_days, .ref a_r1_fields, v_r1_done])), (a_r1_fields, .inr (2, [.ref a_r1_fields_wishes, .ref a_r1_fields_lefts])), (a_r1_fields_lefts, .inl (cI, 4, .inl r1_fields_lefts)), (a_r1_fields_wishes, .inl (cI, 4, .inl r1_fields_wishes)), (a_r1_goes, .inl (cI, 8, .inl r1_goes)), (a_r1_hampers, .inl (cI, 8, .inl r1_hampers)), (a_r1_weights, .inl (cI, 6, .inl r1_weights))]
def F_Har_mostByPlan (r0_fields_lefts : Nat → Int32) (r0_fields_wishes : Nat → Int32) (r0_weathers : Nat → Int32) (r1_days : Int32) (r1_fields_lefts : Nat → Int32) (r1_fields_wishes : Nat → Int32) (r1_goes : Nat → Int32) (r1_hampers : Nat → Int32) (r1_weights : Nat → Int32) : Option (Int32 × (Int32) × (Nat → Int32) × (Nat → Int32) × (Nat → Int32)) :=
  ((F_Har_begin r0_fields_lefts r0_fields_wishes r0_weathers r1_days r1_fields_lefts r1_fields_wishes r1_goes r1_hampers r1_weights).bind (fun q_1 => ((F_Har_leastCut q_1.1 q_1.2.1 q_1.2.2.1 q_1.2.2.2).bind (fun q_2 => (some (q_2, q_1.1, q_1.2.1, q_1.2.2.1, q_1.2.2.2))))))
set_option maxHeartbeats 4000000 in
set_option maxRecDepth 100000 in
theorem C_Har_mostByPlan (l : Launch) (D : va_G) (cI cS : ClassId) (a_r0 : Nat) (a_r0_fields : Nat) (a_r0_fields_lefts : Nat) (a_r0_fields_wishes : Nat) (a_r0_weathers : Nat) (a_r1 : Nat) (a_r1_fields : Nat) (a_r1_fields_lefts : Nat) (a_r1_fields_wishes : Nat) (a_r1_goes : Nat) (a_r1_hampers : Nat) (a_r1_weights : Nat) (v_r0_path v_r0_best v_r0_counted v_r0_atMost v_r0_most v_r0_oneIn v_r0_lotsDone v_r0_lotsNone v_r1_kinds v_r1_figures v_r1_things v_r1_done : Value) (r0_days : Int32) (r0_fields_lefts : Nat → Int32) (r0_fields_wishes : Nat → Int32) (r0_weathers : Nat → Int32) (r1_days : Int32) (r1_fields_lefts : Nat → Int32) (r1_fields_wishes : Nat → Int32) (r1_goes : Nat → Int32) (r1_hampers : Nat → Int32) (r1_weights : Nat → Int32) (o : Int32 × (Int32) × (Nat → Int32) × (Nat → Int32) × (Nat → Int32)) (hr : F_Har_mostByPlan r0_fields_lefts r0_fields_wishes r0_weathers r1_days r1_fields_lefts r1_fields_wishes r1_goes r1_hampers r1_weights = some o) : ctI l y_Har_mostByPlan (Cond.code y_Har_mostByPlan b_Har_mostByPlan 2 (some FieldType.int)) (rmd 4) D (kTy cI cS) [.ref a_r0, .ref a_r1] (w_Har_mostByPlan cI a_r0 a_r0_fields a_r0_fields_lefts a_r0_fields_wishes a_r0_weathers a_r1 a_r1_fields a_r1_fields_lefts a_r1_fields_wishes a_r1_goes a_r1_hampers a_r1_weights v_r0_path v_r0_best v_r0_counted v_r0_atMost v_r0_most v_r0_oneIn v_r0_lotsDone v_r0_lotsNone v_r1_kinds v_r1_figures v_r1_things v_r1_done r0_days r0_fields_lefts r0_fields_wishes r0_weathers r1_days r1_fields_lefts r1_fields_wishes r1_goes r1_hampers r1_weights) (w_Har_mostByPlan cI a_r0 a_r0_fields a_r0_fields_lefts a_r0_fields_wishes a_r0_weathers a_r1 a_r1_fields a_r1_fields_lefts a_r1_fields_wishes a_r1_goes a_r1_hampers a_r1_weights v_r0_path v_r0_best v_r0_counted v_r0_atMost v_r0_most v_r0_oneIn v_r0_lotsDone v_r0_lotsNone v_r1_kinds v_r1_figures v_r1_things v_r1_done o.2.1 o.2.2.1 o.2.2.2.1 o.2.2.2.2 r1_days r1_fields_lefts r1_fields_wishes r1_goes r1_hampers r1_weights) o.1 := by
  unfold F_Har_mostByPlan at hr
  refine ⟨rfl, fun sz => ct_of (w0 := (w_Har_mostByPlan cI a_r0 a_r0_fields a_r0_fields_lefts a_r0_fields_wishes a_r0_weathers a_r1 a_r1_fields a_r1_fields_lefts a_r1_fields_wishes a_r1_goes a_r1_hampers a_r1_weights v_r0_path v_r0_best v_r0_counted v_r0_atMost v_r0_most v_r0_oneIn v_r0_lotsDone v_r0_lotsNone v_r1_kinds v_r1_figures v_r1_things v_r1_done r0_days r0_fields_lefts r0_fields_wishes r0_weathers r1_days r1_fields_lefts r1_fields_wishes r1_goes r1_hampers r1_weights)) (Qc := fun A => qI D (w_Har_mostByPlan cI a_r0 a_r0_fields a_r0_fields_lefts a_r0_fields_wishes a_r0_weathers a_r1 a_r1_fields a_r1_fields_lefts a_r1_fields_wishes a_r1_goes a_r1_hampers a_r1_weights v_r0_path v_r0_best v_r0_counted v_r0_atMost v_r0_most v_r0_oneIn v_r0_lotsDone v_r0_lotsNone v_r1_kinds v_r1_figures v_r1_things v_r1_done o.2.1 o.2.2.1 o.2.2.2.1 o.2.2.2.2 r1_days r1_fields_lefts r1_fields_wishes r1_goes r1_hampers r1_weights) o.1 A) rfl (Nat.le_of_ble_eq_true rfl) ?_ sz⟩
  intro p e s m below meth c A hA C hret ls hl hW
  have C : cx p s m ([.ref a_r0, .ref a_r1] : List Value).toArray meth c b_Har_mostByPlan 2 R_Har D (kTy cI cS) (Cond.code y_Har_mostByPlan b_Har_mostByPlan 2 (some FieldType.int)) := C
  obtain ⟨hx, hb, hml, hown, hts, hK, hlk, hN⟩ := id C
  have hl : lv_has ls 2 [(0, .ref a_r0), (1, .ref a_r1)] := hl
  obtain ⟨Q, hQ⟩ : ∃ Q, Q = MQ below (qI D (w_Har_mostByPlan cI a_r0 a_r0_fields a_r0_fields_lefts a_r0_fields_wishes a_r0_weathers a_r1 a_r1_fields a_r1_fields_lefts a_r1_fields_wishes a_r1_goes a_r1_hampers a_r1_weights v_r0_path v_r0_best v_r0_counted v_r0_atMost v_r0_most v_r0_oneIn v_r0_lotsDone v_r0_lotsNone v_r1_kinds v_r1_figures v_r1_things v_r1_done o.2.1 o.2.2.1 o.2.2.2.1 o.2.2.2.2 r1_days r1_fields_lefts r1_fields_wishes r1_goes r1_hampers r1_weights) o.1 A) ([.ref a_r0, .ref a_r1] : List Value).toArray s 0 0 A := ⟨_, rfl⟩
  rw [← hQ]
  refine lv_aload_n hx hb d_Har_mostByPlan_0 rfl (lv_at hl 0 rfl) ?_
  refine lv_aload_n hx hb d_Har_mostByPlan_1 rfl (lv_at hl 1 rfl) ?_
  obtain ⟨q_1, hc_1, hr⟩ := ob hr
  have ct_1 := C_Har_begin l D cI cS a_r0 a_r0_fields a_r0_fields_lefts a_r0_fields_wishes a_r0_weathers a_r1 a_r1_fields a_r1_fields_lefts a_r1_fields_wishes a_r1_goes a_r1_hampers a_r1_weights v_r0_path v_r0_best v_r0_counted v_r0_atMost v_r0_most v_r0_oneIn v_r0_lotsDone v_r0_lotsNone v_r1_kinds v_r1_figures v_r1_things v_r1_done r0_days r0_fields_lefts r0_fields_wishes r0_weathers r1_days r1_fields_lefts r1_fields_wishes r1_goes r1_hampers r1_weights q_1 hc_1
  refine k_goV hA hW [0, 1, 2, 3, 4, 5, 6, 7, 8, 9, 10, 11] rfl ct_1.1 (ws' := (w_Har_mostByPlan cI a_r0 a_r0_fields a_r0_fields_lefts a_r0_fields_wishes a_r0_weathers a_r1 a_r1_fields a_r1_fields_lefts a_r1_fields_wishes a_r1_goes a_r1_hampers a_r1_weights v_r0_path v_r0_best v_r0_counted v_r0_atMost v_r0_most v_r0_oneIn v_r0_lotsDone v_r0_lotsNone v_r1_kinds v_r1_figures v_r1_things v_r1_done q_1.1 q_1.2.1 q_1.2.2.1 q_1.2.2.2 r1_days r1_fields_lefts r1_fields_wishes r1_goes r1_hampers r1_weights)) rfl (k_runV C hA hW mw_Har_begin mv_Har_begin (ct_1.2 _) [0, 1, 2, 3, 4, 5, 6, 7, 8, 9, 10, 11] rfl rfl 0 rfl rfl qm_Har_60 ⟨Nat.le_of_ble_eq_true rfl, Nat.le_of_ble_eq_true rfl, Nat.zero_le _, Nat.zero_le _⟩ rfl rfl (Nat.le_of_ble_eq_true rfl) hl.1 d_Har_mostByPlan_2) (fun H locs hW => ?_)
  refine lv_aload_n hx hb d_Har_mostByPlan_5 rfl (lv_at hl 0 rfl) ?_
  obtain ⟨q_2, hc_2, hr⟩ := ob hr
  have ct_2 := C_Har_leastCut l D cI cS a_r0 a_r0_fields a_r0_fields_lefts a_r0_fields_wishes a_r0_weathers v_r0_path v_r0_best v_r0_counted v_r0_atMost v_r0_most v_r0_oneIn v_r0_lotsDone v_r0_lotsNone q_1.1 q_1.2.1 q_1.2.2.1 q_1.2.2.2 q_2 hc_2
  refine k_goIp hA hW [0, 1, 2, 3, 4] rfl rfl (k_runV C hA hW mw_Har_leastCut mv_Har_leastCut (ct_2.2 _) [0, 1, 2, 3, 4] rfl rfl 0 rfl rfl qm_Har_75 ⟨Nat.le_of_ble_eq_true rfl, Nat.le_of_ble_eq_true rfl, Nat.zero_le _, Nat.zero_le _⟩ rfl rfl (Nat.le_of_ble_eq_true rfl) hl.1 d_Har_mostByPlan_6) (fun H locs hW => ?_)
  obtain rfl := Option.some.inj hr
  rw [hQ]; exact k_iret C hret hW d_Har_mostByPlan_9
def w_Har_orderedDay (cI : ClassId) (a_r0 : Nat) (a_r0_best : Nat) (v_r0_fields v_r0_weathers v_r0_path v_r0_counted v_r0_atMost v_r0_most v_r0_oneIn v_r0_lotsDone v_r0_lotsNone : Value) (r0_days : Int32) (r0_best : Nat → Int32) : va_W := [(a_r0, .inr (7, [v_r0_fields, v_r0_weathers, .int r0_days, v_r0_path, .ref a_r0_best, v_r0_counted, v_r0_atMost, v_r0_most, v_r0_oneIn, v_r0_lotsDone, v_r0_lotsNone])), (a_r0_best, .inl (cI, 8, .inl r0_best))]
def F_Har_orderedDay (r0_days : Int32) (r0_best : Nat → Int32) (x1 : Int32) : Option (Int32) :=
  (if x1 < 0 then (some (-9)) else (if r0_days ≤ x1 then (some (-9)) else (if (8 : Int32) ≤ x1 then (some (-9)) else (ck x1 8 (some (r0_best (Int32.toNatClampNeg x1)))))))
set_option maxHeartbeats 4000000 in
set_option maxRecDepth 100000 in
theorem C_Har_orderedDay (l : Launch) (D : va_G) (cI cS : ClassId) (a_r0 : Nat) (a_r0_best : Nat) (v_r0_fields v_r0_weathers v_r0_path v_r0_counted v_r0_atMost v_r0_most v_r0_oneIn v_r0_lotsDone v_r0_lotsNone : Value) (r0_days : Int32) (r0_best : Nat → Int32) (x1 : Int32) (o : Int32) (hr : F_Har_orderedDay r0_days r0_best x1 = some o) : ctI l y_Har_orderedDay (Cond.code y_Har_orderedDay b_Har_orderedDay 2 (some FieldType.int)) (rmd 0) D (kTy cI cS) [.ref a_r0, .int x1] (w_Har_orderedDay cI a_r0 a_r0_best v_r0_fields v_r0_weathers v_r0_path v_r0_counted v_r0_atMost v_r0_most v_r0_oneIn v_r0_lotsDone v_r0_lotsNone r0_days r0_best) (w_Har_orderedDay cI a_r0 a_r0_best v_r0_fields v_r0_weathers v_r0_path v_r0_counted v_r0_atMost v_r0_most v_r0_oneIn v_r0_lotsDone v_r0_lotsNone r0_days r0_best) o := by
  unfold F_Har_orderedDay at hr
  refine ⟨rfl, fun sz => ct_of (w0 := (w_Har_orderedDay cI a_r0 a_r0_best v_r0_fields v_r0_weathers v_r0_path v_r0_counted v_r0_atMost v_r0_most v_r0_oneIn v_r0_lotsDone v_r0_lotsNone r0_days r0_best)) (Qc := fun A => qI D (w_Har_orderedDay cI a_r0 a_r0_best v_r0_fields v_r0_weathers v_r0_path v_r0_counted v_r0_atMost v_r0_most v_r0_oneIn v_r0_lotsDone v_r0_lotsNone r0_days r0_best) o A) rfl (Nat.le_of_ble_eq_true rfl) ?_ sz⟩
  intro p e s m below meth c A hA C hret ls hl hW
  have C : cx p s m ([.ref a_r0, .int x1] : List Value).toArray meth c b_Har_orderedDay 2 R_Har D (kTy cI cS) (Cond.code y_Har_orderedDay b_Har_orderedDay 2 (some FieldType.int)) := C
  obtain ⟨hx, hb, hml, hown, hts, hK, hlk, hN⟩ := id C
  have hl : lv_has ls 2 [(0, .ref a_r0), (1, .int x1)] := hl
  obtain ⟨Q, hQ⟩ : ∃ Q, Q = MQ below (qI D (w_Har_orderedDay cI a_r0 a_r0_best v_r0_fields v_r0_weathers v_r0_path v_r0_counted v_r0_atMost v_r0_most v_r0_oneIn v_r0_lotsDone v_r0_lotsNone r0_days r0_best) o A) ([.ref a_r0, .int x1] : List Value).toArray s 0 0 A := ⟨_, rfl⟩
  rw [← hQ]
  refine lv_iload_n hx hb d_Har_orderedDay_0 rfl (lv_at hl 1 rfl) ?_
  refine lv_if_lt (tgt := 27) hx hb d_Har_orderedDay_1 (by decide) (fun c_1 => ?_) (fun c_1 => ?_)
  · replace hr := ip c_1 hr
    refine lv_bipush (v := (-9)) hx hb d_Har_orderedDay_27 (by decide) ?_
    obtain rfl := Option.some.inj hr
    rw [hQ]; exact k_iret C hret hW d_Har_orderedDay_29
  · replace hr := iN c_1 hr
    refine lv_iload_n hx hb d_Har_orderedDay_4 rfl (lv_at hl 1 rfl) ?_
    refine lv_aload_n hx hb d_Har_orderedDay_5 rfl (lv_at hl 0 rfl) ?_
    refine k_get i_Har C hW 0 rfl rfl 2 (by decide) qf_Har_48 rfl rfl d_Har_orderedDay_6 ?_
    refine lv_icmp_ge (tgt := 27) hx hb d_Har_orderedDay_9 (by decide) (fun c_2 => ?_) (fun c_2 => ?_)
    · replace hr := ip c_2 hr
      refine lv_bipush (v := (-9)) hx hb d_Har_orderedDay_27 (by decide) ?_
      obtain rfl := Option.some.inj hr
      rw [hQ]; exact k_iret C hret hW d_Har_orderedDay_29
    · replace hr := iN c_2 hr
      refine lv_iload_n hx hb d_Har_orderedDay_12 rfl (lv_at hl 1 rfl) ?_
      refine lv_bipush (v := 8) hx hb d_Har_orderedDay_13 (by decide) ?_
      refine lv_icmp_ge (tgt := 27) hx hb d_Har_orderedDay_15 (by decide) (fun c_3 => ?_) (fun c_3 => ?_)
      · replace hr := ip c_3 hr
        refine lv_bipush (v := (-9)) hx hb d_Har_orderedDay_27 (by decide) ?_
        obtain rfl := Option.some.inj hr
        rw [hQ]; exact k_iret C hret hW d_Har_orderedDay_29
      · replace hr := iN c_3 hr
        refine lv_aload_n hx hb d_Har_orderedDay_18 rfl (lv_at hl 0 rfl) ?_
        refine k_get i_Har C hW 0 rfl rfl 4 (by decide) qf_Har_25 rfl rfl d_Har_orderedDay_19 ?_
        refine lv_iload_n hx hb d_Har_orderedDay_22 rfl (lv_at hl 1 rfl) ?_
        obtain ⟨h_4, hr⟩ := ck_some hr
        refine k_iald C hW 1 rfl h_4 d_Har_orderedDay_23 ?_
        refine lv_goto (tgt := 29) hx hb d_Har_orderedDay_24 (by decide) ?_
        obtain rfl := Option.some.inj hr
        rw [hQ]; exact k_iret C hret hW d_Har_orderedDay_29
def w_Har_spareDays (cI : ClassId) (a_r0 : Nat) (a_r0_fields : Nat) (a_r0_fields_lefts : Nat) (a_r0_fields_wishes : Nat) (a_r0_weathers : Nat) (a_r1 : Nat) (a_r1_fields : Nat) (a_r1_fields_lefts : Nat) (a_r1_fields_wishes : Nat) (a_r1_goes : Nat) (a_r1_hampers : Nat) (a_r1_weights : Nat) (v_r0_path v_r0_best v_r0_counted v_r0_atMost v_r0_most v_r0_oneIn v_r0_lotsDone v_r0_lotsNone v_r1_kinds v_r1_figures v_r1_things v_r1_done : Value) (r0_days : Int32) (r0_fields_lefts : Nat → Int32) (r0_fields_wishes : Nat → Int32) (r0_weathers : Nat → Int32) (r1_days : Int32) (r1_fields_lefts : Nat → Int32) (r1_fields_wishes : Nat → Int32) (r1_goes : Nat → Int32) (r1_hampers : Nat → Int32) (r1_weights : Nat → Int32) : va_W := [(a_r0, .inr (7, [.ref a_r0_fields, .ref a_r0_weathers, .int r0_days, v_r0_path, v_r0_best, v_r0_counted, v_r0_atMost, v_r0_most, v_r0_oneIn, v_r0_lotsDone, v_r0_lotsNone])), (a_r0_fields, .inr (2, [.ref a_r0_fields_wishes, .ref a_r0_fields_lefts])), (a_r0_fields_lefts, .inl (cI, 4, .inl r0_fields_lefts)), (a_r0_fields_wishes, .inl (cI, 4, .inl r0_fields_wishes)), (a_r0_weathers, .inl (cI, 8, .inl r0_weathers)), (a_r1, .inr (1, [.ref a_r1_weights, v_r1_kinds, v_r1_figures, .ref a_r1_goes, v_r1_things, .ref a_r1_hampers, .int r1_days, .ref a_r1_fields, v_r1_done])), (a_r1_fields, .inr (2, [.ref a_r1_fields_wishes, .ref a_r1_fields_lefts])), (a_r1_fields_lefts, .inl (cI, 4, .inl r1_fields_lefts)), (a_r1_fields_wishes, .inl (cI, 4, .inl r1_fields_wishes)), (a_r1_goes, .inl (cI, 8, .inl r1_goes)), (a_r1_hampers, .inl (cI, 8, .inl r1_hampers)), (a_r1_weights, .inl (cI, 6, .inl r1_weights))]
def F_Har_spareDays_L12 (r1_days : Int32) (r1_fields_lefts : Nat → Int32) (r1_fields_wishes : Nat → Int32) (r1_goes : Nat → Int32) (r1_hampers : Nat → Int32) (r1_weights : Nat → Int32) (q_1 : Int32 × (Int32) × (Nat → Int32) × (Nat → Int32) × (Nat → Int32)) (y3_2 : Int32) (y4_2 : Int32) (r0_days_2 : Int32) (r0_fields_lefts_2 : Nat → Int32) (r0_fields_wishes_2 : Nat → Int32) (r0_weathers_2 : Nat → Int32) : Option (((Int32) × (Int32) × (Int32) × (Nat → Int32) × (Nat → Int32) × (Nat → Int32)) ⊕ ((Int32) × (Int32) × (Nat → Int32) × (Nat → Int32) × (Nat → Int32))) :=
  (if r1_days ≤ y4_2 then (some (.inr (y3_2, r0_days_2, r0_fields_lefts_2, r0_fields_wishes_2, r0_weathers_2))) else ((F_Har_gather r0_fields_lefts_2 r0_fields_wishes_2 r0_weathers_2 r1_days r1_fields_lefts r1_fields_wishes r1_goes r1_hampers r1_weights ((1 : Int32) <<< ((y4_2 : Int32) &&& 31))).bind (fun q_4 => (if q_4.1 = q_1.1 then (some (.inl ((y3_2 ||| ((1 : Int32) <<< ((y4_2 : Int32) &&& 31))), (y4_2 + 1), q_4.2.1, q_4.2.2.1, q_4.2.2.2.1, q_4.2.2.2.2))) else (some (.inl (y3_2, (y4_2 + 1), q_4.2.1, q_4.2.2.1, q_4.2.2.2.1, q_4.2.2.2.2)))))))
def F_Har_spareDays (r0_fields_lefts : Nat → Int32) (r0_fields_wishes : Nat → Int32) (r0_weathers : Nat → Int32) (r1_days : Int32) (r1_fields_lefts : Nat → Int32) (r1_fields_wishes : Nat → Int32) (r1_goes : Nat → Int32) (r1_hampers : Nat → Int32) (r1_weights : Nat → Int32) : Option (Int32 × (Int32) × (Nat → Int32) × (Nat → Int32) × (Nat → Int32)) :=
  ((F_Har_gather r0_fields_lefts r0_fields_wishes r0_weathers r1_days r1_fields_lefts r1_fields_wishes r1_goes r1_hampers r1_weights (0 : Int32)).bind (fun q_1 => ((wh (fun (s : (Int32) × (Int32) × (Int32) × (Nat → Int32) × (Nat → Int32) × (Nat → Int32)) => F_Har_spareDays_L12 r1_days r1_fields_lefts r1_fields_wishes r1_goes r1_hampers r1_weights q_1 s.1 s.2.1 s.2.2.1 s.2.2.2.1 s.2.2.2.2.1 s.2.2.2.2.2) 400 ((0 : Int32), (0 : Int32), q_1.2.1, q_1.2.2.1, q_1.2.2.2.1, q_1.2.2.2.2)).bind (fun e_2 => (some (e_2.1, e_2.2.1, e_2.2.2.1, e_2.2.2.2.1, e_2.2.2.2.2))))))
set_option maxHeartbeats 4000000 in
set_option maxRecDepth 100000 in
theorem C_Har_spareDays (l : Launch) (D : va_G) (cI cS : ClassId) (a_r0 : Nat) (a_r0_fields : Nat) (a_r0_fields_lefts : Nat) (a_r0_fields_wishes : Nat) (a_r0_weathers : Nat) (a_r1 : Nat) (a_r1_fields : Nat) (a_r1_fields_lefts : Nat) (a_r1_fields_wishes : Nat) (a_r1_goes : Nat) (a_r1_hampers : Nat) (a_r1_weights : Nat) (v_r0_path v_r0_best v_r0_counted v_r0_atMost v_r0_most v_r0_oneIn v_r0_lotsDone v_r0_lotsNone v_r1_kinds v_r1_figures v_r1_things v_r1_done : Value) (r0_days : Int32) (r0_fields_lefts : Nat → Int32) (r0_fields_wishes : Nat → Int32) (r0_weathers : Nat → Int32) (r1_days : Int32) (r1_fields_lefts : Nat → Int32) (r1_fields_wishes : Nat → Int32) (r1_goes : Nat → Int32) (r1_hampers : Nat → Int32) (r1_weights : Nat → Int32) (o : Int32 × (Int32) × (Nat → Int32) × (Nat → Int32) × (Nat → Int32)) (hr : F_Har_spareDays r0_fields_lefts r0_fields_wishes r0_weathers r1_days r1_fields_lefts r1_fields_wishes r1_goes r1_hampers r1_weights = some o) : ctI l y_Har_spareDays (Cond.code y_Har_spareDays b_Har_spareDays 5 (some FieldType.int)) (rmd 5) D (kTy cI cS) [.ref a_r0, .ref a_r1] (w_Har_spareDays cI a_r0 a_r0_fields a_r0_fields_lefts a_r0_fields_wishes a_r0_weathers a_r1 a_r1_fields a_r1_fields_lefts a_r1_fields_wishes a_r1_goes a_r1_hampers a_r1_weights v_r0_path v_r0_best v_r0_counted v_r0_atMost v_r0_most v_r0_oneIn v_r0_lotsDone v_r0_lotsNone v_r1_kinds v_r1_figures v_r1_things v_r1_done r0_days r0_fields_lefts r0_fields_wishes r0_weathers r1_days r1_fields_lefts r1_fields_wishes r1_goes r1_hampers r1_weights) (w_Har_spareDays cI a_r0 a_r0_fields a_r0_fields_lefts a_r0_fields_wishes a_r0_weathers a_r1 a_r1_fields a_r1_fields_lefts a_r1_fields_wishes a_r1_goes a_r1_hampers a_r1_weights v_r0_path v_r0_best v_r0_counted v_r0_atMost v_r0_most v_r0_oneIn v_r0_lotsDone v_r0_lotsNone v_r1_kinds v_r1_figures v_r1_things v_r1_done o.2.1 o.2.2.1 o.2.2.2.1 o.2.2.2.2 r1_days r1_fields_lefts r1_fields_wishes r1_goes r1_hampers r1_weights) o.1 := by
  unfold F_Har_spareDays at hr
  refine ⟨rfl, fun sz => ct_of (w0 := (w_Har_spareDays cI a_r0 a_r0_fields a_r0_fields_lefts a_r0_fields_wishes a_r0_weathers a_r1 a_r1_fields a_r1_fields_lefts a_r1_fields_wishes a_r1_goes a_r1_hampers a_r1_weights v_r0_path v_r0_best v_r0_counted v_r0_atMost v_r0_most v_r0_oneIn v_r0_lotsDone v_r0_lotsNone v_r1_kinds v_r1_figures v_r1_things v_r1_done r0_days r0_fields_lefts r0_fields_wishes r0_weathers r1_days r1_fields_lefts r1_fields_wishes r1_goes r1_hampers r1_weights)) (Qc := fun A => qI D (w_Har_spareDays cI a_r0 a_r0_fields a_r0_fields_lefts a_r0_fields_wishes a_r0_weathers a_r1 a_r1_fields a_r1_fields_lefts a_r1_fields_wishes a_r1_goes a_r1_hampers a_r1_weights v_r0_path v_r0_best v_r0_counted v_r0_atMost v_r0_most v_r0_oneIn v_r0_lotsDone v_r0_lotsNone v_r1_kinds v_r1_figures v_r1_things v_r1_done o.2.1 o.2.2.1 o.2.2.2.1 o.2.2.2.2 r1_days r1_fields_lefts r1_fields_wishes r1_goes r1_hampers r1_weights) o.1 A) rfl (Nat.le_of_ble_eq_true rfl) ?_ sz⟩
  intro p e s m below meth c A hA C hret ls hl hW
  have C : cx p s m ([.ref a_r0, .ref a_r1] : List Value).toArray meth c b_Har_spareDays 5 R_Har D (kTy cI cS) (Cond.code y_Har_spareDays b_Har_spareDays 5 (some FieldType.int)) := C
  obtain ⟨hx, hb, hml, hown, hts, hK, hlk, hN⟩ := id C
  have hl : lv_has ls 5 [(0, .ref a_r0), (1, .ref a_r1)] := hl
  obtain ⟨Q, hQ⟩ : ∃ Q, Q = MQ below (qI D (w_Har_spareDays cI a_r0 a_r0_fields a_r0_fields_lefts a_r0_fields_wishes a_r0_weathers a_r1 a_r1_fields a_r1_fields_lefts a_r1_fields_wishes a_r1_goes a_r1_hampers a_r1_weights v_r0_path v_r0_best v_r0_counted v_r0_atMost v_r0_most v_r0_oneIn v_r0_lotsDone v_r0_lotsNone v_r1_kinds v_r1_figures v_r1_things v_r1_done o.2.1 o.2.2.1 o.2.2.2.1 o.2.2.2.2 r1_days r1_fields_lefts r1_fields_wishes r1_goes r1_hampers r1_weights) o.1 A) ([.ref a_r0, .ref a_r1] : List Value).toArray s 0 0 A := ⟨_, rfl⟩
  rw [← hQ]
  refine lv_aload_n hx hb d_Har_spareDays_0 rfl (lv_at hl 0 rfl) ?_
  refine lv_aload_n hx hb d_Har_spareDays_1 rfl (lv_at hl 1 rfl) ?_
  refine lv_iconst (v := 0) hx hb d_Har_spareDays_2 (by decide) ?_
  obtain ⟨q_1, hc_1, hr⟩ := ob hr
  have ct_1 := C_Har_gather l D cI cS a_r0 a_r0_fields a_r0_fields_lefts a_r0_fields_wishes a_r0_weathers a_r1 a_r1_fields a_r1_fields_lefts a_r1_fields_wishes a_r1_goes a_r1_hampers a_r1_weights v_r0_path v_r0_best v_r0_counted v_r0_atMost v_r0_most v_r0_oneIn v_r0_lotsDone v_r0_lotsNone v_r1_kinds v_r1_figures v_r1_things v_r1_done r0_days r0_fields_lefts r0_fields_wishes r0_weathers r1_days r1_fields_lefts r1_fields_wishes r1_goes r1_hampers r1_weights 0 q_1 hc_1
  refine k_goI hA hW [0, 1, 2, 3, 4, 5, 6, 7, 8, 9, 10, 11] rfl ct_1.1 (ws' := (w_Har_spareDays cI a_r0 a_r0_fields a_r0_fields_lefts a_r0_fields_wishes a_r0_weathers a_r1 a_r1_fields a_r1_fields_lefts a_r1_fields_wishes a_r1_goes a_r1_hampers a_r1_weights v_r0_path v_r0_best v_r0_counted v_r0_atMost v_r0_most v_r0_oneIn v_r0_lotsDone v_r0_lotsNone v_r1_kinds v_r1_figures v_r1_things v_r1_done q_1.2.1 q_1.2.2.1 q_1.2.2.2.1 q_1.2.2.2.2 r1_days r1_fields_lefts r1_fields_wishes r1_goes r1_hampers r1_weights)) rfl (k_runV C hA hW mw_Har_gather mv_Har_gather (ct_1.2 _) [0, 1, 2, 3, 4, 5, 6, 7, 8, 9, 10, 11] rfl rfl 0 rfl rfl qm_Har_71 ⟨Nat.le_of_ble_eq_true rfl, Nat.le_of_ble_eq_true rfl, Nat.zero_le _, Nat.zero_le _⟩ rfl rfl (Nat.le_of_ble_eq_true rfl) hl.1 d_Har_spareDays_3) (fun H locs hW => ?_)
  refine lv_istore_n (lv' := [(2, .int q_1.1), (0, .ref a_r0), (1, .ref a_r1)]) hx hb d_Har_spareDays_6 rfl hl (by decide) rfl (fun ls hl => ?_)
  refine lv_iconst (v := 0) hx hb d_Har_spareDays_7 (by decide) ?_
  refine lv_istore_n (lv' := [(3, .int 0), (2, .int q_1.1), (0, .ref a_r0), (1, .ref a_r1)]) hx hb d_Har_spareDays_8 rfl hl (by decide) rfl (fun ls hl => ?_)
  refine lv_iconst (v := 0) hx hb d_Har_spareDays_9 (by decide) ?_
  refine lv_istore (lv' := [(4, .int 0), (3, .int 0), (2, .int q_1.1), (0, .ref a_r0), (1, .ref a_r1)]) hx hb d_Har_spareDays_10 hl (by decide) rfl (fun ls hl => ?_)
  obtain ⟨ex_2, hw_2, hk_2⟩ := ob hr
  have hx_2 : ∀ (e_2 : (Int32) × (Int32) × (Nat → Int32) × (Nat → Int32) × (Nat → Int32)), e_2 = ex_2 → ∀ (H : Heap) (locs : List Loc) (ls : Array Slot), wd A s.heap D (w_Har_spareDays cI a_r0 a_r0_fields a_r0_fields_lefts a_r0_fields_wishes a_r0_weathers a_r1 a_r1_fields a_r1_fields_lefts a_r1_fields_wishes a_r1_goes a_r1_hampers a_r1_weights v_r0_path v_r0_best v_r0_counted v_r0_atMost v_r0_most v_r0_oneIn v_r0_lotsDone v_r0_lotsNone v_r1_kinds v_r1_figures v_r1_things v_r1_done e_2.2.1 e_2.2.2.1 e_2.2.2.2.1 e_2.2.2.2.2 r1_days r1_fields_lefts r1_fields_wishes r1_goes r1_hampers r1_weights) H locs → lv_has ls 5 [(3, .int e_2.1)] → W p l e (rmd 5) s m ([.ref a_r0, .ref a_r1] : List Value).toArray below meth c H locs 0 0 Q (F0 m 47 ls []) := by
    intro e_2 hE H locs ls hW hl
    subst hE; have hr := hk_2
    refine lv_iload_n hx hb d_Har_spareDays_47 rfl (lv_at hl 0 rfl) ?_
    obtain rfl := Option.some.inj hr
    rw [hQ]; exact k_iret C hret hW d_Har_spareDays_48
  have hl_2 : ∀ (k : Nat) (y3_2 : Int32) (y4_2 : Int32) (r0_days_2 : Int32) (r0_fields_lefts_2 : Nat → Int32) (r0_fields_wishes_2 : Nat → Int32) (r0_weathers_2 : Nat → Int32), wh (fun (s : (Int32) × (Int32) × (Int32) × (Nat → Int32) × (Nat → Int32) × (Nat → Int32)) => F_Har_spareDays_L12 r1_days r1_fields_lefts r1_fields_wishes r1_goes r1_hampers r1_weights q_1 s.1 s.2.1 s.2.2.1 s.2.2.2.1 s.2.2.2.2.1 s.2.2.2.2.2) k (y3_2, y4_2, r0_days_2, r0_fields_lefts_2, r0_fields_wishes_2, r0_weathers_2) = some ex_2 → ∀ (H : Heap) (locs : List Loc) (ls : Array Slot), wd A s.heap D (w_Har_spareDays cI a_r0 a_r0_fields a_r0_fields_lefts a_r0_fields_wishes a_r0_weathers a_r1 a_r1_fields a_r1_fields_lefts a_r1_fields_wishes a_r1_goes a_r1_hampers a_r1_weights v_r0_path v_r0_best v_r0_counted v_r0_atMost v_r0_most v_r0_oneIn v_r0_lotsDone v_r0_lotsNone v_r1_kinds v_r1_figures v_r1_things v_r1_done r0_days_2 r0_fields_lefts_2 r0_fields_wishes_2 r0_weathers_2 r1_days r1_fields_lefts r1_fields_wishes r1_goes r1_hampers r1_weights) H locs → lv_has ls 5 [(2, .int q_1.1), (0, .ref a_r0), (1, .ref a_r1), (3, .int y3_2), (4, .int y4_2)] → W p l e (rmd 5) s m ([.ref a_r0, .ref a_r1] : List Value).toArray below meth c H locs 0 0 Q (F0 m 12 ls []) := by
    intro k
    induction k with
    | zero => intro y3_2 y4_2 r0_days_2 r0_fields_lefts_2 r0_fields_wishes_2 r0_weathers_2 hw; exact absurd hw wh_0
    | succ k ih_2 =>
      intro y3_2 y4_2 r0_days_2 r0_fields_lefts_2 r0_fields_wishes_2 r0_weathers_2 hw H locs ls hW hl
      obtain ⟨z_2, hr, hz1_2, hz2_2⟩ := wh_s hw
      have hr : F_Har_spareDays_L12 r1_days r1_fields_lefts r1_fields_wishes r1_goes r1_hampers r1_weights q_1 y3_2 y4_2 r0_days_2 r0_fields_lefts_2 r0_fields_wishes_2 r0_weathers_2 = some z_2 := hr
      unfold F_Har_spareDays_L12 at hr
      refine lv_iload hx hb d_Har_spareDays_12 (lv_at hl 4 rfl) ?_
      refine lv_aload_n hx hb d_Har_spareDays_14 rfl (lv_at hl 2 rfl) ?_
      refine k_getN i_Sta C hW 5 rfl rfl 6 (by decide) qf_Har_35 rfl rfl d_Har_spareDays_15 ?_
      refine lv_icmp_ge (tgt := 47) hx hb d_Har_spareDays_18 (by decide) (fun c_3 => ?_) (fun c_3 => ?_)
      · replace hr := ip c_3 hr
        exact hx_2 _ (hz2_2 _ (Option.some.inj hr).symm) _ _ _ hW (lv_sub hl [3] rfl)
      · replace hr := iN c_3 hr
        refine lv_aload_n hx hb d_Har_spareDays_21 rfl (lv_at hl 1 rfl) ?_
        refine lv_aload_n hx hb d_Har_spareDays_22 rfl (lv_at hl 2 rfl) ?_
        refine lv_iconst (v := 1) hx hb d_Har_spareDays_23 (by decide) ?_
        refine lv_iload hx hb d_Har_spareDays_24 (lv_at hl 4 rfl) ?_
        refine lv_ishl hx hb d_Har_spareDays_26 ?_
        obtain ⟨q_4, hc_4, hr⟩ := ob hr
        have ct_4 := C_Har_gather l D cI cS a_r0 a_r0_fields a_r0_fields_lefts a_r0_fields_wishes a_r0_weathers a_r1 a_r1_fields a_r1_fields_lefts a_r1_fields_wishes a_r1_goes a_r1_hampers a_r1_weights v_r0_path v_r0_best v_r0_counted v_r0_atMost v_r0_most v_r0_oneIn v_r0_lotsDone v_r0_lotsNone v_r1_kinds v_r1_figures v_r1_things v_r1_done r0_days_2 r0_fields_lefts_2 r0_fields_wishes_2 r0_weathers_2 r1_days r1_fields_lefts r1_fields_wishes r1_goes r1_hampers r1_weights ((1 : Int32) <<< ((y4_2 : Int32) &&& 31)) q_4 hc_4
        refine k_goI hA hW [0, 1, 2, 3, 4, 5, 6, 7, 8, 9, 10, 11] rfl ct_4.1 (ws' := (w_Har_spareDays cI a_r0 a_r0_fields a_r0_fields_lefts a_r0_fields_wishes a_r0_weathers a_r1 a_r1_fields a_r1_fields_lefts a_r1_fields_wishes a_r1_goes a_r1_hampers a_r1_weights v_r0_path v_r0_best v_r0_counted v_r0_atMost v_r0_most v_r0_oneIn v_r0_lotsDone v_r0_lotsNone v_r1_kinds v_r1_figures v_r1_things v_r1_done q_4.2.1 q_4.2.2.1 q_4.2.2.2.1 q_4.2.2.2.2 r1_days r1_fields_lefts r1_fields_wishes r1_goes r1_hampers r1_weights)) rfl (k_runV C hA hW mw_Har_gather mv_Har_gather (ct_4.2 _) [0, 1, 2, 3, 4, 5, 6, 7, 8, 9, 10, 11] rfl rfl 0 rfl rfl qm_Har_71 ⟨Nat.le_of_ble_eq_true rfl, Nat.le_of_ble_eq_true rfl, Nat.zero_le _, Nat.zero_le _⟩ rfl rfl (Nat.le_of_ble_eq_true rfl) hl.1 d_Har_spareDays_27) (fun H locs hW => ?_)
        refine lv_iload_n hx hb d_Har_spareDays_30 rfl (lv_at hl 0 rfl) ?_
        refine lv_icmp_ne (tgt := 41) hx hb d_Har_spareDays_31 (by decide) (fun c_5 => ?_) (fun c_5 => ?_)
        · replace hr := iN c_5 hr
          refine lv_iinc (v := (y4_2 + 1)) (lv' := [(4, .int (y4_2 + 1)), (2, .int q_1.1), (0, .ref a_r0), (1, .ref a_r1), (3, .int y3_2)]) hx hb d_Har_spareDays_41 hl (k := 4) rfl rfl (by decide) rfl (fun ls hl => ?_)
          refine lv_goto (tgt := 12) hx hb d_Har_spareDays_44 (by decide) ?_
          exact ih_2 y3_2 (y4_2 + 1) q_4.2.1 q_4.2.2.1 q_4.2.2.2.1 q_4.2.2.2.2 (hz1_2 _ (Option.some.inj hr).symm) _ _ _ hW (lv_sub hl [1, 2, 3, 4, 0] rfl)
        · replace hr := ip c_5 hr
          refine lv_iload_n hx hb d_Har_spareDays_34 rfl (lv_at hl 3 rfl) ?_
          refine lv_iconst (v := 1) hx hb d_Har_spareDays_35 (by decide) ?_
          refine lv_iload hx hb d_Har_spareDays_36 (lv_at hl 4 rfl) ?_
          refine lv_ishl hx hb d_Har_spareDays_38 ?_
          refine lv_ior hx hb d_Har_spareDays_39 ?_
          refine lv_istore_n (lv' := [(3, .int (y3_2 ||| ((1 : Int32) <<< ((y4_2 : Int32) &&& 31)))), (2, .int q_1.1), (0, .ref a_r0), (1, .ref a_r1), (4, .int y4_2)]) hx hb d_Har_spareDays_40 rfl hl (by decide) rfl (fun ls hl => ?_)
          refine lv_iinc (v := (y4_2 + 1)) (lv' := [(4, .int (y4_2 + 1)), (3, .int (y3_2 ||| ((1 : Int32) <<< ((y4_2 : Int32) &&& 31)))), (2, .int q_1.1), (0, .ref a_r0), (1, .ref a_r1)]) hx hb d_Har_spareDays_41 hl (k := 4) rfl rfl (by decide) rfl (fun ls hl => ?_)
          refine lv_goto (tgt := 12) hx hb d_Har_spareDays_44 (by decide) ?_
          exact ih_2 (y3_2 ||| ((1 : Int32) <<< ((y4_2 : Int32) &&& 31))) (y4_2 + 1) q_4.2.1 q_4.2.2.1 q_4.2.2.2.1 q_4.2.2.2.2 (hz1_2 _ (Option.some.inj hr).symm) _ _ _ hW (lv_sub hl [2, 3, 4, 1, 0] rfl)
  exact hl_2 _ 0 0 q_1.2.1 q_1.2.2.1 q_1.2.2.2.1 q_1.2.2.2.2 hw_2 _ _ _ hW (lv_sub hl [2, 3, 4, 1, 0] rfl)
def w_Sta_allThings (cI : ClassId) (a_r0 : Nat) (v_r0_weights v_r0_kinds v_r0_figures v_r0_goes v_r0_hampers v_r0_days v_r0_fields v_r0_done : Value) (r0_things : Int32) : va_W := [(a_r0, .inr (1, [v_r0_weights, v_r0_kinds, v_r0_figures, v_r0_goes, .int r0_things, v_r0_hampers, v_r0_days, v_r0_fields, v_r0_done]))]
def F_Sta_allThings (r0_things : Int32) : Option (Int32) :=
  (some (((1 : Int32) <<< ((r0_things : Int32) &&& 31)) - 1))
set_option maxHeartbeats 4000000 in
set_option maxRecDepth 100000 in
theorem C_Sta_allThings (l : Launch) (D : va_G) (cI cS : ClassId) (a_r0 : Nat) (v_r0_weights v_r0_kinds v_r0_figures v_r0_goes v_r0_hampers v_r0_days v_r0_fields v_r0_done : Value) (r0_things : Int32) (o : Int32) (hr : F_Sta_allThings r0_things = some o) : ctI l y_Sta_allThings (Cond.code y_Sta_allThings b_Sta_allThings 1 (some FieldType.int)) (rmd 0) D (kTy cI cS) [.ref a_r0] (w_Sta_allThings cI a_r0 v_r0_weights v_r0_kinds v_r0_figures v_r0_goes v_r0_hampers v_r0_days v_r0_fields v_r0_done r0_things) (w_Sta_allThings cI a_r0 v_r0_weights v_r0_kinds v_r0_figures v_r0_goes v_r0_hampers v_r0_days v_r0_fields v_r0_done r0_things) o := by
  unfold F_Sta_allThings at hr
  refine ⟨rfl, fun sz => ct_of (w0 := (w_Sta_allThings cI a_r0 v_r0_weights v_r0_kinds v_r0_figures v_r0_goes v_r0_hampers v_r0_days v_r0_fields v_r0_done r0_things)) (Qc := fun A => qI D (w_Sta_allThings cI a_r0 v_r0_weights v_r0_kinds v_r0_figures v_r0_goes v_r0_hampers v_r0_days v_r0_fields v_r0_done r0_things) o A) rfl (Nat.le_of_ble_eq_true rfl) ?_ sz⟩
  intro p e s m below meth c A hA C hret ls hl hW
  have C : cx p s m ([.ref a_r0] : List Value).toArray meth c b_Sta_allThings 1 R_Sta D (kTy cI cS) (Cond.code y_Sta_allThings b_Sta_allThings 1 (some FieldType.int)) := C
  obtain ⟨hx, hb, hml, hown, hts, hK, hlk, hN⟩ := id C
  have hl : lv_has ls 1 [(0, .ref a_r0)] := hl
  obtain ⟨Q, hQ⟩ : ∃ Q, Q = MQ below (qI D (w_Sta_allThings cI a_r0 v_r0_weights v_r0_kinds v_r0_figures v_r0_goes v_r0_hampers v_r0_days v_r0_fields v_r0_done r0_things) o A) ([.ref a_r0] : List Value).toArray s 0 0 A := ⟨_, rfl⟩
  rw [← hQ]
  refine lv_iconst (v := 1) hx hb d_Sta_allThings_0 (by decide) ?_
  refine lv_aload_n hx hb d_Sta_allThings_1 rfl (lv_at hl 0 rfl) ?_
  refine k_get i_Sta C hW 0 rfl rfl 4 (by decide) qf_Sta_43 rfl rfl d_Sta_allThings_2 ?_
  refine lv_ishl hx hb d_Sta_allThings_5 ?_
  refine lv_iconst (v := 1) hx hb d_Sta_allThings_6 (by decide) ?_
  refine lv_isub hx hb d_Sta_allThings_7 ?_
  obtain rfl := Option.some.inj hr
  rw [hQ]; exact k_iret C hret hW d_Sta_allThings_8
