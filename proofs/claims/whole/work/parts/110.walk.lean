def w_M_readNumbers (cI : ClassId) (a_r0 : Nat) (a_r0_letters : Nat) (a_r0_told : Nat) (v_r0_weights v_r0_things v_r0_kinds v_r0_figures v_r0_days v_r0_hampers v_r0_wants0 v_r0_left0 v_r0_done0 v_r0_thrown v_r0_refusals v_r0_statements v_r0_placeIn v_r0_letterOf v_r0_kept v_r0_imaged v_r0_hasImage v_r0_place0 v_r0_isTaking v_r0_keptIn v_r0_turns0 v_r0_turnOf v_r0_turned v_r0_order0 v_r0_likely0 v_r0_leftThen v_r0_row v_r0_rowMany v_r0_seed : Value) (r0_at : Int32) (r0_isBad : Int32) (r0_letterMany : Int32) (r0_letters : Nat → Int32) (r0_told : Nat → Int32) : va_W := [(a_r0, .inr (9, [v_r0_weights, v_r0_things, v_r0_kinds, v_r0_figures, v_r0_days, v_r0_hampers, v_r0_wants0, v_r0_left0, v_r0_done0, v_r0_thrown, v_r0_refusals, .ref a_r0_letters, .int r0_letterMany, .int r0_at, .int r0_isBad, v_r0_statements, v_r0_placeIn, v_r0_letterOf, .ref a_r0_told, v_r0_kept, v_r0_imaged, v_r0_hasImage, v_r0_place0, v_r0_isTaking, v_r0_keptIn, v_r0_turns0, v_r0_turnOf, v_r0_turned, v_r0_order0, v_r0_likely0, v_r0_leftThen, v_r0_row, v_r0_rowMany, v_r0_seed])), (a_r0_letters, .inl (cI, 96, .inl r0_letters)), (a_r0_told, .inl (cI, 147, .inl r0_told))]
def F_M_readNumbers_J74_7 (r0_letterMany : Int32) (r0_letters : Nat → Int32) (r0_told : Nat → Int32) (q_3 : Int32 × (Int32) × (Int32)) (x2 : Int32) : Option ((Int32) × (Int32) × (Nat → Int32)) :=
  ((F_M_readDigits q_3.2.1 q_3.2.2 r0_letterMany r0_letters (1 : Int32)).bind (fun q_8 => (ck (x2 + 1) 147 (some (q_8.2.1, q_8.2.2, (upd (upd r0_told (Int32.toNatClampNeg x2) q_3.1) (Int32.toNatClampNeg (x2 + 1)) q_8.1))))))
def F_M_readNumbers_J17_2 (r0_at : Int32) (r0_isBad : Int32) (r0_letterMany : Int32) (r0_letters : Nat → Int32) (r0_told : Nat → Int32) (x1 : Int32) (x2 : Int32) (s3_2 : Int32) : Option ((Int32) × (Int32) × (Nat → Int32)) :=
  ((F_M_readDigits r0_at r0_isBad r0_letterMany r0_letters s3_2).bind (fun q_3 => (ck x2 147 (if x1 = 102 then ((F_M_readDigits q_3.2.1 q_3.2.2 r0_letterMany r0_letters (2 : Int32)).bind (fun q_12 => (ck (x2 + 1) 147 ((F_M_readDigits q_12.2.1 q_12.2.2 r0_letterMany r0_letters (1 : Int32)).bind (fun q_14 => (ck (x2 + 2) 147 (some (q_14.2.1, q_14.2.2, (upd (upd (upd r0_told (Int32.toNatClampNeg x2) q_3.1) (Int32.toNatClampNeg (x2 + 1)) q_12.1) (Int32.toNatClampNeg (x2 + 2)) q_14.1))))))))) else (if x1 = 116 then (F_M_readNumbers_J74_7 r0_letterMany r0_letters r0_told q_3 x2) else (if x1 = 119 then (F_M_readNumbers_J74_7 r0_letterMany r0_letters r0_told q_3 x2) else (if x1 = 112 then (F_M_readNumbers_J74_7 r0_letterMany r0_letters r0_told q_3 x2) else (some (q_3.2.1, q_3.2.2, (upd r0_told (Int32.toNatClampNeg x2) q_3.1))))))))))
def F_M_readNumbers (r0_at : Int32) (r0_isBad : Int32) (r0_letterMany : Int32) (r0_letters : Nat → Int32) (r0_told : Nat → Int32) (x1 : Int32) (x2 : Int32) : Option ((Int32) × (Int32) × (Nat → Int32)) :=
  (if x1 = 100 then (F_M_readNumbers_J17_2 r0_at r0_isBad r0_letterMany r0_letters r0_told x1 x2 3) else (F_M_readNumbers_J17_2 r0_at r0_isBad r0_letterMany r0_letters r0_told x1 x2 1))
set_option maxHeartbeats 4000000 in
set_option maxRecDepth 100000 in
theorem C_M_readNumbers (l : Launch) (D : va_G) (cI cS : ClassId) (a_r0 : Nat) (a_r0_letters : Nat) (a_r0_told : Nat) (v_r0_weights v_r0_things v_r0_kinds v_r0_figures v_r0_days v_r0_hampers v_r0_wants0 v_r0_left0 v_r0_done0 v_r0_thrown v_r0_refusals v_r0_statements v_r0_placeIn v_r0_letterOf v_r0_kept v_r0_imaged v_r0_hasImage v_r0_place0 v_r0_isTaking v_r0_keptIn v_r0_turns0 v_r0_turnOf v_r0_turned v_r0_order0 v_r0_likely0 v_r0_leftThen v_r0_row v_r0_rowMany v_r0_seed : Value) (r0_at : Int32) (r0_isBad : Int32) (r0_letterMany : Int32) (r0_letters : Nat → Int32) (r0_told : Nat → Int32) (x1 : Int32) (x2 : Int32) (o : (Int32) × (Int32) × (Nat → Int32)) (hr : F_M_readNumbers r0_at r0_isBad r0_letterMany r0_letters r0_told x1 x2 = some o) : ctV l y_M_readNumbers (Cond.code y_M_readNumbers b_M_readNumbers 3 none) (rmd 2) D (kTy cI cS) [.ref a_r0, .int x1, .int x2] (w_M_readNumbers cI a_r0 a_r0_letters a_r0_told v_r0_weights v_r0_things v_r0_kinds v_r0_figures v_r0_days v_r0_hampers v_r0_wants0 v_r0_left0 v_r0_done0 v_r0_thrown v_r0_refusals v_r0_statements v_r0_placeIn v_r0_letterOf v_r0_kept v_r0_imaged v_r0_hasImage v_r0_place0 v_r0_isTaking v_r0_keptIn v_r0_turns0 v_r0_turnOf v_r0_turned v_r0_order0 v_r0_likely0 v_r0_leftThen v_r0_row v_r0_rowMany v_r0_seed r0_at r0_isBad r0_letterMany r0_letters r0_told) (w_M_readNumbers cI a_r0 a_r0_letters a_r0_told v_r0_weights v_r0_things v_r0_kinds v_r0_figures v_r0_days v_r0_hampers v_r0_wants0 v_r0_left0 v_r0_done0 v_r0_thrown v_r0_refusals v_r0_statements v_r0_placeIn v_r0_letterOf v_r0_kept v_r0_imaged v_r0_hasImage v_r0_place0 v_r0_isTaking v_r0_keptIn v_r0_turns0 v_r0_turnOf v_r0_turned v_r0_order0 v_r0_likely0 v_r0_leftThen v_r0_row v_r0_rowMany v_r0_seed o.1 o.2.1 r0_letterMany r0_letters o.2.2) := by
  unfold F_M_readNumbers at hr
  refine ⟨rfl, fun sz => ct_of (w0 := (w_M_readNumbers cI a_r0 a_r0_letters a_r0_told v_r0_weights v_r0_things v_r0_kinds v_r0_figures v_r0_days v_r0_hampers v_r0_wants0 v_r0_left0 v_r0_done0 v_r0_thrown v_r0_refusals v_r0_statements v_r0_placeIn v_r0_letterOf v_r0_kept v_r0_imaged v_r0_hasImage v_r0_place0 v_r0_isTaking v_r0_keptIn v_r0_turns0 v_r0_turnOf v_r0_turned v_r0_order0 v_r0_likely0 v_r0_leftThen v_r0_row v_r0_rowMany v_r0_seed r0_at r0_isBad r0_letterMany r0_letters r0_told)) (Qc := fun A => qV D (w_M_readNumbers cI a_r0 a_r0_letters a_r0_told v_r0_weights v_r0_things v_r0_kinds v_r0_figures v_r0_days v_r0_hampers v_r0_wants0 v_r0_left0 v_r0_done0 v_r0_thrown v_r0_refusals v_r0_statements v_r0_placeIn v_r0_letterOf v_r0_kept v_r0_imaged v_r0_hasImage v_r0_place0 v_r0_isTaking v_r0_keptIn v_r0_turns0 v_r0_turnOf v_r0_turned v_r0_order0 v_r0_likely0 v_r0_leftThen v_r0_row v_r0_rowMany v_r0_seed o.1 o.2.1 r0_letterMany r0_letters o.2.2) A) rfl (Nat.le_of_ble_eq_true rfl) ?_ sz⟩
  intro p e s m below meth c A hA C hret ls hl hW
  have C : cx p s m ([.ref a_r0, .int x1, .int x2] : List Value).toArray meth c b_M_readNumbers 3 R_M D (kTy cI cS) (Cond.code y_M_readNumbers b_M_readNumbers 3 none) := C
  obtain ⟨hx, hb, hml, hown, hts, hK, hlk, hN⟩ := id C
  have hl : lv_has ls 3 [(0, .ref a_r0), (1, .int x1), (2, .int x2)] := hl
  obtain ⟨Q, hQ⟩ : ∃ Q, Q = MQ below (qV D (w_M_readNumbers cI a_r0 a_r0_letters a_r0_told v_r0_weights v_r0_things v_r0_kinds v_r0_figures v_r0_days v_r0_hampers v_r0_wants0 v_r0_left0 v_r0_done0 v_r0_thrown v_r0_refusals v_r0_statements v_r0_placeIn v_r0_letterOf v_r0_kept v_r0_imaged v_r0_hasImage v_r0_place0 v_r0_isTaking v_r0_keptIn v_r0_turns0 v_r0_turnOf v_r0_turned v_r0_order0 v_r0_likely0 v_r0_leftThen v_r0_row v_r0_rowMany v_r0_seed o.1 o.2.1 r0_letterMany r0_letters o.2.2) A) ([.ref a_r0, .int x1, .int x2] : List Value).toArray s 0 0 A := ⟨_, rfl⟩
  rw [← hQ]
  refine lv_aload_n hx hb d_M_readNumbers_0 rfl (lv_at hl 0 rfl) ?_
  refine k_get i_M C hW 0 rfl rfl 18 (by decide) qf_M_40 rfl rfl d_M_readNumbers_1 ?_
  refine lv_iload_n hx hb d_M_readNumbers_4 rfl (lv_at hl 2 rfl) ?_
  refine lv_aload_n hx hb d_M_readNumbers_5 rfl (lv_at hl 0 rfl) ?_
  refine lv_iload_n hx hb d_M_readNumbers_6 rfl (lv_at hl 1 rfl) ?_
  refine lv_bipush (v := 100) hx hb d_M_readNumbers_7 (by decide) ?_
  have hJ_2 : ∀ (s3_2 : Int32), F_M_readNumbers_J17_2 r0_at r0_isBad r0_letterMany r0_letters r0_told x1 x2 s3_2 = some o → ∀ (H : Heap) (locs : List Loc) (ls : Array Slot), wd A s.heap D (w_M_readNumbers cI a_r0 a_r0_letters a_r0_told v_r0_weights v_r0_things v_r0_kinds v_r0_figures v_r0_days v_r0_hampers v_r0_wants0 v_r0_left0 v_r0_done0 v_r0_thrown v_r0_refusals v_r0_statements v_r0_placeIn v_r0_letterOf v_r0_kept v_r0_imaged v_r0_hasImage v_r0_place0 v_r0_isTaking v_r0_keptIn v_r0_turns0 v_r0_turnOf v_r0_turned v_r0_order0 v_r0_likely0 v_r0_leftThen v_r0_row v_r0_rowMany v_r0_seed r0_at r0_isBad r0_letterMany r0_letters r0_told) H locs → lv_has ls 3 [(0, .ref a_r0), (1, .int x1), (2, .int x2)] → W p l e (rmd 2) s m ([.ref a_r0, .int x1, .int x2] : List Value).toArray below meth c H locs 0 0 Q (F0 m 17 ls [.int s3_2, .ref a_r0, .int x2, .ref a_r0_told]) := by
    intro s3_2 hr H locs ls hW hl
    unfold F_M_readNumbers_J17_2 at hr
    obtain ⟨q_3, hc_3, hr⟩ := ob hr
    have ct_3 := C_M_readDigits l D cI cS a_r0 a_r0_letters v_r0_weights v_r0_things v_r0_kinds v_r0_figures v_r0_days v_r0_hampers v_r0_wants0 v_r0_left0 v_r0_done0 v_r0_thrown v_r0_refusals v_r0_statements v_r0_placeIn v_r0_letterOf (Value.ref a_r0_told) v_r0_kept v_r0_imaged v_r0_hasImage v_r0_place0 v_r0_isTaking v_r0_keptIn v_r0_turns0 v_r0_turnOf v_r0_turned v_r0_order0 v_r0_likely0 v_r0_leftThen v_r0_row v_r0_rowMany v_r0_seed r0_at r0_isBad r0_letterMany r0_letters s3_2 q_3 hc_3
    refine k_goI hA hW [0, 1] rfl ct_3.1 (ws' := (w_M_readNumbers cI a_r0 a_r0_letters a_r0_told v_r0_weights v_r0_things v_r0_kinds v_r0_figures v_r0_days v_r0_hampers v_r0_wants0 v_r0_left0 v_r0_done0 v_r0_thrown v_r0_refusals v_r0_statements v_r0_placeIn v_r0_letterOf v_r0_kept v_r0_imaged v_r0_hasImage v_r0_place0 v_r0_isTaking v_r0_keptIn v_r0_turns0 v_r0_turnOf v_r0_turned v_r0_order0 v_r0_likely0 v_r0_leftThen v_r0_row v_r0_rowMany v_r0_seed q_3.2.1 q_3.2.2 r0_letterMany r0_letters r0_told)) rfl (k_runV C hA hW mw_M_readDigits mv_M_readDigits (ct_3.2 _) [0, 1] rfl rfl 0 rfl rfl qm_M_129 ⟨Nat.le_of_ble_eq_true rfl, Nat.le_of_ble_eq_true rfl, Nat.zero_le _, Nat.zero_le _⟩ rfl rfl (Nat.le_of_ble_eq_true rfl) hl.1 d_M_readNumbers_17) (fun H locs hW => ?_)
    obtain ⟨h_4, hr⟩ := ck_some hr
    refine k_iast C hW 2 rfl h_4 (ws' := (w_M_readNumbers cI a_r0 a_r0_letters a_r0_told v_r0_weights v_r0_things v_r0_kinds v_r0_figures v_r0_days v_r0_hampers v_r0_wants0 v_r0_left0 v_r0_done0 v_r0_thrown v_r0_refusals v_r0_statements v_r0_placeIn v_r0_letterOf v_r0_kept v_r0_imaged v_r0_hasImage v_r0_place0 v_r0_isTaking v_r0_keptIn v_r0_turns0 v_r0_turnOf v_r0_turned v_r0_order0 v_r0_likely0 v_r0_leftThen v_r0_row v_r0_rowMany v_r0_seed q_3.2.1 q_3.2.2 r0_letterMany r0_letters (upd r0_told (Int32.toNatClampNeg x2) q_3.1))) rfl d_M_readNumbers_20 (fun H locs hW => ?_)
    refine lv_iload_n hx hb d_M_readNumbers_21 rfl (lv_at hl 1 rfl) ?_
    refine lv_bipush (v := 102) hx hb d_M_readNumbers_22 (by decide) ?_
    refine lv_icmp_ne (tgt := 56) hx hb d_M_readNumbers_24 (by decide) (fun c_5 => ?_) (fun c_5 => ?_)
    · replace hr := iN c_5 hr
      refine lv_iload_n hx hb d_M_readNumbers_56 rfl (lv_at hl 1 rfl) ?_
      refine lv_bipush (v := 116) hx hb d_M_readNumbers_57 (by decide) ?_
      have hJ_7 : ∀ (_ : Unit), F_M_readNumbers_J74_7 r0_letterMany r0_letters r0_told q_3 x2 = some o → ∀ (H : Heap) (locs : List Loc) (ls : Array Slot), wd A s.heap D (w_M_readNumbers cI a_r0 a_r0_letters a_r0_told v_r0_weights v_r0_things v_r0_kinds v_r0_figures v_r0_days v_r0_hampers v_r0_wants0 v_r0_left0 v_r0_done0 v_r0_thrown v_r0_refusals v_r0_statements v_r0_placeIn v_r0_letterOf v_r0_kept v_r0_imaged v_r0_hasImage v_r0_place0 v_r0_isTaking v_r0_keptIn v_r0_turns0 v_r0_turnOf v_r0_turned v_r0_order0 v_r0_likely0 v_r0_leftThen v_r0_row v_r0_rowMany v_r0_seed q_3.2.1 q_3.2.2 r0_letterMany r0_letters (upd r0_told (Int32.toNatClampNeg x2) q_3.1)) H locs → lv_has ls 3 [(0, .ref a_r0), (2, .int x2)] → W p l e (rmd 2) s m ([.ref a_r0, .int x1, .int x2] : List Value).toArray below meth c H locs 0 0 Q (F0 m 74 ls []) := by
        intro _ hr H locs ls hW hl
        unfold F_M_readNumbers_J74_7 at hr
        refine lv_aload_n hx hb d_M_readNumbers_74 rfl (lv_at hl 0 rfl) ?_
        refine k_get i_M C hW 0 rfl rfl 18 (by decide) qf_M_40 rfl rfl d_M_readNumbers_75 ?_
        refine lv_iload_n hx hb d_M_readNumbers_78 rfl (lv_at hl 1 rfl) ?_
        refine lv_iconst (v := 1) hx hb d_M_readNumbers_79 (by decide) ?_
        refine lv_iadd hx hb d_M_readNumbers_80 ?_
        refine lv_aload_n hx hb d_M_readNumbers_81 rfl (lv_at hl 0 rfl) ?_
        refine lv_iconst (v := 1) hx hb d_M_readNumbers_82 (by decide) ?_
        obtain ⟨q_8, hc_8, hr⟩ := ob hr
        have ct_8 := C_M_readDigits l D cI cS a_r0 a_r0_letters v_r0_weights v_r0_things v_r0_kinds v_r0_figures v_r0_days v_r0_hampers v_r0_wants0 v_r0_left0 v_r0_done0 v_r0_thrown v_r0_refusals v_r0_statements v_r0_placeIn v_r0_letterOf (Value.ref a_r0_told) v_r0_kept v_r0_imaged v_r0_hasImage v_r0_place0 v_r0_isTaking v_r0_keptIn v_r0_turns0 v_r0_turnOf v_r0_turned v_r0_order0 v_r0_likely0 v_r0_leftThen v_r0_row v_r0_rowMany v_r0_seed q_3.2.1 q_3.2.2 r0_letterMany r0_letters 1 q_8 hc_8
        refine k_goI hA hW [0, 1] rfl ct_8.1 (ws' := (w_M_readNumbers cI a_r0 a_r0_letters a_r0_told v_r0_weights v_r0_things v_r0_kinds v_r0_figures v_r0_days v_r0_hampers v_r0_wants0 v_r0_left0 v_r0_done0 v_r0_thrown v_r0_refusals v_r0_statements v_r0_placeIn v_r0_letterOf v_r0_kept v_r0_imaged v_r0_hasImage v_r0_place0 v_r0_isTaking v_r0_keptIn v_r0_turns0 v_r0_turnOf v_r0_turned v_r0_order0 v_r0_likely0 v_r0_leftThen v_r0_row v_r0_rowMany v_r0_seed q_8.2.1 q_8.2.2 r0_letterMany r0_letters (upd r0_told (Int32.toNatClampNeg x2) q_3.1))) rfl (k_runV C hA hW mw_M_readDigits mv_M_readDigits (ct_8.2 _) [0, 1] rfl rfl 0 rfl rfl qm_M_129 ⟨Nat.le_of_ble_eq_true rfl, Nat.le_of_ble_eq_true rfl, Nat.zero_le _, Nat.zero_le _⟩ rfl rfl (Nat.le_of_ble_eq_true rfl) hl.1 d_M_readNumbers_83) (fun H locs hW => ?_)
        obtain ⟨h_9, hr⟩ := ck_some hr
        refine k_iast C hW 2 rfl h_9 (ws' := (w_M_readNumbers cI a_r0 a_r0_letters a_r0_told v_r0_weights v_r0_things v_r0_kinds v_r0_figures v_r0_days v_r0_hampers v_r0_wants0 v_r0_left0 v_r0_done0 v_r0_thrown v_r0_refusals v_r0_statements v_r0_placeIn v_r0_letterOf v_r0_kept v_r0_imaged v_r0_hasImage v_r0_place0 v_r0_isTaking v_r0_keptIn v_r0_turns0 v_r0_turnOf v_r0_turned v_r0_order0 v_r0_likely0 v_r0_leftThen v_r0_row v_r0_rowMany v_r0_seed q_8.2.1 q_8.2.2 r0_letterMany r0_letters (upd (upd r0_told (Int32.toNatClampNeg x2) q_3.1) (Int32.toNatClampNeg (x2 + 1)) q_8.1))) rfl d_M_readNumbers_86 (fun H locs hW => ?_)
        obtain rfl := Option.some.inj hr
        rw [hQ]; exact k_vret C hret hW d_M_readNumbers_87
      refine lv_icmp_eq (tgt := 74) hx hb d_M_readNumbers_59 (by decide) (fun c_6 => ?_) (fun c_6 => ?_)
      · replace hr := ip c_6 hr
        exact hJ_7 () hr _ _ _ hW (lv_sub hl [0, 2] rfl)
      · replace hr := iN c_6 hr
        refine lv_iload_n hx hb d_M_readNumbers_62 rfl (lv_at hl 1 rfl) ?_
        refine lv_bipush (v := 119) hx hb d_M_readNumbers_63 (by decide) ?_
        refine lv_icmp_eq (tgt := 74) hx hb d_M_readNumbers_65 (by decide) (fun c_10 => ?_) (fun c_10 => ?_)
        · replace hr := ip c_10 hr
          exact hJ_7 () hr _ _ _ hW (lv_sub hl [0, 2] rfl)
        · replace hr := iN c_10 hr
          refine lv_iload_n hx hb d_M_readNumbers_68 rfl (lv_at hl 1 rfl) ?_
          refine lv_bipush (v := 112) hx hb d_M_readNumbers_69 (by decide) ?_
          refine lv_icmp_ne (tgt := 87) hx hb d_M_readNumbers_71 (by decide) (fun c_11 => ?_) (fun c_11 => ?_)
          · replace hr := iN c_11 hr
            obtain rfl := Option.some.inj hr
            rw [hQ]; exact k_vret C hret hW d_M_readNumbers_87
          · replace hr := ip c_11 hr
            exact hJ_7 () hr _ _ _ hW (lv_sub hl [0, 2] rfl)
    · replace hr := ip c_5 hr
      refine lv_aload_n hx hb d_M_readNumbers_27 rfl (lv_at hl 0 rfl) ?_
      refine k_get i_M C hW 0 rfl rfl 18 (by decide) qf_M_40 rfl rfl d_M_readNumbers_28 ?_
      refine lv_iload_n hx hb d_M_readNumbers_31 rfl (lv_at hl 2 rfl) ?_
      refine lv_iconst (v := 1) hx hb d_M_readNumbers_32 (by decide) ?_
      refine lv_iadd hx hb d_M_readNumbers_33 ?_
      refine lv_aload_n hx hb d_M_readNumbers_34 rfl (lv_at hl 0 rfl) ?_
      refine lv_iconst (v := 2) hx hb d_M_readNumbers_35 (by decide) ?_
      obtain ⟨q_12, hc_12, hr⟩ := ob hr
      have ct_12 := C_M_readDigits l D cI cS a_r0 a_r0_letters v_r0_weights v_r0_things v_r0_kinds v_r0_figures v_r0_days v_r0_hampers v_r0_wants0 v_r0_left0 v_r0_done0 v_r0_thrown v_r0_refusals v_r0_statements v_r0_placeIn v_r0_letterOf (Value.ref a_r0_told) v_r0_kept v_r0_imaged v_r0_hasImage v_r0_place0 v_r0_isTaking v_r0_keptIn v_r0_turns0 v_r0_turnOf v_r0_turned v_r0_order0 v_r0_likely0 v_r0_leftThen v_r0_row v_r0_rowMany v_r0_seed q_3.2.1 q_3.2.2 r0_letterMany r0_letters 2 q_12 hc_12
      refine k_goI hA hW [0, 1] rfl ct_12.1 (ws' := (w_M_readNumbers cI a_r0 a_r0_letters a_r0_told v_r0_weights v_r0_things v_r0_kinds v_r0_figures v_r0_days v_r0_hampers v_r0_wants0 v_r0_left0 v_r0_done0 v_r0_thrown v_r0_refusals v_r0_statements v_r0_placeIn v_r0_letterOf v_r0_kept v_r0_imaged v_r0_hasImage v_r0_place0 v_r0_isTaking v_r0_keptIn v_r0_turns0 v_r0_turnOf v_r0_turned v_r0_order0 v_r0_likely0 v_r0_leftThen v_r0_row v_r0_rowMany v_r0_seed q_12.2.1 q_12.2.2 r0_letterMany r0_letters (upd r0_told (Int32.toNatClampNeg x2) q_3.1))) rfl (k_runV C hA hW mw_M_readDigits mv_M_readDigits (ct_12.2 _) [0, 1] rfl rfl 0 rfl rfl qm_M_129 ⟨Nat.le_of_ble_eq_true rfl, Nat.le_of_ble_eq_true rfl, Nat.zero_le _, Nat.zero_le _⟩ rfl rfl (Nat.le_of_ble_eq_true rfl) hl.1 d_M_readNumbers_36) (fun H locs hW => ?_)
      obtain ⟨h_13, hr⟩ := ck_some hr
      refine k_iast C hW 2 rfl h_13 (ws' := (w_M_readNumbers cI a_r0 a_r0_letters a_r0_told v_r0_weights v_r0_things v_r0_kinds v_r0_figures v_r0_days v_r0_hampers v_r0_wants0 v_r0_left0 v_r0_done0 v_r0_thrown v_r0_refusals v_r0_statements v_r0_placeIn v_r0_letterOf v_r0_kept v_r0_imaged v_r0_hasImage v_r0_place0 v_r0_isTaking v_r0_keptIn v_r0_turns0 v_r0_turnOf v_r0_turned v_r0_order0 v_r0_likely0 v_r0_leftThen v_r0_row v_r0_rowMany v_r0_seed q_12.2.1 q_12.2.2 r0_letterMany r0_letters (upd (upd r0_told (Int32.toNatClampNeg x2) q_3.1) (Int32.toNatClampNeg (x2 + 1)) q_12.1))) rfl d_M_readNumbers_39 (fun H locs hW => ?_)
      refine lv_aload_n hx hb d_M_readNumbers_40 rfl (lv_at hl 0 rfl) ?_
      refine k_get i_M C hW 0 rfl rfl 18 (by decide) qf_M_40 rfl rfl d_M_readNumbers_41 ?_
      refine lv_iload_n hx hb d_M_readNumbers_44 rfl (lv_at hl 2 rfl) ?_
      refine lv_iconst (v := 2) hx hb d_M_readNumbers_45 (by decide) ?_
      refine lv_iadd hx hb d_M_readNumbers_46 ?_
      refine lv_aload_n hx hb d_M_readNumbers_47 rfl (lv_at hl 0 rfl) ?_
      refine lv_iconst (v := 1) hx hb d_M_readNumbers_48 (by decide) ?_
      obtain ⟨q_14, hc_14, hr⟩ := ob hr
      have ct_14 := C_M_readDigits l D cI cS a_r0 a_r0_letters v_r0_weights v_r0_things v_r0_kinds v_r0_figures v_r0_days v_r0_hampers v_r0_wants0 v_r0_left0 v_r0_done0 v_r0_thrown v_r0_refusals v_r0_statements v_r0_placeIn v_r0_letterOf (Value.ref a_r0_told) v_r0_kept v_r0_imaged v_r0_hasImage v_r0_place0 v_r0_isTaking v_r0_keptIn v_r0_turns0 v_r0_turnOf v_r0_turned v_r0_order0 v_r0_likely0 v_r0_leftThen v_r0_row v_r0_rowMany v_r0_seed q_12.2.1 q_12.2.2 r0_letterMany r0_letters 1 q_14 hc_14
      refine k_goI hA hW [0, 1] rfl ct_14.1 (ws' := (w_M_readNumbers cI a_r0 a_r0_letters a_r0_told v_r0_weights v_r0_things v_r0_kinds v_r0_figures v_r0_days v_r0_hampers v_r0_wants0 v_r0_left0 v_r0_done0 v_r0_thrown v_r0_refusals v_r0_statements v_r0_placeIn v_r0_letterOf v_r0_kept v_r0_imaged v_r0_hasImage v_r0_place0 v_r0_isTaking v_r0_keptIn v_r0_turns0 v_r0_turnOf v_r0_turned v_r0_order0 v_r0_likely0 v_r0_leftThen v_r0_row v_r0_rowMany v_r0_seed q_14.2.1 q_14.2.2 r0_letterMany r0_letters (upd (upd r0_told (Int32.toNatClampNeg x2) q_3.1) (Int32.toNatClampNeg (x2 + 1)) q_12.1))) rfl (k_runV C hA hW mw_M_readDigits mv_M_readDigits (ct_14.2 _) [0, 1] rfl rfl 0 rfl rfl qm_M_129 ⟨Nat.le_of_ble_eq_true rfl, Nat.le_of_ble_eq_true rfl, Nat.zero_le _, Nat.zero_le _⟩ rfl rfl (Nat.le_of_ble_eq_true rfl) hl.1 d_M_readNumbers_49) (fun H locs hW => ?_)
      obtain ⟨h_15, hr⟩ := ck_some hr
      refine k_iast C hW 2 rfl h_15 (ws' := (w_M_readNumbers cI a_r0 a_r0_letters a_r0_told v_r0_weights v_r0_things v_r0_kinds v_r0_figures v_r0_days v_r0_hampers v_r0_wants0 v_r0_left0 v_r0_done0 v_r0_thrown v_r0_refusals v_r0_statements v_r0_placeIn v_r0_letterOf v_r0_kept v_r0_imaged v_r0_hasImage v_r0_place0 v_r0_isTaking v_r0_keptIn v_r0_turns0 v_r0_turnOf v_r0_turned v_r0_order0 v_r0_likely0 v_r0_leftThen v_r0_row v_r0_rowMany v_r0_seed q_14.2.1 q_14.2.2 r0_letterMany r0_letters (upd (upd (upd r0_told (Int32.toNatClampNeg x2) q_3.1) (Int32.toNatClampNeg (x2 + 1)) q_12.1) (Int32.toNatClampNeg (x2 + 2)) q_14.1))) rfl d_M_readNumbers_52 (fun H locs hW => ?_)
      refine lv_goto (tgt := 87) hx hb d_M_readNumbers_53 (by decide) ?_
      obtain rfl := Option.some.inj hr
      rw [hQ]; exact k_vret C hret hW d_M_readNumbers_87
  refine lv_icmp_ne (tgt := 16) hx hb d_M_readNumbers_9 (by decide) (fun c_1 => ?_) (fun c_1 => ?_)
  · replace hr := iN c_1 hr
    refine lv_iconst (v := 1) hx hb d_M_readNumbers_16 (by decide) ?_
    exact hJ_2 1 hr _ _ _ hW (lv_sub hl [0, 1, 2] rfl)
  · replace hr := ip c_1 hr
    refine lv_iconst (v := 3) hx hb d_M_readNumbers_12 (by decide) ?_
    refine lv_goto (tgt := 17) hx hb d_M_readNumbers_13 (by decide) ?_
    exact hJ_2 3 hr _ _ _ hW (lv_sub hl [0, 1, 2] rfl)
def w_M_readStatement (cI : ClassId) (a_r0 : Nat) (a_r0_letterOf : Nat) (a_r0_letters : Nat) (a_r0_placeIn : Nat) (a_r0_told : Nat) (v_r0_weights v_r0_things v_r0_kinds v_r0_figures v_r0_days v_r0_hampers v_r0_wants0 v_r0_left0 v_r0_done0 v_r0_thrown v_r0_refusals v_r0_kept v_r0_imaged v_r0_hasImage v_r0_place0 v_r0_isTaking v_r0_keptIn v_r0_turns0 v_r0_turnOf v_r0_turned v_r0_order0 v_r0_likely0 v_r0_leftThen v_r0_row v_r0_rowMany v_r0_seed : Value) (r0_at : Int32) (r0_isBad : Int32) (r0_letterMany : Int32) (r0_statements : Int32) (r0_letterOf : Nat → Int32) (r0_letters : Nat → Int32) (r0_placeIn : Nat → Int32) (r0_told : Nat → Int32) : va_W := [(a_r0, .inr (9, [v_r0_weights, v_r0_things, v_r0_kinds, v_r0_figures, v_r0_days, v_r0_hampers, v_r0_wants0, v_r0_left0, v_r0_done0, v_r0_thrown, v_r0_refusals, .ref a_r0_letters, .int r0_letterMany, .int r0_at, .int r0_isBad, .int r0_statements, .ref a_r0_placeIn, .ref a_r0_letterOf, .ref a_r0_told, v_r0_kept, v_r0_imaged, v_r0_hasImage, v_r0_place0, v_r0_isTaking, v_r0_keptIn, v_r0_turns0, v_r0_turnOf, v_r0_turned, v_r0_order0, v_r0_likely0, v_r0_leftThen, v_r0_row, v_r0_rowMany, v_r0_seed])), (a_r0_letterOf, .inl (cI, 49, .inl r0_letterOf)), (a_r0_letters, .inl (cI, 96, .inl r0_letters)), (a_r0_placeIn, .inl (cI, 49, .inl r0_placeIn)), (a_r0_told, .inl (cI, 147, .inl r0_told))]
def F_M_readStatement_J108_12 (r0_at : Int32) (r0_statements : Int32) (r0_letterOf : Nat → Int32) (r0_placeIn : Nat → Int32) (q_1 : Int32) (r0_at_10 : Int32) (r0_told_10 : Nat → Int32) (s1_12 : Int32) : Option ((Int32) × (Int32) × (Int32) × (Nat → Int32) × (Nat → Int32) × (Nat → Int32)) :=
  (ckz s1_12 (if s1_12 = 0 then (some ((r0_at_10 + 1), s1_12, (r0_statements + 1), (upd r0_letterOf (Int32.toNatClampNeg r0_statements) q_1), (upd r0_placeIn (Int32.toNatClampNeg r0_statements) r0_at), r0_told_10)) else (some ((r0_at_10 + 0), s1_12, (r0_statements + 1), (upd r0_letterOf (Int32.toNatClampNeg r0_statements) q_1), (upd r0_placeIn (Int32.toNatClampNeg r0_statements) r0_at), r0_told_10))))
def F_M_readStatement_J103_15 (r0_at : Int32) (r0_statements : Int32) (r0_letterOf : Nat → Int32) (r0_placeIn : Nat → Int32) (q_1 : Int32) (r0_at_10 : Int32) (r0_told_10 : Nat → Int32) : Option ((Int32) × (Int32) × (Int32) × (Nat → Int32) × (Nat → Int32) × (Nat → Int32)) :=
  (F_M_readStatement_J108_12 r0_at r0_statements r0_letterOf r0_placeIn q_1 r0_at_10 r0_told_10 1)
def F_M_readStatement_J86_10 (r0_at : Int32) (r0_letterMany : Int32) (r0_statements : Int32) (r0_letterOf : Nat → Int32) (r0_letters : Nat → Int32) (r0_placeIn : Nat → Int32) (q_1 : Int32) (r0_at_10 : Int32) (r0_isBad_10 : Int32) (r0_told_10 : Nat → Int32) : Option ((Int32) × (Int32) × (Int32) × (Nat → Int32) × (Nat → Int32) × (Nat → Int32)) :=
  (if r0_isBad_10 = 0 then ((F_M_here r0_at_10 r0_letterMany r0_letters).bind (fun q_16 => (if q_16 = 59 then (F_M_readStatement_J108_12 r0_at r0_statements r0_letterOf r0_placeIn q_1 r0_at_10 r0_told_10 0) else (F_M_readStatement_J103_15 r0_at r0_statements r0_letterOf r0_placeIn q_1 r0_at_10 r0_told_10)))) else (F_M_readStatement_J103_15 r0_at r0_statements r0_letterOf r0_placeIn q_1 r0_at_10 r0_told_10))
def F_M_readStatement_J67_8 (r0_at : Int32) (r0_letterMany : Int32) (r0_statements : Int32) (r0_letterOf : Nat → Int32) (r0_letters : Nat → Int32) (r0_placeIn : Nat → Int32) (r0_told : Nat → Int32) (q_1 : Int32) (s1_5 : Int32) (s2_8 : Int32) : Option ((Int32) × (Int32) × (Int32) × (Nat → Int32) × (Nat → Int32) × (Nat → Int32)) :=
  (if s1_5 = 0 then ((F_M_readNumbers (r0_at + s2_8) s1_5 r0_letterMany r0_letters r0_told q_1 ((3 : Int32) * r0_statements)).bind (fun q_18 => (F_M_readStatement_J86_10 r0_at r0_letterMany r0_statements r0_letterOf r0_letters r0_placeIn q_1 q_18.1 q_18.2.1 q_18.2.2))) else (F_M_readStatement_J86_10 r0_at r0_letterMany r0_statements r0_letterOf r0_letters r0_placeIn q_1 (r0_at + s2_8) s1_5 r0_told))
def F_M_readStatement_J47_5 (r0_at : Int32) (r0_letterMany : Int32) (r0_statements : Int32) (r0_letterOf : Nat → Int32) (r0_letters : Nat → Int32) (r0_placeIn : Nat → Int32) (r0_told : Nat → Int32) (q_1 : Int32) (s1_5 : Int32) : Option ((Int32) × (Int32) × (Int32) × (Nat → Int32) × (Nat → Int32) × (Nat → Int32)) :=
  (ckz s1_5 (if s1_5 = 0 then (F_M_readStatement_J67_8 r0_at r0_letterMany r0_statements r0_letterOf r0_letters r0_placeIn r0_told q_1 s1_5 1) else (F_M_readStatement_J67_8 r0_at r0_letterMany r0_statements r0_letterOf r0_letters r0_placeIn r0_told q_1 s1_5 0)))
def F_M_readStatement_J42_19 (r0_at : Int32) (r0_letterMany : Int32) (r0_statements : Int32) (r0_letterOf : Nat → Int32) (r0_letters : Nat → Int32) (r0_placeIn : Nat → Int32) (r0_told : Nat → Int32) (q_1 : Int32) : Option ((Int32) × (Int32) × (Int32) × (Nat → Int32) × (Nat → Int32) × (Nat → Int32)) :=
  (F_M_readStatement_J47_5 r0_at r0_letterMany r0_statements r0_letterOf r0_letters r0_placeIn r0_told q_1 1)
def F_M_readStatement (r0_at : Int32) (r0_isBad : Int32) (r0_letterMany : Int32) (r0_statements : Int32) (r0_letterOf : Nat → Int32) (r0_letters : Nat → Int32) (r0_placeIn : Nat → Int32) (r0_told : Nat → Int32) : Option ((Int32) × (Int32) × (Int32) × (Nat → Int32) × (Nat → Int32) × (Nat → Int32)) :=
  ((F_M_here r0_at r0_letterMany r0_letters).bind (fun q_1 => (ck r0_statements 49 (ck r0_statements 49 (if r0_isBad = 0 then ((F_M_isLetter q_1).bind (fun q_20 => (if q_20 = 0 then (F_M_readStatement_J42_19 r0_at r0_letterMany r0_statements r0_letterOf r0_letters r0_placeIn r0_told q_1) else (F_M_readStatement_J47_5 r0_at r0_letterMany r0_statements r0_letterOf r0_letters r0_placeIn r0_told q_1 0)))) else (F_M_readStatement_J42_19 r0_at r0_letterMany r0_statements r0_letterOf r0_letters r0_placeIn r0_told q_1))))))
set_option maxHeartbeats 4000000 in
set_option maxRecDepth 100000 in
theorem C_M_readStatement (l : Launch) (D : va_G) (cI cS : ClassId) (a_r0 : Nat) (a_r0_letterOf : Nat) (a_r0_letters : Nat) (a_r0_placeIn : Nat) (a_r0_told : Nat) (v_r0_weights v_r0_things v_r0_kinds v_r0_figures v_r0_days v_r0_hampers v_r0_wants0 v_r0_left0 v_r0_done0 v_r0_thrown v_r0_refusals v_r0_kept v_r0_imaged v_r0_hasImage v_r0_place0 v_r0_isTaking v_r0_keptIn v_r0_turns0 v_r0_turnOf v_r0_turned v_r0_order0 v_r0_likely0 v_r0_leftThen v_r0_row v_r0_rowMany v_r0_seed : Value) (r0_at : Int32) (r0_isBad : Int32) (r0_letterMany : Int32) (r0_statements : Int32) (r0_letterOf : Nat → Int32) (r0_letters : Nat → Int32) (r0_placeIn : Nat → Int32) (r0_told : Nat → Int32) (o : (Int32) × (Int32) × (Int32) × (Nat → Int32) × (Nat → Int32) × (Nat → Int32)) (hr : F_M_readStatement r0_at r0_isBad r0_letterMany r0_statements r0_letterOf r0_letters r0_placeIn r0_told = some o) : ctV l y_M_readStatement (Cond.code y_M_readStatement b_M_readStatement 3 none) (rmd 3) D (kTy cI cS) [.ref a_r0] (w_M_readStatement cI a_r0 a_r0_letterOf a_r0_letters a_r0_placeIn a_r0_told v_r0_weights v_r0_things v_r0_kinds v_r0_figures v_r0_days v_r0_hampers v_r0_wants0 v_r0_left0 v_r0_done0 v_r0_thrown v_r0_refusals v_r0_kept v_r0_imaged v_r0_hasImage v_r0_place0 v_r0_isTaking v_r0_keptIn v_r0_turns0 v_r0_turnOf v_r0_turned v_r0_order0 v_r0_likely0 v_r0_leftThen v_r0_row v_r0_rowMany v_r0_seed r0_at r0_isBad r0_letterMany r0_statements r0_letterOf r0_letters r0_placeIn r0_told) (w_M_readStatement cI a_r0 a_r0_letterOf a_r0_letters a_r0_placeIn a_r0_told v_r0_weights v_r0_things v_r0_kinds v_r0_figures v_r0_days v_r0_hampers v_r0_wants0 v_r0_left0 v_r0_done0 v_r0_thrown v_r0_refusals v_r0_kept v_r0_imaged v_r0_hasImage v_r0_place0 v_r0_isTaking v_r0_keptIn v_r0_turns0 v_r0_turnOf v_r0_turned v_r0_order0 v_r0_likely0 v_r0_leftThen v_r0_row v_r0_rowMany v_r0_seed o.1 o.2.1 r0_letterMany o.2.2.1 o.2.2.2.1 r0_letters o.2.2.2.2.1 o.2.2.2.2.2) := by
  unfold F_M_readStatement at hr
  refine ⟨rfl, fun sz => ct_of (w0 := (w_M_readStatement cI a_r0 a_r0_letterOf a_r0_letters a_r0_placeIn a_r0_told v_r0_weights v_r0_things v_r0_kinds v_r0_figures v_r0_days v_r0_hampers v_r0_wants0 v_r0_left0 v_r0_done0 v_r0_thrown v_r0_refusals v_r0_kept v_r0_imaged v_r0_hasImage v_r0_place0 v_r0_isTaking v_r0_keptIn v_r0_turns0 v_r0_turnOf v_r0_turned v_r0_order0 v_r0_likely0 v_r0_leftThen v_r0_row v_r0_rowMany v_r0_seed r0_at r0_isBad r0_letterMany r0_statements r0_letterOf r0_letters r0_placeIn r0_told)) (Qc := fun A => qV D (w_M_readStatement cI a_r0 a_r0_letterOf a_r0_letters a_r0_placeIn a_r0_told v_r0_weights v_r0_things v_r0_kinds v_r0_figures v_r0_days v_r0_hampers v_r0_wants0 v_r0_left0 v_r0_done0 v_r0_thrown v_r0_refusals v_r0_kept v_r0_imaged v_r0_hasImage v_r0_place0 v_r0_isTaking v_r0_keptIn v_r0_turns0 v_r0_turnOf v_r0_turned v_r0_order0 v_r0_likely0 v_r0_leftThen v_r0_row v_r0_rowMany v_r0_seed o.1 o.2.1 r0_letterMany o.2.2.1 o.2.2.2.1 r0_letters o.2.2.2.2.1 o.2.2.2.2.2) A) rfl (Nat.le_of_ble_eq_true rfl) ?_ sz⟩
  intro p e s m below meth c A hA C hret ls hl hW
  have C : cx p s m ([.ref a_r0] : List Value).toArray meth c b_M_readStatement 3 R_M D (kTy cI cS) (Cond.code y_M_readStatement b_M_readStatement 3 none) := C
  obtain ⟨hx, hb, hml, hown, hts, hK, hlk, hN⟩ := id C
  have hl : lv_has ls 3 [(0, .ref a_r0)] := hl
  obtain ⟨Q, hQ⟩ : ∃ Q, Q = MQ below (qV D (w_M_readStatement cI a_r0 a_r0_letterOf a_r0_letters a_r0_placeIn a_r0_told v_r0_weights v_r0_things v_r0_kinds v_r0_figures v_r0_days v_r0_hampers v_r0_wants0 v_r0_left0 v_r0_done0 v_r0_thrown v_r0_refusals v_r0_kept v_r0_imaged v_r0_hasImage v_r0_place0 v_r0_isTaking v_r0_keptIn v_r0_turns0 v_r0_turnOf v_r0_turned v_r0_order0 v_r0_likely0 v_r0_leftThen v_r0_row v_r0_rowMany v_r0_seed o.1 o.2.1 r0_letterMany o.2.2.1 o.2.2.2.1 r0_letters o.2.2.2.2.1 o.2.2.2.2.2) A) ([.ref a_r0] : List Value).toArray s 0 0 A := ⟨_, rfl⟩
  rw [← hQ]
  refine lv_aload_n hx hb d_M_readStatement_0 rfl (lv_at hl 0 rfl) ?_
  refine k_get i_M C hW 0 rfl rfl 15 (by decide) qf_M_132 rfl rfl d_M_readStatement_1 ?_
  refine lv_istore_n (lv' := [(1, .int r0_statements), (0, .ref a_r0)]) hx hb d_M_readStatement_4 rfl hl (by decide) rfl (fun ls hl => ?_)
  refine lv_aload_n hx hb d_M_readStatement_5 rfl (lv_at hl 1 rfl) ?_
  obtain ⟨q_1, hc_1, hr⟩ := ob hr
  have ct_1 := C_M_here l D cI cS a_r0 a_r0_letters v_r0_weights v_r0_things v_r0_kinds v_r0_figures v_r0_days v_r0_hampers v_r0_wants0 v_r0_left0 v_r0_done0 v_r0_thrown v_r0_refusals (Value.int r0_isBad) (Value.int r0_statements) (Value.ref a_r0_placeIn) (Value.ref a_r0_letterOf) (Value.ref a_r0_told) v_r0_kept v_r0_imaged v_r0_hasImage v_r0_place0 v_r0_isTaking v_r0_keptIn v_r0_turns0 v_r0_turnOf v_r0_turned v_r0_order0 v_r0_likely0 v_r0_leftThen v_r0_row v_r0_rowMany v_r0_seed r0_at r0_letterMany r0_letters q_1 hc_1
  refine k_goIp hA hW [0, 2] rfl rfl (k_runV C hA hW mw_M_here mv_M_here (ct_1.2 _) [0, 2] rfl rfl 0 rfl rfl qm_M_121 ⟨Nat.le_of_ble_eq_true rfl, Nat.le_of_ble_eq_true rfl, Nat.zero_le _, Nat.zero_le _⟩ rfl rfl (Nat.le_of_ble_eq_true rfl) hl.1 d_M_readStatement_6) (fun H locs hW => ?_)
  refine lv_istore_n (lv' := [(2, .int q_1), (1, .int r0_statements), (0, .ref a_r0)]) hx hb d_M_readStatement_9 rfl hl (by decide) rfl (fun ls hl => ?_)
  refine lv_aload_n hx hb d_M_readStatement_10 rfl (lv_at hl 2 rfl) ?_
  refine k_get i_M C hW 0 rfl rfl 16 (by decide) qf_M_34 rfl rfl d_M_readStatement_11 ?_
  refine lv_iload_n hx hb d_M_readStatement_14 rfl (lv_at hl 1 rfl) ?_
  refine lv_aload_n hx hb d_M_readStatement_15 rfl (lv_at hl 2 rfl) ?_
  refine k_get i_M C hW 0 rfl rfl 13 (by decide) qf_M_114 rfl rfl d_M_readStatement_16 ?_
  obtain ⟨h_2, hr⟩ := ck_some hr
  refine k_iast C hW 3 rfl h_2 (ws' := (w_M_readStatement cI a_r0 a_r0_letterOf a_r0_letters a_r0_placeIn a_r0_told v_r0_weights v_r0_things v_r0_kinds v_r0_figures v_r0_days v_r0_hampers v_r0_wants0 v_r0_left0 v_r0_done0 v_r0_thrown v_r0_refusals v_r0_kept v_r0_imaged v_r0_hasImage v_r0_place0 v_r0_isTaking v_r0_keptIn v_r0_turns0 v_r0_turnOf v_r0_turned v_r0_order0 v_r0_likely0 v_r0_leftThen v_r0_row v_r0_rowMany v_r0_seed r0_at r0_isBad r0_letterMany r0_statements r0_letterOf r0_letters (upd r0_placeIn (Int32.toNatClampNeg r0_statements) r0_at) r0_told)) rfl d_M_readStatement_19 (fun H locs hW => ?_)
  refine lv_aload_n hx hb d_M_readStatement_20 rfl (lv_at hl 2 rfl) ?_
  refine k_get i_M C hW 0 rfl rfl 17 (by decide) qf_M_37 rfl rfl d_M_readStatement_21 ?_
  refine lv_iload_n hx hb d_M_readStatement_24 rfl (lv_at hl 1 rfl) ?_
  refine lv_iload_n hx hb d_M_readStatement_25 rfl (lv_at hl 0 rfl) ?_
  obtain ⟨h_3, hr⟩ := ck_some hr
  refine k_iast C hW 1 rfl h_3 (ws' := (w_M_readStatement cI a_r0 a_r0_letterOf a_r0_letters a_r0_placeIn a_r0_told v_r0_weights v_r0_things v_r0_kinds v_r0_figures v_r0_days v_r0_hampers v_r0_wants0 v_r0_left0 v_r0_done0 v_r0_thrown v_r0_refusals v_r0_kept v_r0_imaged v_r0_hasImage v_r0_place0 v_r0_isTaking v_r0_keptIn v_r0_turns0 v_r0_turnOf v_r0_turned v_r0_order0 v_r0_likely0 v_r0_leftThen v_r0_row v_r0_rowMany v_r0_seed r0_at r0_isBad r0_letterMany r0_statements (upd r0_letterOf (Int32.toNatClampNeg r0_statements) q_1) r0_letters (upd r0_placeIn (Int32.toNatClampNeg r0_statements) r0_at) r0_told)) rfl d_M_readStatement_26 (fun H locs hW => ?_)
  refine lv_aload_n hx hb d_M_readStatement_27 rfl (lv_at hl 2 rfl) ?_
  refine lv_aload_n hx hb d_M_readStatement_28 rfl (lv_at hl 2 rfl) ?_
  refine k_get i_M C hW 0 rfl rfl 14 (by decide) qf_M_117 rfl rfl d_M_readStatement_29 ?_
  have hJ_5 : ∀ (s1_5 : Int32), F_M_readStatement_J47_5 r0_at r0_letterMany r0_statements r0_letterOf r0_letters r0_placeIn r0_told q_1 s1_5 = some o → ∀ (H : Heap) (locs : List Loc) (ls : Array Slot), wd A s.heap D (w_M_readStatement cI a_r0 a_r0_letterOf a_r0_letters a_r0_placeIn a_r0_told v_r0_weights v_r0_things v_r0_kinds v_r0_figures v_r0_days v_r0_hampers v_r0_wants0 v_r0_left0 v_r0_done0 v_r0_thrown v_r0_refusals v_r0_kept v_r0_imaged v_r0_hasImage v_r0_place0 v_r0_isTaking v_r0_keptIn v_r0_turns0 v_r0_turnOf v_r0_turned v_r0_order0 v_r0_likely0 v_r0_leftThen v_r0_row v_r0_rowMany v_r0_seed r0_at r0_isBad r0_letterMany r0_statements (upd r0_letterOf (Int32.toNatClampNeg r0_statements) q_1) r0_letters (upd r0_placeIn (Int32.toNatClampNeg r0_statements) r0_at) r0_told) H locs → lv_has ls 3 [(0, .ref a_r0), (1, .int r0_statements), (2, .int q_1)] → W p l e (rmd 3) s m ([.ref a_r0] : List Value).toArray below meth c H locs 0 0 Q (F0 m 47 ls [.int s1_5, .ref a_r0]) := by
    intro s1_5 hr H locs ls hW hl
    unfold F_M_readStatement_J47_5 at hr
    obtain ⟨h_6, hf_6, hr⟩ := ckz_some hr
    refine k_put i_M t_M_ok n_M C hW 0 rfl rfl 14 (by decide) qf_M_117 rfl rfl (ty := .boolean) rfl h_6 hf_6 (Nat.le_of_ble_eq_true rfl) (ws' := (w_M_readStatement cI a_r0 a_r0_letterOf a_r0_letters a_r0_placeIn a_r0_told v_r0_weights v_r0_things v_r0_kinds v_r0_figures v_r0_days v_r0_hampers v_r0_wants0 v_r0_left0 v_r0_done0 v_r0_thrown v_r0_refusals v_r0_kept v_r0_imaged v_r0_hasImage v_r0_place0 v_r0_isTaking v_r0_keptIn v_r0_turns0 v_r0_turnOf v_r0_turned v_r0_order0 v_r0_likely0 v_r0_leftThen v_r0_row v_r0_rowMany v_r0_seed r0_at s1_5 r0_letterMany r0_statements (upd r0_letterOf (Int32.toNatClampNeg r0_statements) q_1) r0_letters (upd r0_placeIn (Int32.toNatClampNeg r0_statements) r0_at) r0_told)) rfl d_M_readStatement_47 (fun H locs hW => ?_)
    refine lv_aload_n hx hb d_M_readStatement_50 rfl (lv_at hl 0 rfl) ?_
    refine lv_dup hx hb d_M_readStatement_51 rfl ?_
    refine k_get i_M C hW 0 rfl rfl 13 (by decide) qf_M_114 rfl rfl d_M_readStatement_52 ?_
    refine lv_aload_n hx hb d_M_readStatement_55 rfl (lv_at hl 0 rfl) ?_
    refine k_get i_M C hW 0 rfl rfl 14 (by decide) qf_M_117 rfl rfl d_M_readStatement_56 ?_
    have hJ_8 : ∀ (s2_8 : Int32), F_M_readStatement_J67_8 r0_at r0_letterMany r0_statements r0_letterOf r0_letters r0_placeIn r0_told q_1 s1_5 s2_8 = some o → ∀ (H : Heap) (locs : List Loc) (ls : Array Slot), wd A s.heap D (w_M_readStatement cI a_r0 a_r0_letterOf a_r0_letters a_r0_placeIn a_r0_told v_r0_weights v_r0_things v_r0_kinds v_r0_figures v_r0_days v_r0_hampers v_r0_wants0 v_r0_left0 v_r0_done0 v_r0_thrown v_r0_refusals v_r0_kept v_r0_imaged v_r0_hasImage v_r0_place0 v_r0_isTaking v_r0_keptIn v_r0_turns0 v_r0_turnOf v_r0_turned v_r0_order0 v_r0_likely0 v_r0_leftThen v_r0_row v_r0_rowMany v_r0_seed r0_at s1_5 r0_letterMany r0_statements (upd r0_letterOf (Int32.toNatClampNeg r0_statements) q_1) r0_letters (upd r0_placeIn (Int32.toNatClampNeg r0_statements) r0_at) r0_told) H locs → lv_has ls 3 [(0, .ref a_r0), (1, .int r0_statements), (2, .int q_1)] → W p l e (rmd 3) s m ([.ref a_r0] : List Value).toArray below meth c H locs 0 0 Q (F0 m 67 ls [.int s2_8, .int r0_at, .ref a_r0]) := by
      intro s2_8 hr H locs ls hW hl
      unfold F_M_readStatement_J67_8 at hr
      refine lv_iadd hx hb d_M_readStatement_67 ?_
      refine k_put i_M t_M_ok n_M C hW 0 rfl rfl 13 (by decide) qf_M_114 rfl rfl (ty := .int) rfl rfl rfl (Nat.le_of_ble_eq_true rfl) (ws' := (w_M_readStatement cI a_r0 a_r0_letterOf a_r0_letters a_r0_placeIn a_r0_told v_r0_weights v_r0_things v_r0_kinds v_r0_figures v_r0_days v_r0_hampers v_r0_wants0 v_r0_left0 v_r0_done0 v_r0_thrown v_r0_refusals v_r0_kept v_r0_imaged v_r0_hasImage v_r0_place0 v_r0_isTaking v_r0_keptIn v_r0_turns0 v_r0_turnOf v_r0_turned v_r0_order0 v_r0_likely0 v_r0_leftThen v_r0_row v_r0_rowMany v_r0_seed (r0_at + s2_8) s1_5 r0_letterMany r0_statements (upd r0_letterOf (Int32.toNatClampNeg r0_statements) q_1) r0_letters (upd r0_placeIn (Int32.toNatClampNeg r0_statements) r0_at) r0_told)) rfl d_M_readStatement_68 (fun H locs hW => ?_)
      refine lv_aload_n hx hb d_M_readStatement_71 rfl (lv_at hl 0 rfl) ?_
      refine k_get i_M C hW 0 rfl rfl 14 (by decide) qf_M_117 rfl rfl d_M_readStatement_72 ?_
      have hJ_10 : ∀ (r0_at_10 : Int32) (r0_isBad_10 : Int32) (r0_told_10 : Nat → Int32), F_M_readStatement_J86_10 r0_at r0_letterMany r0_statements r0_letterOf r0_letters r0_placeIn q_1 r0_at_10 r0_isBad_10 r0_told_10 = some o → ∀ (H : Heap) (locs : List Loc) (ls : Array Slot), wd A s.heap D (w_M_readStatement cI a_r0 a_r0_letterOf a_r0_letters a_r0_placeIn a_r0_told v_r0_weights v_r0_things v_r0_kinds v_r0_figures v_r0_days v_r0_hampers v_r0_wants0 v_r0_left0 v_r0_done0 v_r0_thrown v_r0_refusals v_r0_kept v_r0_imaged v_r0_hasImage v_r0_place0 v_r0_isTaking v_r0_keptIn v_r0_turns0 v_r0_turnOf v_r0_turned v_r0_order0 v_r0_likely0 v_r0_leftThen v_r0_row v_r0_rowMany v_r0_seed r0_at_10 r0_isBad_10 r0_letterMany r0_statements (upd r0_letterOf (Int32.toNatClampNeg r0_statements) q_1) r0_letters (upd r0_placeIn (Int32.toNatClampNeg r0_statements) r0_at) r0_told_10) H locs → lv_has ls 3 [(0, .ref a_r0)] → W p l e (rmd 3) s m ([.ref a_r0] : List Value).toArray below meth c H locs 0 0 Q (F0 m 86 ls []) := by
        intro r0_at_10 r0_isBad_10 r0_told_10 hr H locs ls hW hl
        unfold F_M_readStatement_J86_10 at hr
        refine lv_aload_n hx hb d_M_readStatement_86 rfl (lv_at hl 0 rfl) ?_
        refine lv_aload_n hx hb d_M_readStatement_87 rfl (lv_at hl 0 rfl) ?_
        refine k_get i_M C hW 0 rfl rfl 14 (by decide) qf_M_117 rfl rfl d_M_readStatement_88 ?_
        have hJ_12 : ∀ (s1_12 : Int32), F_M_readStatement_J108_12 r0_at r0_statements r0_letterOf r0_placeIn q_1 r0_at_10 r0_told_10 s1_12 = some o → ∀ (H : Heap) (locs : List Loc) (ls : Array Slot), wd A s.heap D (w_M_readStatement cI a_r0 a_r0_letterOf a_r0_letters a_r0_placeIn a_r0_told v_r0_weights v_r0_things v_r0_kinds v_r0_figures v_r0_days v_r0_hampers v_r0_wants0 v_r0_left0 v_r0_done0 v_r0_thrown v_r0_refusals v_r0_kept v_r0_imaged v_r0_hasImage v_r0_place0 v_r0_isTaking v_r0_keptIn v_r0_turns0 v_r0_turnOf v_r0_turned v_r0_order0 v_r0_likely0 v_r0_leftThen v_r0_row v_r0_rowMany v_r0_seed r0_at_10 r0_isBad_10 r0_letterMany r0_statements (upd r0_letterOf (Int32.toNatClampNeg r0_statements) q_1) r0_letters (upd r0_placeIn (Int32.toNatClampNeg r0_statements) r0_at) r0_told_10) H locs → lv_has ls 3 [(0, .ref a_r0)] → W p l e (rmd 3) s m ([.ref a_r0] : List Value).toArray below meth c H locs 0 0 Q (F0 m 108 ls [.int s1_12, .ref a_r0]) := by
          intro s1_12 hr H locs ls hW hl
          unfold F_M_readStatement_J108_12 at hr
          obtain ⟨h_13, hf_13, hr⟩ := ckz_some hr
          refine k_put i_M t_M_ok n_M C hW 0 rfl rfl 14 (by decide) qf_M_117 rfl rfl (ty := .boolean) rfl h_13 hf_13 (Nat.le_of_ble_eq_true rfl) (ws' := (w_M_readStatement cI a_r0 a_r0_letterOf a_r0_letters a_r0_placeIn a_r0_told v_r0_weights v_r0_things v_r0_kinds v_r0_figures v_r0_days v_r0_hampers v_r0_wants0 v_r0_left0 v_r0_done0 v_r0_thrown v_r0_refusals v_r0_kept v_r0_imaged v_r0_hasImage v_r0_place0 v_r0_isTaking v_r0_keptIn v_r0_turns0 v_r0_turnOf v_r0_turned v_r0_order0 v_r0_likely0 v_r0_leftThen v_r0_row v_r0_rowMany v_r0_seed r0_at_10 s1_12 r0_letterMany r0_statements (upd r0_letterOf (Int32.toNatClampNeg r0_statements) q_1) r0_letters (upd r0_placeIn (Int32.toNatClampNeg r0_statements) r0_at) r0_told_10)) rfl d_M_readStatement_108 (fun H locs hW => ?_)
          refine lv_aload_n hx hb d_M_readStatement_111 rfl (lv_at hl 0 rfl) ?_
          refine lv_dup hx hb d_M_readStatement_112 rfl ?_
          refine k_get i_M C hW 0 rfl rfl 13 (by decide) qf_M_114 rfl rfl d_M_readStatement_113 ?_
          refine lv_aload_n hx hb d_M_readStatement_116 rfl (lv_at hl 0 rfl) ?_
          refine k_get i_M C hW 0 rfl rfl 14 (by decide) qf_M_117 rfl rfl d_M_readStatement_117 ?_
          refine lv_if_eq (tgt := 127) hx hb d_M_readStatement_120 (by decide) (fun c_14 => ?_) (fun c_14 => ?_)
          · replace hr := ip c_14 hr
            refine lv_iconst (v := 1) hx hb d_M_readStatement_127 (by decide) ?_
            refine lv_iadd hx hb d_M_readStatement_128 ?_
            refine k_put i_M t_M_ok n_M C hW 0 rfl rfl 13 (by decide) qf_M_114 rfl rfl (ty := .int) rfl rfl rfl (Nat.le_of_ble_eq_true rfl) (ws' := (w_M_readStatement cI a_r0 a_r0_letterOf a_r0_letters a_r0_placeIn a_r0_told v_r0_weights v_r0_things v_r0_kinds v_r0_figures v_r0_days v_r0_hampers v_r0_wants0 v_r0_left0 v_r0_done0 v_r0_thrown v_r0_refusals v_r0_kept v_r0_imaged v_r0_hasImage v_r0_place0 v_r0_isTaking v_r0_keptIn v_r0_turns0 v_r0_turnOf v_r0_turned v_r0_order0 v_r0_likely0 v_r0_leftThen v_r0_row v_r0_rowMany v_r0_seed (r0_at_10 + 1) s1_12 r0_letterMany r0_statements (upd r0_letterOf (Int32.toNatClampNeg r0_statements) q_1) r0_letters (upd r0_placeIn (Int32.toNatClampNeg r0_statements) r0_at) r0_told_10)) rfl d_M_readStatement_129 (fun H locs hW => ?_)
            refine lv_aload_n hx hb d_M_readStatement_132 rfl (lv_at hl 0 rfl) ?_
            refine lv_dup hx hb d_M_readStatement_133 rfl ?_
            refine k_get i_M C hW 0 rfl rfl 15 (by decide) qf_M_132 rfl rfl d_M_readStatement_134 ?_
            refine lv_iconst (v := 1) hx hb d_M_readStatement_137 (by decide) ?_
            refine lv_iadd hx hb d_M_readStatement_138 ?_
            refine k_put i_M t_M_ok n_M C hW 0 rfl rfl 15 (by decide) qf_M_132 rfl rfl (ty := .int) rfl rfl rfl (Nat.le_of_ble_eq_true rfl) (ws' := (w_M_readStatement cI a_r0 a_r0_letterOf a_r0_letters a_r0_placeIn a_r0_told v_r0_weights v_r0_things v_r0_kinds v_r0_figures v_r0_days v_r0_hampers v_r0_wants0 v_r0_left0 v_r0_done0 v_r0_thrown v_r0_refusals v_r0_kept v_r0_imaged v_r0_hasImage v_r0_place0 v_r0_isTaking v_r0_keptIn v_r0_turns0 v_r0_turnOf v_r0_turned v_r0_order0 v_r0_likely0 v_r0_leftThen v_r0_row v_r0_rowMany v_r0_seed (r0_at_10 + 1) s1_12 r0_letterMany (r0_statements + 1) (upd r0_letterOf (Int32.toNatClampNeg r0_statements) q_1) r0_letters (upd r0_placeIn (Int32.toNatClampNeg r0_statements) r0_at) r0_told_10)) rfl d_M_readStatement_139 (fun H locs hW => ?_)
            obtain rfl := Option.some.inj hr
            rw [hQ]; exact k_vret C hret hW d_M_readStatement_142
          · replace hr := iN c_14 hr
            refine lv_iconst (v := 0) hx hb d_M_readStatement_123 (by decide) ?_
            refine lv_goto (tgt := 128) hx hb d_M_readStatement_124 (by decide) ?_
            refine lv_iadd hx hb d_M_readStatement_128 ?_
            refine k_put i_M t_M_ok n_M C hW 0 rfl rfl 13 (by decide) qf_M_114 rfl rfl (ty := .int) rfl rfl rfl (Nat.le_of_ble_eq_true rfl) (ws' := (w_M_readStatement cI a_r0 a_r0_letterOf a_r0_letters a_r0_placeIn a_r0_told v_r0_weights v_r0_things v_r0_kinds v_r0_figures v_r0_days v_r0_hampers v_r0_wants0 v_r0_left0 v_r0_done0 v_r0_thrown v_r0_refusals v_r0_kept v_r0_imaged v_r0_hasImage v_r0_place0 v_r0_isTaking v_r0_keptIn v_r0_turns0 v_r0_turnOf v_r0_turned v_r0_order0 v_r0_likely0 v_r0_leftThen v_r0_row v_r0_rowMany v_r0_seed (r0_at_10 + 0) s1_12 r0_letterMany r0_statements (upd r0_letterOf (Int32.toNatClampNeg r0_statements) q_1) r0_letters (upd r0_placeIn (Int32.toNatClampNeg r0_statements) r0_at) r0_told_10)) rfl d_M_readStatement_129 (fun H locs hW => ?_)
            refine lv_aload_n hx hb d_M_readStatement_132 rfl (lv_at hl 0 rfl) ?_
            refine lv_dup hx hb d_M_readStatement_133 rfl ?_
            refine k_get i_M C hW 0 rfl rfl 15 (by decide) qf_M_132 rfl rfl d_M_readStatement_134 ?_
            refine lv_iconst (v := 1) hx hb d_M_readStatement_137 (by decide) ?_
            refine lv_iadd hx hb d_M_readStatement_138 ?_
            refine k_put i_M t_M_ok n_M C hW 0 rfl rfl 15 (by decide) qf_M_132 rfl rfl (ty := .int) rfl rfl rfl (Nat.le_of_ble_eq_true rfl) (ws' := (w_M_readStatement cI a_r0 a_r0_letterOf a_r0_letters a_r0_placeIn a_r0_told v_r0_weights v_r0_things v_r0_kinds v_r0_figures v_r0_days v_r0_hampers v_r0_wants0 v_r0_left0 v_r0_done0 v_r0_thrown v_r0_refusals v_r0_kept v_r0_imaged v_r0_hasImage v_r0_place0 v_r0_isTaking v_r0_keptIn v_r0_turns0 v_r0_turnOf v_r0_turned v_r0_order0 v_r0_likely0 v_r0_leftThen v_r0_row v_r0_rowMany v_r0_seed (r0_at_10 + 0) s1_12 r0_letterMany (r0_statements + 1) (upd r0_letterOf (Int32.toNatClampNeg r0_statements) q_1) r0_letters (upd r0_placeIn (Int32.toNatClampNeg r0_statements) r0_at) r0_told_10)) rfl d_M_readStatement_139 (fun H locs hW => ?_)
            obtain rfl := Option.some.inj hr
            rw [hQ]; exact k_vret C hret hW d_M_readStatement_142
        have hJ_15 : ∀ (_ : Unit), F_M_readStatement_J103_15 r0_at r0_statements r0_letterOf r0_placeIn q_1 r0_at_10 r0_told_10 = some o → ∀ (H : Heap) (locs : List Loc) (ls : Array Slot), wd A s.heap D (w_M_readStatement cI a_r0 a_r0_letterOf a_r0_letters a_r0_placeIn a_r0_told v_r0_weights v_r0_things v_r0_kinds v_r0_figures v_r0_days v_r0_hampers v_r0_wants0 v_r0_left0 v_r0_done0 v_r0_thrown v_r0_refusals v_r0_kept v_r0_imaged v_r0_hasImage v_r0_place0 v_r0_isTaking v_r0_keptIn v_r0_turns0 v_r0_turnOf v_r0_turned v_r0_order0 v_r0_likely0 v_r0_leftThen v_r0_row v_r0_rowMany v_r0_seed r0_at_10 r0_isBad_10 r0_letterMany r0_statements (upd r0_letterOf (Int32.toNatClampNeg r0_statements) q_1) r0_letters (upd r0_placeIn (Int32.toNatClampNeg r0_statements) r0_at) r0_told_10) H locs → lv_has ls 3 [(0, .ref a_r0)] → W p l e (rmd 3) s m ([.ref a_r0] : List Value).toArray below meth c H locs 0 0 Q (F0 m 103 ls [.ref a_r0]) := by
          intro _ hr H locs ls hW hl
          unfold F_M_readStatement_J103_15 at hr
          refine lv_iconst (v := 1) hx hb d_M_readStatement_103 (by decide) ?_
          refine lv_goto (tgt := 108) hx hb d_M_readStatement_104 (by decide) ?_
          exact hJ_12 1 hr _ _ _ hW (lv_sub hl [0] rfl)
        refine lv_if_ne (tgt := 103) hx hb d_M_readStatement_91 (by decide) (fun c_11 => ?_) (fun c_11 => ?_)
        · replace hr := iN c_11 hr
          exact hJ_15 () hr _ _ _ hW (lv_sub hl [0] rfl)
        · replace hr := ip c_11 hr
          refine lv_aload_n hx hb d_M_readStatement_94 rfl (lv_at hl 0 rfl) ?_
          obtain ⟨q_16, hc_16, hr⟩ := ob hr
          have ct_16 := C_M_here l D cI cS a_r0 a_r0_letters v_r0_weights v_r0_things v_r0_kinds v_r0_figures v_r0_days v_r0_hampers v_r0_wants0 v_r0_left0 v_r0_done0 v_r0_thrown v_r0_refusals (Value.int r0_isBad_10) (Value.int r0_statements) (Value.ref a_r0_placeIn) (Value.ref a_r0_letterOf) (Value.ref a_r0_told) v_r0_kept v_r0_imaged v_r0_hasImage v_r0_place0 v_r0_isTaking v_r0_keptIn v_r0_turns0 v_r0_turnOf v_r0_turned v_r0_order0 v_r0_likely0 v_r0_leftThen v_r0_row v_r0_rowMany v_r0_seed r0_at_10 r0_letterMany r0_letters q_16 hc_16
          refine k_goIp hA hW [0, 2] rfl rfl (k_runV C hA hW mw_M_here mv_M_here (ct_16.2 _) [0, 2] rfl rfl 0 rfl rfl qm_M_121 ⟨Nat.le_of_ble_eq_true rfl, Nat.le_of_ble_eq_true rfl, Nat.zero_le _, Nat.zero_le _⟩ rfl rfl (Nat.le_of_ble_eq_true rfl) hl.1 d_M_readStatement_95) (fun H locs hW => ?_)
          refine lv_bipush (v := 59) hx hb d_M_readStatement_98 (by decide) ?_
          refine lv_icmp_eq (tgt := 107) hx hb d_M_readStatement_100 (by decide) (fun c_17 => ?_) (fun c_17 => ?_)
          · replace hr := ip c_17 hr
            refine lv_iconst (v := 0) hx hb d_M_readStatement_107 (by decide) ?_
            exact hJ_12 0 hr _ _ _ hW (lv_sub hl [0] rfl)
          · replace hr := iN c_17 hr
            exact hJ_15 () hr _ _ _ hW (lv_sub hl [0] rfl)
      refine lv_if_ne (tgt := 86) hx hb d_M_readStatement_75 (by decide) (fun c_9 => ?_) (fun c_9 => ?_)
      · replace hr := iN c_9 hr
        exact hJ_10 (r0_at + s2_8) s1_5 r0_told hr _ _ _ hW (lv_sub hl [0] rfl)
      · replace hr := ip c_9 hr
        refine lv_aload_n hx hb d_M_readStatement_78 rfl (lv_at hl 0 rfl) ?_
        refine lv_iload_n hx hb d_M_readStatement_79 rfl (lv_at hl 2 rfl) ?_
        refine lv_iconst (v := 3) hx hb d_M_readStatement_80 (by decide) ?_
        refine lv_iload_n hx hb d_M_readStatement_81 rfl (lv_at hl 1 rfl) ?_
        refine lv_imul hx hb d_M_readStatement_82 ?_
        obtain ⟨q_18, hc_18, hr⟩ := ob hr
        have ct_18 := C_M_readNumbers l D cI cS a_r0 a_r0_letters a_r0_told v_r0_weights v_r0_things v_r0_kinds v_r0_figures v_r0_days v_r0_hampers v_r0_wants0 v_r0_left0 v_r0_done0 v_r0_thrown v_r0_refusals (Value.int r0_statements) (Value.ref a_r0_placeIn) (Value.ref a_r0_letterOf) v_r0_kept v_r0_imaged v_r0_hasImage v_r0_place0 v_r0_isTaking v_r0_keptIn v_r0_turns0 v_r0_turnOf v_r0_turned v_r0_order0 v_r0_likely0 v_r0_leftThen v_r0_row v_r0_rowMany v_r0_seed (r0_at + s2_8) s1_5 r0_letterMany r0_letters r0_told q_1 ((3 : Int32) * r0_statements) q_18 hc_18
        refine k_goV hA hW [0, 2, 4] rfl ct_18.1 (ws' := (w_M_readStatement cI a_r0 a_r0_letterOf a_r0_letters a_r0_placeIn a_r0_told v_r0_weights v_r0_things v_r0_kinds v_r0_figures v_r0_days v_r0_hampers v_r0_wants0 v_r0_left0 v_r0_done0 v_r0_thrown v_r0_refusals v_r0_kept v_r0_imaged v_r0_hasImage v_r0_place0 v_r0_isTaking v_r0_keptIn v_r0_turns0 v_r0_turnOf v_r0_turned v_r0_order0 v_r0_likely0 v_r0_leftThen v_r0_row v_r0_rowMany v_r0_seed q_18.1 q_18.2.1 r0_letterMany r0_statements (upd r0_letterOf (Int32.toNatClampNeg r0_statements) q_1) r0_letters (upd r0_placeIn (Int32.toNatClampNeg r0_statements) r0_at) q_18.2.2)) rfl (k_runV C hA hW mw_M_readNumbers mv_M_readNumbers (ct_18.2 _) [0, 2, 4] rfl rfl 0 rfl rfl qm_M_139 ⟨Nat.le_of_ble_eq_true rfl, Nat.le_of_ble_eq_true rfl, Nat.zero_le _, Nat.zero_le _⟩ rfl rfl (Nat.le_of_ble_eq_true rfl) hl.1 d_M_readStatement_83) (fun H locs hW => ?_)
        exact hJ_10 q_18.1 q_18.2.1 q_18.2.2 hr _ _ _ hW (lv_sub hl [0] rfl)
    refine lv_if_eq (tgt := 66) hx hb d_M_readStatement_59 (by decide) (fun c_7 => ?_) (fun c_7 => ?_)
    · replace hr := ip c_7 hr
      refine lv_iconst (v := 1) hx hb d_M_readStatement_66 (by decide) ?_
      exact hJ_8 1 hr _ _ _ hW (lv_sub hl [0, 1, 2] rfl)
    · replace hr := iN c_7 hr
      refine lv_iconst (v := 0) hx hb d_M_readStatement_62 (by decide) ?_
      refine lv_goto (tgt := 67) hx hb d_M_readStatement_63 (by decide) ?_
      exact hJ_8 0 hr _ _ _ hW (lv_sub hl [0, 1, 2] rfl)
  have hJ_19 : ∀ (_ : Unit), F_M_readStatement_J42_19 r0_at r0_letterMany r0_statements r0_letterOf r0_letters r0_placeIn r0_told q_1 = some o → ∀ (H : Heap) (locs : List Loc) (ls : Array Slot), wd A s.heap D (w_M_readStatement cI a_r0 a_r0_letterOf a_r0_letters a_r0_placeIn a_r0_told v_r0_weights v_r0_things v_r0_kinds v_r0_figures v_r0_days v_r0_hampers v_r0_wants0 v_r0_left0 v_r0_done0 v_r0_thrown v_r0_refusals v_r0_kept v_r0_imaged v_r0_hasImage v_r0_place0 v_r0_isTaking v_r0_keptIn v_r0_turns0 v_r0_turnOf v_r0_turned v_r0_order0 v_r0_likely0 v_r0_leftThen v_r0_row v_r0_rowMany v_r0_seed r0_at r0_isBad r0_letterMany r0_statements (upd r0_letterOf (Int32.toNatClampNeg r0_statements) q_1) r0_letters (upd r0_placeIn (Int32.toNatClampNeg r0_statements) r0_at) r0_told) H locs → lv_has ls 3 [(0, .ref a_r0), (1, .int r0_statements), (2, .int q_1)] → W p l e (rmd 3) s m ([.ref a_r0] : List Value).toArray below meth c H locs 0 0 Q (F0 m 42 ls [.ref a_r0]) := by
    intro _ hr H locs ls hW hl
    unfold F_M_readStatement_J42_19 at hr
    refine lv_iconst (v := 1) hx hb d_M_readStatement_42 (by decide) ?_
    refine lv_goto (tgt := 47) hx hb d_M_readStatement_43 (by decide) ?_
    exact hJ_5 1 hr _ _ _ hW (lv_sub hl [0, 1, 2] rfl)
  refine lv_if_ne (tgt := 42) hx hb d_M_readStatement_32 (by decide) (fun c_4 => ?_) (fun c_4 => ?_)
  · replace hr := iN c_4 hr
    exact hJ_19 () hr _ _ _ hW (lv_sub hl [2, 1, 0] rfl)
  · replace hr := ip c_4 hr
    refine lv_iload_n hx hb d_M_readStatement_35 rfl (lv_at hl 0 rfl) ?_
    obtain ⟨q_20, hc_20, hr⟩ := ob hr
    have ct_20 := C_M_isLetter l D cI cS q_1 q_20 hc_20
    refine k_goIp hA hW [] rfl rfl (k_runS C hA hW mw_M_isLetter ms_M_isLetter (ct_20.2 _) [] rfl rfl qm_M_135 ⟨Nat.le_of_ble_eq_true rfl, Nat.le_of_ble_eq_true rfl, Nat.zero_le _, Nat.zero_le _⟩ rfl rfl (Nat.le_of_ble_eq_true rfl) hl.1 d_M_readStatement_36) (fun H locs hW => ?_)
    refine lv_if_ne (tgt := 46) hx hb d_M_readStatement_39 (by decide) (fun c_21 => ?_) (fun c_21 => ?_)
    · replace hr := iN c_21 hr
      refine lv_iconst (v := 0) hx hb d_M_readStatement_46 (by decide) ?_
      exact hJ_5 0 hr _ _ _ hW (lv_sub hl [2, 1, 0] rfl)
    · replace hr := ip c_21 hr
      exact hJ_19 () hr _ _ _ hW (lv_sub hl [2, 1, 0] rfl)
def w_M_hall (cI : ClassId) (a_r0 : Nat) (a_r0_figures : Nat) (a_r0_hampers : Nat) (a_r0_kept : Nat) (a_r0_kinds : Nat) (a_r0_left0 : Nat) (a_r0_letterOf : Nat) (a_r0_letters : Nat) (a_r0_placeIn : Nat) (a_r0_told : Nat) (a_r0_wants0 : Nat) (a_r0_weights : Nat) (v_r0_refusals v_r0_imaged v_r0_hasImage v_r0_turns0 v_r0_turnOf v_r0_order0 v_r0_likely0 v_r0_leftThen v_r0_row v_r0_rowMany v_r0_seed : Value) (kv : Int32 → Value) (r0_at : Int32) (r0_days : Int32) (r0_done0 : Int32) (r0_isBad : Int32) (r0_isTaking : Int32) (r0_keptIn : Int32) (r0_letterMany : Int32) (r0_place0 : Int32) (r0_statements : Int32) (r0_things : Int32) (r0_thrown : Int32) (r0_turned : Int32) (r0_figures : Nat → Int32) (r0_hampers : Nat → Int32) (r0_kept : Nat → Int32) (r0_kinds : Nat → Int32) (r0_left0 : Nat → Int32) (r0_letterOf : Nat → Int32) (r0_letters : Nat → Int32) (r0_placeIn : Nat → Int32) (r0_told : Nat → Int32) (r0_wants0 : Nat → Int32) (r0_weights : Nat → Int32) : va_W := [(a_r0, .inr (9, [.ref a_r0_weights, .int r0_things, .ref a_r0_kinds, .ref a_r0_figures, .int r0_days, .ref a_r0_hampers, .ref a_r0_wants0, .ref a_r0_left0, .int r0_done0, .int r0_thrown, v_r0_refusals, .ref a_r0_letters, .int r0_letterMany, .int r0_at, .int r0_isBad, .int r0_statements, .ref a_r0_placeIn, .ref a_r0_letterOf, .ref a_r0_told, .ref a_r0_kept, v_r0_imaged, v_r0_hasImage, .int r0_place0, .int r0_isTaking, (kv r0_keptIn), v_r0_turns0, v_r0_turnOf, .int r0_turned, v_r0_order0, v_r0_likely0, v_r0_leftThen, v_r0_row, v_r0_rowMany, v_r0_seed])), (a_r0_figures, .inl (cI, 8, .inl r0_figures)), (a_r0_hampers, .inl (cI, 8, .inl r0_hampers)), (a_r0_kept, .inl (cI, 41, .inl r0_kept)), (a_r0_kinds, .inl (cI, 8, .inl r0_kinds)), (a_r0_left0, .inl (cI, 4, .inl r0_left0)), (a_r0_letterOf, .inl (cI, 49, .inl r0_letterOf)), (a_r0_letters, .inl (cI, 96, .inl r0_letters)), (a_r0_placeIn, .inl (cI, 49, .inl r0_placeIn)), (a_r0_told, .inl (cI, 147, .inl r0_told)), (a_r0_wants0, .inl (cI, 4, .inl r0_wants0)), (a_r0_weights, .inl (cI, 6, .inl r0_weights))]
def F_M_hall_L20 (r0_letterMany : Int32) (r0_letters : Nat → Int32) (r0_at_1 : Int32) (r0_isBad_1 : Int32) (r0_statements_1 : Int32) (r0_letterOf_1 : Nat → Int32) (r0_placeIn_1 : Nat → Int32) (r0_told_1 : Nat → Int32) : Option (((Int32) × (Int32) × (Int32) × (Nat → Int32) × (Nat → Int32) × (Nat → Int32)) ⊕ ((Int32) × (Int32) × (Int32) × (Nat → Int32) × (Nat → Int32) × (Nat → Int32))) :=
  (if r0_isBad_1 = 0 then (if r0_statements_1 = 0 then ((F_M_readStatement r0_at_1 r0_isBad_1 r0_letterMany r0_statements_1 r0_letterOf_1 r0_letters r0_placeIn_1 r0_told_1).bind (fun q_4 => (some (.inl (q_4.1, q_4.2.1, q_4.2.2.1, q_4.2.2.2.1, q_4.2.2.2.2.1, q_4.2.2.2.2.2))))) else (if r0_letterMany ≤ r0_at_1 then (some (.inr (r0_at_1, r0_isBad_1, r0_statements_1, r0_letterOf_1, r0_placeIn_1, r0_told_1))) else ((F_M_readStatement r0_at_1 r0_isBad_1 r0_letterMany r0_statements_1 r0_letterOf_1 r0_letters r0_placeIn_1 r0_told_1).bind (fun q_6 => (some (.inl (q_6.1, q_6.2.1, q_6.2.2.1, q_6.2.2.2.1, q_6.2.2.2.2.1, q_6.2.2.2.2.2))))))) else (some (.inr (r0_at_1, r0_isBad_1, r0_statements_1, r0_letterOf_1, r0_placeIn_1, r0_told_1))))
def F_M_hall_L79 (r0_turned : Int32) (e_1 : (Int32) × (Int32) × (Int32) × (Nat → Int32) × (Nat → Int32) × (Nat → Int32)) (q_8 : (Int32) × (Int32) × (Int32) × (Int32) × (Int32) × (Int32) × (Nat → Int32) × (Nat → Int32) × (Nat → Int32) × (Nat → Int32) × (Nat → Int32) × (Nat → Int32) × (Nat → Int32)) (y1_9 : Int32) (r0_days_9 : Int32) (r0_done0_9 : Int32) (r0_things_9 : Int32) (r0_figures_9 : Nat → Int32) (r0_hampers_9 : Nat → Int32) (r0_kinds_9 : Nat → Int32) (r0_left0_9 : Nat → Int32) (r0_wants0_9 : Nat → Int32) (r0_weights_9 : Nat → Int32) : Option (((Int32) × (Int32) × (Int32) × (Int32) × (Nat → Int32) × (Nat → Int32) × (Nat → Int32) × (Nat → Int32) × (Nat → Int32) × (Nat → Int32)) ⊕ ((((Int32) × (Int32) × (Int32) × (Nat → Int32) × (Nat → Int32) × (Nat → Int32) × (Nat → Int32) × (Nat → Int32) × (Nat → Int32)) ⊕ (Int32 × (Int32) × (Int32) × (Int32) × (Int32) × (Int32) × (Int32) × (Int32) × (Int32) × (Int32) × (Int32) × (Int32) × (Int32) × (Nat → Int32) × (Nat → Int32) × (Nat → Int32) × (Nat → Int32) × (Nat → Int32) × (Nat → Int32) × (Nat → Int32) × (Nat → Int32) × (Nat → Int32) × (Nat → Int32))))) :=
  (if e_1.2.2.1 ≤ y1_9 then (some (.inr (.inl (r0_days_9, r0_done0_9, r0_things_9, r0_figures_9, r0_hampers_9, r0_kinds_9, r0_left0_9, r0_wants0_9, r0_weights_9)))) else ((F_M_comesTold r0_days_9 r0_done0_9 r0_things_9 r0_figures_9 r0_hampers_9 r0_kinds_9 r0_left0_9 e_1.2.2.2.1 e_1.2.2.2.2.2 r0_wants0_9 r0_weights_9 y1_9).bind (fun q_11 => (if q_11.1 = 0 then ((F_M_again q_11.2.1 q_11.2.2.1 q_11.2.2.2.1 q_11.2.2.2.2.1 q_11.2.2.2.2.2.1 q_8.2.2.2.2.2.2.2.2.1 q_11.2.2.2.2.2.2.1 q_11.2.2.2.2.2.2.2.1 q_11.2.2.2.2.2.2.2.2.1 q_11.2.2.2.2.2.2.2.2.2).bind (fun q_13 => (ck y1_9 49 (some (.inr (.inr ((((-2000) : Int32) - (e_1.2.2.2.2.1 (Int32.toNatClampNeg y1_9))), e_1.1, q_13.1, q_13.2.1, e_1.2.1, q_13.2.2.1, q_13.2.2.2.1, 0, q_13.2.2.2.2.1, e_1.2.2.1, q_13.2.2.2.2.2.1, 0, r0_turned, q_13.2.2.2.2.2.2.1, q_13.2.2.2.2.2.2.2.1, q_13.2.2.2.2.2.2.2.2.1, q_13.2.2.2.2.2.2.2.2.2.1, q_13.2.2.2.2.2.2.2.2.2.2.1, e_1.2.2.2.1, e_1.2.2.2.2.1, e_1.2.2.2.2.2, q_13.2.2.2.2.2.2.2.2.2.2.2.1, q_13.2.2.2.2.2.2.2.2.2.2.2.2))))))) else (some (.inl ((y1_9 + 1), q_11.2.1, q_11.2.2.1, q_11.2.2.2.1, q_11.2.2.2.2.1, q_11.2.2.2.2.2.1, q_11.2.2.2.2.2.2.1, q_11.2.2.2.2.2.2.2.1, q_11.2.2.2.2.2.2.2.2.1, q_11.2.2.2.2.2.2.2.2.2)))))))
def F_M_hall (r0_days : Int32) (r0_done0 : Int32) (r0_isTaking : Int32) (r0_keptIn : Int32) (r0_letterMany : Int32) (r0_place0 : Int32) (r0_things : Int32) (r0_turned : Int32) (r0_figures : Nat → Int32) (r0_hampers : Nat → Int32) (r0_kept : Nat → Int32) (r0_kinds : Nat → Int32) (r0_left0 : Nat → Int32) (r0_letterOf : Nat → Int32) (r0_letters : Nat → Int32) (r0_placeIn : Nat → Int32) (r0_told : Nat → Int32) (r0_wants0 : Nat → Int32) (r0_weights : Nat → Int32) : Option (Int32 × (Int32) × (Int32) × (Int32) × (Int32) × (Int32) × (Int32) × (Int32) × (Int32) × (Int32) × (Int32) × (Int32) × (Int32) × (Nat → Int32) × (Nat → Int32) × (Nat → Int32) × (Nat → Int32) × (Nat → Int32) × (Nat → Int32) × (Nat → Int32) × (Nat → Int32) × (Nat → Int32) × (Nat → Int32)) :=
  ((wh (fun (s : (Int32) × (Int32) × (Int32) × (Nat → Int32) × (Nat → Int32) × (Nat → Int32)) => F_M_hall_L20 r0_letterMany r0_letters s.1 s.2.1 s.2.2.1 s.2.2.2.1 s.2.2.2.2.1 s.2.2.2.2.2) 400 ((0 : Int32), (0 : Int32), (0 : Int32), r0_letterOf, r0_placeIn, r0_told)).bind (fun e_1 => (if e_1.2.1 = 0 then ((F_M_think r0_days r0_done0 r0_things r0_figures r0_hampers r0_kept r0_kinds r0_left0 r0_wants0 r0_weights).bind (fun q_8 => ((wh (fun (s : (Int32) × (Int32) × (Int32) × (Int32) × (Nat → Int32) × (Nat → Int32) × (Nat → Int32) × (Nat → Int32) × (Nat → Int32) × (Nat → Int32)) => F_M_hall_L79 r0_turned e_1 q_8 s.1 s.2.1 s.2.2.1 s.2.2.2.1 s.2.2.2.2.1 s.2.2.2.2.2.1 s.2.2.2.2.2.2.1 s.2.2.2.2.2.2.2.1 s.2.2.2.2.2.2.2.2.1 s.2.2.2.2.2.2.2.2.2) 400 ((0 : Int32), q_8.1, q_8.2.1, q_8.2.2.2.2.2.1, q_8.2.2.2.2.2.2.1, q_8.2.2.2.2.2.2.2.1, q_8.2.2.2.2.2.2.2.2.2.1, q_8.2.2.2.2.2.2.2.2.2.2.1, q_8.2.2.2.2.2.2.2.2.2.2.2.1, q_8.2.2.2.2.2.2.2.2.2.2.2.2)).bind (sx (fun e_9 => (some (e_1.2.2.1, e_1.1, e_9.1, e_9.2.1, e_1.2.1, q_8.2.2.1, q_8.2.2.2.1, 0, q_8.2.2.2.2.1, e_1.2.2.1, e_9.2.2.1, 0, 0, e_9.2.2.2.1, e_9.2.2.2.2.1, q_8.2.2.2.2.2.2.2.2.1, e_9.2.2.2.2.2.1, e_9.2.2.2.2.2.2.1, e_1.2.2.2.1, e_1.2.2.2.2.1, e_1.2.2.2.2.2, e_9.2.2.2.2.2.2.2.1, e_9.2.2.2.2.2.2.2.2))) (fun o => some o))))) else (some ((((-1000) : Int32) - e_1.1), e_1.1, r0_days, r0_done0, e_1.2.1, r0_isTaking, r0_keptIn, 0, r0_place0, e_1.2.2.1, r0_things, 0, r0_turned, r0_figures, r0_hampers, r0_kept, r0_kinds, r0_left0, e_1.2.2.2.1, e_1.2.2.2.2.1, e_1.2.2.2.2.2, r0_wants0, r0_weights)))))
set_option maxHeartbeats 4000000 in
set_option maxRecDepth 100000 in
theorem C_M_hall (l : Launch) (D : va_G) (cI cS : ClassId) (a_r0 : Nat) (a_r0_figures : Nat) (a_r0_hampers : Nat) (a_r0_kept : Nat) (a_r0_kinds : Nat) (a_r0_left0 : Nat) (a_r0_letterOf : Nat) (a_r0_letters : Nat) (a_r0_placeIn : Nat) (a_r0_told : Nat) (a_r0_wants0 : Nat) (a_r0_weights : Nat) (v_r0_refusals v_r0_imaged v_r0_hasImage v_r0_turns0 v_r0_turnOf v_r0_order0 v_r0_likely0 v_r0_leftThen v_r0_row v_r0_rowMany v_r0_seed : Value) (kv : Int32 → Value) (hkv_kept : kv 1 = .ref a_r0_kept) (r0_at : Int32) (r0_days : Int32) (r0_done0 : Int32) (r0_isBad : Int32) (r0_isTaking : Int32) (r0_keptIn : Int32) (r0_letterMany : Int32) (r0_place0 : Int32) (r0_statements : Int32) (r0_things : Int32) (r0_thrown : Int32) (r0_turned : Int32) (r0_figures : Nat → Int32) (r0_hampers : Nat → Int32) (r0_kept : Nat → Int32) (r0_kinds : Nat → Int32) (r0_left0 : Nat → Int32) (r0_letterOf : Nat → Int32) (r0_letters : Nat → Int32) (r0_placeIn : Nat → Int32) (r0_told : Nat → Int32) (r0_wants0 : Nat → Int32) (r0_weights : Nat → Int32) (o : Int32 × (Int32) × (Int32) × (Int32) × (Int32) × (Int32) × (Int32) × (Int32) × (Int32) × (Int32) × (Int32) × (Int32) × (Int32) × (Nat → Int32) × (Nat → Int32) × (Nat → Int32) × (Nat → Int32) × (Nat → Int32) × (Nat → Int32) × (Nat → Int32) × (Nat → Int32) × (Nat → Int32) × (Nat → Int32)) (hr : F_M_hall r0_days r0_done0 r0_isTaking r0_keptIn r0_letterMany r0_place0 r0_things r0_turned r0_figures r0_hampers r0_kept r0_kinds r0_left0 r0_letterOf r0_letters r0_placeIn r0_told r0_wants0 r0_weights = some o) : ctI l y_M_hall (Cond.code y_M_hall b_M_hall 2 (some FieldType.int)) (rmd 5) D (kTy cI cS) [.ref a_r0] (w_M_hall cI a_r0 a_r0_figures a_r0_hampers a_r0_kept a_r0_kinds a_r0_left0 a_r0_letterOf a_r0_letters a_r0_placeIn a_r0_told a_r0_wants0 a_r0_weights v_r0_refusals v_r0_imaged v_r0_hasImage v_r0_turns0 v_r0_turnOf v_r0_order0 v_r0_likely0 v_r0_leftThen v_r0_row v_r0_rowMany v_r0_seed kv r0_at r0_days r0_done0 r0_isBad r0_isTaking r0_keptIn r0_letterMany r0_place0 r0_statements r0_things r0_thrown r0_turned r0_figures r0_hampers r0_kept r0_kinds r0_left0 r0_letterOf r0_letters r0_placeIn r0_told r0_wants0 r0_weights) (w_M_hall cI a_r0 a_r0_figures a_r0_hampers a_r0_kept a_r0_kinds a_r0_left0 a_r0_letterOf a_r0_letters a_r0_placeIn a_r0_told a_r0_wants0 a_r0_weights v_r0_refusals v_r0_imaged v_r0_hasImage v_r0_turns0 v_r0_turnOf v_r0_order0 v_r0_likely0 v_r0_leftThen v_r0_row v_r0_rowMany v_r0_seed kv o.2.1 o.2.2.1 o.2.2.2.1 o.2.2.2.2.1 o.2.2.2.2.2.1 o.2.2.2.2.2.2.1 o.2.2.2.2.2.2.2.1 o.2.2.2.2.2.2.2.2.1 o.2.2.2.2.2.2.2.2.2.1 o.2.2.2.2.2.2.2.2.2.2.1 o.2.2.2.2.2.2.2.2.2.2.2.1 o.2.2.2.2.2.2.2.2.2.2.2.2.1 o.2.2.2.2.2.2.2.2.2.2.2.2.2.1 o.2.2.2.2.2.2.2.2.2.2.2.2.2.2.1 o.2.2.2.2.2.2.2.2.2.2.2.2.2.2.2.1 o.2.2.2.2.2.2.2.2.2.2.2.2.2.2.2.2.1 o.2.2.2.2.2.2.2.2.2.2.2.2.2.2.2.2.2.1 o.2.2.2.2.2.2.2.2.2.2.2.2.2.2.2.2.2.2.1 r0_letters o.2.2.2.2.2.2.2.2.2.2.2.2.2.2.2.2.2.2.2.1 o.2.2.2.2.2.2.2.2.2.2.2.2.2.2.2.2.2.2.2.2.1 o.2.2.2.2.2.2.2.2.2.2.2.2.2.2.2.2.2.2.2.2.2.1 o.2.2.2.2.2.2.2.2.2.2.2.2.2.2.2.2.2.2.2.2.2.2) o.1 := by
  unfold F_M_hall at hr
  refine ⟨rfl, fun sz => ct_of (w0 := (w_M_hall cI a_r0 a_r0_figures a_r0_hampers a_r0_kept a_r0_kinds a_r0_left0 a_r0_letterOf a_r0_letters a_r0_placeIn a_r0_told a_r0_wants0 a_r0_weights v_r0_refusals v_r0_imaged v_r0_hasImage v_r0_turns0 v_r0_turnOf v_r0_order0 v_r0_likely0 v_r0_leftThen v_r0_row v_r0_rowMany v_r0_seed kv r0_at r0_days r0_done0 r0_isBad r0_isTaking r0_keptIn r0_letterMany r0_place0 r0_statements r0_things r0_thrown r0_turned r0_figures r0_hampers r0_kept r0_kinds r0_left0 r0_letterOf r0_letters r0_placeIn r0_told r0_wants0 r0_weights)) (Qc := fun A => qI D (w_M_hall cI a_r0 a_r0_figures a_r0_hampers a_r0_kept a_r0_kinds a_r0_left0 a_r0_letterOf a_r0_letters a_r0_placeIn a_r0_told a_r0_wants0 a_r0_weights v_r0_refusals v_r0_imaged v_r0_hasImage v_r0_turns0 v_r0_turnOf v_r0_order0 v_r0_likely0 v_r0_leftThen v_r0_row v_r0_rowMany v_r0_seed kv o.2.1 o.2.2.1 o.2.2.2.1 o.2.2.2.2.1 o.2.2.2.2.2.1 o.2.2.2.2.2.2.1 o.2.2.2.2.2.2.2.1 o.2.2.2.2.2.2.2.2.1 o.2.2.2.2.2.2.2.2.2.1 o.2.2.2.2.2.2.2.2.2.2.1 o.2.2.2.2.2.2.2.2.2.2.2.1 o.2.2.2.2.2.2.2.2.2.2.2.2.1 o.2.2.2.2.2.2.2.2.2.2.2.2.2.1 o.2.2.2.2.2.2.2.2.2.2.2.2.2.2.1 o.2.2.2.2.2.2.2.2.2.2.2.2.2.2.2.1 o.2.2.2.2.2.2.2.2.2.2.2.2.2.2.2.2.1 o.2.2.2.2.2.2.2.2.2.2.2.2.2.2.2.2.2.1 o.2.2.2.2.2.2.2.2.2.2.2.2.2.2.2.2.2.2.1 r0_letters o.2.2.2.2.2.2.2.2.2.2.2.2.2.2.2.2.2.2.2.1 o.2.2.2.2.2.2.2.2.2.2.2.2.2.2.2.2.2.2.2.2.1 o.2.2.2.2.2.2.2.2.2.2.2.2.2.2.2.2.2.2.2.2.2.1 o.2.2.2.2.2.2.2.2.2.2.2.2.2.2.2.2.2.2.2.2.2.2) o.1 A) rfl (Nat.le_of_ble_eq_true rfl) ?_ sz⟩
  intro p e s m below meth c A hA C hret ls hl hW
  have C : cx p s m ([.ref a_r0] : List Value).toArray meth c b_M_hall 2 R_M D (kTy cI cS) (Cond.code y_M_hall b_M_hall 2 (some FieldType.int)) := C
  obtain ⟨hx, hb, hml, hown, hts, hK, hlk, hN⟩ := id C
  have hl : lv_has ls 2 [(0, .ref a_r0)] := hl
  obtain ⟨Q, hQ⟩ : ∃ Q, Q = MQ below (qI D (w_M_hall cI a_r0 a_r0_figures a_r0_hampers a_r0_kept a_r0_kinds a_r0_left0 a_r0_letterOf a_r0_letters a_r0_placeIn a_r0_told a_r0_wants0 a_r0_weights v_r0_refusals v_r0_imaged v_r0_hasImage v_r0_turns0 v_r0_turnOf v_r0_order0 v_r0_likely0 v_r0_leftThen v_r0_row v_r0_rowMany v_r0_seed kv o.2.1 o.2.2.1 o.2.2.2.1 o.2.2.2.2.1 o.2.2.2.2.2.1 o.2.2.2.2.2.2.1 o.2.2.2.2.2.2.2.1 o.2.2.2.2.2.2.2.2.1 o.2.2.2.2.2.2.2.2.2.1 o.2.2.2.2.2.2.2.2.2.2.1 o.2.2.2.2.2.2.2.2.2.2.2.1 o.2.2.2.2.2.2.2.2.2.2.2.2.1 o.2.2.2.2.2.2.2.2.2.2.2.2.2.1 o.2.2.2.2.2.2.2.2.2.2.2.2.2.2.1 o.2.2.2.2.2.2.2.2.2.2.2.2.2.2.2.1 o.2.2.2.2.2.2.2.2.2.2.2.2.2.2.2.2.1 o.2.2.2.2.2.2.2.2.2.2.2.2.2.2.2.2.2.1 o.2.2.2.2.2.2.2.2.2.2.2.2.2.2.2.2.2.2.1 r0_letters o.2.2.2.2.2.2.2.2.2.2.2.2.2.2.2.2.2.2.2.1 o.2.2.2.2.2.2.2.2.2.2.2.2.2.2.2.2.2.2.2.2.1 o.2.2.2.2.2.2.2.2.2.2.2.2.2.2.2.2.2.2.2.2.2.1 o.2.2.2.2.2.2.2.2.2.2.2.2.2.2.2.2.2.2.2.2.2.2) o.1 A) ([.ref a_r0] : List Value).toArray s 0 0 A := ⟨_, rfl⟩
  rw [← hQ]
  refine lv_aload_n hx hb d_M_hall_0 rfl (lv_at hl 0 rfl) ?_
  refine lv_iconst (v := 0) hx hb d_M_hall_1 (by decide) ?_
  refine k_put i_M t_M_ok n_M C hW 0 rfl rfl 9 (by decide) qf_M_67 rfl rfl (ty := .int) rfl rfl rfl (Nat.le_of_ble_eq_true rfl) (ws' := (w_M_hall cI a_r0 a_r0_figures a_r0_hampers a_r0_kept a_r0_kinds a_r0_left0 a_r0_letterOf a_r0_letters a_r0_placeIn a_r0_told a_r0_wants0 a_r0_weights v_r0_refusals v_r0_imaged v_r0_hasImage v_r0_turns0 v_r0_turnOf v_r0_order0 v_r0_likely0 v_r0_leftThen v_r0_row v_r0_rowMany v_r0_seed kv r0_at r0_days r0_done0 r0_isBad r0_isTaking r0_keptIn r0_letterMany r0_place0 r0_statements r0_things 0 r0_turned r0_figures r0_hampers r0_kept r0_kinds r0_left0 r0_letterOf r0_letters r0_placeIn r0_told r0_wants0 r0_weights)) rfl d_M_hall_2 (fun H locs hW => ?_)
  refine lv_aload_n hx hb d_M_hall_5 rfl (lv_at hl 0 rfl) ?_
  refine lv_iconst (v := 0) hx hb d_M_hall_6 (by decide) ?_
  refine k_put i_M t_M_ok n_M C hW 0 rfl rfl 13 (by decide) qf_M_114 rfl rfl (ty := .int) rfl rfl rfl (Nat.le_of_ble_eq_true rfl) (ws' := (w_M_hall cI a_r0 a_r0_figures a_r0_hampers a_r0_kept a_r0_kinds a_r0_left0 a_r0_letterOf a_r0_letters a_r0_placeIn a_r0_told a_r0_wants0 a_r0_weights v_r0_refusals v_r0_imaged v_r0_hasImage v_r0_turns0 v_r0_turnOf v_r0_order0 v_r0_likely0 v_r0_leftThen v_r0_row v_r0_rowMany v_r0_seed kv 0 r0_days r0_done0 r0_isBad r0_isTaking r0_keptIn r0_letterMany r0_place0 r0_statements r0_things 0 r0_turned r0_figures r0_hampers r0_kept r0_kinds r0_left0 r0_letterOf r0_letters r0_placeIn r0_told r0_wants0 r0_weights)) rfl d_M_hall_7 (fun H locs hW => ?_)
  refine lv_aload_n hx hb d_M_hall_10 rfl (lv_at hl 0 rfl) ?_
  refine lv_iconst (v := 0) hx hb d_M_hall_11 (by decide) ?_
  refine k_put i_M t_M_ok n_M C hW 0 rfl rfl 14 (by decide) qf_M_117 rfl rfl (ty := .boolean) rfl nar0 rfl (Nat.le_of_ble_eq_true rfl) (ws' := (w_M_hall cI a_r0 a_r0_figures a_r0_hampers a_r0_kept a_r0_kinds a_r0_left0 a_r0_letterOf a_r0_letters a_r0_placeIn a_r0_told a_r0_wants0 a_r0_weights v_r0_refusals v_r0_imaged v_r0_hasImage v_r0_turns0 v_r0_turnOf v_r0_order0 v_r0_likely0 v_r0_leftThen v_r0_row v_r0_rowMany v_r0_seed kv 0 r0_days r0_done0 0 r0_isTaking r0_keptIn r0_letterMany r0_place0 r0_statements r0_things 0 r0_turned r0_figures r0_hampers r0_kept r0_kinds r0_left0 r0_letterOf r0_letters r0_placeIn r0_told r0_wants0 r0_weights)) rfl d_M_hall_12 (fun H locs hW => ?_)
  refine lv_aload_n hx hb d_M_hall_15 rfl (lv_at hl 0 rfl) ?_
  refine lv_iconst (v := 0) hx hb d_M_hall_16 (by decide) ?_
  refine k_put i_M t_M_ok n_M C hW 0 rfl rfl 15 (by decide) qf_M_132 rfl rfl (ty := .int) rfl rfl rfl (Nat.le_of_ble_eq_true rfl) (ws' := (w_M_hall cI a_r0 a_r0_figures a_r0_hampers a_r0_kept a_r0_kinds a_r0_left0 a_r0_letterOf a_r0_letters a_r0_placeIn a_r0_told a_r0_wants0 a_r0_weights v_r0_refusals v_r0_imaged v_r0_hasImage v_r0_turns0 v_r0_turnOf v_r0_order0 v_r0_likely0 v_r0_leftThen v_r0_row v_r0_rowMany v_r0_seed kv 0 r0_days r0_done0 0 r0_isTaking r0_keptIn r0_letterMany r0_place0 0 r0_things 0 r0_turned r0_figures r0_hampers r0_kept r0_kinds r0_left0 r0_letterOf r0_letters r0_placeIn r0_told r0_wants0 r0_weights)) rfl d_M_hall_17 (fun H locs hW => ?_)
  obtain ⟨ex_1, hw_1, hk_1⟩ := ob hr
  have hx_1 : ∀ (e_1 : (Int32) × (Int32) × (Int32) × (Nat → Int32) × (Nat → Int32) × (Nat → Int32)), e_1 = ex_1 → ∀ (H : Heap) (locs : List Loc) (ls : Array Slot), wd A s.heap D (w_M_hall cI a_r0 a_r0_figures a_r0_hampers a_r0_kept a_r0_kinds a_r0_left0 a_r0_letterOf a_r0_letters a_r0_placeIn a_r0_told a_r0_wants0 a_r0_weights v_r0_refusals v_r0_imaged v_r0_hasImage v_r0_turns0 v_r0_turnOf v_r0_order0 v_r0_likely0 v_r0_leftThen v_r0_row v_r0_rowMany v_r0_seed kv e_1.1 r0_days r0_done0 e_1.2.1 r0_isTaking r0_keptIn r0_letterMany r0_place0 e_1.2.2.1 r0_things 0 r0_turned r0_figures r0_hampers r0_kept r0_kinds r0_left0 e_1.2.2.2.1 r0_letters e_1.2.2.2.2.1 e_1.2.2.2.2.2 r0_wants0 r0_weights) H locs → lv_has ls 2 [(0, .ref a_r0)] → W p l e (rmd 5) s m ([.ref a_r0] : List Value).toArray below meth c H locs 0 0 Q (F0 m 52 ls []) := by
    intro e_1 hE H locs ls hW hl
    subst hE; have hr := hk_1
    refine lv_aload_n hx hb d_M_hall_52 rfl (lv_at hl 0 rfl) ?_
    refine lv_iconst (v := 0) hx hb d_M_hall_53 (by decide) ?_
    refine k_put i_M t_M_ok n_M C hW 0 rfl rfl 12 (by decide) qf_M_111 rfl rfl (ty := .int) rfl rfl rfl (Nat.le_of_ble_eq_true rfl) (ws' := (w_M_hall cI a_r0 a_r0_figures a_r0_hampers a_r0_kept a_r0_kinds a_r0_left0 a_r0_letterOf a_r0_letters a_r0_placeIn a_r0_told a_r0_wants0 a_r0_weights v_r0_refusals v_r0_imaged v_r0_hasImage v_r0_turns0 v_r0_turnOf v_r0_order0 v_r0_likely0 v_r0_leftThen v_r0_row v_r0_rowMany v_r0_seed kv e_1.1 r0_days r0_done0 e_1.2.1 r0_isTaking r0_keptIn 0 r0_place0 e_1.2.2.1 r0_things 0 r0_turned r0_figures r0_hampers r0_kept r0_kinds r0_left0 e_1.2.2.2.1 r0_letters e_1.2.2.2.2.1 e_1.2.2.2.2.2 r0_wants0 r0_weights)) rfl d_M_hall_54 (fun H locs hW => ?_)
    refine lv_aload_n hx hb d_M_hall_57 rfl (lv_at hl 0 rfl) ?_
    refine k_get i_M C hW 0 rfl rfl 14 (by decide) qf_M_117 rfl rfl d_M_hall_58 ?_
    refine lv_if_eq (tgt := 73) hx hb d_M_hall_61 (by decide) (fun c_7 => ?_) (fun c_7 => ?_)
    · replace hr := ip c_7 hr
      refine lv_aload_n hx hb d_M_hall_73 rfl (lv_at hl 0 rfl) ?_
      obtain ⟨q_8, hc_8, hr⟩ := ob hr
      have ct_8 := C_M_think l D cI cS a_r0 a_r0_figures a_r0_hampers a_r0_kept a_r0_kinds a_r0_left0 a_r0_wants0 a_r0_weights (Value.int 0) v_r0_refusals (Value.ref a_r0_letters) (Value.int 0) (Value.int e_1.1) (Value.int e_1.2.1) (Value.int e_1.2.2.1) (Value.ref a_r0_placeIn) (Value.ref a_r0_letterOf) (Value.ref a_r0_told) v_r0_imaged v_r0_hasImage v_r0_turns0 v_r0_turnOf (Value.int r0_turned) v_r0_order0 v_r0_likely0 v_r0_leftThen v_r0_row v_r0_rowMany v_r0_seed kv hkv_kept r0_days r0_done0 r0_isTaking r0_keptIn r0_place0 r0_things r0_figures r0_hampers r0_kept r0_kinds r0_left0 r0_wants0 r0_weights q_8 hc_8
      refine k_goV hA hW [0, 1, 2, 3, 4, 5, 10, 11] rfl ct_8.1 (ws' := (w_M_hall cI a_r0 a_r0_figures a_r0_hampers a_r0_kept a_r0_kinds a_r0_left0 a_r0_letterOf a_r0_letters a_r0_placeIn a_r0_told a_r0_wants0 a_r0_weights v_r0_refusals v_r0_imaged v_r0_hasImage v_r0_turns0 v_r0_turnOf v_r0_order0 v_r0_likely0 v_r0_leftThen v_r0_row v_r0_rowMany v_r0_seed kv e_1.1 q_8.1 q_8.2.1 e_1.2.1 q_8.2.2.1 q_8.2.2.2.1 0 q_8.2.2.2.2.1 e_1.2.2.1 q_8.2.2.2.2.2.1 0 r0_turned q_8.2.2.2.2.2.2.1 q_8.2.2.2.2.2.2.2.1 q_8.2.2.2.2.2.2.2.2.1 q_8.2.2.2.2.2.2.2.2.2.1 q_8.2.2.2.2.2.2.2.2.2.2.1 e_1.2.2.2.1 r0_letters e_1.2.2.2.2.1 e_1.2.2.2.2.2 q_8.2.2.2.2.2.2.2.2.2.2.2.1 q_8.2.2.2.2.2.2.2.2.2.2.2.2)) rfl (k_runV C hA hW mw_M_think mv_M_think (ct_8.2 _) [0, 1, 2, 3, 4, 5, 10, 11] rfl rfl 0 rfl rfl qm_M_165 ⟨Nat.le_of_ble_eq_true rfl, Nat.le_of_ble_eq_true rfl, Nat.zero_le _, Nat.zero_le _⟩ rfl rfl (Nat.le_of_ble_eq_true rfl) hl.1 d_M_hall_74) (fun H locs hW => ?_)
      refine lv_iconst (v := 0) hx hb d_M_hall_77 (by decide) ?_
      refine lv_istore_n (lv' := [(1, .int 0), (0, .ref a_r0)]) hx hb d_M_hall_78 rfl hl (by decide) rfl (fun ls hl => ?_)
      obtain ⟨ex_9, hw_9, hk_9⟩ := ob hr
      have hx_9 : ∀ (e_9 : (Int32) × (Int32) × (Int32) × (Nat → Int32) × (Nat → Int32) × (Nat → Int32) × (Nat → Int32) × (Nat → Int32) × (Nat → Int32)), Sum.inl e_9 = ex_9 → ∀ (H : Heap) (locs : List Loc) (ls : Array Slot), wd A s.heap D (w_M_hall cI a_r0 a_r0_figures a_r0_hampers a_r0_kept a_r0_kinds a_r0_left0 a_r0_letterOf a_r0_letters a_r0_placeIn a_r0_told a_r0_wants0 a_r0_weights v_r0_refusals v_r0_imaged v_r0_hasImage v_r0_turns0 v_r0_turnOf v_r0_order0 v_r0_likely0 v_r0_leftThen v_r0_row v_r0_rowMany v_r0_seed kv e_1.1 e_9.1 e_9.2.1 e_1.2.1 q_8.2.2.1 q_8.2.2.2.1 0 q_8.2.2.2.2.1 e_1.2.2.1 e_9.2.2.1 0 r0_turned e_9.2.2.2.1 e_9.2.2.2.2.1 q_8.2.2.2.2.2.2.2.2.1 e_9.2.2.2.2.2.1 e_9.2.2.2.2.2.2.1 e_1.2.2.2.1 r0_letters e_1.2.2.2.2.1 e_1.2.2.2.2.2 e_9.2.2.2.2.2.2.2.1 e_9.2.2.2.2.2.2.2.2) H locs → lv_has ls 2 [(0, .ref a_r0)] → W p l e (rmd 5) s m ([.ref a_r0] : List Value).toArray below meth c H locs 0 0 Q (F0 m 116 ls []) := by
        intro e_9 hE H locs ls hW hl
        have hr := sx_l hE.symm hk_9
        refine lv_aload_n hx hb d_M_hall_116 rfl (lv_at hl 0 rfl) ?_
        refine lv_iconst (v := 0) hx hb d_M_hall_117 (by decide) ?_
        refine k_put i_M t_M_ok n_M C hW 0 rfl rfl 27 (by decide) qf_M_174 rfl rfl (ty := .int) rfl rfl rfl (Nat.le_of_ble_eq_true rfl) (ws' := (w_M_hall cI a_r0 a_r0_figures a_r0_hampers a_r0_kept a_r0_kinds a_r0_left0 a_r0_letterOf a_r0_letters a_r0_placeIn a_r0_told a_r0_wants0 a_r0_weights v_r0_refusals v_r0_imaged v_r0_hasImage v_r0_turns0 v_r0_turnOf v_r0_order0 v_r0_likely0 v_r0_leftThen v_r0_row v_r0_rowMany v_r0_seed kv e_1.1 e_9.1 e_9.2.1 e_1.2.1 q_8.2.2.1 q_8.2.2.2.1 0 q_8.2.2.2.2.1 e_1.2.2.1 e_9.2.2.1 0 0 e_9.2.2.2.1 e_9.2.2.2.2.1 q_8.2.2.2.2.2.2.2.2.1 e_9.2.2.2.2.2.1 e_9.2.2.2.2.2.2.1 e_1.2.2.2.1 r0_letters e_1.2.2.2.2.1 e_1.2.2.2.2.2 e_9.2.2.2.2.2.2.2.1 e_9.2.2.2.2.2.2.2.2)) rfl d_M_hall_118 (fun H locs hW => ?_)
        refine lv_aload_n hx hb d_M_hall_121 rfl (lv_at hl 0 rfl) ?_
        refine k_get i_M C hW 0 rfl rfl 15 (by decide) qf_M_132 rfl rfl d_M_hall_122 ?_
        obtain rfl := Option.some.inj hr
        rw [hQ]; exact k_iret C hret hW d_M_hall_125
      have hl_9 : ∀ (k : Nat) (y1_9 : Int32) (r0_days_9 : Int32) (r0_done0_9 : Int32) (r0_things_9 : Int32) (r0_figures_9 : Nat → Int32) (r0_hampers_9 : Nat → Int32) (r0_kinds_9 : Nat → Int32) (r0_left0_9 : Nat → Int32) (r0_wants0_9 : Nat → Int32) (r0_weights_9 : Nat → Int32), wh (fun (s : (Int32) × (Int32) × (Int32) × (Int32) × (Nat → Int32) × (Nat → Int32) × (Nat → Int32) × (Nat → Int32) × (Nat → Int32) × (Nat → Int32)) => F_M_hall_L79 r0_turned e_1 q_8 s.1 s.2.1 s.2.2.1 s.2.2.2.1 s.2.2.2.2.1 s.2.2.2.2.2.1 s.2.2.2.2.2.2.1 s.2.2.2.2.2.2.2.1 s.2.2.2.2.2.2.2.2.1 s.2.2.2.2.2.2.2.2.2) k (y1_9, r0_days_9, r0_done0_9, r0_things_9, r0_figures_9, r0_hampers_9, r0_kinds_9, r0_left0_9, r0_wants0_9, r0_weights_9) = some ex_9 → ∀ (H : Heap) (locs : List Loc) (ls : Array Slot), wd A s.heap D (w_M_hall cI a_r0 a_r0_figures a_r0_hampers a_r0_kept a_r0_kinds a_r0_left0 a_r0_letterOf a_r0_letters a_r0_placeIn a_r0_told a_r0_wants0 a_r0_weights v_r0_refusals v_r0_imaged v_r0_hasImage v_r0_turns0 v_r0_turnOf v_r0_order0 v_r0_likely0 v_r0_leftThen v_r0_row v_r0_rowMany v_r0_seed kv e_1.1 r0_days_9 r0_done0_9 e_1.2.1 q_8.2.2.1 q_8.2.2.2.1 0 q_8.2.2.2.2.1 e_1.2.2.1 r0_things_9 0 r0_turned r0_figures_9 r0_hampers_9 q_8.2.2.2.2.2.2.2.2.1 r0_kinds_9 r0_left0_9 e_1.2.2.2.1 r0_letters e_1.2.2.2.2.1 e_1.2.2.2.2.2 r0_wants0_9 r0_weights_9) H locs → lv_has ls 2 [(0, .ref a_r0), (1, .int y1_9)] → W p l e (rmd 5) s m ([.ref a_r0] : List Value).toArray below meth c H locs 0 0 Q (F0 m 79 ls []) := by
        intro k
        induction k with
        | zero => intro y1_9 r0_days_9 r0_done0_9 r0_things_9 r0_figures_9 r0_hampers_9 r0_kinds_9 r0_left0_9 r0_wants0_9 r0_weights_9 hw; exact absurd hw wh_0
        | succ k ih_9 =>
          intro y1_9 r0_days_9 r0_done0_9 r0_things_9 r0_figures_9 r0_hampers_9 r0_kinds_9 r0_left0_9 r0_wants0_9 r0_weights_9 hw H locs ls hW hl
          obtain ⟨z_9, hr, hz1_9, hz2_9⟩ := wh_s hw
          have hr : F_M_hall_L79 r0_turned e_1 q_8 y1_9 r0_days_9 r0_done0_9 r0_things_9 r0_figures_9 r0_hampers_9 r0_kinds_9 r0_left0_9 r0_wants0_9 r0_weights_9 = some z_9 := hr
          unfold F_M_hall_L79 at hr
          refine lv_iload_n hx hb d_M_hall_79 rfl (lv_at hl 1 rfl) ?_
          refine lv_aload_n hx hb d_M_hall_80 rfl (lv_at hl 0 rfl) ?_
          refine k_get i_M C hW 0 rfl rfl 15 (by decide) qf_M_132 rfl rfl d_M_hall_81 ?_
          refine lv_icmp_ge (tgt := 116) hx hb d_M_hall_84 (by decide) (fun c_10 => ?_) (fun c_10 => ?_)
          · replace hr := ip c_10 hr
            exact hx_9 _ (hz2_9 _ (Option.some.inj hr).symm) _ _ _ hW (lv_sub hl [0] rfl)
          · replace hr := iN c_10 hr
            refine lv_aload_n hx hb d_M_hall_87 rfl (lv_at hl 0 rfl) ?_
            refine lv_iload_n hx hb d_M_hall_88 rfl (lv_at hl 1 rfl) ?_
            obtain ⟨q_11, hc_11, hr⟩ := ob hr
            have ct_11 := C_M_comesTold l D cI cS a_r0 a_r0_figures a_r0_hampers a_r0_kinds a_r0_left0 a_r0_letterOf a_r0_told a_r0_wants0 a_r0_weights (Value.int 0) v_r0_refusals (Value.ref a_r0_letters) (Value.int 0) (Value.int e_1.1) (Value.int e_1.2.1) (Value.int e_1.2.2.1) (Value.ref a_r0_placeIn) (Value.ref a_r0_kept) v_r0_imaged v_r0_hasImage (Value.int q_8.2.2.2.2.1) (Value.int q_8.2.2.1) (kv q_8.2.2.2.1) v_r0_turns0 v_r0_turnOf (Value.int r0_turned) v_r0_order0 v_r0_likely0 v_r0_leftThen v_r0_row v_r0_rowMany v_r0_seed r0_days_9 r0_done0_9 r0_things_9 r0_figures_9 r0_hampers_9 r0_kinds_9 r0_left0_9 e_1.2.2.2.1 e_1.2.2.2.2.2 r0_wants0_9 r0_weights_9 y1_9 q_11 hc_11
            refine k_goI hA hW [0, 1, 2, 4, 5, 6, 9, 10, 11] rfl ct_11.1 (ws' := (w_M_hall cI a_r0 a_r0_figures a_r0_hampers a_r0_kept a_r0_kinds a_r0_left0 a_r0_letterOf a_r0_letters a_r0_placeIn a_r0_told a_r0_wants0 a_r0_weights v_r0_refusals v_r0_imaged v_r0_hasImage v_r0_turns0 v_r0_turnOf v_r0_order0 v_r0_likely0 v_r0_leftThen v_r0_row v_r0_rowMany v_r0_seed kv e_1.1 q_11.2.1 q_11.2.2.1 e_1.2.1 q_8.2.2.1 q_8.2.2.2.1 0 q_8.2.2.2.2.1 e_1.2.2.1 q_11.2.2.2.1 0 r0_turned q_11.2.2.2.2.1 q_11.2.2.2.2.2.1 q_8.2.2.2.2.2.2.2.2.1 q_11.2.2.2.2.2.2.1 q_11.2.2.2.2.2.2.2.1 e_1.2.2.2.1 r0_letters e_1.2.2.2.2.1 e_1.2.2.2.2.2 q_11.2.2.2.2.2.2.2.2.1 q_11.2.2.2.2.2.2.2.2.2)) rfl (k_runV C hA hW mw_M_comesTold mv_M_comesTold (ct_11.2 _) [0, 1, 2, 4, 5, 6, 9, 10, 11] rfl rfl 0 rfl rfl qm_M_168 ⟨Nat.le_of_ble_eq_true rfl, Nat.le_of_ble_eq_true rfl, Nat.zero_le _, Nat.zero_le _⟩ rfl rfl (Nat.le_of_ble_eq_true rfl) hl.1 d_M_hall_89) (fun H locs hW => ?_)
            refine lv_if_ne (tgt := 110) hx hb d_M_hall_92 (by decide) (fun c_12 => ?_) (fun c_12 => ?_)
            · replace hr := iN c_12 hr
              refine lv_iinc (v := (y1_9 + 1)) (lv' := [(1, .int (y1_9 + 1)), (0, .ref a_r0)]) hx hb d_M_hall_110 hl (k := 1) rfl rfl (by decide) rfl (fun ls hl => ?_)
              refine lv_goto (tgt := 79) hx hb d_M_hall_113 (by decide) ?_
              exact ih_9 (y1_9 + 1) q_11.2.1 q_11.2.2.1 q_11.2.2.2.1 q_11.2.2.2.2.1 q_11.2.2.2.2.2.1 q_11.2.2.2.2.2.2.1 q_11.2.2.2.2.2.2.2.1 q_11.2.2.2.2.2.2.2.2.1 q_11.2.2.2.2.2.2.2.2.2 (hz1_9 _ (Option.some.inj hr).symm) _ _ _ hW (lv_sub hl [1, 0] rfl)
            · replace hr := ip c_12 hr
              refine lv_aload_n hx hb d_M_hall_95 rfl (lv_at hl 0 rfl) ?_
              obtain ⟨q_13, hc_13, hr⟩ := ob hr
              have ct_13 := C_M_again l D cI cS a_r0 a_r0_figures a_r0_hampers a_r0_kept a_r0_kinds a_r0_left0 a_r0_wants0 a_r0_weights (Value.int 0) v_r0_refusals (Value.ref a_r0_letters) (Value.int 0) (Value.int e_1.1) (Value.int e_1.2.1) (Value.int e_1.2.2.1) (Value.ref a_r0_placeIn) (Value.ref a_r0_letterOf) (Value.ref a_r0_told) v_r0_imaged v_r0_hasImage v_r0_turns0 v_r0_turnOf (Value.int r0_turned) v_r0_order0 v_r0_likely0 v_r0_leftThen v_r0_row v_r0_rowMany v_r0_seed kv hkv_kept q_11.2.1 q_11.2.2.1 q_8.2.2.1 q_8.2.2.2.1 q_8.2.2.2.2.1 q_11.2.2.2.1 q_11.2.2.2.2.1 q_11.2.2.2.2.2.1 q_8.2.2.2.2.2.2.2.2.1 q_11.2.2.2.2.2.2.1 q_11.2.2.2.2.2.2.2.1 q_11.2.2.2.2.2.2.2.2.1 q_11.2.2.2.2.2.2.2.2.2 q_13 hc_13
              refine k_goV hA hW [0, 1, 2, 3, 4, 5, 10, 11] rfl ct_13.1 (ws' := (w_M_hall cI a_r0 a_r0_figures a_r0_hampers a_r0_kept a_r0_kinds a_r0_left0 a_r0_letterOf a_r0_letters a_r0_placeIn a_r0_told a_r0_wants0 a_r0_weights v_r0_refusals v_r0_imaged v_r0_hasImage v_r0_turns0 v_r0_turnOf v_r0_order0 v_r0_likely0 v_r0_leftThen v_r0_row v_r0_rowMany v_r0_seed kv e_1.1 q_13.1 q_13.2.1 e_1.2.1 q_13.2.2.1 q_13.2.2.2.1 0 q_13.2.2.2.2.1 e_1.2.2.1 q_13.2.2.2.2.2.1 0 r0_turned q_13.2.2.2.2.2.2.1 q_13.2.2.2.2.2.2.2.1 q_13.2.2.2.2.2.2.2.2.1 q_13.2.2.2.2.2.2.2.2.2.1 q_13.2.2.2.2.2.2.2.2.2.2.1 e_1.2.2.2.1 r0_letters e_1.2.2.2.2.1 e_1.2.2.2.2.2 q_13.2.2.2.2.2.2.2.2.2.2.2.1 q_13.2.2.2.2.2.2.2.2.2.2.2.2)) rfl (k_runV C hA hW mw_M_again mv_M_again (ct_13.2 _) [0, 1, 2, 3, 4, 5, 10, 11] rfl rfl 0 rfl rfl qm_M_171 ⟨Nat.le_of_ble_eq_true rfl, Nat.le_of_ble_eq_true rfl, Nat.zero_le _, Nat.zero_le _⟩ rfl rfl (Nat.le_of_ble_eq_true rfl) hl.1 d_M_hall_96) (fun H locs hW => ?_)
              refine lv_sipush (v := (-2000)) hx hb d_M_hall_99 (by decide) ?_
              refine lv_aload_n hx hb d_M_hall_102 rfl (lv_at hl 0 rfl) ?_
              refine k_get i_M C hW 0 rfl rfl 16 (by decide) qf_M_34 rfl rfl d_M_hall_103 ?_
              refine lv_iload_n hx hb d_M_hall_106 rfl (lv_at hl 1 rfl) ?_
              obtain ⟨h_14, hr⟩ := ck_some hr
              refine k_iald C hW 8 rfl h_14 d_M_hall_107 ?_
              refine lv_isub hx hb d_M_hall_108 ?_
              have hr := sx_r (hz2_9 _ (Option.some.inj hr).symm).symm hk_9
              obtain rfl := Option.some.inj hr
              rw [hQ]; exact k_iret C hret hW d_M_hall_109
      exact hl_9 _ 0 q_8.1 q_8.2.1 q_8.2.2.2.2.2.1 q_8.2.2.2.2.2.2.1 q_8.2.2.2.2.2.2.2.1 q_8.2.2.2.2.2.2.2.2.2.1 q_8.2.2.2.2.2.2.2.2.2.2.1 q_8.2.2.2.2.2.2.2.2.2.2.2.1 q_8.2.2.2.2.2.2.2.2.2.2.2.2 hw_9 _ _ _ hW (lv_sub hl [1, 0] rfl)
    · replace hr := iN c_7 hr
      refine lv_sipush (v := (-1000)) hx hb d_M_hall_64 (by decide) ?_
      refine lv_aload_n hx hb d_M_hall_67 rfl (lv_at hl 0 rfl) ?_
      refine k_get i_M C hW 0 rfl rfl 13 (by decide) qf_M_114 rfl rfl d_M_hall_68 ?_
      refine lv_isub hx hb d_M_hall_71 ?_
      obtain rfl := Option.some.inj hr
      rw [hQ]; exact k_iret C hret hW d_M_hall_72
  have hl_1 : ∀ (k : Nat) (r0_at_1 : Int32) (r0_isBad_1 : Int32) (r0_statements_1 : Int32) (r0_letterOf_1 : Nat → Int32) (r0_placeIn_1 : Nat → Int32) (r0_told_1 : Nat → Int32), wh (fun (s : (Int32) × (Int32) × (Int32) × (Nat → Int32) × (Nat → Int32) × (Nat → Int32)) => F_M_hall_L20 r0_letterMany r0_letters s.1 s.2.1 s.2.2.1 s.2.2.2.1 s.2.2.2.2.1 s.2.2.2.2.2) k (r0_at_1, r0_isBad_1, r0_statements_1, r0_letterOf_1, r0_placeIn_1, r0_told_1) = some ex_1 → ∀ (H : Heap) (locs : List Loc) (ls : Array Slot), wd A s.heap D (w_M_hall cI a_r0 a_r0_figures a_r0_hampers a_r0_kept a_r0_kinds a_r0_left0 a_r0_letterOf a_r0_letters a_r0_placeIn a_r0_told a_r0_wants0 a_r0_weights v_r0_refusals v_r0_imaged v_r0_hasImage v_r0_turns0 v_r0_turnOf v_r0_order0 v_r0_likely0 v_r0_leftThen v_r0_row v_r0_rowMany v_r0_seed kv r0_at_1 r0_days r0_done0 r0_isBad_1 r0_isTaking r0_keptIn r0_letterMany r0_place0 r0_statements_1 r0_things 0 r0_turned r0_figures r0_hampers r0_kept r0_kinds r0_left0 r0_letterOf_1 r0_letters r0_placeIn_1 r0_told_1 r0_wants0 r0_weights) H locs → lv_has ls 2 [(0, .ref a_r0)] → W p l e (rmd 5) s m ([.ref a_r0] : List Value).toArray below meth c H locs 0 0 Q (F0 m 20 ls []) := by
    intro k
    induction k with
    | zero => intro r0_at_1 r0_isBad_1 r0_statements_1 r0_letterOf_1 r0_placeIn_1 r0_told_1 hw; exact absurd hw wh_0
    | succ k ih_1 =>
      intro r0_at_1 r0_isBad_1 r0_statements_1 r0_letterOf_1 r0_placeIn_1 r0_told_1 hw H locs ls hW hl
      obtain ⟨z_1, hr, hz1_1, hz2_1⟩ := wh_s hw
      have hr : F_M_hall_L20 r0_letterMany r0_letters r0_at_1 r0_isBad_1 r0_statements_1 r0_letterOf_1 r0_placeIn_1 r0_told_1 = some z_1 := hr
      unfold F_M_hall_L20 at hr
      refine lv_aload_n hx hb d_M_hall_20 rfl (lv_at hl 0 rfl) ?_
      refine k_get i_M C hW 0 rfl rfl 14 (by decide) qf_M_117 rfl rfl d_M_hall_21 ?_
      refine lv_if_ne (tgt := 52) hx hb d_M_hall_24 (by decide) (fun c_2 => ?_) (fun c_2 => ?_)
      · replace hr := iN c_2 hr
        exact hx_1 _ (hz2_1 _ (Option.some.inj hr).symm) _ _ _ hW (lv_sub hl [0] rfl)
      · replace hr := ip c_2 hr
        refine lv_aload_n hx hb d_M_hall_27 rfl (lv_at hl 0 rfl) ?_
        refine k_get i_M C hW 0 rfl rfl 15 (by decide) qf_M_132 rfl rfl d_M_hall_28 ?_
        refine lv_if_eq (tgt := 45) hx hb d_M_hall_31 (by decide) (fun c_3 => ?_) (fun c_3 => ?_)
        · replace hr := ip c_3 hr
          refine lv_aload_n hx hb d_M_hall_45 rfl (lv_at hl 0 rfl) ?_
          obtain ⟨q_4, hc_4, hr⟩ := ob hr
          have ct_4 := C_M_readStatement l D cI cS a_r0 a_r0_letterOf a_r0_letters a_r0_placeIn a_r0_told (Value.ref a_r0_weights) (Value.int r0_things) (Value.ref a_r0_kinds) (Value.ref a_r0_figures) (Value.int r0_days) (Value.ref a_r0_hampers) (Value.ref a_r0_wants0) (Value.ref a_r0_left0) (Value.int r0_done0) (Value.int 0) v_r0_refusals (Value.ref a_r0_kept) v_r0_imaged v_r0_hasImage (Value.int r0_place0) (Value.int r0_isTaking) (kv r0_keptIn) v_r0_turns0 v_r0_turnOf (Value.int r0_turned) v_r0_order0 v_r0_likely0 v_r0_leftThen v_r0_row v_r0_rowMany v_r0_seed r0_at_1 r0_isBad_1 r0_letterMany r0_statements_1 r0_letterOf_1 r0_letters r0_placeIn_1 r0_told_1 q_4 hc_4
          refine k_goV hA hW [0, 6, 7, 8, 9] rfl ct_4.1 (ws' := (w_M_hall cI a_r0 a_r0_figures a_r0_hampers a_r0_kept a_r0_kinds a_r0_left0 a_r0_letterOf a_r0_letters a_r0_placeIn a_r0_told a_r0_wants0 a_r0_weights v_r0_refusals v_r0_imaged v_r0_hasImage v_r0_turns0 v_r0_turnOf v_r0_order0 v_r0_likely0 v_r0_leftThen v_r0_row v_r0_rowMany v_r0_seed kv q_4.1 r0_days r0_done0 q_4.2.1 r0_isTaking r0_keptIn r0_letterMany r0_place0 q_4.2.2.1 r0_things 0 r0_turned r0_figures r0_hampers r0_kept r0_kinds r0_left0 q_4.2.2.2.1 r0_letters q_4.2.2.2.2.1 q_4.2.2.2.2.2 r0_wants0 r0_weights)) rfl (k_runV C hA hW mw_M_readStatement mv_M_readStatement (ct_4.2 _) [0, 6, 7, 8, 9] rfl rfl 0 rfl rfl qm_M_162 ⟨Nat.le_of_ble_eq_true rfl, Nat.le_of_ble_eq_true rfl, Nat.zero_le _, Nat.zero_le _⟩ rfl rfl (Nat.le_of_ble_eq_true rfl) hl.1 d_M_hall_46) (fun H locs hW => ?_)
          refine lv_goto (tgt := 20) hx hb d_M_hall_49 (by decide) ?_
          exact ih_1 q_4.1 q_4.2.1 q_4.2.2.1 q_4.2.2.2.1 q_4.2.2.2.2.1 q_4.2.2.2.2.2 (hz1_1 _ (Option.some.inj hr).symm) _ _ _ hW (lv_sub hl [0] rfl)
        · replace hr := iN c_3 hr
          refine lv_aload_n hx hb d_M_hall_34 rfl (lv_at hl 0 rfl) ?_
          refine k_get i_M C hW 0 rfl rfl 13 (by decide) qf_M_114 rfl rfl d_M_hall_35 ?_
          refine lv_aload_n hx hb d_M_hall_38 rfl (lv_at hl 0 rfl) ?_
          refine k_get i_M C hW 0 rfl rfl 12 (by decide) qf_M_111 rfl rfl d_M_hall_39 ?_
          refine lv_icmp_ge (tgt := 52) hx hb d_M_hall_42 (by decide) (fun c_5 => ?_) (fun c_5 => ?_)
          · replace hr := ip c_5 hr
            exact hx_1 _ (hz2_1 _ (Option.some.inj hr).symm) _ _ _ hW (lv_sub hl [0] rfl)
          · replace hr := iN c_5 hr
            refine lv_aload_n hx hb d_M_hall_45 rfl (lv_at hl 0 rfl) ?_
            obtain ⟨q_6, hc_6, hr⟩ := ob hr
            have ct_6 := C_M_readStatement l D cI cS a_r0 a_r0_letterOf a_r0_letters a_r0_placeIn a_r0_told (Value.ref a_r0_weights) (Value.int r0_things) (Value.ref a_r0_kinds) (Value.ref a_r0_figures) (Value.int r0_days) (Value.ref a_r0_hampers) (Value.ref a_r0_wants0) (Value.ref a_r0_left0) (Value.int r0_done0) (Value.int 0) v_r0_refusals (Value.ref a_r0_kept) v_r0_imaged v_r0_hasImage (Value.int r0_place0) (Value.int r0_isTaking) (kv r0_keptIn) v_r0_turns0 v_r0_turnOf (Value.int r0_turned) v_r0_order0 v_r0_likely0 v_r0_leftThen v_r0_row v_r0_rowMany v_r0_seed r0_at_1 r0_isBad_1 r0_letterMany r0_statements_1 r0_letterOf_1 r0_letters r0_placeIn_1 r0_told_1 q_6 hc_6
            refine k_goV hA hW [0, 6, 7, 8, 9] rfl ct_6.1 (ws' := (w_M_hall cI a_r0 a_r0_figures a_r0_hampers a_r0_kept a_r0_kinds a_r0_left0 a_r0_letterOf a_r0_letters a_r0_placeIn a_r0_told a_r0_wants0 a_r0_weights v_r0_refusals v_r0_imaged v_r0_hasImage v_r0_turns0 v_r0_turnOf v_r0_order0 v_r0_likely0 v_r0_leftThen v_r0_row v_r0_rowMany v_r0_seed kv q_6.1 r0_days r0_done0 q_6.2.1 r0_isTaking r0_keptIn r0_letterMany r0_place0 q_6.2.2.1 r0_things 0 r0_turned r0_figures r0_hampers r0_kept r0_kinds r0_left0 q_6.2.2.2.1 r0_letters q_6.2.2.2.2.1 q_6.2.2.2.2.2 r0_wants0 r0_weights)) rfl (k_runV C hA hW mw_M_readStatement mv_M_readStatement (ct_6.2 _) [0, 6, 7, 8, 9] rfl rfl 0 rfl rfl qm_M_162 ⟨Nat.le_of_ble_eq_true rfl, Nat.le_of_ble_eq_true rfl, Nat.zero_le _, Nat.zero_le _⟩ rfl rfl (Nat.le_of_ble_eq_true rfl) hl.1 d_M_hall_46) (fun H locs hW => ?_)
            refine lv_goto (tgt := 20) hx hb d_M_hall_49 (by decide) ?_
            exact ih_1 q_6.1 q_6.2.1 q_6.2.2.1 q_6.2.2.2.1 q_6.2.2.2.2.1 q_6.2.2.2.2.2 (hz1_1 _ (Option.some.inj hr).symm) _ _ _ hW (lv_sub hl [0] rfl)
  exact hl_1 _ 0 0 0 r0_letterOf r0_placeIn r0_told hw_1 _ _ _ hW (lv_sub hl [0] rfl)
def w_M_image (cI : ClassId) (a_r0 : Nat) (a_r0_figures : Nat) (a_r0_hampers : Nat) (a_r0_imaged : Nat) (a_r0_kinds : Nat) (a_r0_left0 : Nat) (a_r0_wants0 : Nat) (a_r0_weights : Nat) (v_r0_refusals v_r0_letters v_r0_letterMany v_r0_at v_r0_isBad v_r0_statements v_r0_placeIn v_r0_letterOf v_r0_told v_r0_kept v_r0_turns0 v_r0_turnOf v_r0_turned v_r0_order0 v_r0_likely0 v_r0_leftThen v_r0_row v_r0_rowMany v_r0_seed : Value) (kv : Int32 → Value) (r0_days : Int32) (r0_done0 : Int32) (r0_hasImage : Int32) (r0_isTaking : Int32) (r0_keptIn : Int32) (r0_place0 : Int32) (r0_things : Int32) (r0_thrown : Int32) (r0_figures : Nat → Int32) (r0_hampers : Nat → Int32) (r0_imaged : Nat → Int32) (r0_kinds : Nat → Int32) (r0_left0 : Nat → Int32) (r0_wants0 : Nat → Int32) (r0_weights : Nat → Int32) : va_W := [(a_r0, .inr (9, [.ref a_r0_weights, .int r0_things, .ref a_r0_kinds, .ref a_r0_figures, .int r0_days, .ref a_r0_hampers, .ref a_r0_wants0, .ref a_r0_left0, .int r0_done0, .int r0_thrown, v_r0_refusals, v_r0_letters, v_r0_letterMany, v_r0_at, v_r0_isBad, v_r0_statements, v_r0_placeIn, v_r0_letterOf, v_r0_told, v_r0_kept, .ref a_r0_imaged, .int r0_hasImage, .int r0_place0, .int r0_isTaking, (kv r0_keptIn), v_r0_turns0, v_r0_turnOf, v_r0_turned, v_r0_order0, v_r0_likely0, v_r0_leftThen, v_r0_row, v_r0_rowMany, v_r0_seed])), (a_r0_figures, .inl (cI, 8, .inl r0_figures)), (a_r0_hampers, .inl (cI, 8, .inl r0_hampers)), (a_r0_imaged, .inl (cI, 41, .inl r0_imaged)), (a_r0_kinds, .inl (cI, 8, .inl r0_kinds)), (a_r0_left0, .inl (cI, 4, .inl r0_left0)), (a_r0_wants0, .inl (cI, 4, .inl r0_wants0)), (a_r0_weights, .inl (cI, 6, .inl r0_weights))]
def F_M_image (r0_days : Int32) (r0_done0 : Int32) (r0_things : Int32) (r0_figures : Nat → Int32) (r0_hampers : Nat → Int32) (r0_imaged : Nat → Int32) (r0_kinds : Nat → Int32) (r0_left0 : Nat → Int32) (r0_wants0 : Nat → Int32) (r0_weights : Nat → Int32) : Option (Int32 × (Int32) × (Int32) × (Int32) × (Int32) × (Int32) × (Int32) × (Int32) × (Int32) × (Nat → Int32) × (Nat → Int32) × (Nat → Int32) × (Nat → Int32) × (Nat → Int32) × (Nat → Int32) × (Nat → Int32)) :=
  ((F_M_carryAll_imaged r0_days r0_done0 r0_things r0_figures r0_hampers r0_imaged r0_kinds r0_left0 r0_wants0 r0_weights (1 : Int32)).bind (fun q_1 => (some (q_1.2.1, q_1.1, q_1.2.1, 1, q_1.2.2.1, 2, q_1.2.2.2.1, q_1.2.2.2.2.1, 0, q_1.2.2.2.2.2.1, q_1.2.2.2.2.2.2.1, q_1.2.2.2.2.2.2.2.1, q_1.2.2.2.2.2.2.2.2.1, q_1.2.2.2.2.2.2.2.2.2.1, q_1.2.2.2.2.2.2.2.2.2.2.1, q_1.2.2.2.2.2.2.2.2.2.2.2))))
set_option maxHeartbeats 4000000 in
set_option maxRecDepth 100000 in
theorem C_M_image (l : Launch) (D : va_G) (cI cS : ClassId) (a_r0 : Nat) (a_r0_figures : Nat) (a_r0_hampers : Nat) (a_r0_imaged : Nat) (a_r0_kinds : Nat) (a_r0_left0 : Nat) (a_r0_wants0 : Nat) (a_r0_weights : Nat) (v_r0_refusals v_r0_letters v_r0_letterMany v_r0_at v_r0_isBad v_r0_statements v_r0_placeIn v_r0_letterOf v_r0_told v_r0_kept v_r0_turns0 v_r0_turnOf v_r0_turned v_r0_order0 v_r0_likely0 v_r0_leftThen v_r0_row v_r0_rowMany v_r0_seed : Value) (kv : Int32 → Value) (hkv_imaged : kv 2 = .ref a_r0_imaged) (r0_days : Int32) (r0_done0 : Int32) (r0_hasImage : Int32) (r0_isTaking : Int32) (r0_keptIn : Int32) (r0_place0 : Int32) (r0_things : Int32) (r0_thrown : Int32) (r0_figures : Nat → Int32) (r0_hampers : Nat → Int32) (r0_imaged : Nat → Int32) (r0_kinds : Nat → Int32) (r0_left0 : Nat → Int32) (r0_wants0 : Nat → Int32) (r0_weights : Nat → Int32) (o : Int32 × (Int32) × (Int32) × (Int32) × (Int32) × (Int32) × (Int32) × (Int32) × (Int32) × (Nat → Int32) × (Nat → Int32) × (Nat → Int32) × (Nat → Int32) × (Nat → Int32) × (Nat → Int32) × (Nat → Int32)) (hr : F_M_image r0_days r0_done0 r0_things r0_figures r0_hampers r0_imaged r0_kinds r0_left0 r0_wants0 r0_weights = some o) : ctI l y_M_image (Cond.code y_M_image b_M_image 1 (some FieldType.int)) (rmd 2) D (kTy cI cS) [.ref a_r0] (w_M_image cI a_r0 a_r0_figures a_r0_hampers a_r0_imaged a_r0_kinds a_r0_left0 a_r0_wants0 a_r0_weights v_r0_refusals v_r0_letters v_r0_letterMany v_r0_at v_r0_isBad v_r0_statements v_r0_placeIn v_r0_letterOf v_r0_told v_r0_kept v_r0_turns0 v_r0_turnOf v_r0_turned v_r0_order0 v_r0_likely0 v_r0_leftThen v_r0_row v_r0_rowMany v_r0_seed kv r0_days r0_done0 r0_hasImage r0_isTaking r0_keptIn r0_place0 r0_things r0_thrown r0_figures r0_hampers r0_imaged r0_kinds r0_left0 r0_wants0 r0_weights) (w_M_image cI a_r0 a_r0_figures a_r0_hampers a_r0_imaged a_r0_kinds a_r0_left0 a_r0_wants0 a_r0_weights v_r0_refusals v_r0_letters v_r0_letterMany v_r0_at v_r0_isBad v_r0_statements v_r0_placeIn v_r0_letterOf v_r0_told v_r0_kept v_r0_turns0 v_r0_turnOf v_r0_turned v_r0_order0 v_r0_likely0 v_r0_leftThen v_r0_row v_r0_rowMany v_r0_seed kv o.2.1 o.2.2.1 o.2.2.2.1 o.2.2.2.2.1 o.2.2.2.2.2.1 o.2.2.2.2.2.2.1 o.2.2.2.2.2.2.2.1 o.2.2.2.2.2.2.2.2.1 o.2.2.2.2.2.2.2.2.2.1 o.2.2.2.2.2.2.2.2.2.2.1 o.2.2.2.2.2.2.2.2.2.2.2.1 o.2.2.2.2.2.2.2.2.2.2.2.2.1 o.2.2.2.2.2.2.2.2.2.2.2.2.2.1 o.2.2.2.2.2.2.2.2.2.2.2.2.2.2.1 o.2.2.2.2.2.2.2.2.2.2.2.2.2.2.2) o.1 := by
  unfold F_M_image at hr
  refine ⟨rfl, fun sz => ct_of (w0 := (w_M_image cI a_r0 a_r0_figures a_r0_hampers a_r0_imaged a_r0_kinds a_r0_left0 a_r0_wants0 a_r0_weights v_r0_refusals v_r0_letters v_r0_letterMany v_r0_at v_r0_isBad v_r0_statements v_r0_placeIn v_r0_letterOf v_r0_told v_r0_kept v_r0_turns0 v_r0_turnOf v_r0_turned v_r0_order0 v_r0_likely0 v_r0_leftThen v_r0_row v_r0_rowMany v_r0_seed kv r0_days r0_done0 r0_hasImage r0_isTaking r0_keptIn r0_place0 r0_things r0_thrown r0_figures r0_hampers r0_imaged r0_kinds r0_left0 r0_wants0 r0_weights)) (Qc := fun A => qI D (w_M_image cI a_r0 a_r0_figures a_r0_hampers a_r0_imaged a_r0_kinds a_r0_left0 a_r0_wants0 a_r0_weights v_r0_refusals v_r0_letters v_r0_letterMany v_r0_at v_r0_isBad v_r0_statements v_r0_placeIn v_r0_letterOf v_r0_told v_r0_kept v_r0_turns0 v_r0_turnOf v_r0_turned v_r0_order0 v_r0_likely0 v_r0_leftThen v_r0_row v_r0_rowMany v_r0_seed kv o.2.1 o.2.2.1 o.2.2.2.1 o.2.2.2.2.1 o.2.2.2.2.2.1 o.2.2.2.2.2.2.1 o.2.2.2.2.2.2.2.1 o.2.2.2.2.2.2.2.2.1 o.2.2.2.2.2.2.2.2.2.1 o.2.2.2.2.2.2.2.2.2.2.1 o.2.2.2.2.2.2.2.2.2.2.2.1 o.2.2.2.2.2.2.2.2.2.2.2.2.1 o.2.2.2.2.2.2.2.2.2.2.2.2.2.1 o.2.2.2.2.2.2.2.2.2.2.2.2.2.2.1 o.2.2.2.2.2.2.2.2.2.2.2.2.2.2.2) o.1 A) rfl (Nat.le_of_ble_eq_true rfl) ?_ sz⟩
  intro p e s m below meth c A hA C hret ls hl hW
  have C : cx p s m ([.ref a_r0] : List Value).toArray meth c b_M_image 1 R_M D (kTy cI cS) (Cond.code y_M_image b_M_image 1 (some FieldType.int)) := C
  obtain ⟨hx, hb, hml, hown, hts, hK, hlk, hN⟩ := id C
  have hl : lv_has ls 1 [(0, .ref a_r0)] := hl
  obtain ⟨Q, hQ⟩ : ∃ Q, Q = MQ below (qI D (w_M_image cI a_r0 a_r0_figures a_r0_hampers a_r0_imaged a_r0_kinds a_r0_left0 a_r0_wants0 a_r0_weights v_r0_refusals v_r0_letters v_r0_letterMany v_r0_at v_r0_isBad v_r0_statements v_r0_placeIn v_r0_letterOf v_r0_told v_r0_kept v_r0_turns0 v_r0_turnOf v_r0_turned v_r0_order0 v_r0_likely0 v_r0_leftThen v_r0_row v_r0_rowMany v_r0_seed kv o.2.1 o.2.2.1 o.2.2.2.1 o.2.2.2.2.1 o.2.2.2.2.2.1 o.2.2.2.2.2.2.1 o.2.2.2.2.2.2.2.1 o.2.2.2.2.2.2.2.2.1 o.2.2.2.2.2.2.2.2.2.1 o.2.2.2.2.2.2.2.2.2.2.1 o.2.2.2.2.2.2.2.2.2.2.2.1 o.2.2.2.2.2.2.2.2.2.2.2.2.1 o.2.2.2.2.2.2.2.2.2.2.2.2.2.1 o.2.2.2.2.2.2.2.2.2.2.2.2.2.2.1 o.2.2.2.2.2.2.2.2.2.2.2.2.2.2.2) o.1 A) ([.ref a_r0] : List Value).toArray s 0 0 A := ⟨_, rfl⟩
  rw [← hQ]
  refine lv_aload_n hx hb d_M_image_0 rfl (lv_at hl 0 rfl) ?_
  refine lv_iconst (v := 0) hx hb d_M_image_1 (by decide) ?_
  refine k_put i_M t_M_ok n_M C hW 0 rfl rfl 9 (by decide) qf_M_67 rfl rfl (ty := .int) rfl rfl rfl (Nat.le_of_ble_eq_true rfl) (ws' := (w_M_image cI a_r0 a_r0_figures a_r0_hampers a_r0_imaged a_r0_kinds a_r0_left0 a_r0_wants0 a_r0_weights v_r0_refusals v_r0_letters v_r0_letterMany v_r0_at v_r0_isBad v_r0_statements v_r0_placeIn v_r0_letterOf v_r0_told v_r0_kept v_r0_turns0 v_r0_turnOf v_r0_turned v_r0_order0 v_r0_likely0 v_r0_leftThen v_r0_row v_r0_rowMany v_r0_seed kv r0_days r0_done0 r0_hasImage r0_isTaking r0_keptIn r0_place0 r0_things 0 r0_figures r0_hampers r0_imaged r0_kinds r0_left0 r0_wants0 r0_weights)) rfl d_M_image_2 (fun H locs hW => ?_)
  refine lv_aload_n hx hb d_M_image_5 rfl (lv_at hl 0 rfl) ?_
  refine lv_iconst (v := 1) hx hb d_M_image_6 (by decide) ?_
  refine k_put i_M t_M_ok n_M C hW 0 rfl rfl 21 (by decide) qf_M_193 rfl rfl (ty := .boolean) rfl nar1 rfl (Nat.le_of_ble_eq_true rfl) (ws' := (w_M_image cI a_r0 a_r0_figures a_r0_hampers a_r0_imaged a_r0_kinds a_r0_left0 a_r0_wants0 a_r0_weights v_r0_refusals v_r0_letters v_r0_letterMany v_r0_at v_r0_isBad v_r0_statements v_r0_placeIn v_r0_letterOf v_r0_told v_r0_kept v_r0_turns0 v_r0_turnOf v_r0_turned v_r0_order0 v_r0_likely0 v_r0_leftThen v_r0_row v_r0_rowMany v_r0_seed kv r0_days r0_done0 1 r0_isTaking r0_keptIn r0_place0 r0_things 0 r0_figures r0_hampers r0_imaged r0_kinds r0_left0 r0_wants0 r0_weights)) rfl d_M_image_7 (fun H locs hW => ?_)
  refine lv_aload_n hx hb d_M_image_10 rfl (lv_at hl 0 rfl) ?_
  refine lv_aload_n hx hb d_M_image_11 rfl (lv_at hl 0 rfl) ?_
  refine k_get i_M C hW 0 rfl rfl 20 (by decide) qf_M_46 rfl rfl d_M_image_12 ?_
  refine lv_iconst (v := 1) hx hb d_M_image_15 (by decide) ?_
  obtain ⟨q_1, hc_1, hr⟩ := ob hr
  have ct_1 := C_M_carryAll_imaged l D cI cS a_r0 a_r0_figures a_r0_hampers a_r0_imaged a_r0_kinds a_r0_left0 a_r0_wants0 a_r0_weights (Value.int 0) v_r0_refusals v_r0_letters v_r0_letterMany v_r0_at v_r0_isBad v_r0_statements v_r0_placeIn v_r0_letterOf v_r0_told v_r0_kept (Value.int 1) (kv r0_keptIn) v_r0_turns0 v_r0_turnOf v_r0_turned v_r0_order0 v_r0_likely0 v_r0_leftThen v_r0_row v_r0_rowMany v_r0_seed (kv 2) hkv_imaged r0_days r0_done0 r0_isTaking r0_place0 r0_things r0_figures r0_hampers r0_imaged r0_kinds r0_left0 r0_wants0 r0_weights 1 q_1 hc_1
  refine k_goV hA hW [0, 1, 2, 3, 4, 5, 6, 7] rfl ct_1.1 (ws' := (w_M_image cI a_r0 a_r0_figures a_r0_hampers a_r0_imaged a_r0_kinds a_r0_left0 a_r0_wants0 a_r0_weights v_r0_refusals v_r0_letters v_r0_letterMany v_r0_at v_r0_isBad v_r0_statements v_r0_placeIn v_r0_letterOf v_r0_told v_r0_kept v_r0_turns0 v_r0_turnOf v_r0_turned v_r0_order0 v_r0_likely0 v_r0_leftThen v_r0_row v_r0_rowMany v_r0_seed kv q_1.1 q_1.2.1 1 q_1.2.2.1 2 q_1.2.2.2.1 q_1.2.2.2.2.1 0 q_1.2.2.2.2.2.1 q_1.2.2.2.2.2.2.1 q_1.2.2.2.2.2.2.2.1 q_1.2.2.2.2.2.2.2.2.1 q_1.2.2.2.2.2.2.2.2.2.1 q_1.2.2.2.2.2.2.2.2.2.2.1 q_1.2.2.2.2.2.2.2.2.2.2.2)) rfl (k_runV C hA hW mw_M_carryAll mv_M_carryAll (ct_1.2 _) [0, 1, 2, 3, 4, 5, 6, 7] rfl rfl 0 rfl rfl qm_M_189 ⟨Nat.le_of_ble_eq_true rfl, Nat.le_of_ble_eq_true rfl, Nat.zero_le _, Nat.zero_le _⟩ rfl rfl (Nat.le_of_ble_eq_true rfl) hl.1 d_M_image_16) (fun H locs hW => ?_)
  refine lv_aload_n hx hb d_M_image_19 rfl (lv_at hl 0 rfl) ?_
  refine k_get i_M C hW 0 rfl rfl 8 (by decide) qf_M_105 rfl rfl d_M_image_20 ?_
  obtain rfl := Option.some.inj hr
  rw [hQ]; exact k_iret C hret hW d_M_image_23
def w_M_isRow (cI : ClassId) (a_r0 : Nat) (a_r0_row : Nat) (v_r0_weights v_r0_things v_r0_kinds v_r0_figures v_r0_days v_r0_hampers v_r0_wants0 v_r0_left0 v_r0_done0 v_r0_thrown v_r0_refusals v_r0_letters v_r0_letterMany v_r0_at v_r0_isBad v_r0_statements v_r0_placeIn v_r0_letterOf v_r0_told v_r0_kept v_r0_imaged v_r0_hasImage v_r0_place0 v_r0_isTaking v_r0_keptIn v_r0_turns0 v_r0_turnOf v_r0_turned v_r0_order0 v_r0_likely0 v_r0_leftThen v_r0_seed : Value) (r0_rowMany : Int32) (r0_row : Nat → Int32) : va_W := [(a_r0, .inr (9, [v_r0_weights, v_r0_things, v_r0_kinds, v_r0_figures, v_r0_days, v_r0_hampers, v_r0_wants0, v_r0_left0, v_r0_done0, v_r0_thrown, v_r0_refusals, v_r0_letters, v_r0_letterMany, v_r0_at, v_r0_isBad, v_r0_statements, v_r0_placeIn, v_r0_letterOf, v_r0_told, v_r0_kept, v_r0_imaged, v_r0_hasImage, v_r0_place0, v_r0_isTaking, v_r0_keptIn, v_r0_turns0, v_r0_turnOf, v_r0_turned, v_r0_order0, v_r0_likely0, v_r0_leftThen, .ref a_r0_row, .int r0_rowMany, v_r0_seed])), (a_r0_row, .inl (cI, 12, .inl r0_row))]
def F_M_isRow_J45_8 (y4_1 : Int32) (x1 : Int32) (x2 : Int32) (s0_8 : Int32) : Option (((Int32) × (Int32)) ⊕ ((Int32))) :=
  ((F_M_goesBy x1 x2 y4_1).bind (fun q_9 => (if s0_8 = q_9 then (some (.inl (1, (y4_1 + 1)))) else (some (.inl (0, (y4_1 + 1)))))))
def F_M_isRow_L5 (r0_rowMany : Int32) (r0_row : Nat → Int32) (x1 : Int32) (x2 : Int32) (y3_1 : Int32) (y4_1 : Int32) : Option (((Int32) × (Int32)) ⊕ ((Int32))) :=
  (if r0_rowMany ≤ y4_1 then (some (.inr y3_1)) else (if y3_1 = 0 then (some (.inl (0, (y4_1 + 1)))) else (ck y4_1 12 (if (r0_row (Int32.toNatClampNeg y4_1)) = 2 then (some (.inl (1, (y4_1 + 1)))) else (ck y4_1 12 (if (r0_row (Int32.toNatClampNeg y4_1)) = 1 then (F_M_isRow_J45_8 y4_1 x1 x2 1) else (F_M_isRow_J45_8 y4_1 x1 x2 0)))))))
def F_M_isRow (r0_rowMany : Int32) (r0_row : Nat → Int32) (x1 : Int32) (x2 : Int32) : Option (Int32) :=
  ((wh (fun (s : (Int32) × (Int32)) => F_M_isRow_L5 r0_rowMany r0_row x1 x2 s.1 s.2) 400 ((1 : Int32), (0 : Int32))).bind (fun e_1 => (ckz e_1 (some e_1))))
set_option maxHeartbeats 4000000 in
set_option maxRecDepth 100000 in
theorem C_M_isRow (l : Launch) (D : va_G) (cI cS : ClassId) (a_r0 : Nat) (a_r0_row : Nat) (v_r0_weights v_r0_things v_r0_kinds v_r0_figures v_r0_days v_r0_hampers v_r0_wants0 v_r0_left0 v_r0_done0 v_r0_thrown v_r0_refusals v_r0_letters v_r0_letterMany v_r0_at v_r0_isBad v_r0_statements v_r0_placeIn v_r0_letterOf v_r0_told v_r0_kept v_r0_imaged v_r0_hasImage v_r0_place0 v_r0_isTaking v_r0_keptIn v_r0_turns0 v_r0_turnOf v_r0_turned v_r0_order0 v_r0_likely0 v_r0_leftThen v_r0_seed : Value) (r0_rowMany : Int32) (r0_row : Nat → Int32) (x1 : Int32) (x2 : Int32) (o : Int32) (hr : F_M_isRow r0_rowMany r0_row x1 x2 = some o) : ctI l y_M_isRow (Cond.code y_M_isRow b_M_isRow 5 (some FieldType.boolean)) (rmd 1) D (kTy cI cS) [.ref a_r0, .int x1, .int x2] (w_M_isRow cI a_r0 a_r0_row v_r0_weights v_r0_things v_r0_kinds v_r0_figures v_r0_days v_r0_hampers v_r0_wants0 v_r0_left0 v_r0_done0 v_r0_thrown v_r0_refusals v_r0_letters v_r0_letterMany v_r0_at v_r0_isBad v_r0_statements v_r0_placeIn v_r0_letterOf v_r0_told v_r0_kept v_r0_imaged v_r0_hasImage v_r0_place0 v_r0_isTaking v_r0_keptIn v_r0_turns0 v_r0_turnOf v_r0_turned v_r0_order0 v_r0_likely0 v_r0_leftThen v_r0_seed r0_rowMany r0_row) (w_M_isRow cI a_r0 a_r0_row v_r0_weights v_r0_things v_r0_kinds v_r0_figures v_r0_days v_r0_hampers v_r0_wants0 v_r0_left0 v_r0_done0 v_r0_thrown v_r0_refusals v_r0_letters v_r0_letterMany v_r0_at v_r0_isBad v_r0_statements v_r0_placeIn v_r0_letterOf v_r0_told v_r0_kept v_r0_imaged v_r0_hasImage v_r0_place0 v_r0_isTaking v_r0_keptIn v_r0_turns0 v_r0_turnOf v_r0_turned v_r0_order0 v_r0_likely0 v_r0_leftThen v_r0_seed r0_rowMany r0_row) o := by
  unfold F_M_isRow at hr
  refine ⟨rfl, fun sz => ct_of (w0 := (w_M_isRow cI a_r0 a_r0_row v_r0_weights v_r0_things v_r0_kinds v_r0_figures v_r0_days v_r0_hampers v_r0_wants0 v_r0_left0 v_r0_done0 v_r0_thrown v_r0_refusals v_r0_letters v_r0_letterMany v_r0_at v_r0_isBad v_r0_statements v_r0_placeIn v_r0_letterOf v_r0_told v_r0_kept v_r0_imaged v_r0_hasImage v_r0_place0 v_r0_isTaking v_r0_keptIn v_r0_turns0 v_r0_turnOf v_r0_turned v_r0_order0 v_r0_likely0 v_r0_leftThen v_r0_seed r0_rowMany r0_row)) (Qc := fun A => qI D (w_M_isRow cI a_r0 a_r0_row v_r0_weights v_r0_things v_r0_kinds v_r0_figures v_r0_days v_r0_hampers v_r0_wants0 v_r0_left0 v_r0_done0 v_r0_thrown v_r0_refusals v_r0_letters v_r0_letterMany v_r0_at v_r0_isBad v_r0_statements v_r0_placeIn v_r0_letterOf v_r0_told v_r0_kept v_r0_imaged v_r0_hasImage v_r0_place0 v_r0_isTaking v_r0_keptIn v_r0_turns0 v_r0_turnOf v_r0_turned v_r0_order0 v_r0_likely0 v_r0_leftThen v_r0_seed r0_rowMany r0_row) o A) rfl (Nat.le_of_ble_eq_true rfl) ?_ sz⟩
  intro p e s m below meth c A hA C hret ls hl hW
  have C : cx p s m ([.ref a_r0, .int x1, .int x2] : List Value).toArray meth c b_M_isRow 5 R_M D (kTy cI cS) (Cond.code y_M_isRow b_M_isRow 5 (some FieldType.boolean)) := C
  obtain ⟨hx, hb, hml, hown, hts, hK, hlk, hN⟩ := id C
  have hl : lv_has ls 5 [(0, .ref a_r0), (1, .int x1), (2, .int x2)] := hl
  obtain ⟨Q, hQ⟩ : ∃ Q, Q = MQ below (qI D (w_M_isRow cI a_r0 a_r0_row v_r0_weights v_r0_things v_r0_kinds v_r0_figures v_r0_days v_r0_hampers v_r0_wants0 v_r0_left0 v_r0_done0 v_r0_thrown v_r0_refusals v_r0_letters v_r0_letterMany v_r0_at v_r0_isBad v_r0_statements v_r0_placeIn v_r0_letterOf v_r0_told v_r0_kept v_r0_imaged v_r0_hasImage v_r0_place0 v_r0_isTaking v_r0_keptIn v_r0_turns0 v_r0_turnOf v_r0_turned v_r0_order0 v_r0_likely0 v_r0_leftThen v_r0_seed r0_rowMany r0_row) o A) ([.ref a_r0, .int x1, .int x2] : List Value).toArray s 0 0 A := ⟨_, rfl⟩
  rw [← hQ]
  refine lv_iconst (v := 1) hx hb d_M_isRow_0 (by decide) ?_
  refine lv_istore_n (lv' := [(3, .int 1), (0, .ref a_r0), (1, .int x1), (2, .int x2)]) hx hb d_M_isRow_1 rfl hl (by decide) rfl (fun ls hl => ?_)
  refine lv_iconst (v := 0) hx hb d_M_isRow_2 (by decide) ?_
  refine lv_istore (lv' := [(4, .int 0), (3, .int 1), (0, .ref a_r0), (1, .int x1), (2, .int x2)]) hx hb d_M_isRow_3 hl (by decide) rfl (fun ls hl => ?_)
  obtain ⟨ex_1, hw_1, hk_1⟩ := ob hr
  have hx_1 : ∀ (e_1 : (Int32)), e_1 = ex_1 → ∀ (H : Heap) (locs : List Loc) (ls : Array Slot), wd A s.heap D (w_M_isRow cI a_r0 a_r0_row v_r0_weights v_r0_things v_r0_kinds v_r0_figures v_r0_days v_r0_hampers v_r0_wants0 v_r0_left0 v_r0_done0 v_r0_thrown v_r0_refusals v_r0_letters v_r0_letterMany v_r0_at v_r0_isBad v_r0_statements v_r0_placeIn v_r0_letterOf v_r0_told v_r0_kept v_r0_imaged v_r0_hasImage v_r0_place0 v_r0_isTaking v_r0_keptIn v_r0_turns0 v_r0_turnOf v_r0_turned v_r0_order0 v_r0_likely0 v_r0_leftThen v_r0_seed r0_rowMany r0_row) H locs → lv_has ls 5 [(3, .int e_1)] → W p l e (rmd 1) s m ([.ref a_r0, .int x1, .int x2] : List Value).toArray below meth c H locs 0 0 Q (F0 m 67 ls []) := by
    intro e_1 hE H locs ls hW hl
    subst hE; have hr := hk_1
    refine lv_iload_n hx hb d_M_isRow_67 rfl (lv_at hl 0 rfl) ?_
    obtain ⟨hz_11, -, hr⟩ := ckz_some hr
    obtain rfl := Option.some.inj hr
    rw [hQ]; exact k_zret C hret hz_11 hW d_M_isRow_68
  have hl_1 : ∀ (k : Nat) (y3_1 : Int32) (y4_1 : Int32), wh (fun (s : (Int32) × (Int32)) => F_M_isRow_L5 r0_rowMany r0_row x1 x2 s.1 s.2) k (y3_1, y4_1) = some ex_1 → ∀ (H : Heap) (locs : List Loc) (ls : Array Slot), wd A s.heap D (w_M_isRow cI a_r0 a_r0_row v_r0_weights v_r0_things v_r0_kinds v_r0_figures v_r0_days v_r0_hampers v_r0_wants0 v_r0_left0 v_r0_done0 v_r0_thrown v_r0_refusals v_r0_letters v_r0_letterMany v_r0_at v_r0_isBad v_r0_statements v_r0_placeIn v_r0_letterOf v_r0_told v_r0_kept v_r0_imaged v_r0_hasImage v_r0_place0 v_r0_isTaking v_r0_keptIn v_r0_turns0 v_r0_turnOf v_r0_turned v_r0_order0 v_r0_likely0 v_r0_leftThen v_r0_seed r0_rowMany r0_row) H locs → lv_has ls 5 [(0, .ref a_r0), (1, .int x1), (2, .int x2), (3, .int y3_1), (4, .int y4_1)] → W p l e (rmd 1) s m ([.ref a_r0, .int x1, .int x2] : List Value).toArray below meth c H locs 0 0 Q (F0 m 5 ls []) := by
    intro k
    induction k with
    | zero => intro y3_1 y4_1 hw; exact absurd hw wh_0
    | succ k ih_1 =>
      intro y3_1 y4_1 hw H locs ls hW hl
      obtain ⟨z_1, hr, hz1_1, hz2_1⟩ := wh_s hw
      have hr : F_M_isRow_L5 r0_rowMany r0_row x1 x2 y3_1 y4_1 = some z_1 := hr
      unfold F_M_isRow_L5 at hr
      refine lv_iload hx hb d_M_isRow_5 (lv_at hl 4 rfl) ?_
      refine lv_aload_n hx hb d_M_isRow_7 rfl (lv_at hl 0 rfl) ?_
      refine k_get i_M C hW 0 rfl rfl 32 (by decide) qf_M_252 rfl rfl d_M_isRow_8 ?_
      refine lv_icmp_ge (tgt := 67) hx hb d_M_isRow_11 (by decide) (fun c_2 => ?_) (fun c_2 => ?_)
      · replace hr := ip c_2 hr
        exact hx_1 _ (hz2_1 _ (Option.some.inj hr).symm) _ _ _ hW (lv_sub hl [3] rfl)
      · replace hr := iN c_2 hr
        refine lv_iload_n hx hb d_M_isRow_14 rfl (lv_at hl 3 rfl) ?_
        refine lv_if_eq (tgt := 59) hx hb d_M_isRow_15 (by decide) (fun c_3 => ?_) (fun c_3 => ?_)
        · replace hr := ip c_3 hr
          refine lv_iconst (v := 0) hx hb d_M_isRow_59 (by decide) ?_
          refine lv_istore_n (lv' := [(3, .int 0), (0, .ref a_r0), (1, .int x1), (2, .int x2), (4, .int y4_1)]) hx hb d_M_isRow_60 rfl hl (by decide) rfl (fun ls hl => ?_)
          refine lv_iinc (v := (y4_1 + 1)) (lv' := [(4, .int (y4_1 + 1)), (3, .int 0), (0, .ref a_r0), (1, .int x1), (2, .int x2)]) hx hb d_M_isRow_61 hl (k := 4) rfl rfl (by decide) rfl (fun ls hl => ?_)
          refine lv_goto (tgt := 5) hx hb d_M_isRow_64 (by decide) ?_
          exact ih_1 0 (y4_1 + 1) (hz1_1 _ (Option.some.inj hr).symm) _ _ _ hW (lv_sub hl [2, 3, 4, 1, 0] rfl)
        · replace hr := iN c_3 hr
          refine lv_aload_n hx hb d_M_isRow_18 rfl (lv_at hl 0 rfl) ?_
          refine k_get i_M C hW 0 rfl rfl 31 (by decide) qf_M_64 rfl rfl d_M_isRow_19 ?_
          refine lv_iload hx hb d_M_isRow_22 (lv_at hl 4 rfl) ?_
          obtain ⟨h_4, hr⟩ := ck_some hr
          refine k_iald C hW 1 rfl h_4 d_M_isRow_24 ?_
          refine lv_iconst (v := 2) hx hb d_M_isRow_25 (by decide) ?_
          refine lv_icmp_eq (tgt := 55) hx hb d_M_isRow_26 (by decide) (fun c_5 => ?_) (fun c_5 => ?_)
          · replace hr := ip c_5 hr
            refine lv_iconst (v := 1) hx hb d_M_isRow_55 (by decide) ?_
            refine lv_goto (tgt := 60) hx hb d_M_isRow_56 (by decide) ?_
            refine lv_istore_n (lv' := [(3, .int 1), (0, .ref a_r0), (1, .int x1), (2, .int x2), (4, .int y4_1)]) hx hb d_M_isRow_60 rfl hl (by decide) rfl (fun ls hl => ?_)
            refine lv_iinc (v := (y4_1 + 1)) (lv' := [(4, .int (y4_1 + 1)), (3, .int 1), (0, .ref a_r0), (1, .int x1), (2, .int x2)]) hx hb d_M_isRow_61 hl (k := 4) rfl rfl (by decide) rfl (fun ls hl => ?_)
            refine lv_goto (tgt := 5) hx hb d_M_isRow_64 (by decide) ?_
            exact ih_1 1 (y4_1 + 1) (hz1_1 _ (Option.some.inj hr).symm) _ _ _ hW (lv_sub hl [2, 3, 4, 1, 0] rfl)
          · replace hr := iN c_5 hr
            refine lv_aload_n hx hb d_M_isRow_29 rfl (lv_at hl 0 rfl) ?_
            refine k_get i_M C hW 0 rfl rfl 31 (by decide) qf_M_64 rfl rfl d_M_isRow_30 ?_
            refine lv_iload hx hb d_M_isRow_33 (lv_at hl 4 rfl) ?_
            obtain ⟨h_6, hr⟩ := ck_some hr
            refine k_iald C hW 1 rfl h_6 d_M_isRow_35 ?_
            refine lv_iconst (v := 1) hx hb d_M_isRow_36 (by decide) ?_
            have hJ_8 : ∀ (s0_8 : Int32), F_M_isRow_J45_8 y4_1 x1 x2 s0_8 = some z_1 → ∀ (H : Heap) (locs : List Loc) (ls : Array Slot), wd A s.heap D (w_M_isRow cI a_r0 a_r0_row v_r0_weights v_r0_things v_r0_kinds v_r0_figures v_r0_days v_r0_hampers v_r0_wants0 v_r0_left0 v_r0_done0 v_r0_thrown v_r0_refusals v_r0_letters v_r0_letterMany v_r0_at v_r0_isBad v_r0_statements v_r0_placeIn v_r0_letterOf v_r0_told v_r0_kept v_r0_imaged v_r0_hasImage v_r0_place0 v_r0_isTaking v_r0_keptIn v_r0_turns0 v_r0_turnOf v_r0_turned v_r0_order0 v_r0_likely0 v_r0_leftThen v_r0_seed r0_rowMany r0_row) H locs → lv_has ls 5 [(0, .ref a_r0), (1, .int x1), (2, .int x2), (4, .int y4_1)] → W p l e (rmd 1) s m ([.ref a_r0, .int x1, .int x2] : List Value).toArray below meth c H locs 0 0 Q (F0 m 45 ls [.int s0_8]) := by
              intro s0_8 hr H locs ls hW hl
              unfold F_M_isRow_J45_8 at hr
              refine lv_iload_n hx hb d_M_isRow_45 rfl (lv_at hl 1 rfl) ?_
              refine lv_iload_n hx hb d_M_isRow_46 rfl (lv_at hl 2 rfl) ?_
              refine lv_iload hx hb d_M_isRow_47 (lv_at hl 3 rfl) ?_
              obtain ⟨q_9, hc_9, hr⟩ := ob hr
              have ct_9 := C_M_goesBy l D cI cS x1 x2 y4_1 q_9 hc_9
              refine k_goIp hA hW [] rfl rfl (k_runS C hA hW mw_M_goesBy ms_M_goesBy (ct_9.2 _) [] rfl rfl qm_M_81 ⟨Nat.le_of_ble_eq_true rfl, Nat.le_of_ble_eq_true rfl, Nat.zero_le _, Nat.zero_le _⟩ rfl rfl (Nat.le_of_ble_eq_true rfl) hl.1 d_M_isRow_49) (fun H locs hW => ?_)
              refine lv_icmp_ne (tgt := 59) hx hb d_M_isRow_52 (by decide) (fun c_10 => ?_) (fun c_10 => ?_)
              · replace hr := iN c_10 hr
                refine lv_iconst (v := 0) hx hb d_M_isRow_59 (by decide) ?_
                refine lv_istore_n (lv' := [(3, .int 0), (0, .ref a_r0), (1, .int x1), (2, .int x2), (4, .int y4_1)]) hx hb d_M_isRow_60 rfl hl (by decide) rfl (fun ls hl => ?_)
                refine lv_iinc (v := (y4_1 + 1)) (lv' := [(4, .int (y4_1 + 1)), (3, .int 0), (0, .ref a_r0), (1, .int x1), (2, .int x2)]) hx hb d_M_isRow_61 hl (k := 4) rfl rfl (by decide) rfl (fun ls hl => ?_)
                refine lv_goto (tgt := 5) hx hb d_M_isRow_64 (by decide) ?_
                exact ih_1 0 (y4_1 + 1) (hz1_1 _ (Option.some.inj hr).symm) _ _ _ hW (lv_sub hl [2, 3, 4, 1, 0] rfl)
              · replace hr := ip c_10 hr
                refine lv_iconst (v := 1) hx hb d_M_isRow_55 (by decide) ?_
                refine lv_goto (tgt := 60) hx hb d_M_isRow_56 (by decide) ?_
                refine lv_istore_n (lv' := [(3, .int 1), (0, .ref a_r0), (1, .int x1), (2, .int x2), (4, .int y4_1)]) hx hb d_M_isRow_60 rfl hl (by decide) rfl (fun ls hl => ?_)
                refine lv_iinc (v := (y4_1 + 1)) (lv' := [(4, .int (y4_1 + 1)), (3, .int 1), (0, .ref a_r0), (1, .int x1), (2, .int x2)]) hx hb d_M_isRow_61 hl (k := 4) rfl rfl (by decide) rfl (fun ls hl => ?_)
                refine lv_goto (tgt := 5) hx hb d_M_isRow_64 (by decide) ?_
                exact ih_1 1 (y4_1 + 1) (hz1_1 _ (Option.some.inj hr).symm) _ _ _ hW (lv_sub hl [2, 3, 4, 1, 0] rfl)
            refine lv_icmp_ne (tgt := 44) hx hb d_M_isRow_37 (by decide) (fun c_7 => ?_) (fun c_7 => ?_)
            · replace hr := iN c_7 hr
              refine lv_iconst (v := 0) hx hb d_M_isRow_44 (by decide) ?_
              exact hJ_8 0 hr _ _ _ hW (lv_sub hl [0, 1, 2, 4] rfl)
            · replace hr := ip c_7 hr
              refine lv_iconst (v := 1) hx hb d_M_isRow_40 (by decide) ?_
              refine lv_goto (tgt := 45) hx hb d_M_isRow_41 (by decide) ?_
              exact hJ_8 1 hr _ _ _ hW (lv_sub hl [0, 1, 2, 4] rfl)
  exact hl_1 _ 1 0 hw_1 _ _ _ hW (lv_sub hl [2, 3, 4, 1, 0] rfl)
def w_M_judge (cI : ClassId) (a_r0 : Nat) (a_r0_figures : Nat) (a_r0_hampers : Nat) (a_r0_kinds : Nat) (a_r0_row : Nat) (a_r0_weights : Nat) (v_r0_wants0 v_r0_left0 v_r0_done0 v_r0_refusals v_r0_letters v_r0_letterMany v_r0_at v_r0_isBad v_r0_statements v_r0_placeIn v_r0_letterOf v_r0_told v_r0_kept v_r0_imaged v_r0_hasImage v_r0_place0 v_r0_isTaking v_r0_keptIn v_r0_turns0 v_r0_turnOf v_r0_turned v_r0_order0 v_r0_likely0 v_r0_leftThen v_r0_seed : Value) (r0_days : Int32) (r0_rowMany : Int32) (r0_things : Int32) (r0_thrown : Int32) (r0_figures : Nat → Int32) (r0_hampers : Nat → Int32) (r0_kinds : Nat → Int32) (r0_row : Nat → Int32) (r0_weights : Nat → Int32) : va_W := [(a_r0, .inr (9, [.ref a_r0_weights, .int r0_things, .ref a_r0_kinds, .ref a_r0_figures, .int r0_days, .ref a_r0_hampers, v_r0_wants0, v_r0_left0, v_r0_done0, .int r0_thrown, v_r0_refusals, v_r0_letters, v_r0_letterMany, v_r0_at, v_r0_isBad, v_r0_statements, v_r0_placeIn, v_r0_letterOf, v_r0_told, v_r0_kept, v_r0_imaged, v_r0_hasImage, v_r0_place0, v_r0_isTaking, v_r0_keptIn, v_r0_turns0, v_r0_turnOf, v_r0_turned, v_r0_order0, v_r0_likely0, v_r0_leftThen, .ref a_r0_row, .int r0_rowMany, v_r0_seed])), (a_r0_figures, .inl (cI, 8, .inl r0_figures)), (a_r0_hampers, .inl (cI, 8, .inl r0_hampers)), (a_r0_kinds, .inl (cI, 8, .inl r0_kinds)), (a_r0_row, .inl (cI, 12, .inl r0_row)), (a_r0_weights, .inl (cI, 6, .inl r0_weights))]
def F_M_judge_L17 (r0_days : Int32) (r0_rowMany : Int32) (r0_things : Int32) (r0_figures : Nat → Int32) (r0_hampers : Nat → Int32) (r0_kinds : Nat → Int32) (r0_row : Nat → Int32) (r0_weights : Nat → Int32) (y2_1 : Int32) : Option (((Int32)) ⊕ (((Unit) ⊕ (Int32 × (Int32) × (Int32))))) :=
  (if r0_rowMany ≤ y2_1 then (some (.inr (.inl ()))) else (if r0_days ≤ y2_1 then (some (.inr (.inr (y2_1, 0, 0)))) else (ck y2_1 12 ((F_M_likelyOn r0_things r0_figures r0_hampers r0_kinds r0_weights y2_1).bind (fun q_5 => (if (0 : Int32) ≤ q_5 then ((F_M_likelyOn r0_things r0_figures r0_hampers r0_kinds r0_weights y2_1).bind (fun q_7 => (if (r0_row (Int32.toNatClampNeg y2_1)) = q_7 then (some (.inl (y2_1 + 1))) else (some (.inr (.inr (y2_1, 0, 0))))))) else (if (r0_row (Int32.toNatClampNeg y2_1)) = 9 then (some (.inl (y2_1 + 1))) else (some (.inr (.inr (y2_1, 0, 0)))))))))))
def F_M_judge (r0_days : Int32) (r0_rowMany : Int32) (r0_things : Int32) (r0_figures : Nat → Int32) (r0_hampers : Nat → Int32) (r0_kinds : Nat → Int32) (r0_row : Nat → Int32) (r0_weights : Nat → Int32) : Option (Int32 × (Int32) × (Int32)) :=
  ((wh (fun (s : (Int32)) => F_M_judge_L17 r0_days r0_rowMany r0_things r0_figures r0_hampers r0_kinds r0_row r0_weights s) 400 (0 : Int32)).bind (sx (fun e_1 => (some ((-9), 0, 0))) (fun o => some o)))
set_option maxHeartbeats 4000000 in
set_option maxRecDepth 100000 in
theorem C_M_judge (l : Launch) (D : va_G) (cI cS : ClassId) (a_r0 : Nat) (a_r0_figures : Nat) (a_r0_hampers : Nat) (a_r0_kinds : Nat) (a_r0_row : Nat) (a_r0_weights : Nat) (v_r0_wants0 v_r0_left0 v_r0_done0 v_r0_refusals v_r0_letters v_r0_letterMany v_r0_at v_r0_isBad v_r0_statements v_r0_placeIn v_r0_letterOf v_r0_told v_r0_kept v_r0_imaged v_r0_hasImage v_r0_place0 v_r0_isTaking v_r0_keptIn v_r0_turns0 v_r0_turnOf v_r0_turned v_r0_order0 v_r0_likely0 v_r0_leftThen v_r0_seed : Value) (r0_days : Int32) (r0_rowMany : Int32) (r0_things : Int32) (r0_thrown : Int32) (r0_figures : Nat → Int32) (r0_hampers : Nat → Int32) (r0_kinds : Nat → Int32) (r0_row : Nat → Int32) (r0_weights : Nat → Int32) (o : Int32 × (Int32) × (Int32)) (hr : F_M_judge r0_days r0_rowMany r0_things r0_figures r0_hampers r0_kinds r0_row r0_weights = some o) : ctI l y_M_judge (Cond.code y_M_judge b_M_judge 3 (some FieldType.int)) (rmd 4) D (kTy cI cS) [.ref a_r0] (w_M_judge cI a_r0 a_r0_figures a_r0_hampers a_r0_kinds a_r0_row a_r0_weights v_r0_wants0 v_r0_left0 v_r0_done0 v_r0_refusals v_r0_letters v_r0_letterMany v_r0_at v_r0_isBad v_r0_statements v_r0_placeIn v_r0_letterOf v_r0_told v_r0_kept v_r0_imaged v_r0_hasImage v_r0_place0 v_r0_isTaking v_r0_keptIn v_r0_turns0 v_r0_turnOf v_r0_turned v_r0_order0 v_r0_likely0 v_r0_leftThen v_r0_seed r0_days r0_rowMany r0_things r0_thrown r0_figures r0_hampers r0_kinds r0_row r0_weights) (w_M_judge cI a_r0 a_r0_figures a_r0_hampers a_r0_kinds a_r0_row a_r0_weights v_r0_wants0 v_r0_left0 v_r0_done0 v_r0_refusals v_r0_letters v_r0_letterMany v_r0_at v_r0_isBad v_r0_statements v_r0_placeIn v_r0_letterOf v_r0_told v_r0_kept v_r0_imaged v_r0_hasImage v_r0_place0 v_r0_isTaking v_r0_keptIn v_r0_turns0 v_r0_turnOf v_r0_turned v_r0_order0 v_r0_likely0 v_r0_leftThen v_r0_seed r0_days o.2.1 r0_things o.2.2 r0_figures r0_hampers r0_kinds r0_row r0_weights) o.1 := by
  unfold F_M_judge at hr
  refine ⟨rfl, fun sz => ct_of (w0 := (w_M_judge cI a_r0 a_r0_figures a_r0_hampers a_r0_kinds a_r0_row a_r0_weights v_r0_wants0 v_r0_left0 v_r0_done0 v_r0_refusals v_r0_letters v_r0_letterMany v_r0_at v_r0_isBad v_r0_statements v_r0_placeIn v_r0_letterOf v_r0_told v_r0_kept v_r0_imaged v_r0_hasImage v_r0_place0 v_r0_isTaking v_r0_keptIn v_r0_turns0 v_r0_turnOf v_r0_turned v_r0_order0 v_r0_likely0 v_r0_leftThen v_r0_seed r0_days r0_rowMany r0_things r0_thrown r0_figures r0_hampers r0_kinds r0_row r0_weights)) (Qc := fun A => qI D (w_M_judge cI a_r0 a_r0_figures a_r0_hampers a_r0_kinds a_r0_row a_r0_weights v_r0_wants0 v_r0_left0 v_r0_done0 v_r0_refusals v_r0_letters v_r0_letterMany v_r0_at v_r0_isBad v_r0_statements v_r0_placeIn v_r0_letterOf v_r0_told v_r0_kept v_r0_imaged v_r0_hasImage v_r0_place0 v_r0_isTaking v_r0_keptIn v_r0_turns0 v_r0_turnOf v_r0_turned v_r0_order0 v_r0_likely0 v_r0_leftThen v_r0_seed r0_days o.2.1 r0_things o.2.2 r0_figures r0_hampers r0_kinds r0_row r0_weights) o.1 A) rfl (Nat.le_of_ble_eq_true rfl) ?_ sz⟩
  intro p e s m below meth c A hA C hret ls hl hW
  have C : cx p s m ([.ref a_r0] : List Value).toArray meth c b_M_judge 3 R_M D (kTy cI cS) (Cond.code y_M_judge b_M_judge 3 (some FieldType.int)) := C
  obtain ⟨hx, hb, hml, hown, hts, hK, hlk, hN⟩ := id C
  have hl : lv_has ls 3 [(0, .ref a_r0)] := hl
  obtain ⟨Q, hQ⟩ : ∃ Q, Q = MQ below (qI D (w_M_judge cI a_r0 a_r0_figures a_r0_hampers a_r0_kinds a_r0_row a_r0_weights v_r0_wants0 v_r0_left0 v_r0_done0 v_r0_refusals v_r0_letters v_r0_letterMany v_r0_at v_r0_isBad v_r0_statements v_r0_placeIn v_r0_letterOf v_r0_told v_r0_kept v_r0_imaged v_r0_hasImage v_r0_place0 v_r0_isTaking v_r0_keptIn v_r0_turns0 v_r0_turnOf v_r0_turned v_r0_order0 v_r0_likely0 v_r0_leftThen v_r0_seed r0_days o.2.1 r0_things o.2.2 r0_figures r0_hampers r0_kinds r0_row r0_weights) o.1 A) ([.ref a_r0] : List Value).toArray s 0 0 A := ⟨_, rfl⟩
  rw [← hQ]
  refine lv_aload_n hx hb d_M_judge_0 rfl (lv_at hl 0 rfl) ?_
  refine lv_iconst (v := 0) hx hb d_M_judge_1 (by decide) ?_
  refine k_put i_M t_M_ok n_M C hW 0 rfl rfl 9 (by decide) qf_M_67 rfl rfl (ty := .int) rfl rfl rfl (Nat.le_of_ble_eq_true rfl) (ws' := (w_M_judge cI a_r0 a_r0_figures a_r0_hampers a_r0_kinds a_r0_row a_r0_weights v_r0_wants0 v_r0_left0 v_r0_done0 v_r0_refusals v_r0_letters v_r0_letterMany v_r0_at v_r0_isBad v_r0_statements v_r0_placeIn v_r0_letterOf v_r0_told v_r0_kept v_r0_imaged v_r0_hasImage v_r0_place0 v_r0_isTaking v_r0_keptIn v_r0_turns0 v_r0_turnOf v_r0_turned v_r0_order0 v_r0_likely0 v_r0_leftThen v_r0_seed r0_days r0_rowMany r0_things 0 r0_figures r0_hampers r0_kinds r0_row r0_weights)) rfl d_M_judge_2 (fun H locs hW => ?_)
  refine lv_aload_n hx hb d_M_judge_5 rfl (lv_at hl 0 rfl) ?_
  refine k_get i_M C hW 0 rfl rfl 32 (by decide) qf_M_252 rfl rfl d_M_judge_6 ?_
  refine lv_istore_n (lv' := [(1, .int r0_rowMany), (0, .ref a_r0)]) hx hb d_M_judge_9 rfl hl (by decide) rfl (fun ls hl => ?_)
  refine lv_aload_n hx hb d_M_judge_10 rfl (lv_at hl 1 rfl) ?_
  refine lv_iconst (v := 0) hx hb d_M_judge_11 (by decide) ?_
  refine k_put i_M t_M_ok n_M C hW 0 rfl rfl 32 (by decide) qf_M_252 rfl rfl (ty := .int) rfl rfl rfl (Nat.le_of_ble_eq_true rfl) (ws' := (w_M_judge cI a_r0 a_r0_figures a_r0_hampers a_r0_kinds a_r0_row a_r0_weights v_r0_wants0 v_r0_left0 v_r0_done0 v_r0_refusals v_r0_letters v_r0_letterMany v_r0_at v_r0_isBad v_r0_statements v_r0_placeIn v_r0_letterOf v_r0_told v_r0_kept v_r0_imaged v_r0_hasImage v_r0_place0 v_r0_isTaking v_r0_keptIn v_r0_turns0 v_r0_turnOf v_r0_turned v_r0_order0 v_r0_likely0 v_r0_leftThen v_r0_seed r0_days 0 r0_things 0 r0_figures r0_hampers r0_kinds r0_row r0_weights)) rfl d_M_judge_12 (fun H locs hW => ?_)
  refine lv_iconst (v := 0) hx hb d_M_judge_15 (by decide) ?_
  refine lv_istore_n (lv' := [(2, .int 0), (1, .int r0_rowMany), (0, .ref a_r0)]) hx hb d_M_judge_16 rfl hl (by decide) rfl (fun ls hl => ?_)
  obtain ⟨ex_1, hw_1, hk_1⟩ := ob hr
  have hx_1 : ∀ (e_1 : Unit), Sum.inl e_1 = ex_1 → ∀ (H : Heap) (locs : List Loc) (ls : Array Slot), wd A s.heap D (w_M_judge cI a_r0 a_r0_figures a_r0_hampers a_r0_kinds a_r0_row a_r0_weights v_r0_wants0 v_r0_left0 v_r0_done0 v_r0_refusals v_r0_letters v_r0_letterMany v_r0_at v_r0_isBad v_r0_statements v_r0_placeIn v_r0_letterOf v_r0_told v_r0_kept v_r0_imaged v_r0_hasImage v_r0_place0 v_r0_isTaking v_r0_keptIn v_r0_turns0 v_r0_turnOf v_r0_turned v_r0_order0 v_r0_likely0 v_r0_leftThen v_r0_seed r0_days 0 r0_things 0 r0_figures r0_hampers r0_kinds r0_row r0_weights) H locs → lv_has ls 3 [] → W p l e (rmd 4) s m ([.ref a_r0] : List Value).toArray below meth c H locs 0 0 Q (F0 m 65 ls []) := by
    intro e_1 hE H locs ls hW hl
    have hr := sx_l hE.symm hk_1
    refine lv_bipush (v := (-9)) hx hb d_M_judge_65 (by decide) ?_
    obtain rfl := Option.some.inj hr
    rw [hQ]; exact k_iret C hret hW d_M_judge_67
  have hl_1 : ∀ (k : Nat) (y2_1 : Int32), wh (fun (s : (Int32)) => F_M_judge_L17 r0_days r0_rowMany r0_things r0_figures r0_hampers r0_kinds r0_row r0_weights s) k y2_1 = some ex_1 → ∀ (H : Heap) (locs : List Loc) (ls : Array Slot), wd A s.heap D (w_M_judge cI a_r0 a_r0_figures a_r0_hampers a_r0_kinds a_r0_row a_r0_weights v_r0_wants0 v_r0_left0 v_r0_done0 v_r0_refusals v_r0_letters v_r0_letterMany v_r0_at v_r0_isBad v_r0_statements v_r0_placeIn v_r0_letterOf v_r0_told v_r0_kept v_r0_imaged v_r0_hasImage v_r0_place0 v_r0_isTaking v_r0_keptIn v_r0_turns0 v_r0_turnOf v_r0_turned v_r0_order0 v_r0_likely0 v_r0_leftThen v_r0_seed r0_days 0 r0_things 0 r0_figures r0_hampers r0_kinds r0_row r0_weights) H locs → lv_has ls 3 [(1, .int r0_rowMany), (0, .ref a_r0), (2, .int y2_1)] → W p l e (rmd 4) s m ([.ref a_r0] : List Value).toArray below meth c H locs 0 0 Q (F0 m 17 ls []) := by
    intro k
    induction k with
    | zero => intro y2_1 hw; exact absurd hw wh_0
    | succ k ih_1 =>
      intro y2_1 hw H locs ls hW hl
      obtain ⟨z_1, hr, hz1_1, hz2_1⟩ := wh_s hw
      have hr : F_M_judge_L17 r0_days r0_rowMany r0_things r0_figures r0_hampers r0_kinds r0_row r0_weights y2_1 = some z_1 := hr
      unfold F_M_judge_L17 at hr
      refine lv_iload_n hx hb d_M_judge_17 rfl (lv_at hl 2 rfl) ?_
      refine lv_iload_n hx hb d_M_judge_18 rfl (lv_at hl 0 rfl) ?_
      refine lv_icmp_ge (tgt := 65) hx hb d_M_judge_19 (by decide) (fun c_2 => ?_) (fun c_2 => ?_)
      · replace hr := ip c_2 hr
        exact hx_1 _ (hz2_1 _ (Option.some.inj hr).symm) _ _ _ hW (lv_sub hl [] rfl)
      · replace hr := iN c_2 hr
        refine lv_iload_n hx hb d_M_judge_22 rfl (lv_at hl 2 rfl) ?_
        refine lv_aload_n hx hb d_M_judge_23 rfl (lv_at hl 1 rfl) ?_
        refine k_get i_M C hW 0 rfl rfl 4 (by decide) qf_M_78 rfl rfl d_M_judge_24 ?_
        refine lv_icmp_ge (tgt := 57) hx hb d_M_judge_27 (by decide) (fun c_3 => ?_) (fun c_3 => ?_)
        · replace hr := ip c_3 hr
          refine lv_iload_n hx hb d_M_judge_57 rfl (lv_at hl 2 rfl) ?_
          have hr := sx_r (hz2_1 _ (Option.some.inj hr).symm).symm hk_1
          obtain rfl := Option.some.inj hr
          rw [hQ]; exact k_iret C hret hW d_M_judge_58
        · replace hr := iN c_3 hr
          refine lv_aload_n hx hb d_M_judge_30 rfl (lv_at hl 1 rfl) ?_
          refine k_get i_M C hW 0 rfl rfl 31 (by decide) qf_M_64 rfl rfl d_M_judge_31 ?_
          refine lv_iload_n hx hb d_M_judge_34 rfl (lv_at hl 2 rfl) ?_
          obtain ⟨h_4, hr⟩ := ck_some hr
          refine k_iald C hW 4 rfl h_4 d_M_judge_35 ?_
          refine lv_aload_n hx hb d_M_judge_36 rfl (lv_at hl 1 rfl) ?_
          refine lv_iload_n hx hb d_M_judge_37 rfl (lv_at hl 2 rfl) ?_
          obtain ⟨q_5, hc_5, hr⟩ := ob hr
          have ct_5 := C_M_likelyOn l D cI cS a_r0 a_r0_figures a_r0_hampers a_r0_kinds a_r0_weights (Value.int r0_days) v_r0_wants0 v_r0_left0 v_r0_done0 (Value.int 0) v_r0_refusals v_r0_letters v_r0_letterMany v_r0_at v_r0_isBad v_r0_statements v_r0_placeIn v_r0_letterOf v_r0_told v_r0_kept v_r0_imaged v_r0_hasImage v_r0_place0 v_r0_isTaking v_r0_keptIn v_r0_turns0 v_r0_turnOf v_r0_turned v_r0_order0 v_r0_likely0 v_r0_leftThen (Value.ref a_r0_row) (Value.int 0) v_r0_seed r0_things r0_figures r0_hampers r0_kinds r0_weights y2_1 q_5 hc_5
          refine k_goIp hA hW [0, 1, 2, 3, 5] rfl rfl (k_runV C hA hW mw_M_likelyOn mv_M_likelyOn (ct_5.2 _) [0, 1, 2, 3, 5] rfl rfl 0 rfl rfl qm_M_153 ⟨Nat.le_of_ble_eq_true rfl, Nat.le_of_ble_eq_true rfl, Nat.zero_le _, Nat.zero_le _⟩ rfl rfl (Nat.le_of_ble_eq_true rfl) hl.1 d_M_judge_38) (fun H locs hW => ?_)
          refine lv_if_ge (tgt := 49) hx hb d_M_judge_41 (by decide) (fun c_6 => ?_) (fun c_6 => ?_)
          · replace hr := ip c_6 hr
            refine lv_aload_n hx hb d_M_judge_49 rfl (lv_at hl 1 rfl) ?_
            refine lv_iload_n hx hb d_M_judge_50 rfl (lv_at hl 2 rfl) ?_
            obtain ⟨q_7, hc_7, hr⟩ := ob hr
            have ct_7 := C_M_likelyOn l D cI cS a_r0 a_r0_figures a_r0_hampers a_r0_kinds a_r0_weights (Value.int r0_days) v_r0_wants0 v_r0_left0 v_r0_done0 (Value.int 0) v_r0_refusals v_r0_letters v_r0_letterMany v_r0_at v_r0_isBad v_r0_statements v_r0_placeIn v_r0_letterOf v_r0_told v_r0_kept v_r0_imaged v_r0_hasImage v_r0_place0 v_r0_isTaking v_r0_keptIn v_r0_turns0 v_r0_turnOf v_r0_turned v_r0_order0 v_r0_likely0 v_r0_leftThen (Value.ref a_r0_row) (Value.int 0) v_r0_seed r0_things r0_figures r0_hampers r0_kinds r0_weights y2_1 q_7 hc_7
            refine k_goIp hA hW [0, 1, 2, 3, 5] rfl rfl (k_runV C hA hW mw_M_likelyOn mv_M_likelyOn (ct_7.2 _) [0, 1, 2, 3, 5] rfl rfl 0 rfl rfl qm_M_153 ⟨Nat.le_of_ble_eq_true rfl, Nat.le_of_ble_eq_true rfl, Nat.zero_le _, Nat.zero_le _⟩ rfl rfl (Nat.le_of_ble_eq_true rfl) hl.1 d_M_judge_51) (fun H locs hW => ?_)
            refine lv_icmp_eq (tgt := 59) hx hb d_M_judge_54 (by decide) (fun c_8 => ?_) (fun c_8 => ?_)
            · replace hr := ip c_8 hr
              refine lv_iinc (v := (y2_1 + 1)) (lv' := [(2, .int (y2_1 + 1)), (1, .int r0_rowMany), (0, .ref a_r0)]) hx hb d_M_judge_59 hl (k := 2) rfl rfl (by decide) rfl (fun ls hl => ?_)
              refine lv_goto (tgt := 17) hx hb d_M_judge_62 (by decide) ?_
              exact ih_1 (y2_1 + 1) (hz1_1 _ (Option.some.inj hr).symm) _ _ _ hW (lv_sub hl [1, 2, 0] rfl)
            · replace hr := iN c_8 hr
              refine lv_iload_n hx hb d_M_judge_57 rfl (lv_at hl 2 rfl) ?_
              have hr := sx_r (hz2_1 _ (Option.some.inj hr).symm).symm hk_1
              obtain rfl := Option.some.inj hr
              rw [hQ]; exact k_iret C hret hW d_M_judge_58
          · replace hr := iN c_6 hr
            refine lv_bipush (v := 9) hx hb d_M_judge_44 (by decide) ?_
            refine lv_goto (tgt := 54) hx hb d_M_judge_46 (by decide) ?_
            refine lv_icmp_eq (tgt := 59) hx hb d_M_judge_54 (by decide) (fun c_9 => ?_) (fun c_9 => ?_)
            · replace hr := ip c_9 hr
              refine lv_iinc (v := (y2_1 + 1)) (lv' := [(2, .int (y2_1 + 1)), (1, .int r0_rowMany), (0, .ref a_r0)]) hx hb d_M_judge_59 hl (k := 2) rfl rfl (by decide) rfl (fun ls hl => ?_)
              refine lv_goto (tgt := 17) hx hb d_M_judge_62 (by decide) ?_
              exact ih_1 (y2_1 + 1) (hz1_1 _ (Option.some.inj hr).symm) _ _ _ hW (lv_sub hl [1, 2, 0] rfl)
            · replace hr := iN c_9 hr
              refine lv_iload_n hx hb d_M_judge_57 rfl (lv_at hl 2 rfl) ?_
              have hr := sx_r (hz2_1 _ (Option.some.inj hr).symm).symm hk_1
              obtain rfl := Option.some.inj hr
              rw [hQ]; exact k_iret C hret hW d_M_judge_58
  exact hl_1 _ 0 hw_1 _ _ _ hW (lv_sub hl [1, 2, 0] rfl)
def w_M_keepTurn (cI : ClassId) (a_r0 : Nat) (a_r0_figures : Nat) (a_r0_hampers : Nat) (a_r0_kinds : Nat) (a_r0_left0 : Nat) (a_r0_turnOf : Nat) (a_r0_turns0 : Nat) (a_r0_wants0 : Nat) (a_r0_weights : Nat) (v_r0_thrown v_r0_refusals v_r0_letters v_r0_letterMany v_r0_at v_r0_isBad v_r0_statements v_r0_placeIn v_r0_letterOf v_r0_told v_r0_kept v_r0_imaged v_r0_hasImage v_r0_order0 v_r0_likely0 v_r0_leftThen v_r0_row v_r0_rowMany v_r0_seed : Value) (kv : Int32 → Value) (r0_days : Int32) (r0_done0 : Int32) (r0_isTaking : Int32) (r0_keptIn : Int32) (r0_place0 : Int32) (r0_things : Int32) (r0_turned : Int32) (r0_figures : Nat → Int32) (r0_hampers : Nat → Int32) (r0_kinds : Nat → Int32) (r0_left0 : Nat → Int32) (r0_turnOf : Nat → Int32) (r0_turns0 : Nat → Int32) (r0_wants0 : Nat → Int32) (r0_weights : Nat → Int32) : va_W := [(a_r0, .inr (9, [.ref a_r0_weights, .int r0_things, .ref a_r0_kinds, .ref a_r0_figures, .int r0_days, .ref a_r0_hampers, .ref a_r0_wants0, .ref a_r0_left0, .int r0_done0, v_r0_thrown, v_r0_refusals, v_r0_letters, v_r0_letterMany, v_r0_at, v_r0_isBad, v_r0_statements, v_r0_placeIn, v_r0_letterOf, v_r0_told, v_r0_kept, v_r0_imaged, v_r0_hasImage, .int r0_place0, .int r0_isTaking, (kv r0_keptIn), .ref a_r0_turns0, .ref a_r0_turnOf, .int r0_turned, v_r0_order0, v_r0_likely0, v_r0_leftThen, v_r0_row, v_r0_rowMany, v_r0_seed])), (a_r0_figures, .inl (cI, 8, .inl r0_figures)), (a_r0_hampers, .inl (cI, 8, .inl r0_hampers)), (a_r0_kinds, .inl (cI, 8, .inl r0_kinds)), (a_r0_left0, .inl (cI, 4, .inl r0_left0)), (a_r0_turnOf, .inl (cI, 41, .inl r0_turnOf)), (a_r0_turns0, .inl (cI, 328, .inl r0_turns0)), (a_r0_wants0, .inl (cI, 4, .inl r0_wants0)), (a_r0_weights, .inl (cI, 6, .inl r0_weights))]
def F_M_keepTurn_L61 (r0_turned_2 : Int32) (q_3 : (Int32) × (Int32) × (Int32) × (Int32) × (Int32) × (Nat → Int32) × (Nat → Int32) × (Nat → Int32) × (Nat → Int32) × (Nat → Int32) × (Nat → Int32) × (Nat → Int32)) (y1_4 : Int32) (r0_turns0_4 : Nat → Int32) : Option (((Int32) × (Nat → Int32)) ⊕ ((Nat → Int32))) :=
  (if (41 : Int32) ≤ y1_4 then (some (.inr r0_turns0_4)) else (ck y1_4 41 (ck (((41 : Int32) * r0_turned_2) + y1_4) 328 (some (.inl ((y1_4 + 1), (upd r0_turns0_4 (Int32.toNatClampNeg (((41 : Int32) * r0_turned_2) + y1_4)) (q_3.2.2.2.2.2.2.2.2.2.1 (Int32.toNatClampNeg y1_4)))))))))
def F_M_keepTurn_J50_2 (r0_days : Int32) (r0_done0 : Int32) (r0_things : Int32) (r0_figures : Nat → Int32) (r0_hampers : Nat → Int32) (r0_kinds : Nat → Int32) (r0_left0 : Nat → Int32) (r0_turnOf : Nat → Int32) (r0_wants0 : Nat → Int32) (r0_weights : Nat → Int32) (r0_turned_2 : Int32) (r0_turns0_2 : Nat → Int32) : Option ((Int32) × (Int32) × (Int32) × (Int32) × (Int32) × (Int32) × (Int32) × (Nat → Int32) × (Nat → Int32) × (Nat → Int32) × (Nat → Int32) × (Nat → Int32) × (Nat → Int32) × (Nat → Int32) × (Nat → Int32)) :=
  ((F_M_carryAll_turnOf r0_days r0_done0 r0_things r0_figures r0_hampers r0_kinds r0_left0 r0_turnOf r0_wants0 r0_weights (1 : Int32)).bind (fun q_3 => ((wh (fun (s : (Int32) × (Nat → Int32)) => F_M_keepTurn_L61 r0_turned_2 q_3 s.1 s.2) 400 ((0 : Int32), r0_turns0_2)).bind (fun e_4 => (some (q_3.1, q_3.2.1, q_3.2.2.1, 3, q_3.2.2.2.1, q_3.2.2.2.2.1, (r0_turned_2 + 1), q_3.2.2.2.2.2.1, q_3.2.2.2.2.2.2.1, q_3.2.2.2.2.2.2.2.1, q_3.2.2.2.2.2.2.2.2.1, q_3.2.2.2.2.2.2.2.2.2.1, e_4, q_3.2.2.2.2.2.2.2.2.2.2.1, q_3.2.2.2.2.2.2.2.2.2.2.2))))))
def F_M_keepTurn_L12 (y1_8 : Int32) (r0_turns0_8 : Nat → Int32) : Option (((Int32) × (Nat → Int32)) ⊕ ((Nat → Int32))) :=
  (if (328 : Int32) ≤ y1_8 then (some (.inr r0_turns0_8)) else (ck y1_8 328 (ck (y1_8 - 41) 328 (some (.inl ((y1_8 + 1), (upd r0_turns0_8 (Int32.toNatClampNeg (y1_8 - 41)) (r0_turns0_8 (Int32.toNatClampNeg y1_8)))))))))
def F_M_keepTurn (r0_days : Int32) (r0_done0 : Int32) (r0_things : Int32) (r0_turned : Int32) (r0_figures : Nat → Int32) (r0_hampers : Nat → Int32) (r0_kinds : Nat → Int32) (r0_left0 : Nat → Int32) (r0_turnOf : Nat → Int32) (r0_turns0 : Nat → Int32) (r0_wants0 : Nat → Int32) (r0_weights : Nat → Int32) : Option ((Int32) × (Int32) × (Int32) × (Int32) × (Int32) × (Int32) × (Int32) × (Nat → Int32) × (Nat → Int32) × (Nat → Int32) × (Nat → Int32) × (Nat → Int32) × (Nat → Int32) × (Nat → Int32) × (Nat → Int32)) :=
  (if r0_turned = 8 then ((wh (fun (s : (Int32) × (Nat → Int32)) => F_M_keepTurn_L12 s.1 s.2) 400 ((41 : Int32), r0_turns0)).bind (fun e_8 => (F_M_keepTurn_J50_2 r0_days r0_done0 r0_things r0_figures r0_hampers r0_kinds r0_left0 r0_turnOf r0_wants0 r0_weights (r0_turned - 1) e_8))) else (F_M_keepTurn_J50_2 r0_days r0_done0 r0_things r0_figures r0_hampers r0_kinds r0_left0 r0_turnOf r0_wants0 r0_weights r0_turned r0_turns0))
set_option maxHeartbeats 4000000 in
set_option maxRecDepth 100000 in
theorem C_M_keepTurn (l : Launch) (D : va_G) (cI cS : ClassId) (a_r0 : Nat) (a_r0_figures : Nat) (a_r0_hampers : Nat) (a_r0_kinds : Nat) (a_r0_left0 : Nat) (a_r0_turnOf : Nat) (a_r0_turns0 : Nat) (a_r0_wants0 : Nat) (a_r0_weights : Nat) (v_r0_thrown v_r0_refusals v_r0_letters v_r0_letterMany v_r0_at v_r0_isBad v_r0_statements v_r0_placeIn v_r0_letterOf v_r0_told v_r0_kept v_r0_imaged v_r0_hasImage v_r0_order0 v_r0_likely0 v_r0_leftThen v_r0_row v_r0_rowMany v_r0_seed : Value) (kv : Int32 → Value) (hkv_turnOf : kv 3 = .ref a_r0_turnOf) (r0_days : Int32) (r0_done0 : Int32) (r0_isTaking : Int32) (r0_keptIn : Int32) (r0_place0 : Int32) (r0_things : Int32) (r0_turned : Int32) (r0_figures : Nat → Int32) (r0_hampers : Nat → Int32) (r0_kinds : Nat → Int32) (r0_left0 : Nat → Int32) (r0_turnOf : Nat → Int32) (r0_turns0 : Nat → Int32) (r0_wants0 : Nat → Int32) (r0_weights : Nat → Int32) (o : (Int32) × (Int32) × (Int32) × (Int32) × (Int32) × (Int32) × (Int32) × (Nat → Int32) × (Nat → Int32) × (Nat → Int32) × (Nat → Int32) × (Nat → Int32) × (Nat → Int32) × (Nat → Int32) × (Nat → Int32)) (hr : F_M_keepTurn r0_days r0_done0 r0_things r0_turned r0_figures r0_hampers r0_kinds r0_left0 r0_turnOf r0_turns0 r0_wants0 r0_weights = some o) : ctV l y_M_keepTurn (Cond.code y_M_keepTurn b_M_keepTurn 2 none) (rmd 2) D (kTy cI cS) [.ref a_r0] (w_M_keepTurn cI a_r0 a_r0_figures a_r0_hampers a_r0_kinds a_r0_left0 a_r0_turnOf a_r0_turns0 a_r0_wants0 a_r0_weights v_r0_thrown v_r0_refusals v_r0_letters v_r0_letterMany v_r0_at v_r0_isBad v_r0_statements v_r0_placeIn v_r0_letterOf v_r0_told v_r0_kept v_r0_imaged v_r0_hasImage v_r0_order0 v_r0_likely0 v_r0_leftThen v_r0_row v_r0_rowMany v_r0_seed kv r0_days r0_done0 r0_isTaking r0_keptIn r0_place0 r0_things r0_turned r0_figures r0_hampers r0_kinds r0_left0 r0_turnOf r0_turns0 r0_wants0 r0_weights) (w_M_keepTurn cI a_r0 a_r0_figures a_r0_hampers a_r0_kinds a_r0_left0 a_r0_turnOf a_r0_turns0 a_r0_wants0 a_r0_weights v_r0_thrown v_r0_refusals v_r0_letters v_r0_letterMany v_r0_at v_r0_isBad v_r0_statements v_r0_placeIn v_r0_letterOf v_r0_told v_r0_kept v_r0_imaged v_r0_hasImage v_r0_order0 v_r0_likely0 v_r0_leftThen v_r0_row v_r0_rowMany v_r0_seed kv o.1 o.2.1 o.2.2.1 o.2.2.2.1 o.2.2.2.2.1 o.2.2.2.2.2.1 o.2.2.2.2.2.2.1 o.2.2.2.2.2.2.2.1 o.2.2.2.2.2.2.2.2.1 o.2.2.2.2.2.2.2.2.2.1 o.2.2.2.2.2.2.2.2.2.2.1 o.2.2.2.2.2.2.2.2.2.2.2.1 o.2.2.2.2.2.2.2.2.2.2.2.2.1 o.2.2.2.2.2.2.2.2.2.2.2.2.2.1 o.2.2.2.2.2.2.2.2.2.2.2.2.2.2) := by
  unfold F_M_keepTurn at hr
  refine ⟨rfl, fun sz => ct_of (w0 := (w_M_keepTurn cI a_r0 a_r0_figures a_r0_hampers a_r0_kinds a_r0_left0 a_r0_turnOf a_r0_turns0 a_r0_wants0 a_r0_weights v_r0_thrown v_r0_refusals v_r0_letters v_r0_letterMany v_r0_at v_r0_isBad v_r0_statements v_r0_placeIn v_r0_letterOf v_r0_told v_r0_kept v_r0_imaged v_r0_hasImage v_r0_order0 v_r0_likely0 v_r0_leftThen v_r0_row v_r0_rowMany v_r0_seed kv r0_days r0_done0 r0_isTaking r0_keptIn r0_place0 r0_things r0_turned r0_figures r0_hampers r0_kinds r0_left0 r0_turnOf r0_turns0 r0_wants0 r0_weights)) (Qc := fun A => qV D (w_M_keepTurn cI a_r0 a_r0_figures a_r0_hampers a_r0_kinds a_r0_left0 a_r0_turnOf a_r0_turns0 a_r0_wants0 a_r0_weights v_r0_thrown v_r0_refusals v_r0_letters v_r0_letterMany v_r0_at v_r0_isBad v_r0_statements v_r0_placeIn v_r0_letterOf v_r0_told v_r0_kept v_r0_imaged v_r0_hasImage v_r0_order0 v_r0_likely0 v_r0_leftThen v_r0_row v_r0_rowMany v_r0_seed kv o.1 o.2.1 o.2.2.1 o.2.2.2.1 o.2.2.2.2.1 o.2.2.2.2.2.1 o.2.2.2.2.2.2.1 o.2.2.2.2.2.2.2.1 o.2.2.2.2.2.2.2.2.1 o.2.2.2.2.2.2.2.2.2.1 o.2.2.2.2.2.2.2.2.2.2.1 o.2.2.2.2.2.2.2.2.2.2.2.1 o.2.2.2.2.2.2.2.2.2.2.2.2.1 o.2.2.2.2.2.2.2.2.2.2.2.2.2.1 o.2.2.2.2.2.2.2.2.2.2.2.2.2.2) A) rfl (Nat.le_of_ble_eq_true rfl) ?_ sz⟩
  intro p e s m below meth c A hA C hret ls hl hW
  have C : cx p s m ([.ref a_r0] : List Value).toArray meth c b_M_keepTurn 2 R_M D (kTy cI cS) (Cond.code y_M_keepTurn b_M_keepTurn 2 none) := C
  obtain ⟨hx, hb, hml, hown, hts, hK, hlk, hN⟩ := id C
  have hl : lv_has ls 2 [(0, .ref a_r0)] := hl
  obtain ⟨Q, hQ⟩ : ∃ Q, Q = MQ below (qV D (w_M_keepTurn cI a_r0 a_r0_figures a_r0_hampers a_r0_kinds a_r0_left0 a_r0_turnOf a_r0_turns0 a_r0_wants0 a_r0_weights v_r0_thrown v_r0_refusals v_r0_letters v_r0_letterMany v_r0_at v_r0_isBad v_r0_statements v_r0_placeIn v_r0_letterOf v_r0_told v_r0_kept v_r0_imaged v_r0_hasImage v_r0_order0 v_r0_likely0 v_r0_leftThen v_r0_row v_r0_rowMany v_r0_seed kv o.1 o.2.1 o.2.2.1 o.2.2.2.1 o.2.2.2.2.1 o.2.2.2.2.2.1 o.2.2.2.2.2.2.1 o.2.2.2.2.2.2.2.1 o.2.2.2.2.2.2.2.2.1 o.2.2.2.2.2.2.2.2.2.1 o.2.2.2.2.2.2.2.2.2.2.1 o.2.2.2.2.2.2.2.2.2.2.2.1 o.2.2.2.2.2.2.2.2.2.2.2.2.1 o.2.2.2.2.2.2.2.2.2.2.2.2.2.1 o.2.2.2.2.2.2.2.2.2.2.2.2.2.2) A) ([.ref a_r0] : List Value).toArray s 0 0 A := ⟨_, rfl⟩
  rw [← hQ]
  refine lv_aload_n hx hb d_M_keepTurn_0 rfl (lv_at hl 0 rfl) ?_
  refine k_get i_M C hW 0 rfl rfl 27 (by decide) qf_M_174 rfl rfl d_M_keepTurn_1 ?_
  refine lv_bipush (v := 8) hx hb d_M_keepTurn_4 (by decide) ?_
  have hJ_2 : ∀ (r0_turned_2 : Int32) (r0_turns0_2 : Nat → Int32), F_M_keepTurn_J50_2 r0_days r0_done0 r0_things r0_figures r0_hampers r0_kinds r0_left0 r0_turnOf r0_wants0 r0_weights r0_turned_2 r0_turns0_2 = some o → ∀ (H : Heap) (locs : List Loc) (ls : Array Slot), wd A s.heap D (w_M_keepTurn cI a_r0 a_r0_figures a_r0_hampers a_r0_kinds a_r0_left0 a_r0_turnOf a_r0_turns0 a_r0_wants0 a_r0_weights v_r0_thrown v_r0_refusals v_r0_letters v_r0_letterMany v_r0_at v_r0_isBad v_r0_statements v_r0_placeIn v_r0_letterOf v_r0_told v_r0_kept v_r0_imaged v_r0_hasImage v_r0_order0 v_r0_likely0 v_r0_leftThen v_r0_row v_r0_rowMany v_r0_seed kv r0_days r0_done0 r0_isTaking r0_keptIn r0_place0 r0_things r0_turned_2 r0_figures r0_hampers r0_kinds r0_left0 r0_turnOf r0_turns0_2 r0_wants0 r0_weights) H locs → lv_has ls 2 [(0, .ref a_r0)] → W p l e (rmd 2) s m ([.ref a_r0] : List Value).toArray below meth c H locs 0 0 Q (F0 m 50 ls []) := by
    intro r0_turned_2 r0_turns0_2 hr H locs ls hW hl
    unfold F_M_keepTurn_J50_2 at hr
    refine lv_aload_n hx hb d_M_keepTurn_50 rfl (lv_at hl 0 rfl) ?_
    refine lv_aload_n hx hb d_M_keepTurn_51 rfl (lv_at hl 0 rfl) ?_
    refine k_get i_M C hW 0 rfl rfl 26 (by decide) qf_M_52 rfl rfl d_M_keepTurn_52 ?_
    refine lv_iconst (v := 1) hx hb d_M_keepTurn_55 (by decide) ?_
    obtain ⟨q_3, hc_3, hr⟩ := ob hr
    have ct_3 := C_M_carryAll_turnOf l D cI cS a_r0 a_r0_figures a_r0_hampers a_r0_kinds a_r0_left0 a_r0_turnOf a_r0_wants0 a_r0_weights v_r0_thrown v_r0_refusals v_r0_letters v_r0_letterMany v_r0_at v_r0_isBad v_r0_statements v_r0_placeIn v_r0_letterOf v_r0_told v_r0_kept v_r0_imaged v_r0_hasImage (kv r0_keptIn) (Value.ref a_r0_turns0) (Value.int r0_turned_2) v_r0_order0 v_r0_likely0 v_r0_leftThen v_r0_row v_r0_rowMany v_r0_seed (kv 3) hkv_turnOf r0_days r0_done0 r0_isTaking r0_place0 r0_things r0_figures r0_hampers r0_kinds r0_left0 r0_turnOf r0_wants0 r0_weights 1 q_3 hc_3
    refine k_goV hA hW [0, 1, 2, 3, 4, 5, 7, 8] rfl ct_3.1 (ws' := (w_M_keepTurn cI a_r0 a_r0_figures a_r0_hampers a_r0_kinds a_r0_left0 a_r0_turnOf a_r0_turns0 a_r0_wants0 a_r0_weights v_r0_thrown v_r0_refusals v_r0_letters v_r0_letterMany v_r0_at v_r0_isBad v_r0_statements v_r0_placeIn v_r0_letterOf v_r0_told v_r0_kept v_r0_imaged v_r0_hasImage v_r0_order0 v_r0_likely0 v_r0_leftThen v_r0_row v_r0_rowMany v_r0_seed kv q_3.1 q_3.2.1 q_3.2.2.1 3 q_3.2.2.2.1 q_3.2.2.2.2.1 r0_turned_2 q_3.2.2.2.2.2.1 q_3.2.2.2.2.2.2.1 q_3.2.2.2.2.2.2.2.1 q_3.2.2.2.2.2.2.2.2.1 q_3.2.2.2.2.2.2.2.2.2.1 r0_turns0_2 q_3.2.2.2.2.2.2.2.2.2.2.1 q_3.2.2.2.2.2.2.2.2.2.2.2)) rfl (k_runV C hA hW mw_M_carryAll mv_M_carryAll (ct_3.2 _) [0, 1, 2, 3, 4, 5, 7, 8] rfl rfl 0 rfl rfl qm_M_189 ⟨Nat.le_of_ble_eq_true rfl, Nat.le_of_ble_eq_true rfl, Nat.zero_le _, Nat.zero_le _⟩ rfl rfl (Nat.le_of_ble_eq_true rfl) hl.1 d_M_keepTurn_56) (fun H locs hW => ?_)
    refine lv_iconst (v := 0) hx hb d_M_keepTurn_59 (by decide) ?_
    refine lv_istore_n (lv' := [(1, .int 0), (0, .ref a_r0)]) hx hb d_M_keepTurn_60 rfl hl (by decide) rfl (fun ls hl => ?_)
    obtain ⟨ex_4, hw_4, hk_4⟩ := ob hr
    have hx_4 : ∀ (e_4 : (Nat → Int32)), e_4 = ex_4 → ∀ (H : Heap) (locs : List Loc) (ls : Array Slot), wd A s.heap D (w_M_keepTurn cI a_r0 a_r0_figures a_r0_hampers a_r0_kinds a_r0_left0 a_r0_turnOf a_r0_turns0 a_r0_wants0 a_r0_weights v_r0_thrown v_r0_refusals v_r0_letters v_r0_letterMany v_r0_at v_r0_isBad v_r0_statements v_r0_placeIn v_r0_letterOf v_r0_told v_r0_kept v_r0_imaged v_r0_hasImage v_r0_order0 v_r0_likely0 v_r0_leftThen v_r0_row v_r0_rowMany v_r0_seed kv q_3.1 q_3.2.1 q_3.2.2.1 3 q_3.2.2.2.1 q_3.2.2.2.2.1 r0_turned_2 q_3.2.2.2.2.2.1 q_3.2.2.2.2.2.2.1 q_3.2.2.2.2.2.2.2.1 q_3.2.2.2.2.2.2.2.2.1 q_3.2.2.2.2.2.2.2.2.2.1 e_4 q_3.2.2.2.2.2.2.2.2.2.2.1 q_3.2.2.2.2.2.2.2.2.2.2.2) H locs → lv_has ls 2 [(0, .ref a_r0)] → W p l e (rmd 2) s m ([.ref a_r0] : List Value).toArray below meth c H locs 0 0 Q (F0 m 93 ls []) := by
      intro e_4 hE H locs ls hW hl
      subst hE; have hr := hk_4
      refine lv_aload_n hx hb d_M_keepTurn_93 rfl (lv_at hl 0 rfl) ?_
      refine lv_dup hx hb d_M_keepTurn_94 rfl ?_
      refine k_get i_M C hW 0 rfl rfl 27 (by decide) qf_M_174 rfl rfl d_M_keepTurn_95 ?_
      refine lv_iconst (v := 1) hx hb d_M_keepTurn_98 (by decide) ?_
      refine lv_iadd hx hb d_M_keepTurn_99 ?_
      refine k_put i_M t_M_ok n_M C hW 0 rfl rfl 27 (by decide) qf_M_174 rfl rfl (ty := .int) rfl rfl rfl (Nat.le_of_ble_eq_true rfl) (ws' := (w_M_keepTurn cI a_r0 a_r0_figures a_r0_hampers a_r0_kinds a_r0_left0 a_r0_turnOf a_r0_turns0 a_r0_wants0 a_r0_weights v_r0_thrown v_r0_refusals v_r0_letters v_r0_letterMany v_r0_at v_r0_isBad v_r0_statements v_r0_placeIn v_r0_letterOf v_r0_told v_r0_kept v_r0_imaged v_r0_hasImage v_r0_order0 v_r0_likely0 v_r0_leftThen v_r0_row v_r0_rowMany v_r0_seed kv q_3.1 q_3.2.1 q_3.2.2.1 3 q_3.2.2.2.1 q_3.2.2.2.2.1 (r0_turned_2 + 1) q_3.2.2.2.2.2.1 q_3.2.2.2.2.2.2.1 q_3.2.2.2.2.2.2.2.1 q_3.2.2.2.2.2.2.2.2.1 q_3.2.2.2.2.2.2.2.2.2.1 e_4 q_3.2.2.2.2.2.2.2.2.2.2.1 q_3.2.2.2.2.2.2.2.2.2.2.2)) rfl d_M_keepTurn_100 (fun H locs hW => ?_)
      obtain rfl := Option.some.inj hr
      rw [hQ]; exact k_vret C hret hW d_M_keepTurn_103
    have hl_4 : ∀ (k : Nat) (y1_4 : Int32) (r0_turns0_4 : Nat → Int32), wh (fun (s : (Int32) × (Nat → Int32)) => F_M_keepTurn_L61 r0_turned_2 q_3 s.1 s.2) k (y1_4, r0_turns0_4) = some ex_4 → ∀ (H : Heap) (locs : List Loc) (ls : Array Slot), wd A s.heap D (w_M_keepTurn cI a_r0 a_r0_figures a_r0_hampers a_r0_kinds a_r0_left0 a_r0_turnOf a_r0_turns0 a_r0_wants0 a_r0_weights v_r0_thrown v_r0_refusals v_r0_letters v_r0_letterMany v_r0_at v_r0_isBad v_r0_statements v_r0_placeIn v_r0_letterOf v_r0_told v_r0_kept v_r0_imaged v_r0_hasImage v_r0_order0 v_r0_likely0 v_r0_leftThen v_r0_row v_r0_rowMany v_r0_seed kv q_3.1 q_3.2.1 q_3.2.2.1 3 q_3.2.2.2.1 q_3.2.2.2.2.1 r0_turned_2 q_3.2.2.2.2.2.1 q_3.2.2.2.2.2.2.1 q_3.2.2.2.2.2.2.2.1 q_3.2.2.2.2.2.2.2.2.1 q_3.2.2.2.2.2.2.2.2.2.1 r0_turns0_4 q_3.2.2.2.2.2.2.2.2.2.2.1 q_3.2.2.2.2.2.2.2.2.2.2.2) H locs → lv_has ls 2 [(0, .ref a_r0), (1, .int y1_4)] → W p l e (rmd 2) s m ([.ref a_r0] : List Value).toArray below meth c H locs 0 0 Q (F0 m 61 ls []) := by
      intro k
      induction k with
      | zero => intro y1_4 r0_turns0_4 hw; exact absurd hw wh_0
      | succ k ih_4 =>
        intro y1_4 r0_turns0_4 hw H locs ls hW hl
        obtain ⟨z_4, hr, hz1_4, hz2_4⟩ := wh_s hw
        have hr : F_M_keepTurn_L61 r0_turned_2 q_3 y1_4 r0_turns0_4 = some z_4 := hr
        unfold F_M_keepTurn_L61 at hr
        refine lv_iload_n hx hb d_M_keepTurn_61 rfl (lv_at hl 1 rfl) ?_
        refine lv_bipush (v := 41) hx hb d_M_keepTurn_62 (by decide) ?_
        refine lv_icmp_ge (tgt := 93) hx hb d_M_keepTurn_64 (by decide) (fun c_5 => ?_) (fun c_5 => ?_)
        · replace hr := ip c_5 hr
          exact hx_4 _ (hz2_4 _ (Option.some.inj hr).symm) _ _ _ hW (lv_sub hl [0] rfl)
        · replace hr := iN c_5 hr
          refine lv_aload_n hx hb d_M_keepTurn_67 rfl (lv_at hl 0 rfl) ?_
          refine k_get i_M C hW 0 rfl rfl 25 (by decide) qf_M_49 rfl rfl d_M_keepTurn_68 ?_
          refine lv_bipush (v := 41) hx hb d_M_keepTurn_71 (by decide) ?_
          refine lv_aload_n hx hb d_M_keepTurn_73 rfl (lv_at hl 0 rfl) ?_
          refine k_get i_M C hW 0 rfl rfl 27 (by decide) qf_M_174 rfl rfl d_M_keepTurn_74 ?_
          refine lv_imul hx hb d_M_keepTurn_77 ?_
          refine lv_iload_n hx hb d_M_keepTurn_78 rfl (lv_at hl 1 rfl) ?_
          refine lv_iadd hx hb d_M_keepTurn_79 ?_
          refine lv_aload_n hx hb d_M_keepTurn_80 rfl (lv_at hl 0 rfl) ?_
          refine k_get i_M C hW 0 rfl rfl 26 (by decide) qf_M_52 rfl rfl d_M_keepTurn_81 ?_
          refine lv_iload_n hx hb d_M_keepTurn_84 rfl (lv_at hl 1 rfl) ?_
          obtain ⟨h_6, hr⟩ := ck_some hr
          refine k_iald C hW 5 rfl h_6 d_M_keepTurn_85 ?_
          obtain ⟨h_7, hr⟩ := ck_some hr
          refine k_iast C hW 6 rfl h_7 (ws' := (w_M_keepTurn cI a_r0 a_r0_figures a_r0_hampers a_r0_kinds a_r0_left0 a_r0_turnOf a_r0_turns0 a_r0_wants0 a_r0_weights v_r0_thrown v_r0_refusals v_r0_letters v_r0_letterMany v_r0_at v_r0_isBad v_r0_statements v_r0_placeIn v_r0_letterOf v_r0_told v_r0_kept v_r0_imaged v_r0_hasImage v_r0_order0 v_r0_likely0 v_r0_leftThen v_r0_row v_r0_rowMany v_r0_seed kv q_3.1 q_3.2.1 q_3.2.2.1 3 q_3.2.2.2.1 q_3.2.2.2.2.1 r0_turned_2 q_3.2.2.2.2.2.1 q_3.2.2.2.2.2.2.1 q_3.2.2.2.2.2.2.2.1 q_3.2.2.2.2.2.2.2.2.1 q_3.2.2.2.2.2.2.2.2.2.1 (upd r0_turns0_4 (Int32.toNatClampNeg (((41 : Int32) * r0_turned_2) + y1_4)) (q_3.2.2.2.2.2.2.2.2.2.1 (Int32.toNatClampNeg y1_4))) q_3.2.2.2.2.2.2.2.2.2.2.1 q_3.2.2.2.2.2.2.2.2.2.2.2)) rfl d_M_keepTurn_86 (fun H locs hW => ?_)
          refine lv_iinc (v := (y1_4 + 1)) (lv' := [(1, .int (y1_4 + 1)), (0, .ref a_r0)]) hx hb d_M_keepTurn_87 hl (k := 1) rfl rfl (by decide) rfl (fun ls hl => ?_)
          refine lv_goto (tgt := 61) hx hb d_M_keepTurn_90 (by decide) ?_
          exact ih_4 (y1_4 + 1) (upd r0_turns0_4 (Int32.toNatClampNeg (((41 : Int32) * r0_turned_2) + y1_4)) (q_3.2.2.2.2.2.2.2.2.2.1 (Int32.toNatClampNeg y1_4))) (hz1_4 _ (Option.some.inj hr).symm) _ _ _ hW (lv_sub hl [1, 0] rfl)
    exact hl_4 _ 0 r0_turns0_2 hw_4 _ _ _ hW (lv_sub hl [1, 0] rfl)
  refine lv_icmp_ne (tgt := 50) hx hb d_M_keepTurn_6 (by decide) (fun c_1 => ?_) (fun c_1 => ?_)
  · replace hr := iN c_1 hr
    exact hJ_2 r0_turned r0_turns0 hr _ _ _ hW (lv_sub hl [0] rfl)
  · replace hr := ip c_1 hr
    refine lv_bipush (v := 41) hx hb d_M_keepTurn_9 (by decide) ?_
    refine lv_istore_n (lv' := [(1, .int 41), (0, .ref a_r0)]) hx hb d_M_keepTurn_11 rfl hl (by decide) rfl (fun ls hl => ?_)
    obtain ⟨ex_8, hw_8, hk_8⟩ := ob hr
    have hx_8 : ∀ (e_8 : (Nat → Int32)), e_8 = ex_8 → ∀ (H : Heap) (locs : List Loc) (ls : Array Slot), wd A s.heap D (w_M_keepTurn cI a_r0 a_r0_figures a_r0_hampers a_r0_kinds a_r0_left0 a_r0_turnOf a_r0_turns0 a_r0_wants0 a_r0_weights v_r0_thrown v_r0_refusals v_r0_letters v_r0_letterMany v_r0_at v_r0_isBad v_r0_statements v_r0_placeIn v_r0_letterOf v_r0_told v_r0_kept v_r0_imaged v_r0_hasImage v_r0_order0 v_r0_likely0 v_r0_leftThen v_r0_row v_r0_rowMany v_r0_seed kv r0_days r0_done0 r0_isTaking r0_keptIn r0_place0 r0_things r0_turned r0_figures r0_hampers r0_kinds r0_left0 r0_turnOf e_8 r0_wants0 r0_weights) H locs → lv_has ls 2 [(0, .ref a_r0)] → W p l e (rmd 2) s m ([.ref a_r0] : List Value).toArray below meth c H locs 0 0 Q (F0 m 40 ls []) := by
      intro e_8 hE H locs ls hW hl
      subst hE; have hr := hk_8
      refine lv_aload_n hx hb d_M_keepTurn_40 rfl (lv_at hl 0 rfl) ?_
      refine lv_dup hx hb d_M_keepTurn_41 rfl ?_
      refine k_get i_M C hW 0 rfl rfl 27 (by decide) qf_M_174 rfl rfl d_M_keepTurn_42 ?_
      refine lv_iconst (v := 1) hx hb d_M_keepTurn_45 (by decide) ?_
      refine lv_isub hx hb d_M_keepTurn_46 ?_
      refine k_put i_M t_M_ok n_M C hW 0 rfl rfl 27 (by decide) qf_M_174 rfl rfl (ty := .int) rfl rfl rfl (Nat.le_of_ble_eq_true rfl) (ws' := (w_M_keepTurn cI a_r0 a_r0_figures a_r0_hampers a_r0_kinds a_r0_left0 a_r0_turnOf a_r0_turns0 a_r0_wants0 a_r0_weights v_r0_thrown v_r0_refusals v_r0_letters v_r0_letterMany v_r0_at v_r0_isBad v_r0_statements v_r0_placeIn v_r0_letterOf v_r0_told v_r0_kept v_r0_imaged v_r0_hasImage v_r0_order0 v_r0_likely0 v_r0_leftThen v_r0_row v_r0_rowMany v_r0_seed kv r0_days r0_done0 r0_isTaking r0_keptIn r0_place0 r0_things (r0_turned - 1) r0_figures r0_hampers r0_kinds r0_left0 r0_turnOf e_8 r0_wants0 r0_weights)) rfl d_M_keepTurn_47 (fun H locs hW => ?_)
      exact hJ_2 (r0_turned - 1) e_8 hr _ _ _ hW (lv_sub hl [0] rfl)
    have hl_8 : ∀ (k : Nat) (y1_8 : Int32) (r0_turns0_8 : Nat → Int32), wh (fun (s : (Int32) × (Nat → Int32)) => F_M_keepTurn_L12 s.1 s.2) k (y1_8, r0_turns0_8) = some ex_8 → ∀ (H : Heap) (locs : List Loc) (ls : Array Slot), wd A s.heap D (w_M_keepTurn cI a_r0 a_r0_figures a_r0_hampers a_r0_kinds a_r0_left0 a_r0_turnOf a_r0_turns0 a_r0_wants0 a_r0_weights v_r0_thrown v_r0_refusals v_r0_letters v_r0_letterMany v_r0_at v_r0_isBad v_r0_statements v_r0_placeIn v_r0_letterOf v_r0_told v_r0_kept v_r0_imaged v_r0_hasImage v_r0_order0 v_r0_likely0 v_r0_leftThen v_r0_row v_r0_rowMany v_r0_seed kv r0_days r0_done0 r0_isTaking r0_keptIn r0_place0 r0_things r0_turned r0_figures r0_hampers r0_kinds r0_left0 r0_turnOf r0_turns0_8 r0_wants0 r0_weights) H locs → lv_has ls 2 [(0, .ref a_r0), (1, .int y1_8)] → W p l e (rmd 2) s m ([.ref a_r0] : List Value).toArray below meth c H locs 0 0 Q (F0 m 12 ls []) := by
      intro k
      induction k with
      | zero => intro y1_8 r0_turns0_8 hw; exact absurd hw wh_0
      | succ k ih_8 =>
        intro y1_8 r0_turns0_8 hw H locs ls hW hl
        obtain ⟨z_8, hr, hz1_8, hz2_8⟩ := wh_s hw
        have hr : F_M_keepTurn_L12 y1_8 r0_turns0_8 = some z_8 := hr
        unfold F_M_keepTurn_L12 at hr
        refine lv_iload_n hx hb d_M_keepTurn_12 rfl (lv_at hl 1 rfl) ?_
        refine lv_sipush (v := 328) hx hb d_M_keepTurn_13 (by decide) ?_
        refine lv_icmp_ge (tgt := 40) hx hb d_M_keepTurn_16 (by decide) (fun c_9 => ?_) (fun c_9 => ?_)
        · replace hr := ip c_9 hr
          exact hx_8 _ (hz2_8 _ (Option.some.inj hr).symm) _ _ _ hW (lv_sub hl [0] rfl)
        · replace hr := iN c_9 hr
          refine lv_aload_n hx hb d_M_keepTurn_19 rfl (lv_at hl 0 rfl) ?_
          refine k_get i_M C hW 0 rfl rfl 25 (by decide) qf_M_49 rfl rfl d_M_keepTurn_20 ?_
          refine lv_iload_n hx hb d_M_keepTurn_23 rfl (lv_at hl 1 rfl) ?_
          refine lv_bipush (v := 41) hx hb d_M_keepTurn_24 (by decide) ?_
          refine lv_isub hx hb d_M_keepTurn_26 ?_
          refine lv_aload_n hx hb d_M_keepTurn_27 rfl (lv_at hl 0 rfl) ?_
          refine k_get i_M C hW 0 rfl rfl 25 (by decide) qf_M_49 rfl rfl d_M_keepTurn_28 ?_
          refine lv_iload_n hx hb d_M_keepTurn_31 rfl (lv_at hl 1 rfl) ?_
          obtain ⟨h_10, hr⟩ := ck_some hr
          refine k_iald C hW 6 rfl h_10 d_M_keepTurn_32 ?_
          obtain ⟨h_11, hr⟩ := ck_some hr
          refine k_iast C hW 6 rfl h_11 (ws' := (w_M_keepTurn cI a_r0 a_r0_figures a_r0_hampers a_r0_kinds a_r0_left0 a_r0_turnOf a_r0_turns0 a_r0_wants0 a_r0_weights v_r0_thrown v_r0_refusals v_r0_letters v_r0_letterMany v_r0_at v_r0_isBad v_r0_statements v_r0_placeIn v_r0_letterOf v_r0_told v_r0_kept v_r0_imaged v_r0_hasImage v_r0_order0 v_r0_likely0 v_r0_leftThen v_r0_row v_r0_rowMany v_r0_seed kv r0_days r0_done0 r0_isTaking r0_keptIn r0_place0 r0_things r0_turned r0_figures r0_hampers r0_kinds r0_left0 r0_turnOf (upd r0_turns0_8 (Int32.toNatClampNeg (y1_8 - 41)) (r0_turns0_8 (Int32.toNatClampNeg y1_8))) r0_wants0 r0_weights)) rfl d_M_keepTurn_33 (fun H locs hW => ?_)
          refine lv_iinc (v := (y1_8 + 1)) (lv' := [(1, .int (y1_8 + 1)), (0, .ref a_r0)]) hx hb d_M_keepTurn_34 hl (k := 1) rfl rfl (by decide) rfl (fun ls hl => ?_)
          refine lv_goto (tgt := 12) hx hb d_M_keepTurn_37 (by decide) ?_
          exact ih_8 (y1_8 + 1) (upd r0_turns0_8 (Int32.toNatClampNeg (y1_8 - 41)) (r0_turns0_8 (Int32.toNatClampNeg y1_8))) (hz1_8 _ (Option.some.inj hr).symm) _ _ _ hW (lv_sub hl [1, 0] rfl)
    exact hl_8 _ 41 r0_turns0 hw_8 _ _ _ hW (lv_sub hl [1, 0] rfl)
def F_M_ordersOf_L4 (x0 : Int32) (y1_1 : Int32) (y2_1 : Int32) : Option (((Int32) × (Int32)) ⊕ ((Int32))) :=
  (if x0 < y2_1 then (some (.inr y1_1)) else (some (.inl ((y1_1 * y2_1), (y2_1 + 1)))))
def F_M_ordersOf (x0 : Int32) : Option (Int32) :=
  ((wh (fun (s : (Int32) × (Int32)) => F_M_ordersOf_L4 x0 s.1 s.2) 400 ((1 : Int32), (2 : Int32))).bind (fun e_1 => (some e_1)))
set_option maxHeartbeats 4000000 in
set_option maxRecDepth 100000 in
theorem C_M_ordersOf (l : Launch) (D : va_G) (cI cS : ClassId) (x0 : Int32) (o : Int32) (hr : F_M_ordersOf x0 = some o) : ctI l y_M_ordersOf (Cond.code y_M_ordersOf b_M_ordersOf 3 (some FieldType.int)) (rmd 0) D (kTy cI cS) [.int x0] [] [] o := by
  unfold F_M_ordersOf at hr
  refine ⟨rfl, fun sz => ct_of (w0 := []) (Qc := fun A => qI D [] o A) rfl (Nat.le_of_ble_eq_true rfl) ?_ sz⟩
  intro p e s m below meth c A hA C hret ls hl hW
  have C : cx p s m ([.int x0] : List Value).toArray meth c b_M_ordersOf 3 R_M D (kTy cI cS) (Cond.code y_M_ordersOf b_M_ordersOf 3 (some FieldType.int)) := C
  obtain ⟨hx, hb, hml, hown, hts, hK, hlk, hN⟩ := id C
  have hl : lv_has ls 3 [(0, .int x0)] := hl
  obtain ⟨Q, hQ⟩ : ∃ Q, Q = MQ below (qI D [] o A) ([.int x0] : List Value).toArray s 0 0 A := ⟨_, rfl⟩
  rw [← hQ]
  refine lv_iconst (v := 1) hx hb d_M_ordersOf_0 (by decide) ?_
  refine lv_istore_n (lv' := [(1, .int 1), (0, .int x0)]) hx hb d_M_ordersOf_1 rfl hl (by decide) rfl (fun ls hl => ?_)
  refine lv_iconst (v := 2) hx hb d_M_ordersOf_2 (by decide) ?_
  refine lv_istore_n (lv' := [(2, .int 2), (1, .int 1), (0, .int x0)]) hx hb d_M_ordersOf_3 rfl hl (by decide) rfl (fun ls hl => ?_)
  obtain ⟨ex_1, hw_1, hk_1⟩ := ob hr
  have hx_1 : ∀ (e_1 : (Int32)), e_1 = ex_1 → ∀ (H : Heap) (locs : List Loc) (ls : Array Slot), wd A s.heap D [] H locs → lv_has ls 3 [(1, .int e_1)] → W p l e (rmd 0) s m ([.int x0] : List Value).toArray below meth c H locs 0 0 Q (F0 m 19 ls []) := by
    intro e_1 hE H locs ls hW hl
    subst hE; have hr := hk_1
    refine lv_iload_n hx hb d_M_ordersOf_19 rfl (lv_at hl 0 rfl) ?_
    obtain rfl := Option.some.inj hr
    rw [hQ]; exact k_iret C hret hW d_M_ordersOf_20
  have hl_1 : ∀ (k : Nat) (y1_1 : Int32) (y2_1 : Int32), wh (fun (s : (Int32) × (Int32)) => F_M_ordersOf_L4 x0 s.1 s.2) k (y1_1, y2_1) = some ex_1 → ∀ (H : Heap) (locs : List Loc) (ls : Array Slot), wd A s.heap D [] H locs → lv_has ls 3 [(0, .int x0), (1, .int y1_1), (2, .int y2_1)] → W p l e (rmd 0) s m ([.int x0] : List Value).toArray below meth c H locs 0 0 Q (F0 m 4 ls []) := by
    intro k
    induction k with
    | zero => intro y1_1 y2_1 hw; exact absurd hw wh_0
    | succ k ih_1 =>
      intro y1_1 y2_1 hw H locs ls hW hl
      obtain ⟨z_1, hr, hz1_1, hz2_1⟩ := wh_s hw
      have hr : F_M_ordersOf_L4 x0 y1_1 y2_1 = some z_1 := hr
      unfold F_M_ordersOf_L4 at hr
      refine lv_iload_n hx hb d_M_ordersOf_4 rfl (lv_at hl 2 rfl) ?_
      refine lv_iload_n hx hb d_M_ordersOf_5 rfl (lv_at hl 0 rfl) ?_
      refine lv_icmp_gt (tgt := 19) hx hb d_M_ordersOf_6 (by decide) (fun c_2 => ?_) (fun c_2 => ?_)
      · replace hr := ip c_2 hr
        exact hx_1 _ (hz2_1 _ (Option.some.inj hr).symm) _ _ _ hW (lv_sub hl [1] rfl)
      · replace hr := iN c_2 hr
        refine lv_iload_n hx hb d_M_ordersOf_9 rfl (lv_at hl 1 rfl) ?_
        refine lv_iload_n hx hb d_M_ordersOf_10 rfl (lv_at hl 2 rfl) ?_
        refine lv_imul hx hb d_M_ordersOf_11 ?_
        refine lv_istore_n (lv' := [(1, .int (y1_1 * y2_1)), (0, .int x0), (2, .int y2_1)]) hx hb d_M_ordersOf_12 rfl hl (by decide) rfl (fun ls hl => ?_)
        refine lv_iinc (v := (y2_1 + 1)) (lv' := [(2, .int (y2_1 + 1)), (1, .int (y1_1 * y2_1)), (0, .int x0)]) hx hb d_M_ordersOf_13 hl (k := 2) rfl rfl (by decide) rfl (fun ls hl => ?_)
        refine lv_goto (tgt := 4) hx hb d_M_ordersOf_16 (by decide) ?_
        exact ih_1 (y1_1 * y2_1) (y2_1 + 1) (hz1_1 _ (Option.some.inj hr).symm) _ _ _ hW (lv_sub hl [2, 1, 0] rfl)
  exact hl_1 _ 1 2 hw_1 _ _ _ hW (lv_sub hl [2, 1, 0] rfl)
def w_M_layOrder (cI : ClassId) (a_r0 : Nat) (a_r0_order0 : Nat) (v_r0_weights v_r0_things v_r0_kinds v_r0_figures v_r0_days v_r0_hampers v_r0_wants0 v_r0_left0 v_r0_done0 v_r0_thrown v_r0_refusals v_r0_letters v_r0_letterMany v_r0_at v_r0_isBad v_r0_statements v_r0_placeIn v_r0_letterOf v_r0_told v_r0_kept v_r0_imaged v_r0_hasImage v_r0_place0 v_r0_isTaking v_r0_keptIn v_r0_turns0 v_r0_turnOf v_r0_turned v_r0_likely0 v_r0_leftThen v_r0_row v_r0_rowMany v_r0_seed : Value) (r0_order0 : Nat → Int32) : va_W := [(a_r0, .inr (9, [v_r0_weights, v_r0_things, v_r0_kinds, v_r0_figures, v_r0_days, v_r0_hampers, v_r0_wants0, v_r0_left0, v_r0_done0, v_r0_thrown, v_r0_refusals, v_r0_letters, v_r0_letterMany, v_r0_at, v_r0_isBad, v_r0_statements, v_r0_placeIn, v_r0_letterOf, v_r0_told, v_r0_kept, v_r0_imaged, v_r0_hasImage, v_r0_place0, v_r0_isTaking, v_r0_keptIn, v_r0_turns0, v_r0_turnOf, v_r0_turned, .ref a_r0_order0, v_r0_likely0, v_r0_leftThen, v_r0_row, v_r0_rowMany, v_r0_seed])), (a_r0_order0, .inl (cI, 8, .inl r0_order0))]
def F_M_layOrder_J54_9 (y4_1 : Int32) (y7_6 : Int32) (y8_6 : Int32) : Option (((Int32) × (Int32)) ⊕ ((Int32))) :=
  ((F_M_hasBit y4_1 y8_6).bind (fun q_10 => (if q_10 = 0 then (some (.inl ((y7_6 - 1), (y8_6 + 1)))) else (some (.inl ((y7_6 - 0), (y8_6 + 1)))))))
def F_M_layOrder_L39 (y4_1 : Int32) (y7_6 : Int32) (y8_6 : Int32) : Option (((Int32) × (Int32)) ⊕ ((Int32))) :=
  ((F_M_hasBit y4_1 y8_6).bind (fun q_7 => (if q_7 = 0 then (if y7_6 ≤ 0 then (some (.inr y8_6)) else (F_M_layOrder_J54_9 y4_1 y7_6 y8_6)) else (F_M_layOrder_J54_9 y4_1 y7_6 y8_6))))
def F_M_layOrder_L8 (x2 : Int32) (y3_1 : Int32) (y4_1 : Int32) (y5_1 : Int32) (r0_order0_1 : Nat → Int32) : Option (((Int32) × (Int32) × (Int32) × (Nat → Int32)) ⊕ ((Nat → Int32))) :=
  (if x2 ≤ y5_1 then (some (.inr r0_order0_1)) else ((F_M_ordersOf ((x2 - 1) - y5_1)).bind (fun q_3 => (ck0 q_3 (ck0 q_3 ((wh (fun (s : (Int32) × (Int32)) => F_M_layOrder_L39 y4_1 s.1 s.2) 400 ((y3_1 / q_3), (0 : Int32))).bind (fun e_6 => (ck y5_1 8 (some (.inl ((y3_1 - y3_1 / q_3 * q_3), (y4_1 ||| ((1 : Int32) <<< ((e_6 : Int32) &&& 31))), (y5_1 + 1), (upd r0_order0_1 (Int32.toNatClampNeg y5_1) e_6))))))))))))
def F_M_layOrder (r0_order0 : Nat → Int32) (x1 : Int32) (x2 : Int32) : Option ((Nat → Int32)) :=
  ((wh (fun (s : (Int32) × (Int32) × (Int32) × (Nat → Int32)) => F_M_layOrder_L8 x2 s.1 s.2.1 s.2.2.1 s.2.2.2) 400 (x1, (0 : Int32), (0 : Int32), r0_order0)).bind (fun e_1 => (some e_1)))
set_option maxHeartbeats 4000000 in
set_option maxRecDepth 100000 in
theorem C_M_layOrder (l : Launch) (D : va_G) (cI cS : ClassId) (a_r0 : Nat) (a_r0_order0 : Nat) (v_r0_weights v_r0_things v_r0_kinds v_r0_figures v_r0_days v_r0_hampers v_r0_wants0 v_r0_left0 v_r0_done0 v_r0_thrown v_r0_refusals v_r0_letters v_r0_letterMany v_r0_at v_r0_isBad v_r0_statements v_r0_placeIn v_r0_letterOf v_r0_told v_r0_kept v_r0_imaged v_r0_hasImage v_r0_place0 v_r0_isTaking v_r0_keptIn v_r0_turns0 v_r0_turnOf v_r0_turned v_r0_likely0 v_r0_leftThen v_r0_row v_r0_rowMany v_r0_seed : Value) (r0_order0 : Nat → Int32) (x1 : Int32) (x2 : Int32) (o : (Nat → Int32)) (hr : F_M_layOrder r0_order0 x1 x2 = some o) : ctV l y_M_layOrder (Cond.code y_M_layOrder b_M_layOrder 9 none) (rmd 1) D (kTy cI cS) [.ref a_r0, .int x1, .int x2] (w_M_layOrder cI a_r0 a_r0_order0 v_r0_weights v_r0_things v_r0_kinds v_r0_figures v_r0_days v_r0_hampers v_r0_wants0 v_r0_left0 v_r0_done0 v_r0_thrown v_r0_refusals v_r0_letters v_r0_letterMany v_r0_at v_r0_isBad v_r0_statements v_r0_placeIn v_r0_letterOf v_r0_told v_r0_kept v_r0_imaged v_r0_hasImage v_r0_place0 v_r0_isTaking v_r0_keptIn v_r0_turns0 v_r0_turnOf v_r0_turned v_r0_likely0 v_r0_leftThen v_r0_row v_r0_rowMany v_r0_seed r0_order0) (w_M_layOrder cI a_r0 a_r0_order0 v_r0_weights v_r0_things v_r0_kinds v_r0_figures v_r0_days v_r0_hampers v_r0_wants0 v_r0_left0 v_r0_done0 v_r0_thrown v_r0_refusals v_r0_letters v_r0_letterMany v_r0_at v_r0_isBad v_r0_statements v_r0_placeIn v_r0_letterOf v_r0_told v_r0_kept v_r0_imaged v_r0_hasImage v_r0_place0 v_r0_isTaking v_r0_keptIn v_r0_turns0 v_r0_turnOf v_r0_turned v_r0_likely0 v_r0_leftThen v_r0_row v_r0_rowMany v_r0_seed o) := by
  unfold F_M_layOrder at hr
  refine ⟨rfl, fun sz => ct_of (w0 := (w_M_layOrder cI a_r0 a_r0_order0 v_r0_weights v_r0_things v_r0_kinds v_r0_figures v_r0_days v_r0_hampers v_r0_wants0 v_r0_left0 v_r0_done0 v_r0_thrown v_r0_refusals v_r0_letters v_r0_letterMany v_r0_at v_r0_isBad v_r0_statements v_r0_placeIn v_r0_letterOf v_r0_told v_r0_kept v_r0_imaged v_r0_hasImage v_r0_place0 v_r0_isTaking v_r0_keptIn v_r0_turns0 v_r0_turnOf v_r0_turned v_r0_likely0 v_r0_leftThen v_r0_row v_r0_rowMany v_r0_seed r0_order0)) (Qc := fun A => qV D (w_M_layOrder cI a_r0 a_r0_order0 v_r0_weights v_r0_things v_r0_kinds v_r0_figures v_r0_days v_r0_hampers v_r0_wants0 v_r0_left0 v_r0_done0 v_r0_thrown v_r0_refusals v_r0_letters v_r0_letterMany v_r0_at v_r0_isBad v_r0_statements v_r0_placeIn v_r0_letterOf v_r0_told v_r0_kept v_r0_imaged v_r0_hasImage v_r0_place0 v_r0_isTaking v_r0_keptIn v_r0_turns0 v_r0_turnOf v_r0_turned v_r0_likely0 v_r0_leftThen v_r0_row v_r0_rowMany v_r0_seed o) A) rfl (Nat.le_of_ble_eq_true rfl) ?_ sz⟩
  intro p e s m below meth c A hA C hret ls hl hW
  have C : cx p s m ([.ref a_r0, .int x1, .int x2] : List Value).toArray meth c b_M_layOrder 9 R_M D (kTy cI cS) (Cond.code y_M_layOrder b_M_layOrder 9 none) := C
  obtain ⟨hx, hb, hml, hown, hts, hK, hlk, hN⟩ := id C
  have hl : lv_has ls 9 [(0, .ref a_r0), (1, .int x1), (2, .int x2)] := hl
  obtain ⟨Q, hQ⟩ : ∃ Q, Q = MQ below (qV D (w_M_layOrder cI a_r0 a_r0_order0 v_r0_weights v_r0_things v_r0_kinds v_r0_figures v_r0_days v_r0_hampers v_r0_wants0 v_r0_left0 v_r0_done0 v_r0_thrown v_r0_refusals v_r0_letters v_r0_letterMany v_r0_at v_r0_isBad v_r0_statements v_r0_placeIn v_r0_letterOf v_r0_told v_r0_kept v_r0_imaged v_r0_hasImage v_r0_place0 v_r0_isTaking v_r0_keptIn v_r0_turns0 v_r0_turnOf v_r0_turned v_r0_likely0 v_r0_leftThen v_r0_row v_r0_rowMany v_r0_seed o) A) ([.ref a_r0, .int x1, .int x2] : List Value).toArray s 0 0 A := ⟨_, rfl⟩
  rw [← hQ]
  refine lv_iload_n hx hb d_M_layOrder_0 rfl (lv_at hl 1 rfl) ?_
  refine lv_istore_n (lv' := [(3, .int x1), (0, .ref a_r0), (1, .int x1), (2, .int x2)]) hx hb d_M_layOrder_1 rfl hl (by decide) rfl (fun ls hl => ?_)
  refine lv_iconst (v := 0) hx hb d_M_layOrder_2 (by decide) ?_
  refine lv_istore (lv' := [(4, .int 0), (3, .int x1), (0, .ref a_r0), (1, .int x1), (2, .int x2)]) hx hb d_M_layOrder_3 hl (by decide) rfl (fun ls hl => ?_)
  refine lv_iconst (v := 0) hx hb d_M_layOrder_5 (by decide) ?_
  refine lv_istore (lv' := [(5, .int 0), (4, .int 0), (3, .int x1), (0, .ref a_r0), (1, .int x1), (2, .int x2)]) hx hb d_M_layOrder_6 hl (by decide) rfl (fun ls hl => ?_)
  obtain ⟨ex_1, hw_1, hk_1⟩ := ob hr
  have hx_1 : ∀ (e_1 : (Nat → Int32)), e_1 = ex_1 → ∀ (H : Heap) (locs : List Loc) (ls : Array Slot), wd A s.heap D (w_M_layOrder cI a_r0 a_r0_order0 v_r0_weights v_r0_things v_r0_kinds v_r0_figures v_r0_days v_r0_hampers v_r0_wants0 v_r0_left0 v_r0_done0 v_r0_thrown v_r0_refusals v_r0_letters v_r0_letterMany v_r0_at v_r0_isBad v_r0_statements v_r0_placeIn v_r0_letterOf v_r0_told v_r0_kept v_r0_imaged v_r0_hasImage v_r0_place0 v_r0_isTaking v_r0_keptIn v_r0_turns0 v_r0_turnOf v_r0_turned v_r0_likely0 v_r0_leftThen v_r0_row v_r0_rowMany v_r0_seed e_1) H locs → lv_has ls 9 [] → W p l e (rmd 1) s m ([.ref a_r0, .int x1, .int x2] : List Value).toArray below meth c H locs 0 0 Q (F0 m 104 ls []) := by
    intro e_1 hE H locs ls hW hl
    subst hE; have hr := hk_1
    obtain rfl := Option.some.inj hr
    rw [hQ]; exact k_vret C hret hW d_M_layOrder_104
  have hl_1 : ∀ (k : Nat) (y3_1 : Int32) (y4_1 : Int32) (y5_1 : Int32) (r0_order0_1 : Nat → Int32), wh (fun (s : (Int32) × (Int32) × (Int32) × (Nat → Int32)) => F_M_layOrder_L8 x2 s.1 s.2.1 s.2.2.1 s.2.2.2) k (y3_1, y4_1, y5_1, r0_order0_1) = some ex_1 → ∀ (H : Heap) (locs : List Loc) (ls : Array Slot), wd A s.heap D (w_M_layOrder cI a_r0 a_r0_order0 v_r0_weights v_r0_things v_r0_kinds v_r0_figures v_r0_days v_r0_hampers v_r0_wants0 v_r0_left0 v_r0_done0 v_r0_thrown v_r0_refusals v_r0_letters v_r0_letterMany v_r0_at v_r0_isBad v_r0_statements v_r0_placeIn v_r0_letterOf v_r0_told v_r0_kept v_r0_imaged v_r0_hasImage v_r0_place0 v_r0_isTaking v_r0_keptIn v_r0_turns0 v_r0_turnOf v_r0_turned v_r0_likely0 v_r0_leftThen v_r0_row v_r0_rowMany v_r0_seed r0_order0_1) H locs → lv_has ls 9 [(0, .ref a_r0), (2, .int x2), (3, .int y3_1), (4, .int y4_1), (5, .int y5_1)] → W p l e (rmd 1) s m ([.ref a_r0, .int x1, .int x2] : List Value).toArray below meth c H locs 0 0 Q (F0 m 8 ls []) := by
    intro k
    induction k with
    | zero => intro y3_1 y4_1 y5_1 r0_order0_1 hw; exact absurd hw wh_0
    | succ k ih_1 =>
      intro y3_1 y4_1 y5_1 r0_order0_1 hw H locs ls hW hl
      obtain ⟨z_1, hr, hz1_1, hz2_1⟩ := wh_s hw
      have hr : F_M_layOrder_L8 x2 y3_1 y4_1 y5_1 r0_order0_1 = some z_1 := hr
      unfold F_M_layOrder_L8 at hr
      refine lv_iload hx hb d_M_layOrder_8 (lv_at hl 4 rfl) ?_
      refine lv_iload_n hx hb d_M_layOrder_10 rfl (lv_at hl 1 rfl) ?_
      refine lv_icmp_ge (tgt := 104) hx hb d_M_layOrder_11 (by decide) (fun c_2 => ?_) (fun c_2 => ?_)
      · replace hr := ip c_2 hr
        exact hx_1 _ (hz2_1 _ (Option.some.inj hr).symm) _ _ _ hW (lv_sub hl [] rfl)
      · replace hr := iN c_2 hr
        refine lv_iload_n hx hb d_M_layOrder_14 rfl (lv_at hl 1 rfl) ?_
        refine lv_iconst (v := 1) hx hb d_M_layOrder_15 (by decide) ?_
        refine lv_isub hx hb d_M_layOrder_16 ?_
        refine lv_iload hx hb d_M_layOrder_17 (lv_at hl 4 rfl) ?_
        refine lv_isub hx hb d_M_layOrder_19 ?_
        obtain ⟨q_3, hc_3, hr⟩ := ob hr
        have ct_3 := C_M_ordersOf l D cI cS ((x2 - 1) - y5_1) q_3 hc_3
        refine k_goIp hA hW [] rfl rfl (k_runS C hA hW mw_M_ordersOf ms_M_ordersOf (ct_3.2 _) [] rfl rfl qm_M_243 ⟨Nat.le_of_ble_eq_true rfl, Nat.le_of_ble_eq_true rfl, Nat.zero_le _, Nat.zero_le _⟩ rfl rfl (Nat.le_of_ble_eq_true rfl) hl.1 d_M_layOrder_20) (fun H locs hW => ?_)
        refine lv_istore (lv' := [(6, .int q_3), (0, .ref a_r0), (2, .int x2), (3, .int y3_1), (4, .int y4_1), (5, .int y5_1)]) hx hb d_M_layOrder_23 hl (by decide) rfl (fun ls hl => ?_)
        refine lv_iload_n hx hb d_M_layOrder_25 rfl (lv_at hl 3 rfl) ?_
        refine lv_iload hx hb d_M_layOrder_26 (lv_at hl 0 rfl) ?_
        obtain ⟨h_4, hr⟩ := ck0_some hr
        refine lv_idiv hx hb d_M_layOrder_28 h_4 ?_
        refine lv_istore (lv' := [(7, .int (y3_1 / q_3)), (6, .int q_3), (0, .ref a_r0), (2, .int x2), (3, .int y3_1), (4, .int y4_1), (5, .int y5_1)]) hx hb d_M_layOrder_29 hl (by decide) rfl (fun ls hl => ?_)
        refine lv_iload_n hx hb d_M_layOrder_31 rfl (lv_at hl 4 rfl) ?_
        refine lv_iload hx hb d_M_layOrder_32 (lv_at hl 1 rfl) ?_
        obtain ⟨h_5, hr⟩ := ck0_some hr
        refine lv_irem hx hb d_M_layOrder_34 h_5 ?_
        refine lv_istore_n (lv' := [(3, .int (y3_1 - y3_1 / q_3 * q_3)), (7, .int (y3_1 / q_3)), (6, .int q_3), (0, .ref a_r0), (2, .int x2), (4, .int y4_1), (5, .int y5_1)]) hx hb d_M_layOrder_35 rfl hl (by decide) rfl (fun ls hl => ?_)
        refine lv_iconst (v := 0) hx hb d_M_layOrder_36 (by decide) ?_
        refine lv_istore (lv' := [(8, .int 0), (3, .int (y3_1 - y3_1 / q_3 * q_3)), (7, .int (y3_1 / q_3)), (6, .int q_3), (0, .ref a_r0), (2, .int x2), (4, .int y4_1), (5, .int y5_1)]) hx hb d_M_layOrder_37 hl (by decide) rfl (fun ls hl => ?_)
        obtain ⟨ex_6, hw_6, hk_6⟩ := ob hr
        have hx_6 : ∀ (e_6 : (Int32)), e_6 = ex_6 → ∀ (H : Heap) (locs : List Loc) (ls : Array Slot), wd A s.heap D (w_M_layOrder cI a_r0 a_r0_order0 v_r0_weights v_r0_things v_r0_kinds v_r0_figures v_r0_days v_r0_hampers v_r0_wants0 v_r0_left0 v_r0_done0 v_r0_thrown v_r0_refusals v_r0_letters v_r0_letterMany v_r0_at v_r0_isBad v_r0_statements v_r0_placeIn v_r0_letterOf v_r0_told v_r0_kept v_r0_imaged v_r0_hasImage v_r0_place0 v_r0_isTaking v_r0_keptIn v_r0_turns0 v_r0_turnOf v_r0_turned v_r0_likely0 v_r0_leftThen v_r0_row v_r0_rowMany v_r0_seed r0_order0_1) H locs → lv_has ls 9 [(3, .int (y3_1 - y3_1 / q_3 * q_3)), (0, .ref a_r0), (2, .int x2), (4, .int y4_1), (5, .int y5_1), (8, .int e_6)] → W p l e (rmd 1) s m ([.ref a_r0, .int x1, .int x2] : List Value).toArray below meth c H locs 0 0 Q (F0 m 80 ls []) := by
          intro e_6 hE H locs ls hW hl
          subst hE; have hr := hk_6
          refine lv_aload_n hx hb d_M_layOrder_80 rfl (lv_at hl 1 rfl) ?_
          refine k_get i_M C hW 0 rfl rfl 28 (by decide) qf_M_55 rfl rfl d_M_layOrder_81 ?_
          refine lv_iload hx hb d_M_layOrder_84 (lv_at hl 4 rfl) ?_
          refine lv_iload hx hb d_M_layOrder_86 (lv_at hl 5 rfl) ?_
          obtain ⟨h_13, hr⟩ := ck_some hr
          refine k_iast C hW 1 rfl h_13 (ws' := (w_M_layOrder cI a_r0 a_r0_order0 v_r0_weights v_r0_things v_r0_kinds v_r0_figures v_r0_days v_r0_hampers v_r0_wants0 v_r0_left0 v_r0_done0 v_r0_thrown v_r0_refusals v_r0_letters v_r0_letterMany v_r0_at v_r0_isBad v_r0_statements v_r0_placeIn v_r0_letterOf v_r0_told v_r0_kept v_r0_imaged v_r0_hasImage v_r0_place0 v_r0_isTaking v_r0_keptIn v_r0_turns0 v_r0_turnOf v_r0_turned v_r0_likely0 v_r0_leftThen v_r0_row v_r0_rowMany v_r0_seed (upd r0_order0_1 (Int32.toNatClampNeg y5_1) e_6))) rfl d_M_layOrder_88 (fun H locs hW => ?_)
          refine lv_iload hx hb d_M_layOrder_89 (lv_at hl 3 rfl) ?_
          refine lv_iconst (v := 1) hx hb d_M_layOrder_91 (by decide) ?_
          refine lv_iload hx hb d_M_layOrder_92 (lv_at hl 5 rfl) ?_
          refine lv_ishl hx hb d_M_layOrder_94 ?_
          refine lv_ior hx hb d_M_layOrder_95 ?_
          refine lv_istore (lv' := [(4, .int (y4_1 ||| ((1 : Int32) <<< ((e_6 : Int32) &&& 31)))), (3, .int (y3_1 - y3_1 / q_3 * q_3)), (0, .ref a_r0), (2, .int x2), (5, .int y5_1), (8, .int e_6)]) hx hb d_M_layOrder_96 hl (by decide) rfl (fun ls hl => ?_)
          refine lv_iinc (v := (y5_1 + 1)) (lv' := [(5, .int (y5_1 + 1)), (4, .int (y4_1 ||| ((1 : Int32) <<< ((e_6 : Int32) &&& 31)))), (3, .int (y3_1 - y3_1 / q_3 * q_3)), (0, .ref a_r0), (2, .int x2), (8, .int e_6)]) hx hb d_M_layOrder_98 hl (k := 4) rfl rfl (by decide) rfl (fun ls hl => ?_)
          refine lv_goto (tgt := 8) hx hb d_M_layOrder_101 (by decide) ?_
          exact ih_1 (y3_1 - y3_1 / q_3 * q_3) (y4_1 ||| ((1 : Int32) <<< ((e_6 : Int32) &&& 31))) (y5_1 + 1) (upd r0_order0_1 (Int32.toNatClampNeg y5_1) e_6) (hz1_1 _ (Option.some.inj hr).symm) _ _ _ hW (lv_sub hl [3, 4, 2, 1, 0] rfl)
        have hl_6 : ∀ (k : Nat) (y7_6 : Int32) (y8_6 : Int32), wh (fun (s : (Int32) × (Int32)) => F_M_layOrder_L39 y4_1 s.1 s.2) k (y7_6, y8_6) = some ex_6 → ∀ (H : Heap) (locs : List Loc) (ls : Array Slot), wd A s.heap D (w_M_layOrder cI a_r0 a_r0_order0 v_r0_weights v_r0_things v_r0_kinds v_r0_figures v_r0_days v_r0_hampers v_r0_wants0 v_r0_left0 v_r0_done0 v_r0_thrown v_r0_refusals v_r0_letters v_r0_letterMany v_r0_at v_r0_isBad v_r0_statements v_r0_placeIn v_r0_letterOf v_r0_told v_r0_kept v_r0_imaged v_r0_hasImage v_r0_place0 v_r0_isTaking v_r0_keptIn v_r0_turns0 v_r0_turnOf v_r0_turned v_r0_likely0 v_r0_leftThen v_r0_row v_r0_rowMany v_r0_seed r0_order0_1) H locs → lv_has ls 9 [(3, .int (y3_1 - y3_1 / q_3 * q_3)), (0, .ref a_r0), (2, .int x2), (4, .int y4_1), (5, .int y5_1), (7, .int y7_6), (8, .int y8_6)] → W p l e (rmd 1) s m ([.ref a_r0, .int x1, .int x2] : List Value).toArray below meth c H locs 0 0 Q (F0 m 39 ls []) := by
          intro k
          induction k with
          | zero => intro y7_6 y8_6 hw; exact absurd hw wh_0
          | succ k ih_6 =>
            intro y7_6 y8_6 hw H locs ls hW hl
            obtain ⟨z_6, hr, hz1_6, hz2_6⟩ := wh_s hw
            have hr : F_M_layOrder_L39 y4_1 y7_6 y8_6 = some z_6 := hr
            unfold F_M_layOrder_L39 at hr
            refine lv_iload hx hb d_M_layOrder_39 (lv_at hl 3 rfl) ?_
            refine lv_iload hx hb d_M_layOrder_41 (lv_at hl 6 rfl) ?_
            obtain ⟨q_7, hc_7, hr⟩ := ob hr
            have ct_7 := C_M_hasBit l D cI cS y4_1 y8_6 q_7 hc_7
            refine k_goIp hA hW [] rfl rfl (k_runS C hA hW mw_M_hasBit ms_M_hasBit (ct_7.2 _) [] rfl rfl qm_M_85 ⟨Nat.le_of_ble_eq_true rfl, Nat.le_of_ble_eq_true rfl, Nat.zero_le _, Nat.zero_le _⟩ rfl rfl (Nat.le_of_ble_eq_true rfl) hl.1 d_M_layOrder_43) (fun H locs hW => ?_)
            have hJ_9 : ∀ (_ : Unit), F_M_layOrder_J54_9 y4_1 y7_6 y8_6 = some z_6 → ∀ (H : Heap) (locs : List Loc) (ls : Array Slot), wd A s.heap D (w_M_layOrder cI a_r0 a_r0_order0 v_r0_weights v_r0_things v_r0_kinds v_r0_figures v_r0_days v_r0_hampers v_r0_wants0 v_r0_left0 v_r0_done0 v_r0_thrown v_r0_refusals v_r0_letters v_r0_letterMany v_r0_at v_r0_isBad v_r0_statements v_r0_placeIn v_r0_letterOf v_r0_told v_r0_kept v_r0_imaged v_r0_hasImage v_r0_place0 v_r0_isTaking v_r0_keptIn v_r0_turns0 v_r0_turnOf v_r0_turned v_r0_likely0 v_r0_leftThen v_r0_row v_r0_rowMany v_r0_seed r0_order0_1) H locs → lv_has ls 9 [(0, .ref a_r0), (2, .int x2), (3, .int (y3_1 - y3_1 / q_3 * q_3)), (4, .int y4_1), (5, .int y5_1), (7, .int y7_6), (8, .int y8_6)] → W p l e (rmd 1) s m ([.ref a_r0, .int x1, .int x2] : List Value).toArray below meth c H locs 0 0 Q (F0 m 54 ls []) := by
              intro _ hr H locs ls hW hl
              unfold F_M_layOrder_J54_9 at hr
              refine lv_iload hx hb d_M_layOrder_54 (lv_at hl 5 rfl) ?_
              refine lv_iload hx hb d_M_layOrder_56 (lv_at hl 3 rfl) ?_
              refine lv_iload hx hb d_M_layOrder_58 (lv_at hl 6 rfl) ?_
              obtain ⟨q_10, hc_10, hr⟩ := ob hr
              have ct_10 := C_M_hasBit l D cI cS y4_1 y8_6 q_10 hc_10
              refine k_goIp hA hW [] rfl rfl (k_runS C hA hW mw_M_hasBit ms_M_hasBit (ct_10.2 _) [] rfl rfl qm_M_85 ⟨Nat.le_of_ble_eq_true rfl, Nat.le_of_ble_eq_true rfl, Nat.zero_le _, Nat.zero_le _⟩ rfl rfl (Nat.le_of_ble_eq_true rfl) hl.1 d_M_layOrder_60) (fun H locs hW => ?_)
              refine lv_if_eq (tgt := 70) hx hb d_M_layOrder_63 (by decide) (fun c_11 => ?_) (fun c_11 => ?_)
              · replace hr := ip c_11 hr
                refine lv_iconst (v := 1) hx hb d_M_layOrder_70 (by decide) ?_
                refine lv_isub hx hb d_M_layOrder_71 ?_
                refine lv_istore (lv' := [(7, .int (y7_6 - 1)), (0, .ref a_r0), (2, .int x2), (3, .int (y3_1 - y3_1 / q_3 * q_3)), (4, .int y4_1), (5, .int y5_1), (8, .int y8_6)]) hx hb d_M_layOrder_72 hl (by decide) rfl (fun ls hl => ?_)
                refine lv_iinc (v := (y8_6 + 1)) (lv' := [(8, .int (y8_6 + 1)), (7, .int (y7_6 - 1)), (0, .ref a_r0), (2, .int x2), (3, .int (y3_1 - y3_1 / q_3 * q_3)), (4, .int y4_1), (5, .int y5_1)]) hx hb d_M_layOrder_74 hl (k := 6) rfl rfl (by decide) rfl (fun ls hl => ?_)
                refine lv_goto (tgt := 39) hx hb d_M_layOrder_77 (by decide) ?_
                exact ih_6 (y7_6 - 1) (y8_6 + 1) (hz1_6 _ (Option.some.inj hr).symm) _ _ _ hW (lv_sub hl [4, 2, 3, 5, 6, 1, 0] rfl)
              · replace hr := iN c_11 hr
                refine lv_iconst (v := 0) hx hb d_M_layOrder_66 (by decide) ?_
                refine lv_goto (tgt := 71) hx hb d_M_layOrder_67 (by decide) ?_
                refine lv_isub hx hb d_M_layOrder_71 ?_
                refine lv_istore (lv' := [(7, .int (y7_6 - 0)), (0, .ref a_r0), (2, .int x2), (3, .int (y3_1 - y3_1 / q_3 * q_3)), (4, .int y4_1), (5, .int y5_1), (8, .int y8_6)]) hx hb d_M_layOrder_72 hl (by decide) rfl (fun ls hl => ?_)
                refine lv_iinc (v := (y8_6 + 1)) (lv' := [(8, .int (y8_6 + 1)), (7, .int (y7_6 - 0)), (0, .ref a_r0), (2, .int x2), (3, .int (y3_1 - y3_1 / q_3 * q_3)), (4, .int y4_1), (5, .int y5_1)]) hx hb d_M_layOrder_74 hl (k := 6) rfl rfl (by decide) rfl (fun ls hl => ?_)
                refine lv_goto (tgt := 39) hx hb d_M_layOrder_77 (by decide) ?_
                exact ih_6 (y7_6 - 0) (y8_6 + 1) (hz1_6 _ (Option.some.inj hr).symm) _ _ _ hW (lv_sub hl [4, 2, 3, 5, 6, 1, 0] rfl)
            refine lv_if_ne (tgt := 54) hx hb d_M_layOrder_46 (by decide) (fun c_8 => ?_) (fun c_8 => ?_)
            · replace hr := iN c_8 hr
              exact hJ_9 () hr _ _ _ hW (lv_sub hl [1, 2, 0, 3, 4, 5, 6] rfl)
            · replace hr := ip c_8 hr
              refine lv_iload hx hb d_M_layOrder_49 (lv_at hl 5 rfl) ?_
              refine lv_if_le (tgt := 80) hx hb d_M_layOrder_51 (by decide) (fun c_12 => ?_) (fun c_12 => ?_)
              · replace hr := ip c_12 hr
                exact hx_6 _ (hz2_6 _ (Option.some.inj hr).symm) _ _ _ hW (lv_sub hl [0, 1, 2, 3, 4, 6] rfl)
              · replace hr := iN c_12 hr
                exact hJ_9 () hr _ _ _ hW (lv_sub hl [1, 2, 0, 3, 4, 5, 6] rfl)
        exact hl_6 _ (y3_1 / q_3) 0 hw_6 _ _ _ hW (lv_sub hl [1, 4, 5, 6, 7, 2, 0] rfl)
  exact hl_1 _ x1 0 0 r0_order0 hw_1 _ _ _ hW (lv_sub hl [3, 5, 2, 1, 0] rfl)
def w_M_lightest (cI : ClassId) (a_r0 : Nat) (a_r0_figures : Nat) (a_r0_hampers : Nat) (a_r0_kinds : Nat) (a_r0_refusals : Nat) (v_r0_weights v_r0_wants0 v_r0_left0 v_r0_done0 v_r0_letters v_r0_letterMany v_r0_at v_r0_isBad v_r0_statements v_r0_placeIn v_r0_letterOf v_r0_told v_r0_kept v_r0_imaged v_r0_hasImage v_r0_place0 v_r0_isTaking v_r0_keptIn v_r0_turns0 v_r0_turnOf v_r0_turned v_r0_order0 v_r0_likely0 v_r0_leftThen v_r0_row v_r0_rowMany v_r0_seed : Value) (r0_days : Int32) (r0_things : Int32) (r0_thrown : Int32) (r0_figures : Nat → Int32) (r0_hampers : Nat → Int32) (r0_kinds : Nat → Int32) (r0_refusals : Nat → Int32) : va_W := [(a_r0, .inr (9, [v_r0_weights, .int r0_things, .ref a_r0_kinds, .ref a_r0_figures, .int r0_days, .ref a_r0_hampers, v_r0_wants0, v_r0_left0, v_r0_done0, .int r0_thrown, .ref a_r0_refusals, v_r0_letters, v_r0_letterMany, v_r0_at, v_r0_isBad, v_r0_statements, v_r0_placeIn, v_r0_letterOf, v_r0_told, v_r0_kept, v_r0_imaged, v_r0_hasImage, v_r0_place0, v_r0_isTaking, v_r0_keptIn, v_r0_turns0, v_r0_turnOf, v_r0_turned, v_r0_order0, v_r0_likely0, v_r0_leftThen, v_r0_row, v_r0_rowMany, v_r0_seed])), (a_r0_figures, .inl (cI, 8, .inl r0_figures)), (a_r0_hampers, .inl (cI, 8, .inl r0_hampers)), (a_r0_kinds, .inl (cI, 8, .inl r0_kinds)), (a_r0_refusals, .inl (cI, 7, .inl r0_refusals))]
def F_M_lightest_J81_10 (y3_3 : Int32) (y4_3 : Int32) (q_6 : Int32) (s0_8 : Int32) (s0_10 : Int32) : Option (((Int32) × (Int32) × (Int32)) ⊕ ((Int32) × (Int32))) :=
  (if s0_8 = 0 then (some (.inl (s0_10, y3_3, (y4_3 + 1)))) else (some (.inl (s0_10, q_6, (y4_3 + 1)))))
def F_M_lightest_J68_8 (y2_3 : Int32) (y3_3 : Int32) (y4_3 : Int32) (q_6 : Int32) (s0_8 : Int32) : Option (((Int32) × (Int32) × (Int32)) ⊕ ((Int32) × (Int32))) :=
  (if s0_8 = 0 then (F_M_lightest_J81_10 y3_3 y4_3 q_6 s0_8 y2_3) else (F_M_lightest_J81_10 y3_3 y4_3 q_6 s0_8 y4_3))
def F_M_lightest_J63_12 (y2_3 : Int32) (y3_3 : Int32) (y4_3 : Int32) (q_6 : Int32) : Option (((Int32) × (Int32) × (Int32)) ⊕ ((Int32) × (Int32))) :=
  (F_M_lightest_J68_8 y2_3 y3_3 y4_3 q_6 1)
def F_M_lightest_L31 (r0_days : Int32) (r0_things : Int32) (r0_figures : Nat → Int32) (r0_hampers : Nat → Int32) (r0_kinds : Nat → Int32) (y2_3 : Int32) (y3_3 : Int32) (y4_3 : Int32) : Option (((Int32) × (Int32) × (Int32)) ⊕ ((Int32) × (Int32))) :=
  (if r0_days ≤ y4_3 then (some (.inr (y2_3, y3_3))) else (ck y4_3 8 ((F_M_allHeavy r0_things r0_figures r0_kinds (r0_hampers (Int32.toNatClampNeg y4_3))).bind (fun q_6 => (if y3_3 < 0 then (F_M_lightest_J63_12 y2_3 y3_3 y4_3 q_6) else (if y3_3 ≤ q_6 then (F_M_lightest_J68_8 y2_3 y3_3 y4_3 q_6 0) else (F_M_lightest_J63_12 y2_3 y3_3 y4_3 q_6)))))))
def F_M_lightest (r0_days : Int32) (r0_things : Int32) (r0_figures : Nat → Int32) (r0_hampers : Nat → Int32) (r0_kinds : Nat → Int32) (r0_refusals : Nat → Int32) (x1 : Int32) : Option (Int32 × (Int32) × (Nat → Int32)) :=
  ((F_M_in (Int32.toInt64 x1) (0 : Int64) (1 : Int64)).bind (fun q_1 => (if q_1 = 0 then ((F_M_refuse r0_refusals ((-2) : Int32)).bind (fun q_15 => (some (q_15.1, 0, q_15.2)))) else ((wh (fun (s : (Int32) × (Int32) × (Int32)) => F_M_lightest_L31 r0_days r0_things r0_figures r0_hampers r0_kinds s.1 s.2.1 s.2.2) 400 (((-9) : Int32), ((-9) : Int32), (0 : Int32))).bind (fun e_3 => (if x1 = 0 then (some (e_3.1, 0, r0_refusals)) else (some (e_3.2, 0, r0_refusals))))))))
set_option maxHeartbeats 4000000 in
set_option maxRecDepth 100000 in
theorem C_M_lightest (l : Launch) (D : va_G) (cI cS : ClassId) (a_r0 : Nat) (a_r0_figures : Nat) (a_r0_hampers : Nat) (a_r0_kinds : Nat) (a_r0_refusals : Nat) (v_r0_weights v_r0_wants0 v_r0_left0 v_r0_done0 v_r0_letters v_r0_letterMany v_r0_at v_r0_isBad v_r0_statements v_r0_placeIn v_r0_letterOf v_r0_told v_r0_kept v_r0_imaged v_r0_hasImage v_r0_place0 v_r0_isTaking v_r0_keptIn v_r0_turns0 v_r0_turnOf v_r0_turned v_r0_order0 v_r0_likely0 v_r0_leftThen v_r0_row v_r0_rowMany v_r0_seed : Value) (r0_days : Int32) (r0_things : Int32) (r0_thrown : Int32) (r0_figures : Nat → Int32) (r0_hampers : Nat → Int32) (r0_kinds : Nat → Int32) (r0_refusals : Nat → Int32) (x1 : Int32) (o : Int32 × (Int32) × (Nat → Int32)) (hr : F_M_lightest r0_days r0_things r0_figures r0_hampers r0_kinds r0_refusals x1 = some o) : ctI l y_M_lightest (Cond.code y_M_lightest b_M_lightest 7 (some FieldType.int)) (rmd 2) D (kTy cI cS) [.ref a_r0, .int x1] (w_M_lightest cI a_r0 a_r0_figures a_r0_hampers a_r0_kinds a_r0_refusals v_r0_weights v_r0_wants0 v_r0_left0 v_r0_done0 v_r0_letters v_r0_letterMany v_r0_at v_r0_isBad v_r0_statements v_r0_placeIn v_r0_letterOf v_r0_told v_r0_kept v_r0_imaged v_r0_hasImage v_r0_place0 v_r0_isTaking v_r0_keptIn v_r0_turns0 v_r0_turnOf v_r0_turned v_r0_order0 v_r0_likely0 v_r0_leftThen v_r0_row v_r0_rowMany v_r0_seed r0_days r0_things r0_thrown r0_figures r0_hampers r0_kinds r0_refusals) (w_M_lightest cI a_r0 a_r0_figures a_r0_hampers a_r0_kinds a_r0_refusals v_r0_weights v_r0_wants0 v_r0_left0 v_r0_done0 v_r0_letters v_r0_letterMany v_r0_at v_r0_isBad v_r0_statements v_r0_placeIn v_r0_letterOf v_r0_told v_r0_kept v_r0_imaged v_r0_hasImage v_r0_place0 v_r0_isTaking v_r0_keptIn v_r0_turns0 v_r0_turnOf v_r0_turned v_r0_order0 v_r0_likely0 v_r0_leftThen v_r0_row v_r0_rowMany v_r0_seed r0_days r0_things o.2.1 r0_figures r0_hampers r0_kinds o.2.2) o.1 := by
  unfold F_M_lightest at hr
  refine ⟨rfl, fun sz => ct_of (w0 := (w_M_lightest cI a_r0 a_r0_figures a_r0_hampers a_r0_kinds a_r0_refusals v_r0_weights v_r0_wants0 v_r0_left0 v_r0_done0 v_r0_letters v_r0_letterMany v_r0_at v_r0_isBad v_r0_statements v_r0_placeIn v_r0_letterOf v_r0_told v_r0_kept v_r0_imaged v_r0_hasImage v_r0_place0 v_r0_isTaking v_r0_keptIn v_r0_turns0 v_r0_turnOf v_r0_turned v_r0_order0 v_r0_likely0 v_r0_leftThen v_r0_row v_r0_rowMany v_r0_seed r0_days r0_things r0_thrown r0_figures r0_hampers r0_kinds r0_refusals)) (Qc := fun A => qI D (w_M_lightest cI a_r0 a_r0_figures a_r0_hampers a_r0_kinds a_r0_refusals v_r0_weights v_r0_wants0 v_r0_left0 v_r0_done0 v_r0_letters v_r0_letterMany v_r0_at v_r0_isBad v_r0_statements v_r0_placeIn v_r0_letterOf v_r0_told v_r0_kept v_r0_imaged v_r0_hasImage v_r0_place0 v_r0_isTaking v_r0_keptIn v_r0_turns0 v_r0_turnOf v_r0_turned v_r0_order0 v_r0_likely0 v_r0_leftThen v_r0_row v_r0_rowMany v_r0_seed r0_days r0_things o.2.1 r0_figures r0_hampers r0_kinds o.2.2) o.1 A) rfl (Nat.le_of_ble_eq_true rfl) ?_ sz⟩
  intro p e s m below meth c A hA C hret ls hl hW
  have C : cx p s m ([.ref a_r0, .int x1] : List Value).toArray meth c b_M_lightest 7 R_M D (kTy cI cS) (Cond.code y_M_lightest b_M_lightest 7 (some FieldType.int)) := C
  obtain ⟨hx, hb, hml, hown, hts, hK, hlk, hN⟩ := id C
  have hl : lv_has ls 7 [(0, .ref a_r0), (1, .int x1)] := hl
  obtain ⟨Q, hQ⟩ : ∃ Q, Q = MQ below (qI D (w_M_lightest cI a_r0 a_r0_figures a_r0_hampers a_r0_kinds a_r0_refusals v_r0_weights v_r0_wants0 v_r0_left0 v_r0_done0 v_r0_letters v_r0_letterMany v_r0_at v_r0_isBad v_r0_statements v_r0_placeIn v_r0_letterOf v_r0_told v_r0_kept v_r0_imaged v_r0_hasImage v_r0_place0 v_r0_isTaking v_r0_keptIn v_r0_turns0 v_r0_turnOf v_r0_turned v_r0_order0 v_r0_likely0 v_r0_leftThen v_r0_row v_r0_rowMany v_r0_seed r0_days r0_things o.2.1 r0_figures r0_hampers r0_kinds o.2.2) o.1 A) ([.ref a_r0, .int x1] : List Value).toArray s 0 0 A := ⟨_, rfl⟩
  rw [← hQ]
  refine lv_aload_n hx hb d_M_lightest_0 rfl (lv_at hl 0 rfl) ?_
  refine lv_iconst (v := 0) hx hb d_M_lightest_1 (by decide) ?_
  refine k_put i_M t_M_ok n_M C hW 0 rfl rfl 9 (by decide) qf_M_67 rfl rfl (ty := .int) rfl rfl rfl (Nat.le_of_ble_eq_true rfl) (ws' := (w_M_lightest cI a_r0 a_r0_figures a_r0_hampers a_r0_kinds a_r0_refusals v_r0_weights v_r0_wants0 v_r0_left0 v_r0_done0 v_r0_letters v_r0_letterMany v_r0_at v_r0_isBad v_r0_statements v_r0_placeIn v_r0_letterOf v_r0_told v_r0_kept v_r0_imaged v_r0_hasImage v_r0_place0 v_r0_isTaking v_r0_keptIn v_r0_turns0 v_r0_turnOf v_r0_turned v_r0_order0 v_r0_likely0 v_r0_leftThen v_r0_row v_r0_rowMany v_r0_seed r0_days r0_things 0 r0_figures r0_hampers r0_kinds r0_refusals)) rfl d_M_lightest_2 (fun H locs hW => ?_)
  refine lv_iload_n hx hb d_M_lightest_5 rfl (lv_at hl 1 rfl) ?_
  refine lv_i2l hx hb d_M_lightest_6 rfl ?_
  refine lv_lconst (v := 0) hx hb d_M_lightest_7 (by decide) ?_
  refine lv_lconst (v := 1) hx hb d_M_lightest_8 (by decide) ?_
  obtain ⟨q_1, hc_1, hr⟩ := ob hr
  have ct_1 := C_M_in l D cI cS (Int32.toInt64 x1) 0 1 q_1 hc_1
  refine k_goIp hA hW [] rfl rfl (k_runS C hA hW mw_M_in ms_M_in (ct_1.2 _) [] rfl rfl qm_M_74 ⟨Nat.le_of_ble_eq_true rfl, Nat.le_of_ble_eq_true rfl, Nat.zero_le _, Nat.zero_le _⟩ rfl rfl (Nat.le_of_ble_eq_true rfl) hl.1 d_M_lightest_9) (fun H locs hW => ?_)
  refine lv_if_ne (tgt := 22) hx hb d_M_lightest_12 (by decide) (fun c_2 => ?_) (fun c_2 => ?_)
  · replace hr := iN c_2 hr
    refine lv_bipush (v := (-9)) hx hb d_M_lightest_22 (by decide) ?_
    refine lv_istore_n (lv' := [(2, .int (-9)), (0, .ref a_r0), (1, .int x1)]) hx hb d_M_lightest_24 rfl hl (by decide) rfl (fun ls hl => ?_)
    refine lv_bipush (v := (-9)) hx hb d_M_lightest_25 (by decide) ?_
    refine lv_istore_n (lv' := [(3, .int (-9)), (2, .int (-9)), (0, .ref a_r0), (1, .int x1)]) hx hb d_M_lightest_27 rfl hl (by decide) rfl (fun ls hl => ?_)
    refine lv_iconst (v := 0) hx hb d_M_lightest_28 (by decide) ?_
    refine lv_istore (lv' := [(4, .int 0), (3, .int (-9)), (2, .int (-9)), (0, .ref a_r0), (1, .int x1)]) hx hb d_M_lightest_29 hl (by decide) rfl (fun ls hl => ?_)
    obtain ⟨ex_3, hw_3, hk_3⟩ := ob hr
    have hx_3 : ∀ (e_3 : (Int32) × (Int32)), e_3 = ex_3 → ∀ (H : Heap) (locs : List Loc) (ls : Array Slot), wd A s.heap D (w_M_lightest cI a_r0 a_r0_figures a_r0_hampers a_r0_kinds a_r0_refusals v_r0_weights v_r0_wants0 v_r0_left0 v_r0_done0 v_r0_letters v_r0_letterMany v_r0_at v_r0_isBad v_r0_statements v_r0_placeIn v_r0_letterOf v_r0_told v_r0_kept v_r0_imaged v_r0_hasImage v_r0_place0 v_r0_isTaking v_r0_keptIn v_r0_turns0 v_r0_turnOf v_r0_turned v_r0_order0 v_r0_likely0 v_r0_leftThen v_r0_row v_r0_rowMany v_r0_seed r0_days r0_things 0 r0_figures r0_hampers r0_kinds r0_refusals) H locs → lv_has ls 7 [(1, .int x1), (2, .int e_3.1), (3, .int e_3.2)] → W p l e (rmd 2) s m ([.ref a_r0, .int x1] : List Value).toArray below meth c H locs 0 0 Q (F0 m 100 ls []) := by
      intro e_3 hE H locs ls hW hl
      subst hE; have hr := hk_3
      refine lv_iload_n hx hb d_M_lightest_100 rfl (lv_at hl 0 rfl) ?_
      refine lv_if_ne (tgt := 108) hx hb d_M_lightest_101 (by decide) (fun c_14 => ?_) (fun c_14 => ?_)
      · replace hr := iN c_14 hr
        refine lv_iload_n hx hb d_M_lightest_108 rfl (lv_at hl 2 rfl) ?_
        obtain rfl := Option.some.inj hr
        rw [hQ]; exact k_iret C hret hW d_M_lightest_109
      · replace hr := ip c_14 hr
        refine lv_iload_n hx hb d_M_lightest_104 rfl (lv_at hl 1 rfl) ?_
        refine lv_goto (tgt := 109) hx hb d_M_lightest_105 (by decide) ?_
        obtain rfl := Option.some.inj hr
        rw [hQ]; exact k_iret C hret hW d_M_lightest_109
    have hl_3 : ∀ (k : Nat) (y2_3 : Int32) (y3_3 : Int32) (y4_3 : Int32), wh (fun (s : (Int32) × (Int32) × (Int32)) => F_M_lightest_L31 r0_days r0_things r0_figures r0_hampers r0_kinds s.1 s.2.1 s.2.2) k (y2_3, y3_3, y4_3) = some ex_3 → ∀ (H : Heap) (locs : List Loc) (ls : Array Slot), wd A s.heap D (w_M_lightest cI a_r0 a_r0_figures a_r0_hampers a_r0_kinds a_r0_refusals v_r0_weights v_r0_wants0 v_r0_left0 v_r0_done0 v_r0_letters v_r0_letterMany v_r0_at v_r0_isBad v_r0_statements v_r0_placeIn v_r0_letterOf v_r0_told v_r0_kept v_r0_imaged v_r0_hasImage v_r0_place0 v_r0_isTaking v_r0_keptIn v_r0_turns0 v_r0_turnOf v_r0_turned v_r0_order0 v_r0_likely0 v_r0_leftThen v_r0_row v_r0_rowMany v_r0_seed r0_days r0_things 0 r0_figures r0_hampers r0_kinds r0_refusals) H locs → lv_has ls 7 [(0, .ref a_r0), (1, .int x1), (2, .int y2_3), (3, .int y3_3), (4, .int y4_3)] → W p l e (rmd 2) s m ([.ref a_r0, .int x1] : List Value).toArray below meth c H locs 0 0 Q (F0 m 31 ls []) := by
      intro k
      induction k with
      | zero => intro y2_3 y3_3 y4_3 hw; exact absurd hw wh_0
      | succ k ih_3 =>
        intro y2_3 y3_3 y4_3 hw H locs ls hW hl
        obtain ⟨z_3, hr, hz1_3, hz2_3⟩ := wh_s hw
        have hr : F_M_lightest_L31 r0_days r0_things r0_figures r0_hampers r0_kinds y2_3 y3_3 y4_3 = some z_3 := hr
        unfold F_M_lightest_L31 at hr
        refine lv_iload hx hb d_M_lightest_31 (lv_at hl 4 rfl) ?_
        refine lv_aload_n hx hb d_M_lightest_33 rfl (lv_at hl 0 rfl) ?_
        refine k_get i_M C hW 0 rfl rfl 4 (by decide) qf_M_78 rfl rfl d_M_lightest_34 ?_
        refine lv_icmp_ge (tgt := 100) hx hb d_M_lightest_37 (by decide) (fun c_4 => ?_) (fun c_4 => ?_)
        · replace hr := ip c_4 hr
          exact hx_3 _ (hz2_3 _ (Option.some.inj hr).symm) _ _ _ hW (lv_sub hl [1, 2, 3] rfl)
        · replace hr := iN c_4 hr
          refine lv_aload_n hx hb d_M_lightest_40 rfl (lv_at hl 0 rfl) ?_
          refine lv_aload_n hx hb d_M_lightest_41 rfl (lv_at hl 0 rfl) ?_
          refine k_get i_M C hW 0 rfl rfl 5 (by decide) qf_M_19 rfl rfl d_M_lightest_42 ?_
          refine lv_iload hx hb d_M_lightest_45 (lv_at hl 4 rfl) ?_
          obtain ⟨h_5, hr⟩ := ck_some hr
          refine k_iald C hW 2 rfl h_5 d_M_lightest_47 ?_
          obtain ⟨q_6, hc_6, hr⟩ := ob hr
          have ct_6 := C_M_allHeavy l D cI cS a_r0 a_r0_figures a_r0_kinds v_r0_weights (Value.int r0_days) (Value.ref a_r0_hampers) v_r0_wants0 v_r0_left0 v_r0_done0 (Value.int 0) (Value.ref a_r0_refusals) v_r0_letters v_r0_letterMany v_r0_at v_r0_isBad v_r0_statements v_r0_placeIn v_r0_letterOf v_r0_told v_r0_kept v_r0_imaged v_r0_hasImage v_r0_place0 v_r0_isTaking v_r0_keptIn v_r0_turns0 v_r0_turnOf v_r0_turned v_r0_order0 v_r0_likely0 v_r0_leftThen v_r0_row v_r0_rowMany v_r0_seed r0_things r0_figures r0_kinds (r0_hampers (Int32.toNatClampNeg y4_3)) q_6 hc_6
          refine k_goIp hA hW [0, 1, 3] rfl rfl (k_runV C hA hW mw_M_allHeavy mv_M_allHeavy (ct_6.2 _) [0, 1, 3] rfl rfl 0 rfl rfl qm_M_198 ⟨Nat.le_of_ble_eq_true rfl, Nat.le_of_ble_eq_true rfl, Nat.zero_le _, Nat.zero_le _⟩ rfl rfl (Nat.le_of_ble_eq_true rfl) hl.1 d_M_lightest_48) (fun H locs hW => ?_)
          refine lv_istore (lv' := [(5, .int q_6), (0, .ref a_r0), (1, .int x1), (2, .int y2_3), (3, .int y3_3), (4, .int y4_3)]) hx hb d_M_lightest_51 hl (by decide) rfl (fun ls hl => ?_)
          refine lv_iload_n hx hb d_M_lightest_53 rfl (lv_at hl 4 rfl) ?_
          have hJ_8 : ∀ (s0_8 : Int32), F_M_lightest_J68_8 y2_3 y3_3 y4_3 q_6 s0_8 = some z_3 → ∀ (H : Heap) (locs : List Loc) (ls : Array Slot), wd A s.heap D (w_M_lightest cI a_r0 a_r0_figures a_r0_hampers a_r0_kinds a_r0_refusals v_r0_weights v_r0_wants0 v_r0_left0 v_r0_done0 v_r0_letters v_r0_letterMany v_r0_at v_r0_isBad v_r0_statements v_r0_placeIn v_r0_letterOf v_r0_told v_r0_kept v_r0_imaged v_r0_hasImage v_r0_place0 v_r0_isTaking v_r0_keptIn v_r0_turns0 v_r0_turnOf v_r0_turned v_r0_order0 v_r0_likely0 v_r0_leftThen v_r0_row v_r0_rowMany v_r0_seed r0_days r0_things 0 r0_figures r0_hampers r0_kinds r0_refusals) H locs → lv_has ls 7 [(0, .ref a_r0), (1, .int x1), (2, .int y2_3), (3, .int y3_3), (4, .int y4_3), (5, .int q_6)] → W p l e (rmd 2) s m ([.ref a_r0, .int x1] : List Value).toArray below meth c H locs 0 0 Q (F0 m 68 ls [.int s0_8]) := by
            intro s0_8 hr H locs ls hW hl
            unfold F_M_lightest_J68_8 at hr
            refine lv_istore (lv' := [(6, .int s0_8), (0, .ref a_r0), (1, .int x1), (2, .int y2_3), (3, .int y3_3), (4, .int y4_3), (5, .int q_6)]) hx hb d_M_lightest_68 hl (by decide) rfl (fun ls hl => ?_)
            refine lv_iload hx hb d_M_lightest_70 (lv_at hl 0 rfl) ?_
            have hJ_10 : ∀ (s0_10 : Int32), F_M_lightest_J81_10 y3_3 y4_3 q_6 s0_8 s0_10 = some z_3 → ∀ (H : Heap) (locs : List Loc) (ls : Array Slot), wd A s.heap D (w_M_lightest cI a_r0 a_r0_figures a_r0_hampers a_r0_kinds a_r0_refusals v_r0_weights v_r0_wants0 v_r0_left0 v_r0_done0 v_r0_letters v_r0_letterMany v_r0_at v_r0_isBad v_r0_statements v_r0_placeIn v_r0_letterOf v_r0_told v_r0_kept v_r0_imaged v_r0_hasImage v_r0_place0 v_r0_isTaking v_r0_keptIn v_r0_turns0 v_r0_turnOf v_r0_turned v_r0_order0 v_r0_likely0 v_r0_leftThen v_r0_row v_r0_rowMany v_r0_seed r0_days r0_things 0 r0_figures r0_hampers r0_kinds r0_refusals) H locs → lv_has ls 7 [(0, .ref a_r0), (1, .int x1), (3, .int y3_3), (4, .int y4_3), (5, .int q_6), (6, .int s0_8)] → W p l e (rmd 2) s m ([.ref a_r0, .int x1] : List Value).toArray below meth c H locs 0 0 Q (F0 m 81 ls [.int s0_10]) := by
              intro s0_10 hr H locs ls hW hl
              unfold F_M_lightest_J81_10 at hr
              refine lv_istore_n (lv' := [(2, .int s0_10), (0, .ref a_r0), (1, .int x1), (3, .int y3_3), (4, .int y4_3), (5, .int q_6), (6, .int s0_8)]) hx hb d_M_lightest_81 rfl hl (by decide) rfl (fun ls hl => ?_)
              refine lv_iload hx hb d_M_lightest_82 (lv_at hl 6 rfl) ?_
              refine lv_if_eq (tgt := 92) hx hb d_M_lightest_84 (by decide) (fun c_11 => ?_) (fun c_11 => ?_)
              · replace hr := ip c_11 hr
                refine lv_iload_n hx hb d_M_lightest_92 rfl (lv_at hl 3 rfl) ?_
                refine lv_istore_n (lv' := [(3, .int y3_3), (2, .int s0_10), (0, .ref a_r0), (1, .int x1), (4, .int y4_3), (5, .int q_6), (6, .int s0_8)]) hx hb d_M_lightest_93 rfl hl (by decide) rfl (fun ls hl => ?_)
                refine lv_iinc (v := (y4_3 + 1)) (lv' := [(4, .int (y4_3 + 1)), (3, .int y3_3), (2, .int s0_10), (0, .ref a_r0), (1, .int x1), (5, .int q_6), (6, .int s0_8)]) hx hb d_M_lightest_94 hl (k := 4) rfl rfl (by decide) rfl (fun ls hl => ?_)
                refine lv_goto (tgt := 31) hx hb d_M_lightest_97 (by decide) ?_
                exact ih_3 s0_10 y3_3 (y4_3 + 1) (hz1_3 _ (Option.some.inj hr).symm) _ _ _ hW (lv_sub hl [3, 4, 2, 1, 0] rfl)
              · replace hr := iN c_11 hr
                refine lv_iload hx hb d_M_lightest_87 (lv_at hl 5 rfl) ?_
                refine lv_goto (tgt := 93) hx hb d_M_lightest_89 (by decide) ?_
                refine lv_istore_n (lv' := [(3, .int q_6), (2, .int s0_10), (0, .ref a_r0), (1, .int x1), (4, .int y4_3), (5, .int q_6), (6, .int s0_8)]) hx hb d_M_lightest_93 rfl hl (by decide) rfl (fun ls hl => ?_)
                refine lv_iinc (v := (y4_3 + 1)) (lv' := [(4, .int (y4_3 + 1)), (3, .int q_6), (2, .int s0_10), (0, .ref a_r0), (1, .int x1), (5, .int q_6), (6, .int s0_8)]) hx hb d_M_lightest_94 hl (k := 4) rfl rfl (by decide) rfl (fun ls hl => ?_)
                refine lv_goto (tgt := 31) hx hb d_M_lightest_97 (by decide) ?_
                exact ih_3 s0_10 q_6 (y4_3 + 1) (hz1_3 _ (Option.some.inj hr).symm) _ _ _ hW (lv_sub hl [3, 4, 2, 1, 0] rfl)
            refine lv_if_eq (tgt := 80) hx hb d_M_lightest_72 (by decide) (fun c_9 => ?_) (fun c_9 => ?_)
            · replace hr := ip c_9 hr
              refine lv_iload_n hx hb d_M_lightest_80 rfl (lv_at hl 3 rfl) ?_
              exact hJ_10 y2_3 hr _ _ _ hW (lv_sub hl [1, 2, 4, 5, 6, 0] rfl)
            · replace hr := iN c_9 hr
              refine lv_iload hx hb d_M_lightest_75 (lv_at hl 5 rfl) ?_
              refine lv_goto (tgt := 81) hx hb d_M_lightest_77 (by decide) ?_
              exact hJ_10 y4_3 hr _ _ _ hW (lv_sub hl [1, 2, 4, 5, 6, 0] rfl)
          have hJ_12 : ∀ (_ : Unit), F_M_lightest_J63_12 y2_3 y3_3 y4_3 q_6 = some z_3 → ∀ (H : Heap) (locs : List Loc) (ls : Array Slot), wd A s.heap D (w_M_lightest cI a_r0 a_r0_figures a_r0_hampers a_r0_kinds a_r0_refusals v_r0_weights v_r0_wants0 v_r0_left0 v_r0_done0 v_r0_letters v_r0_letterMany v_r0_at v_r0_isBad v_r0_statements v_r0_placeIn v_r0_letterOf v_r0_told v_r0_kept v_r0_imaged v_r0_hasImage v_r0_place0 v_r0_isTaking v_r0_keptIn v_r0_turns0 v_r0_turnOf v_r0_turned v_r0_order0 v_r0_likely0 v_r0_leftThen v_r0_row v_r0_rowMany v_r0_seed r0_days r0_things 0 r0_figures r0_hampers r0_kinds r0_refusals) H locs → lv_has ls 7 [(0, .ref a_r0), (1, .int x1), (2, .int y2_3), (3, .int y3_3), (4, .int y4_3), (5, .int q_6)] → W p l e (rmd 2) s m ([.ref a_r0, .int x1] : List Value).toArray below meth c H locs 0 0 Q (F0 m 63 ls []) := by
            intro _ hr H locs ls hW hl
            unfold F_M_lightest_J63_12 at hr
            refine lv_iconst (v := 1) hx hb d_M_lightest_63 (by decide) ?_
            refine lv_goto (tgt := 68) hx hb d_M_lightest_64 (by decide) ?_
            exact hJ_8 1 hr _ _ _ hW (lv_sub hl [0, 1, 2, 3, 4, 5] rfl)
          refine lv_if_lt (tgt := 63) hx hb d_M_lightest_54 (by decide) (fun c_7 => ?_) (fun c_7 => ?_)
          · replace hr := ip c_7 hr
            exact hJ_12 () hr _ _ _ hW (lv_sub hl [1, 2, 3, 4, 5, 0] rfl)
          · replace hr := iN c_7 hr
            refine lv_iload hx hb d_M_lightest_57 (lv_at hl 0 rfl) ?_
            refine lv_iload_n hx hb d_M_lightest_59 rfl (lv_at hl 4 rfl) ?_
            refine lv_icmp_ge (tgt := 67) hx hb d_M_lightest_60 (by decide) (fun c_13 => ?_) (fun c_13 => ?_)
            · replace hr := ip c_13 hr
              refine lv_iconst (v := 0) hx hb d_M_lightest_67 (by decide) ?_
              exact hJ_8 0 hr _ _ _ hW (lv_sub hl [1, 2, 3, 4, 5, 0] rfl)
            · replace hr := iN c_13 hr
              exact hJ_12 () hr _ _ _ hW (lv_sub hl [1, 2, 3, 4, 5, 0] rfl)
    exact hl_3 _ (-9) (-9) 0 hw_3 _ _ _ hW (lv_sub hl [3, 4, 2, 1, 0] rfl)
  · replace hr := ip c_2 hr
    refine lv_aload_n hx hb d_M_lightest_15 rfl (lv_at hl 0 rfl) ?_
    refine lv_bipush (v := (-2)) hx hb d_M_lightest_16 (by decide) ?_
    obtain ⟨q_15, hc_15, hr⟩ := ob hr
    have ct_15 := C_M_refuse l D cI cS a_r0 a_r0_refusals v_r0_weights (Value.int r0_things) (Value.ref a_r0_kinds) (Value.ref a_r0_figures) (Value.int r0_days) (Value.ref a_r0_hampers) v_r0_wants0 v_r0_left0 v_r0_done0 (Value.int 0) v_r0_letters v_r0_letterMany v_r0_at v_r0_isBad v_r0_statements v_r0_placeIn v_r0_letterOf v_r0_told v_r0_kept v_r0_imaged v_r0_hasImage v_r0_place0 v_r0_isTaking v_r0_keptIn v_r0_turns0 v_r0_turnOf v_r0_turned v_r0_order0 v_r0_likely0 v_r0_leftThen v_r0_row v_r0_rowMany v_r0_seed r0_refusals (-2) q_15 hc_15
    refine k_goI hA hW [0, 4] rfl ct_15.1 (ws' := (w_M_lightest cI a_r0 a_r0_figures a_r0_hampers a_r0_kinds a_r0_refusals v_r0_weights v_r0_wants0 v_r0_left0 v_r0_done0 v_r0_letters v_r0_letterMany v_r0_at v_r0_isBad v_r0_statements v_r0_placeIn v_r0_letterOf v_r0_told v_r0_kept v_r0_imaged v_r0_hasImage v_r0_place0 v_r0_isTaking v_r0_keptIn v_r0_turns0 v_r0_turnOf v_r0_turned v_r0_order0 v_r0_likely0 v_r0_leftThen v_r0_row v_r0_rowMany v_r0_seed r0_days r0_things 0 r0_figures r0_hampers r0_kinds q_15.2)) rfl (k_runV C hA hW mw_M_refuse mv_M_refuse (ct_15.2 _) [0, 4] rfl rfl 0 rfl rfl qm_M_108 ⟨Nat.le_of_ble_eq_true rfl, Nat.le_of_ble_eq_true rfl, Nat.zero_le _, Nat.zero_le _⟩ rfl rfl (Nat.le_of_ble_eq_true rfl) hl.1 d_M_lightest_18) (fun H locs hW => ?_)
    obtain rfl := Option.some.inj hr
    rw [hQ]; exact k_iret C hret hW d_M_lightest_21
def w_M_looks (cI : ClassId) (a_r0 : Nat) (a_r0_figures : Nat) (a_r0_hampers : Nat) (a_r0_kinds : Nat) (a_r0_refusals : Nat) (v_r0_weights v_r0_wants0 v_r0_left0 v_r0_done0 v_r0_letters v_r0_letterMany v_r0_at v_r0_isBad v_r0_statements v_r0_placeIn v_r0_letterOf v_r0_told v_r0_kept v_r0_imaged v_r0_hasImage v_r0_place0 v_r0_isTaking v_r0_keptIn v_r0_turns0 v_r0_turnOf v_r0_turned v_r0_order0 v_r0_likely0 v_r0_leftThen v_r0_row v_r0_rowMany v_r0_seed : Value) (r0_days : Int32) (r0_things : Int32) (r0_thrown : Int32) (r0_figures : Nat → Int32) (r0_hampers : Nat → Int32) (r0_kinds : Nat → Int32) (r0_refusals : Nat → Int32) : va_W := [(a_r0, .inr (9, [v_r0_weights, .int r0_things, .ref a_r0_kinds, .ref a_r0_figures, .int r0_days, .ref a_r0_hampers, v_r0_wants0, v_r0_left0, v_r0_done0, .int r0_thrown, .ref a_r0_refusals, v_r0_letters, v_r0_letterMany, v_r0_at, v_r0_isBad, v_r0_statements, v_r0_placeIn, v_r0_letterOf, v_r0_told, v_r0_kept, v_r0_imaged, v_r0_hasImage, v_r0_place0, v_r0_isTaking, v_r0_keptIn, v_r0_turns0, v_r0_turnOf, v_r0_turned, v_r0_order0, v_r0_likely0, v_r0_leftThen, v_r0_row, v_r0_rowMany, v_r0_seed])), (a_r0_figures, .inl (cI, 8, .inl r0_figures)), (a_r0_hampers, .inl (cI, 8, .inl r0_hampers)), (a_r0_kinds, .inl (cI, 8, .inl r0_kinds)), (a_r0_refusals, .inl (cI, 7, .inl r0_refusals))]
def F_M_looks_J62_7 (r0_things : Int32) (r0_figures : Nat → Int32) (r0_hampers : Nat → Int32) (r0_kinds : Nat → Int32) (y3_4 : Int32) (y4_4 : Int32) (x1 : Int32) (s0_7 : Int32) : Option (((Int32) × (Int32)) ⊕ ((Int32))) :=
  (if s0_7 = 0 then (some (.inl (y3_4, (y4_4 + (-1))))) else ((F_M_couldBe r0_things r0_figures r0_kinds y4_4).bind (fun q_9 => ((F_M_couldBe r0_things r0_figures r0_kinds (r0_hampers (Int32.toNatClampNeg x1))).bind (fun q_10 => (if q_9 = q_10 then (some (.inl (y4_4, (y4_4 + (-1))))) else (some (.inl (y3_4, (y4_4 + (-1)))))))))))
def F_M_looks_J61_12 (r0_things : Int32) (r0_figures : Nat → Int32) (r0_hampers : Nat → Int32) (r0_kinds : Nat → Int32) (y3_4 : Int32) (y4_4 : Int32) (x1 : Int32) : Option (((Int32) × (Int32)) ⊕ ((Int32))) :=
  (F_M_looks_J62_7 r0_things r0_figures r0_hampers r0_kinds y3_4 y4_4 x1 0)
def F_M_looks_L31 (r0_things : Int32) (r0_figures : Nat → Int32) (r0_hampers : Nat → Int32) (r0_kinds : Nat → Int32) (x1 : Int32) (y3_4 : Int32) (y4_4 : Int32) : Option (((Int32) × (Int32)) ⊕ ((Int32))) :=
  (if y4_4 < 0 then (some (.inr y3_4)) else (if (y4_4 &&& ((r0_hampers (Int32.toNatClampNeg x1)) ^^^ (-1))) = 0 then ((F_M_onesOf y4_4).bind (fun q_13 => ((F_M_onesOf y3_4).bind (fun q_14 => (if q_14 < q_13 then (F_M_looks_J61_12 r0_things r0_figures r0_hampers r0_kinds y3_4 y4_4 x1) else (F_M_looks_J62_7 r0_things r0_figures r0_hampers r0_kinds y3_4 y4_4 x1 1)))))) else (F_M_looks_J61_12 r0_things r0_figures r0_hampers r0_kinds y3_4 y4_4 x1)))
def F_M_looks (r0_days : Int32) (r0_things : Int32) (r0_figures : Nat → Int32) (r0_hampers : Nat → Int32) (r0_kinds : Nat → Int32) (r0_refusals : Nat → Int32) (x1 : Int32) : Option (Int32 × (Int32) × (Nat → Int32)) :=
  ((F_M_isDay r0_days x1).bind (fun q_1 => (if q_1 = 0 then ((F_M_refuse r0_refusals ((-1) : Int32)).bind (fun q_16 => (some (q_16.1, 0, q_16.2)))) else (ck x1 8 ((wh (fun (s : (Int32) × (Int32)) => F_M_looks_L31 r0_things r0_figures r0_hampers r0_kinds x1 s.1 s.2) 400 ((r0_hampers (Int32.toNatClampNeg x1)), (r0_hampers (Int32.toNatClampNeg x1)))).bind (fun e_4 => (some (e_4, 0, r0_refusals))))))))
set_option maxHeartbeats 4000000 in
set_option maxRecDepth 100000 in
theorem C_M_looks (l : Launch) (D : va_G) (cI cS : ClassId) (a_r0 : Nat) (a_r0_figures : Nat) (a_r0_hampers : Nat) (a_r0_kinds : Nat) (a_r0_refusals : Nat) (v_r0_weights v_r0_wants0 v_r0_left0 v_r0_done0 v_r0_letters v_r0_letterMany v_r0_at v_r0_isBad v_r0_statements v_r0_placeIn v_r0_letterOf v_r0_told v_r0_kept v_r0_imaged v_r0_hasImage v_r0_place0 v_r0_isTaking v_r0_keptIn v_r0_turns0 v_r0_turnOf v_r0_turned v_r0_order0 v_r0_likely0 v_r0_leftThen v_r0_row v_r0_rowMany v_r0_seed : Value) (r0_days : Int32) (r0_things : Int32) (r0_thrown : Int32) (r0_figures : Nat → Int32) (r0_hampers : Nat → Int32) (r0_kinds : Nat → Int32) (r0_refusals : Nat → Int32) (x1 : Int32) (o : Int32 × (Int32) × (Nat → Int32)) (hr : F_M_looks r0_days r0_things r0_figures r0_hampers r0_kinds r0_refusals x1 = some o) : ctI l y_M_looks (Cond.code y_M_looks b_M_looks 6 (some FieldType.int)) (rmd 3) D (kTy cI cS) [.ref a_r0, .int x1] (w_M_looks cI a_r0 a_r0_figures a_r0_hampers a_r0_kinds a_r0_refusals v_r0_weights v_r0_wants0 v_r0_left0 v_r0_done0 v_r0_letters v_r0_letterMany v_r0_at v_r0_isBad v_r0_statements v_r0_placeIn v_r0_letterOf v_r0_told v_r0_kept v_r0_imaged v_r0_hasImage v_r0_place0 v_r0_isTaking v_r0_keptIn v_r0_turns0 v_r0_turnOf v_r0_turned v_r0_order0 v_r0_likely0 v_r0_leftThen v_r0_row v_r0_rowMany v_r0_seed r0_days r0_things r0_thrown r0_figures r0_hampers r0_kinds r0_refusals) (w_M_looks cI a_r0 a_r0_figures a_r0_hampers a_r0_kinds a_r0_refusals v_r0_weights v_r0_wants0 v_r0_left0 v_r0_done0 v_r0_letters v_r0_letterMany v_r0_at v_r0_isBad v_r0_statements v_r0_placeIn v_r0_letterOf v_r0_told v_r0_kept v_r0_imaged v_r0_hasImage v_r0_place0 v_r0_isTaking v_r0_keptIn v_r0_turns0 v_r0_turnOf v_r0_turned v_r0_order0 v_r0_likely0 v_r0_leftThen v_r0_row v_r0_rowMany v_r0_seed r0_days r0_things o.2.1 r0_figures r0_hampers r0_kinds o.2.2) o.1 := by
  unfold F_M_looks at hr
  refine ⟨rfl, fun sz => ct_of (w0 := (w_M_looks cI a_r0 a_r0_figures a_r0_hampers a_r0_kinds a_r0_refusals v_r0_weights v_r0_wants0 v_r0_left0 v_r0_done0 v_r0_letters v_r0_letterMany v_r0_at v_r0_isBad v_r0_statements v_r0_placeIn v_r0_letterOf v_r0_told v_r0_kept v_r0_imaged v_r0_hasImage v_r0_place0 v_r0_isTaking v_r0_keptIn v_r0_turns0 v_r0_turnOf v_r0_turned v_r0_order0 v_r0_likely0 v_r0_leftThen v_r0_row v_r0_rowMany v_r0_seed r0_days r0_things r0_thrown r0_figures r0_hampers r0_kinds r0_refusals)) (Qc := fun A => qI D (w_M_looks cI a_r0 a_r0_figures a_r0_hampers a_r0_kinds a_r0_refusals v_r0_weights v_r0_wants0 v_r0_left0 v_r0_done0 v_r0_letters v_r0_letterMany v_r0_at v_r0_isBad v_r0_statements v_r0_placeIn v_r0_letterOf v_r0_told v_r0_kept v_r0_imaged v_r0_hasImage v_r0_place0 v_r0_isTaking v_r0_keptIn v_r0_turns0 v_r0_turnOf v_r0_turned v_r0_order0 v_r0_likely0 v_r0_leftThen v_r0_row v_r0_rowMany v_r0_seed r0_days r0_things o.2.1 r0_figures r0_hampers r0_kinds o.2.2) o.1 A) rfl (Nat.le_of_ble_eq_true rfl) ?_ sz⟩
  intro p e s m below meth c A hA C hret ls hl hW
  have C : cx p s m ([.ref a_r0, .int x1] : List Value).toArray meth c b_M_looks 6 R_M D (kTy cI cS) (Cond.code y_M_looks b_M_looks 6 (some FieldType.int)) := C
  obtain ⟨hx, hb, hml, hown, hts, hK, hlk, hN⟩ := id C
  have hl : lv_has ls 6 [(0, .ref a_r0), (1, .int x1)] := hl
  obtain ⟨Q, hQ⟩ : ∃ Q, Q = MQ below (qI D (w_M_looks cI a_r0 a_r0_figures a_r0_hampers a_r0_kinds a_r0_refusals v_r0_weights v_r0_wants0 v_r0_left0 v_r0_done0 v_r0_letters v_r0_letterMany v_r0_at v_r0_isBad v_r0_statements v_r0_placeIn v_r0_letterOf v_r0_told v_r0_kept v_r0_imaged v_r0_hasImage v_r0_place0 v_r0_isTaking v_r0_keptIn v_r0_turns0 v_r0_turnOf v_r0_turned v_r0_order0 v_r0_likely0 v_r0_leftThen v_r0_row v_r0_rowMany v_r0_seed r0_days r0_things o.2.1 r0_figures r0_hampers r0_kinds o.2.2) o.1 A) ([.ref a_r0, .int x1] : List Value).toArray s 0 0 A := ⟨_, rfl⟩
  rw [← hQ]
  refine lv_aload_n hx hb d_M_looks_0 rfl (lv_at hl 0 rfl) ?_
  refine lv_iconst (v := 0) hx hb d_M_looks_1 (by decide) ?_
  refine k_put i_M t_M_ok n_M C hW 0 rfl rfl 9 (by decide) qf_M_67 rfl rfl (ty := .int) rfl rfl rfl (Nat.le_of_ble_eq_true rfl) (ws' := (w_M_looks cI a_r0 a_r0_figures a_r0_hampers a_r0_kinds a_r0_refusals v_r0_weights v_r0_wants0 v_r0_left0 v_r0_done0 v_r0_letters v_r0_letterMany v_r0_at v_r0_isBad v_r0_statements v_r0_placeIn v_r0_letterOf v_r0_told v_r0_kept v_r0_imaged v_r0_hasImage v_r0_place0 v_r0_isTaking v_r0_keptIn v_r0_turns0 v_r0_turnOf v_r0_turned v_r0_order0 v_r0_likely0 v_r0_leftThen v_r0_row v_r0_rowMany v_r0_seed r0_days r0_things 0 r0_figures r0_hampers r0_kinds r0_refusals)) rfl d_M_looks_2 (fun H locs hW => ?_)
  refine lv_aload_n hx hb d_M_looks_5 rfl (lv_at hl 0 rfl) ?_
  refine lv_iload_n hx hb d_M_looks_6 rfl (lv_at hl 1 rfl) ?_
  obtain ⟨q_1, hc_1, hr⟩ := ob hr
  have ct_1 := C_M_isDay l D cI cS a_r0 v_r0_weights (Value.int r0_things) (Value.ref a_r0_kinds) (Value.ref a_r0_figures) (Value.ref a_r0_hampers) v_r0_wants0 v_r0_left0 v_r0_done0 (Value.int 0) (Value.ref a_r0_refusals) v_r0_letters v_r0_letterMany v_r0_at v_r0_isBad v_r0_statements v_r0_placeIn v_r0_letterOf v_r0_told v_r0_kept v_r0_imaged v_r0_hasImage v_r0_place0 v_r0_isTaking v_r0_keptIn v_r0_turns0 v_r0_turnOf v_r0_turned v_r0_order0 v_r0_likely0 v_r0_leftThen v_r0_row v_r0_rowMany v_r0_seed r0_days x1 q_1 hc_1
  refine k_goIp hA hW [0] rfl rfl (k_runV C hA hW mw_M_isDay mv_M_isDay (ct_1.2 _) [0] rfl rfl 0 rfl rfl qm_M_150 ⟨Nat.le_of_ble_eq_true rfl, Nat.le_of_ble_eq_true rfl, Nat.zero_le _, Nat.zero_le _⟩ rfl rfl (Nat.le_of_ble_eq_true rfl) hl.1 d_M_looks_7) (fun H locs hW => ?_)
  refine lv_if_ne (tgt := 19) hx hb d_M_looks_10 (by decide) (fun c_2 => ?_) (fun c_2 => ?_)
  · replace hr := iN c_2 hr
    refine lv_aload_n hx hb d_M_looks_19 rfl (lv_at hl 0 rfl) ?_
    refine k_get i_M C hW 0 rfl rfl 5 (by decide) qf_M_19 rfl rfl d_M_looks_20 ?_
    refine lv_iload_n hx hb d_M_looks_23 rfl (lv_at hl 1 rfl) ?_
    obtain ⟨h_3, hr⟩ := ck_some hr
    refine k_iald C hW 2 rfl h_3 d_M_looks_24 ?_
    refine lv_istore_n (lv' := [(2, .int (r0_hampers (Int32.toNatClampNeg x1))), (0, .ref a_r0), (1, .int x1)]) hx hb d_M_looks_25 rfl hl (by decide) rfl (fun ls hl => ?_)
    refine lv_iload_n hx hb d_M_looks_26 rfl (lv_at hl 0 rfl) ?_
    refine lv_istore_n (lv' := [(3, .int (r0_hampers (Int32.toNatClampNeg x1))), (2, .int (r0_hampers (Int32.toNatClampNeg x1))), (0, .ref a_r0), (1, .int x1)]) hx hb d_M_looks_27 rfl hl (by decide) rfl (fun ls hl => ?_)
    refine lv_iload_n hx hb d_M_looks_28 rfl (lv_at hl 1 rfl) ?_
    refine lv_istore (lv' := [(4, .int (r0_hampers (Int32.toNatClampNeg x1))), (3, .int (r0_hampers (Int32.toNatClampNeg x1))), (2, .int (r0_hampers (Int32.toNatClampNeg x1))), (0, .ref a_r0), (1, .int x1)]) hx hb d_M_looks_29 hl (by decide) rfl (fun ls hl => ?_)
    obtain ⟨ex_4, hw_4, hk_4⟩ := ob hr
    have hx_4 : ∀ (e_4 : (Int32)), e_4 = ex_4 → ∀ (H : Heap) (locs : List Loc) (ls : Array Slot), wd A s.heap D (w_M_looks cI a_r0 a_r0_figures a_r0_hampers a_r0_kinds a_r0_refusals v_r0_weights v_r0_wants0 v_r0_left0 v_r0_done0 v_r0_letters v_r0_letterMany v_r0_at v_r0_isBad v_r0_statements v_r0_placeIn v_r0_letterOf v_r0_told v_r0_kept v_r0_imaged v_r0_hasImage v_r0_place0 v_r0_isTaking v_r0_keptIn v_r0_turns0 v_r0_turnOf v_r0_turned v_r0_order0 v_r0_likely0 v_r0_leftThen v_r0_row v_r0_rowMany v_r0_seed r0_days r0_things 0 r0_figures r0_hampers r0_kinds r0_refusals) H locs → lv_has ls 6 [(3, .int e_4)] → W p l e (rmd 3) s m ([.ref a_r0, .int x1] : List Value).toArray below meth c H locs 0 0 Q (F0 m 96 ls []) := by
      intro e_4 hE H locs ls hW hl
      subst hE; have hr := hk_4
      refine lv_iload_n hx hb d_M_looks_96 rfl (lv_at hl 0 rfl) ?_
      obtain rfl := Option.some.inj hr
      rw [hQ]; exact k_iret C hret hW d_M_looks_97
    have hl_4 : ∀ (k : Nat) (y3_4 : Int32) (y4_4 : Int32), wh (fun (s : (Int32) × (Int32)) => F_M_looks_L31 r0_things r0_figures r0_hampers r0_kinds x1 s.1 s.2) k (y3_4, y4_4) = some ex_4 → ∀ (H : Heap) (locs : List Loc) (ls : Array Slot), wd A s.heap D (w_M_looks cI a_r0 a_r0_figures a_r0_hampers a_r0_kinds a_r0_refusals v_r0_weights v_r0_wants0 v_r0_left0 v_r0_done0 v_r0_letters v_r0_letterMany v_r0_at v_r0_isBad v_r0_statements v_r0_placeIn v_r0_letterOf v_r0_told v_r0_kept v_r0_imaged v_r0_hasImage v_r0_place0 v_r0_isTaking v_r0_keptIn v_r0_turns0 v_r0_turnOf v_r0_turned v_r0_order0 v_r0_likely0 v_r0_leftThen v_r0_row v_r0_rowMany v_r0_seed r0_days r0_things 0 r0_figures r0_hampers r0_kinds r0_refusals) H locs → lv_has ls 6 [(2, .int (r0_hampers (Int32.toNatClampNeg x1))), (0, .ref a_r0), (3, .int y3_4), (4, .int y4_4)] → W p l e (rmd 3) s m ([.ref a_r0, .int x1] : List Value).toArray below meth c H locs 0 0 Q (F0 m 31 ls []) := by
      intro k
      induction k with
      | zero => intro y3_4 y4_4 hw; exact absurd hw wh_0
      | succ k ih_4 =>
        intro y3_4 y4_4 hw H locs ls hW hl
        obtain ⟨z_4, hr, hz1_4, hz2_4⟩ := wh_s hw
        have hr : F_M_looks_L31 r0_things r0_figures r0_hampers r0_kinds x1 y3_4 y4_4 = some z_4 := hr
        unfold F_M_looks_L31 at hr
        refine lv_iload hx hb d_M_looks_31 (lv_at hl 3 rfl) ?_
        refine lv_if_lt (tgt := 96) hx hb d_M_looks_33 (by decide) (fun c_5 => ?_) (fun c_5 => ?_)
        · replace hr := ip c_5 hr
          exact hx_4 _ (hz2_4 _ (Option.some.inj hr).symm) _ _ _ hW (lv_sub hl [2] rfl)
        · replace hr := iN c_5 hr
          refine lv_iload hx hb d_M_looks_36 (lv_at hl 3 rfl) ?_
          refine lv_iload_n hx hb d_M_looks_38 rfl (lv_at hl 0 rfl) ?_
          refine lv_iconst (v := (-1)) hx hb d_M_looks_39 (by decide) ?_
          refine lv_ixor hx hb d_M_looks_40 ?_
          refine lv_iand hx hb d_M_looks_41 ?_
          have hJ_7 : ∀ (s0_7 : Int32), F_M_looks_J62_7 r0_things r0_figures r0_hampers r0_kinds y3_4 y4_4 x1 s0_7 = some z_4 → ∀ (H : Heap) (locs : List Loc) (ls : Array Slot), wd A s.heap D (w_M_looks cI a_r0 a_r0_figures a_r0_hampers a_r0_kinds a_r0_refusals v_r0_weights v_r0_wants0 v_r0_left0 v_r0_done0 v_r0_letters v_r0_letterMany v_r0_at v_r0_isBad v_r0_statements v_r0_placeIn v_r0_letterOf v_r0_told v_r0_kept v_r0_imaged v_r0_hasImage v_r0_place0 v_r0_isTaking v_r0_keptIn v_r0_turns0 v_r0_turnOf v_r0_turned v_r0_order0 v_r0_likely0 v_r0_leftThen v_r0_row v_r0_rowMany v_r0_seed r0_days r0_things 0 r0_figures r0_hampers r0_kinds r0_refusals) H locs → lv_has ls 6 [(0, .ref a_r0), (2, .int (r0_hampers (Int32.toNatClampNeg x1))), (3, .int y3_4), (4, .int y4_4)] → W p l e (rmd 3) s m ([.ref a_r0, .int x1] : List Value).toArray below meth c H locs 0 0 Q (F0 m 62 ls [.int s0_7]) := by
            intro s0_7 hr H locs ls hW hl
            unfold F_M_looks_J62_7 at hr
            refine lv_istore (lv' := [(5, .int s0_7), (0, .ref a_r0), (2, .int (r0_hampers (Int32.toNatClampNeg x1))), (3, .int y3_4), (4, .int y4_4)]) hx hb d_M_looks_62 hl (by decide) rfl (fun ls hl => ?_)
            refine lv_iload hx hb d_M_looks_64 (lv_at hl 0 rfl) ?_
            refine lv_if_eq (tgt := 88) hx hb d_M_looks_66 (by decide) (fun c_8 => ?_) (fun c_8 => ?_)
            · replace hr := ip c_8 hr
              refine lv_iload_n hx hb d_M_looks_88 rfl (lv_at hl 3 rfl) ?_
              refine lv_istore_n (lv' := [(3, .int y3_4), (5, .int s0_7), (0, .ref a_r0), (2, .int (r0_hampers (Int32.toNatClampNeg x1))), (4, .int y4_4)]) hx hb d_M_looks_89 rfl hl (by decide) rfl (fun ls hl => ?_)
              refine lv_iinc (v := (y4_4 + (-1))) (lv' := [(4, .int (y4_4 + (-1))), (3, .int y3_4), (5, .int s0_7), (0, .ref a_r0), (2, .int (r0_hampers (Int32.toNatClampNeg x1)))]) hx hb d_M_looks_90 hl (k := 4) rfl rfl (by decide) rfl (fun ls hl => ?_)
              refine lv_goto (tgt := 31) hx hb d_M_looks_93 (by decide) ?_
              exact ih_4 y3_4 (y4_4 + (-1)) (hz1_4 _ (Option.some.inj hr).symm) _ _ _ hW (lv_sub hl [4, 3, 1, 0] rfl)
            · replace hr := iN c_8 hr
              refine lv_aload_n hx hb d_M_looks_69 rfl (lv_at hl 1 rfl) ?_
              refine lv_iload hx hb d_M_looks_70 (lv_at hl 4 rfl) ?_
              obtain ⟨q_9, hc_9, hr⟩ := ob hr
              have ct_9 := C_M_couldBe l D cI cS a_r0 a_r0_figures a_r0_kinds v_r0_weights (Value.int r0_days) (Value.ref a_r0_hampers) v_r0_wants0 v_r0_left0 v_r0_done0 (Value.int 0) (Value.ref a_r0_refusals) v_r0_letters v_r0_letterMany v_r0_at v_r0_isBad v_r0_statements v_r0_placeIn v_r0_letterOf v_r0_told v_r0_kept v_r0_imaged v_r0_hasImage v_r0_place0 v_r0_isTaking v_r0_keptIn v_r0_turns0 v_r0_turnOf v_r0_turned v_r0_order0 v_r0_likely0 v_r0_leftThen v_r0_row v_r0_rowMany v_r0_seed r0_things r0_figures r0_kinds y4_4 q_9 hc_9
              refine k_goIp hA hW [0, 1, 3] rfl rfl (k_runV C hA hW mw_M_couldBe mv_M_couldBe (ct_9.2 _) [0, 1, 3] rfl rfl 0 rfl rfl qm_M_99 ⟨Nat.le_of_ble_eq_true rfl, Nat.le_of_ble_eq_true rfl, Nat.zero_le _, Nat.zero_le _⟩ rfl rfl (Nat.le_of_ble_eq_true rfl) hl.1 d_M_looks_72) (fun H locs hW => ?_)
              refine lv_aload_n hx hb d_M_looks_75 rfl (lv_at hl 1 rfl) ?_
              refine lv_iload_n hx hb d_M_looks_76 rfl (lv_at hl 2 rfl) ?_
              obtain ⟨q_10, hc_10, hr⟩ := ob hr
              have ct_10 := C_M_couldBe l D cI cS a_r0 a_r0_figures a_r0_kinds v_r0_weights (Value.int r0_days) (Value.ref a_r0_hampers) v_r0_wants0 v_r0_left0 v_r0_done0 (Value.int 0) (Value.ref a_r0_refusals) v_r0_letters v_r0_letterMany v_r0_at v_r0_isBad v_r0_statements v_r0_placeIn v_r0_letterOf v_r0_told v_r0_kept v_r0_imaged v_r0_hasImage v_r0_place0 v_r0_isTaking v_r0_keptIn v_r0_turns0 v_r0_turnOf v_r0_turned v_r0_order0 v_r0_likely0 v_r0_leftThen v_r0_row v_r0_rowMany v_r0_seed r0_things r0_figures r0_kinds (r0_hampers (Int32.toNatClampNeg x1)) q_10 hc_10
              refine k_goIp hA hW [0, 1, 3] rfl rfl (k_runV C hA hW mw_M_couldBe mv_M_couldBe (ct_10.2 _) [0, 1, 3] rfl rfl 0 rfl rfl qm_M_99 ⟨Nat.le_of_ble_eq_true rfl, Nat.le_of_ble_eq_true rfl, Nat.zero_le _, Nat.zero_le _⟩ rfl rfl (Nat.le_of_ble_eq_true rfl) hl.1 d_M_looks_77) (fun H locs hW => ?_)
              refine lv_icmp_ne (tgt := 88) hx hb d_M_looks_80 (by decide) (fun c_11 => ?_) (fun c_11 => ?_)
              · replace hr := iN c_11 hr
                refine lv_iload_n hx hb d_M_looks_88 rfl (lv_at hl 3 rfl) ?_
                refine lv_istore_n (lv' := [(3, .int y3_4), (5, .int s0_7), (0, .ref a_r0), (2, .int (r0_hampers (Int32.toNatClampNeg x1))), (4, .int y4_4)]) hx hb d_M_looks_89 rfl hl (by decide) rfl (fun ls hl => ?_)
                refine lv_iinc (v := (y4_4 + (-1))) (lv' := [(4, .int (y4_4 + (-1))), (3, .int y3_4), (5, .int s0_7), (0, .ref a_r0), (2, .int (r0_hampers (Int32.toNatClampNeg x1)))]) hx hb d_M_looks_90 hl (k := 4) rfl rfl (by decide) rfl (fun ls hl => ?_)
                refine lv_goto (tgt := 31) hx hb d_M_looks_93 (by decide) ?_
                exact ih_4 y3_4 (y4_4 + (-1)) (hz1_4 _ (Option.some.inj hr).symm) _ _ _ hW (lv_sub hl [4, 3, 1, 0] rfl)
              · replace hr := ip c_11 hr
                refine lv_iload hx hb d_M_looks_83 (lv_at hl 4 rfl) ?_
                refine lv_goto (tgt := 89) hx hb d_M_looks_85 (by decide) ?_
                refine lv_istore_n (lv' := [(3, .int y4_4), (5, .int s0_7), (0, .ref a_r0), (2, .int (r0_hampers (Int32.toNatClampNeg x1))), (4, .int y4_4)]) hx hb d_M_looks_89 rfl hl (by decide) rfl (fun ls hl => ?_)
                refine lv_iinc (v := (y4_4 + (-1))) (lv' := [(4, .int (y4_4 + (-1))), (3, .int y4_4), (5, .int s0_7), (0, .ref a_r0), (2, .int (r0_hampers (Int32.toNatClampNeg x1)))]) hx hb d_M_looks_90 hl (k := 4) rfl rfl (by decide) rfl (fun ls hl => ?_)
                refine lv_goto (tgt := 31) hx hb d_M_looks_93 (by decide) ?_
                exact ih_4 y4_4 (y4_4 + (-1)) (hz1_4 _ (Option.some.inj hr).symm) _ _ _ hW (lv_sub hl [4, 3, 1, 0] rfl)
          have hJ_12 : ∀ (_ : Unit), F_M_looks_J61_12 r0_things r0_figures r0_hampers r0_kinds y3_4 y4_4 x1 = some z_4 → ∀ (H : Heap) (locs : List Loc) (ls : Array Slot), wd A s.heap D (w_M_looks cI a_r0 a_r0_figures a_r0_hampers a_r0_kinds a_r0_refusals v_r0_weights v_r0_wants0 v_r0_left0 v_r0_done0 v_r0_letters v_r0_letterMany v_r0_at v_r0_isBad v_r0_statements v_r0_placeIn v_r0_letterOf v_r0_told v_r0_kept v_r0_imaged v_r0_hasImage v_r0_place0 v_r0_isTaking v_r0_keptIn v_r0_turns0 v_r0_turnOf v_r0_turned v_r0_order0 v_r0_likely0 v_r0_leftThen v_r0_row v_r0_rowMany v_r0_seed r0_days r0_things 0 r0_figures r0_hampers r0_kinds r0_refusals) H locs → lv_has ls 6 [(0, .ref a_r0), (2, .int (r0_hampers (Int32.toNatClampNeg x1))), (3, .int y3_4), (4, .int y4_4)] → W p l e (rmd 3) s m ([.ref a_r0, .int x1] : List Value).toArray below meth c H locs 0 0 Q (F0 m 61 ls []) := by
            intro _ hr H locs ls hW hl
            unfold F_M_looks_J61_12 at hr
            refine lv_iconst (v := 0) hx hb d_M_looks_61 (by decide) ?_
            exact hJ_7 0 hr _ _ _ hW (lv_sub hl [0, 1, 2, 3] rfl)
          refine lv_if_ne (tgt := 61) hx hb d_M_looks_42 (by decide) (fun c_6 => ?_) (fun c_6 => ?_)
          · replace hr := iN c_6 hr
            exact hJ_12 () hr _ _ _ hW (lv_sub hl [1, 0, 2, 3] rfl)
          · replace hr := ip c_6 hr
            refine lv_iload hx hb d_M_looks_45 (lv_at hl 3 rfl) ?_
            obtain ⟨q_13, hc_13, hr⟩ := ob hr
            have ct_13 := C_M_onesOf l D cI cS y4_4 q_13 hc_13
            refine k_goIp hA hW [] rfl rfl (k_runS C hA hW mw_M_onesOf ms_M_onesOf (ct_13.2 _) [] rfl rfl qm_M_231 ⟨Nat.le_of_ble_eq_true rfl, Nat.le_of_ble_eq_true rfl, Nat.zero_le _, Nat.zero_le _⟩ rfl rfl (Nat.le_of_ble_eq_true rfl) hl.1 d_M_looks_47) (fun H locs hW => ?_)
            refine lv_iload_n hx hb d_M_looks_50 rfl (lv_at hl 2 rfl) ?_
            obtain ⟨q_14, hc_14, hr⟩ := ob hr
            have ct_14 := C_M_onesOf l D cI cS y3_4 q_14 hc_14
            refine k_goIp hA hW [] rfl rfl (k_runS C hA hW mw_M_onesOf ms_M_onesOf (ct_14.2 _) [] rfl rfl qm_M_231 ⟨Nat.le_of_ble_eq_true rfl, Nat.le_of_ble_eq_true rfl, Nat.zero_le _, Nat.zero_le _⟩ rfl rfl (Nat.le_of_ble_eq_true rfl) hl.1 d_M_looks_51) (fun H locs hW => ?_)
            refine lv_icmp_gt (tgt := 61) hx hb d_M_looks_54 (by decide) (fun c_15 => ?_) (fun c_15 => ?_)
            · replace hr := ip c_15 hr
              exact hJ_12 () hr _ _ _ hW (lv_sub hl [1, 0, 2, 3] rfl)
            · replace hr := iN c_15 hr
              refine lv_iconst (v := 1) hx hb d_M_looks_57 (by decide) ?_
              refine lv_goto (tgt := 62) hx hb d_M_looks_58 (by decide) ?_
              exact hJ_7 1 hr _ _ _ hW (lv_sub hl [1, 0, 2, 3] rfl)
    exact hl_4 _ (r0_hampers (Int32.toNatClampNeg x1)) (r0_hampers (Int32.toNatClampNeg x1)) hw_4 _ _ _ hW (lv_sub hl [2, 3, 1, 0] rfl)
  · replace hr := ip c_2 hr
    refine lv_aload_n hx hb d_M_looks_13 rfl (lv_at hl 0 rfl) ?_
    refine lv_iconst (v := (-1)) hx hb d_M_looks_14 (by decide) ?_
    obtain ⟨q_16, hc_16, hr⟩ := ob hr
    have ct_16 := C_M_refuse l D cI cS a_r0 a_r0_refusals v_r0_weights (Value.int r0_things) (Value.ref a_r0_kinds) (Value.ref a_r0_figures) (Value.int r0_days) (Value.ref a_r0_hampers) v_r0_wants0 v_r0_left0 v_r0_done0 (Value.int 0) v_r0_letters v_r0_letterMany v_r0_at v_r0_isBad v_r0_statements v_r0_placeIn v_r0_letterOf v_r0_told v_r0_kept v_r0_imaged v_r0_hasImage v_r0_place0 v_r0_isTaking v_r0_keptIn v_r0_turns0 v_r0_turnOf v_r0_turned v_r0_order0 v_r0_likely0 v_r0_leftThen v_r0_row v_r0_rowMany v_r0_seed r0_refusals (-1) q_16 hc_16
    refine k_goI hA hW [0, 4] rfl ct_16.1 (ws' := (w_M_looks cI a_r0 a_r0_figures a_r0_hampers a_r0_kinds a_r0_refusals v_r0_weights v_r0_wants0 v_r0_left0 v_r0_done0 v_r0_letters v_r0_letterMany v_r0_at v_r0_isBad v_r0_statements v_r0_placeIn v_r0_letterOf v_r0_told v_r0_kept v_r0_imaged v_r0_hasImage v_r0_place0 v_r0_isTaking v_r0_keptIn v_r0_turns0 v_r0_turnOf v_r0_turned v_r0_order0 v_r0_likely0 v_r0_leftThen v_r0_row v_r0_rowMany v_r0_seed r0_days r0_things 0 r0_figures r0_hampers r0_kinds q_16.2)) rfl (k_runV C hA hW mw_M_refuse mv_M_refuse (ct_16.2 _) [0, 4] rfl rfl 0 rfl rfl qm_M_108 ⟨Nat.le_of_ble_eq_true rfl, Nat.le_of_ble_eq_true rfl, Nat.zero_le _, Nat.zero_le _⟩ rfl rfl (Nat.le_of_ble_eq_true rfl) hl.1 d_M_looks_15) (fun H locs hW => ?_)
    obtain rfl := Option.some.inj hr
    rw [hQ]; exact k_iret C hret hW d_M_looks_18
def F_M_wrongBit (x0 : Int32) (x1 : Int32) (x2 : Int32) : Option (Int32) :=
  (if x0 = 0 then ((F_M_in (Int32.toInt64 x1) (0 : Int64) (Int32.toInt64 x2)).bind (fun q_2 => (if q_2 = 0 then (some (-2)) else (some x0)))) else (some x0))
set_option maxHeartbeats 4000000 in
set_option maxRecDepth 100000 in
theorem C_M_wrongBit (l : Launch) (D : va_G) (cI cS : ClassId) (x0 : Int32) (x1 : Int32) (x2 : Int32) (o : Int32) (hr : F_M_wrongBit x0 x1 x2 = some o) : ctI l y_M_wrongBit (Cond.code y_M_wrongBit b_M_wrongBit 3 (some FieldType.int)) (rmd 1) D (kTy cI cS) [.int x0, .int x1, .int x2] [] [] o := by
  unfold F_M_wrongBit at hr
  refine ⟨rfl, fun sz => ct_of (w0 := []) (Qc := fun A => qI D [] o A) rfl (Nat.le_of_ble_eq_true rfl) ?_ sz⟩
  intro p e s m below meth c A hA C hret ls hl hW
  have C : cx p s m ([.int x0, .int x1, .int x2] : List Value).toArray meth c b_M_wrongBit 3 R_M D (kTy cI cS) (Cond.code y_M_wrongBit b_M_wrongBit 3 (some FieldType.int)) := C
  obtain ⟨hx, hb, hml, hown, hts, hK, hlk, hN⟩ := id C
  have hl : lv_has ls 3 [(0, .int x0), (1, .int x1), (2, .int x2)] := hl
  obtain ⟨Q, hQ⟩ : ∃ Q, Q = MQ below (qI D [] o A) ([.int x0, .int x1, .int x2] : List Value).toArray s 0 0 A := ⟨_, rfl⟩
  rw [← hQ]
  refine lv_iload_n hx hb d_M_wrongBit_0 rfl (lv_at hl 0 rfl) ?_
  refine lv_if_ne (tgt := 20) hx hb d_M_wrongBit_1 (by decide) (fun c_1 => ?_) (fun c_1 => ?_)
  · replace hr := iN c_1 hr
    refine lv_iload_n hx hb d_M_wrongBit_20 rfl (lv_at hl 0 rfl) ?_
    obtain rfl := Option.some.inj hr
    rw [hQ]; exact k_iret C hret hW d_M_wrongBit_21
  · replace hr := ip c_1 hr
    refine lv_iload_n hx hb d_M_wrongBit_4 rfl (lv_at hl 1 rfl) ?_
    refine lv_i2l hx hb d_M_wrongBit_5 rfl ?_
    refine lv_lconst (v := 0) hx hb d_M_wrongBit_6 (by decide) ?_
    refine lv_iload_n hx hb d_M_wrongBit_7 rfl (lv_at hl 2 rfl) ?_
    refine lv_i2l hx hb d_M_wrongBit_8 rfl ?_
    obtain ⟨q_2, hc_2, hr⟩ := ob hr
    have ct_2 := C_M_in l D cI cS (Int32.toInt64 x1) 0 (Int32.toInt64 x2) q_2 hc_2
    refine k_goIp hA hW [] rfl rfl (k_runS C hA hW mw_M_in ms_M_in (ct_2.2 _) [] rfl rfl qm_M_74 ⟨Nat.le_of_ble_eq_true rfl, Nat.le_of_ble_eq_true rfl, Nat.zero_le _, Nat.zero_le _⟩ rfl rfl (Nat.le_of_ble_eq_true rfl) hl.1 d_M_wrongBit_9) (fun H locs hW => ?_)
    refine lv_if_ne (tgt := 20) hx hb d_M_wrongBit_12 (by decide) (fun c_3 => ?_) (fun c_3 => ?_)
    · replace hr := iN c_3 hr
      refine lv_iload_n hx hb d_M_wrongBit_20 rfl (lv_at hl 0 rfl) ?_
      obtain rfl := Option.some.inj hr
      rw [hQ]; exact k_iret C hret hW d_M_wrongBit_21
    · replace hr := ip c_3 hr
      refine lv_bipush (v := (-2)) hx hb d_M_wrongBit_15 (by decide) ?_
      refine lv_goto (tgt := 21) hx hb d_M_wrongBit_17 (by decide) ?_
      obtain rfl := Option.some.inj hr
      rw [hQ]; exact k_iret C hret hW d_M_wrongBit_21
