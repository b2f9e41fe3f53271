def w_M_codes (cI : ClassId) (a_r0 : Nat) (a_r0_figures : Nat) (a_r0_kinds : Nat) (a_r0_refusals : Nat) (v_r0_weights v_r0_days v_r0_hampers v_r0_wants0 v_r0_left0 v_r0_done0 v_r0_letters v_r0_letterMany v_r0_at v_r0_isBad v_r0_statements v_r0_placeIn v_r0_letterOf v_r0_told v_r0_kept v_r0_imaged v_r0_hasImage v_r0_place0 v_r0_isTaking v_r0_keptIn v_r0_turns0 v_r0_turnOf v_r0_turned v_r0_order0 v_r0_likely0 v_r0_leftThen v_r0_row v_r0_rowMany v_r0_seed : Value) (r0_things : Int32) (r0_thrown : Int32) (r0_figures : Nat → Int32) (r0_kinds : Nat → Int32) (r0_refusals : Nat → Int32) : va_W := [(a_r0, .inr (9, [v_r0_weights, .int r0_things, .ref a_r0_kinds, .ref a_r0_figures, v_r0_days, v_r0_hampers, v_r0_wants0, v_r0_left0, v_r0_done0, .int r0_thrown, .ref a_r0_refusals, v_r0_letters, v_r0_letterMany, v_r0_at, v_r0_isBad, v_r0_statements, v_r0_placeIn, v_r0_letterOf, v_r0_told, v_r0_kept, v_r0_imaged, v_r0_hasImage, v_r0_place0, v_r0_isTaking, v_r0_keptIn, v_r0_turns0, v_r0_turnOf, v_r0_turned, v_r0_order0, v_r0_likely0, v_r0_leftThen, v_r0_row, v_r0_rowMany, v_r0_seed])), (a_r0_figures, .inl (cI, 8, .inl r0_figures)), (a_r0_kinds, .inl (cI, 8, .inl r0_kinds)), (a_r0_refusals, .inl (cI, 7, .inl r0_refusals))]
def F_M_codes_L27 (r0_things : Int32) (r0_figures : Nat → Int32) (r0_kinds : Nat → Int32) (y2_3 : Int64) (y4_3 : Int32) : Option (((Int64) × (Int32)) ⊕ ((Int64))) :=
  (if ((1 : Int32) <<< ((r0_things : Int32) &&& 31)) ≤ y4_3 then (some (.inr y2_3)) else ((F_M_couldBe r0_things r0_figures r0_kinds y4_3).bind (fun q_5 => (some (.inl ((y2_3 ||| ((1 : Int64) <<< (Int32.toInt64 q_5 &&& 63))), (y4_3 + 1)))))))
def F_M_codes_L61 (e_3 : (Int64)) (y4_6 : Int32) (y5_6 : Int32) : Option (((Int32) × (Int32)) ⊕ ((Int32))) :=
  (if (64 : Int32) ≤ y5_6 then (some (.inr y4_6)) else (if (lg_cmp (((e_3 : Int64) >>> (Int32.toInt64 y5_6 &&& 63)) &&& 1) 1) = 0 then (some (.inl ((y4_6 + 1), (y5_6 + 1)))) else (some (.inl ((y4_6 + 0), (y5_6 + 1))))))
def F_M_codes (r0_things : Int32) (r0_figures : Nat → Int32) (r0_kinds : Nat → Int32) (r0_refusals : Nat → Int32) (x1 : Int32) : Option (Int32 × (Int32) × (Nat → Int32)) :=
  ((F_M_in (Int32.toInt64 x1) (0 : Int64) (1 : Int64)).bind (fun q_1 => (if q_1 = 0 then ((F_M_refuse r0_refusals ((-2) : Int32)).bind (fun q_10 => (some (q_10.1, 0, q_10.2)))) else ((wh (fun (s : (Int64) × (Int32)) => F_M_codes_L27 r0_things r0_figures r0_kinds s.1 s.2) 400 ((0 : Int64), (0 : Int32))).bind (fun e_3 => ((wh (fun (s : (Int32) × (Int32)) => F_M_codes_L61 e_3 s.1 s.2) 400 ((0 : Int32), (0 : Int32))).bind (fun e_6 => (if x1 = 0 then (some (e_6, 0, r0_refusals)) else (some (((64 : Int32) - e_6), 0, r0_refusals))))))))))
set_option maxHeartbeats 4000000 in
set_option maxRecDepth 100000 in
theorem C_M_codes (l : Launch) (D : va_G) (cI cS : ClassId) (a_r0 : Nat) (a_r0_figures : Nat) (a_r0_kinds : Nat) (a_r0_refusals : Nat) (v_r0_weights v_r0_days v_r0_hampers v_r0_wants0 v_r0_left0 v_r0_done0 v_r0_letters v_r0_letterMany v_r0_at v_r0_isBad v_r0_statements v_r0_placeIn v_r0_letterOf v_r0_told v_r0_kept v_r0_imaged v_r0_hasImage v_r0_place0 v_r0_isTaking v_r0_keptIn v_r0_turns0 v_r0_turnOf v_r0_turned v_r0_order0 v_r0_likely0 v_r0_leftThen v_r0_row v_r0_rowMany v_r0_seed : Value) (r0_things : Int32) (r0_thrown : Int32) (r0_figures : Nat → Int32) (r0_kinds : Nat → Int32) (r0_refusals : Nat → Int32) (x1 : Int32) (o : Int32 × (Int32) × (Nat → Int32)) (hr : F_M_codes r0_things r0_figures r0_kinds r0_refusals x1 = some o) : ctI l y_M_codes (Cond.code y_M_codes b_M_codes 6 (some FieldType.int)) (rmd 3) D (kTy cI cS) [.ref a_r0, .int x1] (w_M_codes cI a_r0 a_r0_figures a_r0_kinds a_r0_refusals v_r0_weights v_r0_days v_r0_hampers v_r0_wants0 v_r0_left0 v_r0_done0 v_r0_letters v_r0_letterMany v_r0_at v_r0_isBad v_r0_statements v_r0_placeIn v_r0_letterOf v_r0_told v_r0_kept v_r0_imaged v_r0_hasImage v_r0_place0 v_r0_isTaking v_r0_keptIn v_r0_turns0 v_r0_turnOf v_r0_turned v_r0_order0 v_r0_likely0 v_r0_leftThen v_r0_row v_r0_rowMany v_r0_seed r0_things r0_thrown r0_figures r0_kinds r0_refusals) (w_M_codes cI a_r0 a_r0_figures a_r0_kinds a_r0_refusals v_r0_weights v_r0_days v_r0_hampers v_r0_wants0 v_r0_left0 v_r0_done0 v_r0_letters v_r0_letterMany v_r0_at v_r0_isBad v_r0_statements v_r0_placeIn v_r0_letterOf v_r0_told v_r0_kept v_r0_imaged v_r0_hasImage v_r0_place0 v_r0_isTaking v_r0_keptIn v_r0_turns0 v_r0_turnOf v_r0_turned v_r0_order0 v_r0_likely0 v_r0_leftThen v_r0_row v_r0_rowMany v_r0_seed r0_things o.2.1 r0_figures r0_kinds o.2.2) o.1 := by
  unfold F_M_codes at hr
  refine ⟨rfl, fun sz => ct_of (w0 := (w_M_codes cI a_r0 a_r0_figures a_r0_kinds a_r0_refusals v_r0_weights v_r0_days v_r0_hampers v_r0_wants0 v_r0_left0 v_r0_done0 v_r0_letters v_r0_letterMany v_r0_at v_r0_isBad v_r0_statements v_r0_placeIn v_r0_letterOf v_r0_told v_r0_kept v_r0_imaged v_r0_hasImage v_r0_place0 v_r0_isTaking v_r0_keptIn v_r0_turns0 v_r0_turnOf v_r0_turned v_r0_order0 v_r0_likely0 v_r0_leftThen v_r0_row v_r0_rowMany v_r0_seed r0_things r0_thrown r0_figures r0_kinds r0_refusals)) (Qc := fun A => qI D (w_M_codes cI a_r0 a_r0_figures a_r0_kinds a_r0_refusals v_r0_weights v_r0_days v_r0_hampers v_r0_wants0 v_r0_left0 v_r0_done0 v_r0_letters v_r0_letterMany v_r0_at v_r0_isBad v_r0_statements v_r0_placeIn v_r0_letterOf v_r0_told v_r0_kept v_r0_imaged v_r0_hasImage v_r0_place0 v_r0_isTaking v_r0_keptIn v_r0_turns0 v_r0_turnOf v_r0_turned v_r0_order0 v_r0_likely0 v_r0_leftThen v_r0_row v_r0_rowMany v_r0_seed r0_things o.2.1 r0_figures r0_kinds o.2.2) o.1 A) rfl (Nat.le_of_ble_eq_true rfl) ?_ sz⟩
  intro p e s m below meth c A hA C hret ls hl hW
  have C : cx p s m ([.ref a_r0, .int x1] : List Value).toArray meth c b_M_codes 6 R_M D (kTy cI cS) (Cond.code y_M_codes b_M_codes 6 (some FieldType.int)) := C
  obtain ⟨hx, hb, hml, hown, hts, hK, hlk, hN⟩ := id C
  have hl : lv_has ls 6 [(0, .ref a_r0), (1, .int x1)] := hl
  obtain ⟨Q, hQ⟩ : ∃ Q, Q = MQ below (qI D (w_M_codes cI a_r0 a_r0_figures a_r0_kinds a_r0_refusals v_r0_weights v_r0_days v_r0_hampers v_r0_wants0 v_r0_left0 v_r0_done0 v_r0_letters v_r0_letterMany v_r0_at v_r0_isBad v_r0_statements v_r0_placeIn v_r0_letterOf v_r0_told v_r0_kept v_r0_imaged v_r0_hasImage v_r0_place0 v_r0_isTaking v_r0_keptIn v_r0_turns0 v_r0_turnOf v_r0_turned v_r0_order0 v_r0_likely0 v_r0_leftThen v_r0_row v_r0_rowMany v_r0_seed r0_things o.2.1 r0_figures r0_kinds o.2.2) o.1 A) ([.ref a_r0, .int x1] : List Value).toArray s 0 0 A := ⟨_, rfl⟩
  rw [← hQ]
  refine lv_aload_n hx hb d_M_codes_0 rfl (lv_at hl 0 rfl) ?_
  refine lv_iconst (v := 0) hx hb d_M_codes_1 (by decide) ?_
  refine k_put i_M t_M_ok n_M C hW 0 rfl rfl 9 (by decide) qf_M_67 rfl rfl (ty := .int) rfl rfl rfl (Nat.le_of_ble_eq_true rfl) (ws' := (w_M_codes cI a_r0 a_r0_figures a_r0_kinds a_r0_refusals v_r0_weights v_r0_days v_r0_hampers v_r0_wants0 v_r0_left0 v_r0_done0 v_r0_letters v_r0_letterMany v_r0_at v_r0_isBad v_r0_statements v_r0_placeIn v_r0_letterOf v_r0_told v_r0_kept v_r0_imaged v_r0_hasImage v_r0_place0 v_r0_isTaking v_r0_keptIn v_r0_turns0 v_r0_turnOf v_r0_turned v_r0_order0 v_r0_likely0 v_r0_leftThen v_r0_row v_r0_rowMany v_r0_seed r0_things 0 r0_figures r0_kinds r0_refusals)) rfl d_M_codes_2 (fun H locs hW => ?_)
  refine lv_iload_n hx hb d_M_codes_5 rfl (lv_at hl 1 rfl) ?_
  refine lv_i2l hx hb d_M_codes_6 rfl ?_
  refine lv_lconst (v := 0) hx hb d_M_codes_7 (by decide) ?_
  refine lv_lconst (v := 1) hx hb d_M_codes_8 (by decide) ?_
  obtain ⟨q_1, hc_1, hr⟩ := ob hr
  have ct_1 := C_M_in l D cI cS (Int32.toInt64 x1) 0 1 q_1 hc_1
  refine k_goIp hA hW [] rfl rfl (k_runS C hA hW mw_M_in ms_M_in (ct_1.2 _) [] rfl rfl qm_M_74 ⟨Nat.le_of_ble_eq_true rfl, Nat.le_of_ble_eq_true rfl, Nat.zero_le _, Nat.zero_le _⟩ rfl rfl (Nat.le_of_ble_eq_true rfl) hl.1 d_M_codes_9) (fun H locs hW => ?_)
  refine lv_if_ne (tgt := 22) hx hb d_M_codes_12 (by decide) (fun c_2 => ?_) (fun c_2 => ?_)
  · replace hr := iN c_2 hr
    refine lv_lconst (v := 0) hx hb d_M_codes_22 (by decide) ?_
    refine lv_lstore_n (lv' := [(2, .long 0), (0, .ref a_r0), (1, .int x1)]) hx hb d_M_codes_23 rfl hl (by decide) rfl (fun ls hl => ?_)
    refine lv_iconst (v := 0) hx hb d_M_codes_24 (by decide) ?_
    refine lv_istore (lv' := [(4, .int 0), (2, .long 0), (0, .ref a_r0), (1, .int x1)]) hx hb d_M_codes_25 hl (by decide) rfl (fun ls hl => ?_)
    obtain ⟨ex_3, hw_3, hk_3⟩ := ob hr
    have hx_3 : ∀ (e_3 : (Int64)), e_3 = ex_3 → ∀ (H : Heap) (locs : List Loc) (ls : Array Slot), wd A s.heap D (w_M_codes cI a_r0 a_r0_figures a_r0_kinds a_r0_refusals v_r0_weights v_r0_days v_r0_hampers v_r0_wants0 v_r0_left0 v_r0_done0 v_r0_letters v_r0_letterMany v_r0_at v_r0_isBad v_r0_statements v_r0_placeIn v_r0_letterOf v_r0_told v_r0_kept v_r0_imaged v_r0_hasImage v_r0_place0 v_r0_isTaking v_r0_keptIn v_r0_turns0 v_r0_turnOf v_r0_turned v_r0_order0 v_r0_likely0 v_r0_leftThen v_r0_row v_r0_rowMany v_r0_seed r0_things 0 r0_figures r0_kinds r0_refusals) H locs → lv_has ls 6 [(1, .int x1), (2, .long e_3)] → W p l e (rmd 3) s m ([.ref a_r0, .int x1] : List Value).toArray below meth c H locs 0 0 Q (F0 m 55 ls []) := by
      intro e_3 hE H locs ls hW hl
      subst hE; have hr := hk_3
      refine lv_iconst (v := 0) hx hb d_M_codes_55 (by decide) ?_
      refine lv_istore (lv' := [(4, .int 0), (1, .int x1), (2, .long e_3)]) hx hb d_M_codes_56 hl (by decide) rfl (fun ls hl => ?_)
      refine lv_iconst (v := 0) hx hb d_M_codes_58 (by decide) ?_
      refine lv_istore (lv' := [(5, .int 0), (4, .int 0), (1, .int x1), (2, .long e_3)]) hx hb d_M_codes_59 hl (by decide) rfl (fun ls hl => ?_)
      obtain ⟨ex_6, hw_6, hk_6⟩ := ob hr
      have hx_6 : ∀ (e_6 : (Int32)), e_6 = ex_6 → ∀ (H : Heap) (locs : List Loc) (ls : Array Slot), wd A s.heap D (w_M_codes cI a_r0 a_r0_figures a_r0_kinds a_r0_refusals v_r0_weights v_r0_days v_r0_hampers v_r0_wants0 v_r0_left0 v_r0_done0 v_r0_letters v_r0_letterMany v_r0_at v_r0_isBad v_r0_statements v_r0_placeIn v_r0_letterOf v_r0_told v_r0_kept v_r0_imaged v_r0_hasImage v_r0_place0 v_r0_isTaking v_r0_keptIn v_r0_turns0 v_r0_turnOf v_r0_turned v_r0_order0 v_r0_likely0 v_r0_leftThen v_r0_row v_r0_rowMany v_r0_seed r0_things 0 r0_figures r0_kinds r0_refusals) H locs → lv_has ls 6 [(1, .int x1), (4, .int e_6)] → W p l e (rmd 3) s m ([.ref a_r0, .int x1] : List Value).toArray below meth c H locs 0 0 Q (F0 m 95 ls []) := by
        intro e_6 hE H locs ls hW hl
        subst hE; have hr := hk_6
        refine lv_iload_n hx hb d_M_codes_95 rfl (lv_at hl 0 rfl) ?_
        refine lv_if_ne (tgt := 104) hx hb d_M_codes_96 (by decide) (fun c_9 => ?_) (fun c_9 => ?_)
        · replace hr := iN c_9 hr
          refine lv_bipush (v := 64) hx hb d_M_codes_104 (by decide) ?_
          refine lv_iload hx hb d_M_codes_106 (lv_at hl 1 rfl) ?_
          refine lv_isub hx hb d_M_codes_108 ?_
          obtain rfl := Option.some.inj hr
          rw [hQ]; exact k_iret C hret hW d_M_codes_109
        · replace hr := ip c_9 hr
          refine lv_iload hx hb d_M_codes_99 (lv_at hl 1 rfl) ?_
          refine lv_goto (tgt := 109) hx hb d_M_codes_101 (by decide) ?_
          obtain rfl := Option.some.inj hr
          rw [hQ]; exact k_iret C hret hW d_M_codes_109
      have hl_6 : ∀ (k : Nat) (y4_6 : Int32) (y5_6 : Int32), wh (fun (s : (Int32) × (Int32)) => F_M_codes_L61 e_3 s.1 s.2) k (y4_6, y5_6) = some ex_6 → ∀ (H : Heap) (locs : List Loc) (ls : Array Slot), wd A s.heap D (w_M_codes cI a_r0 a_r0_figures a_r0_kinds a_r0_refusals v_r0_weights v_r0_days v_r0_hampers v_r0_wants0 v_r0_left0 v_r0_done0 v_r0_letters v_r0_letterMany v_r0_at v_r0_isBad v_r0_statements v_r0_placeIn v_r0_letterOf v_r0_told v_r0_kept v_r0_imaged v_r0_hasImage v_r0_place0 v_r0_isTaking v_r0_keptIn v_r0_turns0 v_r0_turnOf v_r0_turned v_r0_order0 v_r0_likely0 v_r0_leftThen v_r0_row v_r0_rowMany v_r0_seed r0_things 0 r0_figures r0_kinds r0_refusals) H locs → lv_has ls 6 [(1, .int x1), (2, .long e_3), (4, .int y4_6), (5, .int y5_6)] → W p l e (rmd 3) s m ([.ref a_r0, .int x1] : List Value).toArray below meth c H locs 0 0 Q (F0 m 61 ls []) := by
        intro k
        induction k with
        | zero => intro y4_6 y5_6 hw; exact absurd hw wh_0
        | succ k ih_6 =>
          intro y4_6 y5_6 hw H locs ls hW hl
          obtain ⟨z_6, hr, hz1_6, hz2_6⟩ := wh_s hw
          have hr : F_M_codes_L61 e_3 y4_6 y5_6 = some z_6 := hr
          unfold F_M_codes_L61 at hr
          refine lv_iload hx hb d_M_codes_61 (lv_at hl 3 rfl) ?_
          refine lv_bipush (v := 64) hx hb d_M_codes_63 (by decide) ?_
          refine lv_icmp_ge (tgt := 95) hx hb d_M_codes_65 (by decide) (fun c_7 => ?_) (fun c_7 => ?_)
          · replace hr := ip c_7 hr
            exact hx_6 _ (hz2_6 _ (Option.some.inj hr).symm) _ _ _ hW (lv_sub hl [0, 2] rfl)
          · replace hr := iN c_7 hr
            refine lv_iload hx hb d_M_codes_68 (lv_at hl 2 rfl) ?_
            refine lv_lload_n hx hb d_M_codes_70 rfl (lv_at hl 1 rfl) ?_
            refine lv_iload hx hb d_M_codes_71 (lv_at hl 3 rfl) ?_
            refine lv_lshr hx hb d_M_codes_73 rfl ?_
            refine lv_lconst (v := 1) hx hb d_M_codes_74 (by decide) ?_
            refine lv_land hx hb d_M_codes_75 ?_
            refine lv_lconst (v := 1) hx hb d_M_codes_76 (by decide) ?_
            refine W.lcmp hx hb d_M_codes_77 ?_
            refine lv_if_ne (tgt := 85) hx hb d_M_codes_78 (by decide) (fun c_8 => ?_) (fun c_8 => ?_)
            · replace hr := iN c_8 hr
              refine lv_iconst (v := 0) hx hb d_M_codes_85 (by decide) ?_
              refine lv_iadd hx hb d_M_codes_86 ?_
              refine lv_istore (lv' := [(4, .int (y4_6 + 0)), (1, .int x1), (2, .long e_3), (5, .int y5_6)]) hx hb d_M_codes_87 hl (by decide) rfl (fun ls hl => ?_)
              refine lv_iinc (v := (y5_6 + 1)) (lv' := [(5, .int (y5_6 + 1)), (4, .int (y4_6 + 0)), (1, .int x1), (2, .long e_3)]) hx hb d_M_codes_89 hl (k := 3) rfl rfl (by decide) rfl (fun ls hl => ?_)
              refine lv_goto (tgt := 61) hx hb d_M_codes_92 (by decide) ?_
              exact ih_6 (y4_6 + 0) (y5_6 + 1) (hz1_6 _ (Option.some.inj hr).symm) _ _ _ hW (lv_sub hl [2, 3, 1, 0] rfl)
            · replace hr := ip c_8 hr
              refine lv_iconst (v := 1) hx hb d_M_codes_81 (by decide) ?_
              refine lv_goto (tgt := 86) hx hb d_M_codes_82 (by decide) ?_
              refine lv_iadd hx hb d_M_codes_86 ?_
              refine lv_istore (lv' := [(4, .int (y4_6 + 1)), (1, .int x1), (2, .long e_3), (5, .int y5_6)]) hx hb d_M_codes_87 hl (by decide) rfl (fun ls hl => ?_)
              refine lv_iinc (v := (y5_6 + 1)) (lv' := [(5, .int (y5_6 + 1)), (4, .int (y4_6 + 1)), (1, .int x1), (2, .long e_3)]) hx hb d_M_codes_89 hl (k := 3) rfl rfl (by decide) rfl (fun ls hl => ?_)
              refine lv_goto (tgt := 61) hx hb d_M_codes_92 (by decide) ?_
              exact ih_6 (y4_6 + 1) (y5_6 + 1) (hz1_6 _ (Option.some.inj hr).symm) _ _ _ hW (lv_sub hl [2, 3, 1, 0] rfl)
      exact hl_6 _ 0 0 hw_6 _ _ _ hW (lv_sub hl [2, 3, 1, 0] rfl)
    have hl_3 : ∀ (k : Nat) (y2_3 : Int64) (y4_3 : Int32), wh (fun (s : (Int64) × (Int32)) => F_M_codes_L27 r0_things r0_figures r0_kinds s.1 s.2) k (y2_3, y4_3) = some ex_3 → ∀ (H : Heap) (locs : List Loc) (ls : Array Slot), wd A s.heap D (w_M_codes cI a_r0 a_r0_figures a_r0_kinds a_r0_refusals v_r0_weights v_r0_days v_r0_hampers v_r0_wants0 v_r0_left0 v_r0_done0 v_r0_letters v_r0_letterMany v_r0_at v_r0_isBad v_r0_statements v_r0_placeIn v_r0_letterOf v_r0_told v_r0_kept v_r0_imaged v_r0_hasImage v_r0_place0 v_r0_isTaking v_r0_keptIn v_r0_turns0 v_r0_turnOf v_r0_turned v_r0_order0 v_r0_likely0 v_r0_leftThen v_r0_row v_r0_rowMany v_r0_seed r0_things 0 r0_figures r0_kinds r0_refusals) H locs → lv_has ls 6 [(0, .ref a_r0), (1, .int x1), (2, .long y2_3), (4, .int y4_3)] → W p l e (rmd 3) s m ([.ref a_r0, .int x1] : List Value).toArray below meth c H locs 0 0 Q (F0 m 27 ls []) := by
      intro k
      induction k with
      | zero => intro y2_3 y4_3 hw; exact absurd hw wh_0
      | succ k ih_3 =>
        intro y2_3 y4_3 hw H locs ls hW hl
        obtain ⟨z_3, hr, hz1_3, hz2_3⟩ := wh_s hw
        have hr : F_M_codes_L27 r0_things r0_figures r0_kinds y2_3 y4_3 = some z_3 := hr
        unfold F_M_codes_L27 at hr
        refine lv_iload hx hb d_M_codes_27 (lv_at hl 3 rfl) ?_
        refine lv_iconst (v := 1) hx hb d_M_codes_29 (by decide) ?_
        refine lv_aload_n hx hb d_M_codes_30 rfl (lv_at hl 0 rfl) ?_
        refine k_get i_M C hW 0 rfl rfl 1 (by decide) qf_M_71 rfl rfl d_M_codes_31 ?_
        refine lv_ishl hx hb d_M_codes_34 ?_
        refine lv_icmp_ge (tgt := 55) hx hb d_M_codes_35 (by decide) (fun c_4 => ?_) (fun c_4 => ?_)
        · replace hr := ip c_4 hr
          exact hx_3 _ (hz2_3 _ (Option.some.inj hr).symm) _ _ _ hW (lv_sub hl [1, 2] rfl)
        · replace hr := iN c_4 hr
          refine lv_lload_n hx hb d_M_codes_38 rfl (lv_at hl 2 rfl) ?_
          refine lv_lconst (v := 1) hx hb d_M_codes_39 (by decide) ?_
          refine lv_aload_n hx hb d_M_codes_40 rfl (lv_at hl 0 rfl) ?_
          refine lv_iload hx hb d_M_codes_41 (lv_at hl 3 rfl) ?_
          obtain ⟨q_5, hc_5, hr⟩ := ob hr
          have ct_5 := C_M_couldBe l D cI cS a_r0 a_r0_figures a_r0_kinds v_r0_weights v_r0_days v_r0_hampers v_r0_wants0 v_r0_left0 v_r0_done0 (Value.int 0) (Value.ref a_r0_refusals) v_r0_letters v_r0_letterMany v_r0_at v_r0_isBad v_r0_statements v_r0_placeIn v_r0_letterOf v_r0_told v_r0_kept v_r0_imaged v_r0_hasImage v_r0_place0 v_r0_isTaking v_r0_keptIn v_r0_turns0 v_r0_turnOf v_r0_turned v_r0_order0 v_r0_likely0 v_r0_leftThen v_r0_row v_r0_rowMany v_r0_seed r0_things r0_figures r0_kinds y4_3 q_5 hc_5
          refine k_goIp hA hW [0, 1, 2] rfl rfl (k_runV C hA hW mw_M_couldBe mv_M_couldBe (ct_5.2 _) [0, 1, 2] rfl rfl 0 rfl rfl qm_M_99 ⟨Nat.le_of_ble_eq_true rfl, Nat.le_of_ble_eq_true rfl, Nat.zero_le _, Nat.zero_le _⟩ rfl rfl (Nat.le_of_ble_eq_true rfl) hl.1 d_M_codes_43) (fun H locs hW => ?_)
          refine lv_lshl hx hb d_M_codes_46 rfl ?_
          refine lv_lor hx hb d_M_codes_47 ?_
          refine lv_lstore_n (lv' := [(2, .long (y2_3 ||| ((1 : Int64) <<< (Int32.toInt64 q_5 &&& 63)))), (0, .ref a_r0), (1, .int x1), (4, .int y4_3)]) hx hb d_M_codes_48 rfl hl (by decide) rfl (fun ls hl => ?_)
          refine lv_iinc (v := (y4_3 + 1)) (lv' := [(4, .int (y4_3 + 1)), (2, .long (y2_3 ||| ((1 : Int64) <<< (Int32.toInt64 q_5 &&& 63)))), (0, .ref a_r0), (1, .int x1)]) hx hb d_M_codes_49 hl (k := 3) rfl rfl (by decide) rfl (fun ls hl => ?_)
          refine lv_goto (tgt := 27) hx hb d_M_codes_52 (by decide) ?_
          exact ih_3 (y2_3 ||| ((1 : Int64) <<< (Int32.toInt64 q_5 &&& 63))) (y4_3 + 1) (hz1_3 _ (Option.some.inj hr).symm) _ _ _ hW (lv_sub hl [2, 3, 1, 0] rfl)
    exact hl_3 _ 0 0 hw_3 _ _ _ hW (lv_sub hl [2, 3, 1, 0] rfl)
  · replace hr := ip c_2 hr
    refine lv_aload_n hx hb d_M_codes_15 rfl (lv_at hl 0 rfl) ?_
    refine lv_bipush (v := (-2)) hx hb d_M_codes_16 (by decide) ?_
    obtain ⟨q_10, hc_10, hr⟩ := ob hr
    have ct_10 := C_M_refuse l D cI cS a_r0 a_r0_refusals v_r0_weights (Value.int r0_things) (Value.ref a_r0_kinds) (Value.ref a_r0_figures) v_r0_days v_r0_hampers v_r0_wants0 v_r0_left0 v_r0_done0 (Value.int 0) v_r0_letters v_r0_letterMany v_r0_at v_r0_isBad v_r0_statements v_r0_placeIn v_r0_letterOf v_r0_told v_r0_kept v_r0_imaged v_r0_hasImage v_r0_place0 v_r0_isTaking v_r0_keptIn v_r0_turns0 v_r0_turnOf v_r0_turned v_r0_order0 v_r0_likely0 v_r0_leftThen v_r0_row v_r0_rowMany v_r0_seed r0_refusals (-2) q_10 hc_10
    refine k_goI hA hW [0, 3] rfl ct_10.1 (ws' := (w_M_codes cI a_r0 a_r0_figures a_r0_kinds a_r0_refusals v_r0_weights v_r0_days v_r0_hampers v_r0_wants0 v_r0_left0 v_r0_done0 v_r0_letters v_r0_letterMany v_r0_at v_r0_isBad v_r0_statements v_r0_placeIn v_r0_letterOf v_r0_told v_r0_kept v_r0_imaged v_r0_hasImage v_r0_place0 v_r0_isTaking v_r0_keptIn v_r0_turns0 v_r0_turnOf v_r0_turned v_r0_order0 v_r0_likely0 v_r0_leftThen v_r0_row v_r0_rowMany v_r0_seed r0_things 0 r0_figures r0_kinds q_10.2)) rfl (k_runV C hA hW mw_M_refuse mv_M_refuse (ct_10.2 _) [0, 3] rfl rfl 0 rfl rfl qm_M_108 ⟨Nat.le_of_ble_eq_true rfl, Nat.le_of_ble_eq_true rfl, Nat.zero_le _, Nat.zero_le _⟩ rfl rfl (Nat.le_of_ble_eq_true rfl) hl.1 d_M_codes_18) (fun H locs hW => ?_)
    obtain rfl := Option.some.inj hr
    rw [hQ]; exact k_iret C hret hW d_M_codes_21
def w_M_dayComes (cI : ClassId) (a_r0 : Nat) (a_r0_hampers : Nat) (v_r0_weights v_r0_things v_r0_kinds v_r0_figures v_r0_wants0 v_r0_left0 v_r0_done0 v_r0_thrown v_r0_refusals v_r0_letters v_r0_letterMany v_r0_at v_r0_isBad v_r0_statements v_r0_placeIn v_r0_letterOf v_r0_told v_r0_kept v_r0_imaged v_r0_hasImage v_r0_place0 v_r0_isTaking v_r0_keptIn v_r0_turns0 v_r0_turnOf v_r0_turned v_r0_order0 v_r0_likely0 v_r0_leftThen v_r0_row v_r0_rowMany v_r0_seed : Value) (r0_days : Int32) (r0_hampers : Nat → Int32) : va_W := [(a_r0, .inr (9, [v_r0_weights, v_r0_things, v_r0_kinds, v_r0_figures, .int r0_days, .ref a_r0_hampers, v_r0_wants0, v_r0_left0, v_r0_done0, v_r0_thrown, v_r0_refusals, v_r0_letters, v_r0_letterMany, v_r0_at, v_r0_isBad, v_r0_statements, v_r0_placeIn, v_r0_letterOf, v_r0_told, v_r0_kept, v_r0_imaged, v_r0_hasImage, v_r0_place0, v_r0_isTaking, v_r0_keptIn, v_r0_turns0, v_r0_turnOf, v_r0_turned, v_r0_order0, v_r0_likely0, v_r0_leftThen, v_r0_row, v_r0_rowMany, v_r0_seed])), (a_r0_hampers, .inl (cI, 8, .inl r0_hampers))]
def F_M_dayComes (r0_days : Int32) (r0_hampers : Nat → Int32) (x1 : Int32) : Option ((Int32) × (Nat → Int32)) :=
  (ck r0_days 8 (some ((r0_days + 1), (upd r0_hampers (Int32.toNatClampNeg r0_days) x1))))
set_option maxHeartbeats 4000000 in
set_option maxRecDepth 100000 in
theorem C_M_dayComes (l : Launch) (D : va_G) (cI cS : ClassId) (a_r0 : Nat) (a_r0_hampers : Nat) (v_r0_weights v_r0_things v_r0_kinds v_r0_figures v_r0_wants0 v_r0_left0 v_r0_done0 v_r0_thrown v_r0_refusals v_r0_letters v_r0_letterMany v_r0_at v_r0_isBad v_r0_statements v_r0_placeIn v_r0_letterOf v_r0_told v_r0_kept v_r0_imaged v_r0_hasImage v_r0_place0 v_r0_isTaking v_r0_keptIn v_r0_turns0 v_r0_turnOf v_r0_turned v_r0_order0 v_r0_likely0 v_r0_leftThen v_r0_row v_r0_rowMany v_r0_seed : Value) (r0_days : Int32) (r0_hampers : Nat → Int32) (x1 : Int32) (o : (Int32) × (Nat → Int32)) (hr : F_M_dayComes r0_days r0_hampers x1 = some o) : ctV l y_M_dayComes (Cond.code y_M_dayComes b_M_dayComes 2 none) (rmd 0) D (kTy cI cS) [.ref a_r0, .int x1] (w_M_dayComes cI a_r0 a_r0_hampers v_r0_weights v_r0_things v_r0_kinds v_r0_figures v_r0_wants0 v_r0_left0 v_r0_done0 v_r0_thrown v_r0_refusals v_r0_letters v_r0_letterMany v_r0_at v_r0_isBad v_r0_statements v_r0_placeIn v_r0_letterOf v_r0_told v_r0_kept v_r0_imaged v_r0_hasImage v_r0_place0 v_r0_isTaking v_r0_keptIn v_r0_turns0 v_r0_turnOf v_r0_turned v_r0_order0 v_r0_likely0 v_r0_leftThen v_r0_row v_r0_rowMany v_r0_seed r0_days r0_hampers) (w_M_dayComes cI a_r0 a_r0_hampers v_r0_weights v_r0_things v_r0_kinds v_r0_figures v_r0_wants0 v_r0_left0 v_r0_done0 v_r0_thrown v_r0_refusals v_r0_letters v_r0_letterMany v_r0_at v_r0_isBad v_r0_statements v_r0_placeIn v_r0_letterOf v_r0_told v_r0_kept v_r0_imaged v_r0_hasImage v_r0_place0 v_r0_isTaking v_r0_keptIn v_r0_turns0 v_r0_turnOf v_r0_turned v_r0_order0 v_r0_likely0 v_r0_leftThen v_r0_row v_r0_rowMany v_r0_seed o.1 o.2) := by
  unfold F_M_dayComes at hr
  refine ⟨rfl, fun sz => ct_of (w0 := (w_M_dayComes cI a_r0 a_r0_hampers v_r0_weights v_r0_things v_r0_kinds v_r0_figures v_r0_wants0 v_r0_left0 v_r0_done0 v_r0_thrown v_r0_refusals v_r0_letters v_r0_letterMany v_r0_at v_r0_isBad v_r0_statements v_r0_placeIn v_r0_letterOf v_r0_told v_r0_kept v_r0_imaged v_r0_hasImage v_r0_place0 v_r0_isTaking v_r0_keptIn v_r0_turns0 v_r0_turnOf v_r0_turned v_r0_order0 v_r0_likely0 v_r0_leftThen v_r0_row v_r0_rowMany v_r0_seed r0_days r0_hampers)) (Qc := fun A => qV D (w_M_dayComes cI a_r0 a_r0_hampers v_r0_weights v_r0_things v_r0_kinds v_r0_figures v_r0_wants0 v_r0_left0 v_r0_done0 v_r0_thrown v_r0_refusals v_r0_letters v_r0_letterMany v_r0_at v_r0_isBad v_r0_statements v_r0_placeIn v_r0_letterOf v_r0_told v_r0_kept v_r0_imaged v_r0_hasImage v_r0_place0 v_r0_isTaking v_r0_keptIn v_r0_turns0 v_r0_turnOf v_r0_turned v_r0_order0 v_r0_likely0 v_r0_leftThen v_r0_row v_r0_rowMany v_r0_seed o.1 o.2) A) rfl (Nat.le_of_ble_eq_true rfl) ?_ sz⟩
  intro p e s m below meth c A hA C hret ls hl hW
  have C : cx p s m ([.ref a_r0, .int x1] : List Value).toArray meth c b_M_dayComes 2 R_M D (kTy cI cS) (Cond.code y_M_dayComes b_M_dayComes 2 none) := C
  obtain ⟨hx, hb, hml, hown, hts, hK, hlk, hN⟩ := id C
  have hl : lv_has ls 2 [(0, .ref a_r0), (1, .int x1)] := hl
  obtain ⟨Q, hQ⟩ : ∃ Q, Q = MQ below (qV D (w_M_dayComes cI a_r0 a_r0_hampers v_r0_weights v_r0_things v_r0_kinds v_r0_figures v_r0_wants0 v_r0_left0 v_r0_done0 v_r0_thrown v_r0_refusals v_r0_letters v_r0_letterMany v_r0_at v_r0_isBad v_r0_statements v_r0_placeIn v_r0_letterOf v_r0_told v_r0_kept v_r0_imaged v_r0_hasImage v_r0_place0 v_r0_isTaking v_r0_keptIn v_r0_turns0 v_r0_turnOf v_r0_turned v_r0_order0 v_r0_likely0 v_r0_leftThen v_r0_row v_r0_rowMany v_r0_seed o.1 o.2) A) ([.ref a_r0, .int x1] : List Value).toArray s 0 0 A := ⟨_, rfl⟩
  rw [← hQ]
  refine lv_aload_n hx hb d_M_dayComes_0 rfl (lv_at hl 0 rfl) ?_
  refine k_get i_M C hW 0 rfl rfl 5 (by decide) qf_M_19 rfl rfl d_M_dayComes_1 ?_
  refine lv_aload_n hx hb d_M_dayComes_4 rfl (lv_at hl 0 rfl) ?_
  refine k_get i_M C hW 0 rfl rfl 4 (by decide) qf_M_78 rfl rfl d_M_dayComes_5 ?_
  refine lv_iload_n hx hb d_M_dayComes_8 rfl (lv_at hl 1 rfl) ?_
  obtain ⟨h_1, hr⟩ := ck_some hr
  refine k_iast C hW 1 rfl h_1 (ws' := (w_M_dayComes cI a_r0 a_r0_hampers v_r0_weights v_r0_things v_r0_kinds v_r0_figures v_r0_wants0 v_r0_left0 v_r0_done0 v_r0_thrown v_r0_refusals v_r0_letters v_r0_letterMany v_r0_at v_r0_isBad v_r0_statements v_r0_placeIn v_r0_letterOf v_r0_told v_r0_kept v_r0_imaged v_r0_hasImage v_r0_place0 v_r0_isTaking v_r0_keptIn v_r0_turns0 v_r0_turnOf v_r0_turned v_r0_order0 v_r0_likely0 v_r0_leftThen v_r0_row v_r0_rowMany v_r0_seed r0_days (upd r0_hampers (Int32.toNatClampNeg r0_days) x1))) rfl d_M_dayComes_9 (fun H locs hW => ?_)
  refine lv_aload_n hx hb d_M_dayComes_10 rfl (lv_at hl 0 rfl) ?_
  refine lv_dup hx hb d_M_dayComes_11 rfl ?_
  refine k_get i_M C hW 0 rfl rfl 4 (by decide) qf_M_78 rfl rfl d_M_dayComes_12 ?_
  refine lv_iconst (v := 1) hx hb d_M_dayComes_15 (by decide) ?_
  refine lv_iadd hx hb d_M_dayComes_16 ?_
  refine k_put i_M t_M_ok n_M C hW 0 rfl rfl 4 (by decide) qf_M_78 rfl rfl (ty := .int) rfl rfl rfl (Nat.le_of_ble_eq_true rfl) (ws' := (w_M_dayComes cI a_r0 a_r0_hampers v_r0_weights v_r0_things v_r0_kinds v_r0_figures v_r0_wants0 v_r0_left0 v_r0_done0 v_r0_thrown v_r0_refusals v_r0_letters v_r0_letterMany v_r0_at v_r0_isBad v_r0_statements v_r0_placeIn v_r0_letterOf v_r0_told v_r0_kept v_r0_imaged v_r0_hasImage v_r0_place0 v_r0_isTaking v_r0_keptIn v_r0_turns0 v_r0_turnOf v_r0_turned v_r0_order0 v_r0_likely0 v_r0_leftThen v_r0_row v_r0_rowMany v_r0_seed (r0_days + 1) (upd r0_hampers (Int32.toNatClampNeg r0_days) x1))) rfl d_M_dayComes_17 (fun H locs hW => ?_)
  obtain rfl := Option.some.inj hr
  rw [hQ]; exact k_vret C hret hW d_M_dayComes_20
def w_M_isThing (cI : ClassId) (a_r0 : Nat) (v_r0_weights v_r0_kinds v_r0_figures v_r0_days v_r0_hampers v_r0_wants0 v_r0_left0 v_r0_done0 v_r0_thrown v_r0_refusals v_r0_letters v_r0_letterMany v_r0_at v_r0_isBad v_r0_statements v_r0_placeIn v_r0_letterOf v_r0_told v_r0_kept v_r0_imaged v_r0_hasImage v_r0_place0 v_r0_isTaking v_r0_keptIn v_r0_turns0 v_r0_turnOf v_r0_turned v_r0_order0 v_r0_likely0 v_r0_leftThen v_r0_row v_r0_rowMany v_r0_seed : Value) (r0_things : Int32) : va_W := [(a_r0, .inr (9, [v_r0_weights, .int r0_things, v_r0_kinds, v_r0_figures, v_r0_days, v_r0_hampers, v_r0_wants0, v_r0_left0, v_r0_done0, v_r0_thrown, v_r0_refusals, v_r0_letters, v_r0_letterMany, v_r0_at, v_r0_isBad, v_r0_statements, v_r0_placeIn, v_r0_letterOf, v_r0_told, v_r0_kept, v_r0_imaged, v_r0_hasImage, v_r0_place0, v_r0_isTaking, v_r0_keptIn, v_r0_turns0, v_r0_turnOf, v_r0_turned, v_r0_order0, v_r0_likely0, v_r0_leftThen, v_r0_row, v_r0_rowMany, v_r0_seed]))]
def F_M_isThing (r0_things : Int32) (x1 : Int32) : Option (Int32) :=
  ((F_M_in (Int32.toInt64 x1) (0 : Int64) (Int32.toInt64 (r0_things - 1))).bind (fun q_1 => (ckz q_1 (some q_1))))
set_option maxHeartbeats 4000000 in
set_option maxRecDepth 100000 in
theorem C_M_isThing (l : Launch) (D : va_G) (cI cS : ClassId) (a_r0 : Nat) (v_r0_weights v_r0_kinds v_r0_figures v_r0_days v_r0_hampers v_r0_wants0 v_r0_left0 v_r0_done0 v_r0_thrown v_r0_refusals v_r0_letters v_r0_letterMany v_r0_at v_r0_isBad v_r0_statements v_r0_placeIn v_r0_letterOf v_r0_told v_r0_kept v_r0_imaged v_r0_hasImage v_r0_place0 v_r0_isTaking v_r0_keptIn v_r0_turns0 v_r0_turnOf v_r0_turned v_r0_order0 v_r0_likely0 v_r0_leftThen v_r0_row v_r0_rowMany v_r0_seed : Value) (r0_things : Int32) (x1 : Int32) (o : Int32) (hr : F_M_isThing r0_things x1 = some o) : ctI l y_M_isThing (Cond.code y_M_isThing b_M_isThing 2 (some FieldType.boolean)) (rmd 1) D (kTy cI cS) [.ref a_r0, .int x1] (w_M_isThing cI a_r0 v_r0_weights v_r0_kinds v_r0_figures v_r0_days v_r0_hampers v_r0_wants0 v_r0_left0 v_r0_done0 v_r0_thrown v_r0_refusals v_r0_letters v_r0_letterMany v_r0_at v_r0_isBad v_r0_statements v_r0_placeIn v_r0_letterOf v_r0_told v_r0_kept v_r0_imaged v_r0_hasImage v_r0_place0 v_r0_isTaking v_r0_keptIn v_r0_turns0 v_r0_turnOf v_r0_turned v_r0_order0 v_r0_likely0 v_r0_leftThen v_r0_row v_r0_rowMany v_r0_seed r0_things) (w_M_isThing cI a_r0 v_r0_weights v_r0_kinds v_r0_figures v_r0_days v_r0_hampers v_r0_wants0 v_r0_left0 v_r0_done0 v_r0_thrown v_r0_refusals v_r0_letters v_r0_letterMany v_r0_at v_r0_isBad v_r0_statements v_r0_placeIn v_r0_letterOf v_r0_told v_r0_kept v_r0_imaged v_r0_hasImage v_r0_place0 v_r0_isTaking v_r0_keptIn v_r0_turns0 v_r0_turnOf v_r0_turned v_r0_order0 v_r0_likely0 v_r0_leftThen v_r0_row v_r0_rowMany v_r0_seed r0_things) o := by
  unfold F_M_isThing at hr
  refine ⟨rfl, fun sz => ct_of (w0 := (w_M_isThing cI a_r0 v_r0_weights v_r0_kinds v_r0_figures v_r0_days v_r0_hampers v_r0_wants0 v_r0_left0 v_r0_done0 v_r0_thrown v_r0_refusals v_r0_letters v_r0_letterMany v_r0_at v_r0_isBad v_r0_statements v_r0_placeIn v_r0_letterOf v_r0_told v_r0_kept v_r0_imaged v_r0_hasImage v_r0_place0 v_r0_isTaking v_r0_keptIn v_r0_turns0 v_r0_turnOf v_r0_turned v_r0_order0 v_r0_likely0 v_r0_leftThen v_r0_row v_r0_rowMany v_r0_seed r0_things)) (Qc := fun A => qI D (w_M_isThing cI a_r0 v_r0_weights v_r0_kinds v_r0_figures v_r0_days v_r0_hampers v_r0_wants0 v_r0_left0 v_r0_done0 v_r0_thrown v_r0_refusals v_r0_letters v_r0_letterMany v_r0_at v_r0_isBad v_r0_statements v_r0_placeIn v_r0_letterOf v_r0_told v_r0_kept v_r0_imaged v_r0_hasImage v_r0_place0 v_r0_isTaking v_r0_keptIn v_r0_turns0 v_r0_turnOf v_r0_turned v_r0_order0 v_r0_likely0 v_r0_leftThen v_r0_row v_r0_rowMany v_r0_seed r0_things) o A) rfl (Nat.le_of_ble_eq_true rfl) ?_ sz⟩
  intro p e s m below meth c A hA C hret ls hl hW
  have C : cx p s m ([.ref a_r0, .int x1] : List Value).toArray meth c b_M_isThing 2 R_M D (kTy cI cS) (Cond.code y_M_isThing b_M_isThing 2 (some FieldType.boolean)) := C
  obtain ⟨hx, hb, hml, hown, hts, hK, hlk, hN⟩ := id C
  have hl : lv_has ls 2 [(0, .ref a_r0), (1, .int x1)] := hl
  obtain ⟨Q, hQ⟩ : ∃ Q, Q = MQ below (qI D (w_M_isThing cI a_r0 v_r0_weights v_r0_kinds v_r0_figures v_r0_days v_r0_hampers v_r0_wants0 v_r0_left0 v_r0_done0 v_r0_thrown v_r0_refusals v_r0_letters v_r0_letterMany v_r0_at v_r0_isBad v_r0_statements v_r0_placeIn v_r0_letterOf v_r0_told v_r0_kept v_r0_imaged v_r0_hasImage v_r0_place0 v_r0_isTaking v_r0_keptIn v_r0_turns0 v_r0_turnOf v_r0_turned v_r0_order0 v_r0_likely0 v_r0_leftThen v_r0_row v_r0_rowMany v_r0_seed r0_things) o A) ([.ref a_r0, .int x1] : List Value).toArray s 0 0 A := ⟨_, rfl⟩
  rw [← hQ]
  refine lv_iload_n hx hb d_M_isThing_0 rfl (lv_at hl 1 rfl) ?_
  refine lv_i2l hx hb d_M_isThing_1 rfl ?_
  refine lv_lconst (v := 0) hx hb d_M_isThing_2 (by decide) ?_
  refine lv_aload_n hx hb d_M_isThing_3 rfl (lv_at hl 0 rfl) ?_
  refine k_get i_M C hW 0 rfl rfl 1 (by decide) qf_M_71 rfl rfl d_M_isThing_4 ?_
  refine lv_iconst (v := 1) hx hb d_M_isThing_7 (by decide) ?_
  refine lv_isub hx hb d_M_isThing_8 ?_
  refine lv_i2l hx hb d_M_isThing_9 rfl ?_
  obtain ⟨q_1, hc_1, hr⟩ := ob hr
  have ct_1 := C_M_in l D cI cS (Int32.toInt64 x1) 0 (Int32.toInt64 (r0_things - 1)) q_1 hc_1
  refine k_goIp hA hW [] rfl rfl (k_runS C hA hW mw_M_in ms_M_in (ct_1.2 _) [] rfl rfl qm_M_74 ⟨Nat.le_of_ble_eq_true rfl, Nat.le_of_ble_eq_true rfl, Nat.zero_le _, Nat.zero_le _⟩ rfl rfl (Nat.le_of_ble_eq_true rfl) hl.1 d_M_isThing_10) (fun H locs hW => ?_)
  obtain ⟨hz_2, -, hr⟩ := ckz_some hr
  obtain rfl := Option.some.inj hr
  rw [hQ]; exact k_zret C hret hz_2 hW d_M_isThing_13
def w_M_likeliest (cI : ClassId) (a_r0 : Nat) (a_r0_weights : Nat) (v_r0_things v_r0_kinds v_r0_figures v_r0_days v_r0_hampers v_r0_wants0 v_r0_left0 v_r0_done0 v_r0_thrown v_r0_refusals v_r0_letters v_r0_letterMany v_r0_at v_r0_isBad v_r0_statements v_r0_placeIn v_r0_letterOf v_r0_told v_r0_kept v_r0_imaged v_r0_hasImage v_r0_place0 v_r0_isTaking v_r0_keptIn v_r0_turns0 v_r0_turnOf v_r0_turned v_r0_order0 v_r0_likely0 v_r0_leftThen v_r0_row v_r0_rowMany v_r0_seed : Value) (r0_weights : Nat → Int32) : va_W := [(a_r0, .inr (9, [.ref a_r0_weights, v_r0_things, v_r0_kinds, v_r0_figures, v_r0_days, v_r0_hampers, v_r0_wants0, v_r0_left0, v_r0_done0, v_r0_thrown, v_r0_refusals, v_r0_letters, v_r0_letterMany, v_r0_at, v_r0_isBad, v_r0_statements, v_r0_placeIn, v_r0_letterOf, v_r0_told, v_r0_kept, v_r0_imaged, v_r0_hasImage, v_r0_place0, v_r0_isTaking, v_r0_keptIn, v_r0_turns0, v_r0_turnOf, v_r0_turned, v_r0_order0, v_r0_likely0, v_r0_leftThen, v_r0_row, v_r0_rowMany, v_r0_seed])), (a_r0_weights, .inl (cI, 6, .inl r0_weights))]
def F_M_likeliest_J53_7 (r0_weights : Nat → Int32) (y3_1 : Int32) (y4_1 : Int32) (s0_5 : Int32) (s0_7 : Int32) : Option (((Int32) × (Int32) × (Int32)) ⊕ ((Int32))) :=
  (if s0_5 = 0 then (some (.inl (s0_7, y3_1, (y4_1 + 1)))) else (ck y4_1 6 (some (.inl (s0_7, (r0_weights (Int32.toNatClampNeg y4_1)), (y4_1 + 1))))))
def F_M_likeliest_J40_5 (r0_weights : Nat → Int32) (y2_1 : Int32) (y3_1 : Int32) (y4_1 : Int32) (s0_5 : Int32) : Option (((Int32) × (Int32) × (Int32)) ⊕ ((Int32))) :=
  (if s0_5 = 0 then (F_M_likeliest_J53_7 r0_weights y3_1 y4_1 s0_5 y2_1) else (F_M_likeliest_J53_7 r0_weights y3_1 y4_1 s0_5 y4_1))
def F_M_likeliest_J39_10 (r0_weights : Nat → Int32) (y2_1 : Int32) (y3_1 : Int32) (y4_1 : Int32) : Option (((Int32) × (Int32) × (Int32)) ⊕ ((Int32))) :=
  (F_M_likeliest_J40_5 r0_weights y2_1 y3_1 y4_1 0)
def F_M_likeliest_L8 (r0_weights : Nat → Int32) (x1 : Int32) (y2_1 : Int32) (y3_1 : Int32) (y4_1 : Int32) : Option (((Int32) × (Int32) × (Int32)) ⊕ ((Int32))) :=
  (if (6 : Int32) ≤ y4_1 then (some (.inr y2_1)) else ((F_M_hasBit x1 y4_1).bind (fun q_3 => (if q_3 = 0 then (F_M_likeliest_J39_10 r0_weights y2_1 y3_1 y4_1) else (ck y4_1 6 (if (r0_weights (Int32.toNatClampNeg y4_1)) ≤ y3_1 then (F_M_likeliest_J39_10 r0_weights y2_1 y3_1 y4_1) else (F_M_likeliest_J40_5 r0_weights y2_1 y3_1 y4_1 1)))))))
def F_M_likeliest (r0_weights : Nat → Int32) (x1 : Int32) : Option (Int32) :=
  ((wh (fun (s : (Int32) × (Int32) × (Int32)) => F_M_likeliest_L8 r0_weights x1 s.1 s.2.1 s.2.2) 400 (((-9) : Int32), (0 : Int32), (0 : Int32))).bind (fun e_1 => (some e_1)))
set_option maxHeartbeats 4000000 in
set_option maxRecDepth 100000 in
theorem C_M_likeliest (l : Launch) (D : va_G) (cI cS : ClassId) (a_r0 : Nat) (a_r0_weights : Nat) (v_r0_things v_r0_kinds v_r0_figures v_r0_days v_r0_hampers v_r0_wants0 v_r0_left0 v_r0_done0 v_r0_thrown v_r0_refusals v_r0_letters v_r0_letterMany v_r0_at v_r0_isBad v_r0_statements v_r0_placeIn v_r0_letterOf v_r0_told v_r0_kept v_r0_imaged v_r0_hasImage v_r0_place0 v_r0_isTaking v_r0_keptIn v_r0_turns0 v_r0_turnOf v_r0_turned v_r0_order0 v_r0_likely0 v_r0_leftThen v_r0_row v_r0_rowMany v_r0_seed : Value) (r0_weights : Nat → Int32) (x1 : Int32) (o : Int32) (hr : F_M_likeliest r0_weights x1 = some o) : ctI l y_M_likeliest (Cond.code y_M_likeliest b_M_likeliest 6 (some FieldType.int)) (rmd 1) D (kTy cI cS) [.ref a_r0, .int x1] (w_M_likeliest cI a_r0 a_r0_weights v_r0_things v_r0_kinds v_r0_figures v_r0_days v_r0_hampers v_r0_wants0 v_r0_left0 v_r0_done0 v_r0_thrown v_r0_refusals v_r0_letters v_r0_letterMany v_r0_at v_r0_isBad v_r0_statements v_r0_placeIn v_r0_letterOf v_r0_told v_r0_kept v_r0_imaged v_r0_hasImage v_r0_place0 v_r0_isTaking v_r0_keptIn v_r0_turns0 v_r0_turnOf v_r0_turned v_r0_order0 v_r0_likely0 v_r0_leftThen v_r0_row v_r0_rowMany v_r0_seed r0_weights) (w_M_likeliest cI a_r0 a_r0_weights v_r0_things v_r0_kinds v_r0_figures v_r0_days v_r0_hampers v_r0_wants0 v_r0_left0 v_r0_done0 v_r0_thrown v_r0_refusals v_r0_letters v_r0_letterMany v_r0_at v_r0_isBad v_r0_statements v_r0_placeIn v_r0_letterOf v_r0_told v_r0_kept v_r0_imaged v_r0_hasImage v_r0_place0 v_r0_isTaking v_r0_keptIn v_r0_turns0 v_r0_turnOf v_r0_turned v_r0_order0 v_r0_likely0 v_r0_leftThen v_r0_row v_r0_rowMany v_r0_seed r0_weights) o := by
  unfold F_M_likeliest at hr
  refine ⟨rfl, fun sz => ct_of (w0 := (w_M_likeliest cI a_r0 a_r0_weights v_r0_things v_r0_kinds v_r0_figures v_r0_days v_r0_hampers v_r0_wants0 v_r0_left0 v_r0_done0 v_r0_thrown v_r0_refusals v_r0_letters v_r0_letterMany v_r0_at v_r0_isBad v_r0_statements v_r0_placeIn v_r0_letterOf v_r0_told v_r0_kept v_r0_imaged v_r0_hasImage v_r0_place0 v_r0_isTaking v_r0_keptIn v_r0_turns0 v_r0_turnOf v_r0_turned v_r0_order0 v_r0_likely0 v_r0_leftThen v_r0_row v_r0_rowMany v_r0_seed r0_weights)) (Qc := fun A => qI D (w_M_likeliest cI a_r0 a_r0_weights v_r0_things v_r0_kinds v_r0_figures v_r0_days v_r0_hampers v_r0_wants0 v_r0_left0 v_r0_done0 v_r0_thrown v_r0_refusals v_r0_letters v_r0_letterMany v_r0_at v_r0_isBad v_r0_statements v_r0_placeIn v_r0_letterOf v_r0_told v_r0_kept v_r0_imaged v_r0_hasImage v_r0_place0 v_r0_isTaking v_r0_keptIn v_r0_turns0 v_r0_turnOf v_r0_turned v_r0_order0 v_r0_likely0 v_r0_leftThen v_r0_row v_r0_rowMany v_r0_seed r0_weights) o A) rfl (Nat.le_of_ble_eq_true rfl) ?_ sz⟩
  intro p e s m below meth c A hA C hret ls hl hW
  have C : cx p s m ([.ref a_r0, .int x1] : List Value).toArray meth c b_M_likeliest 6 R_M D (kTy cI cS) (Cond.code y_M_likeliest b_M_likeliest 6 (some FieldType.int)) := C
  obtain ⟨hx, hb, hml, hown, hts, hK, hlk, hN⟩ := id C
  have hl : lv_has ls 6 [(0, .ref a_r0), (1, .int x1)] := hl
  obtain ⟨Q, hQ⟩ : ∃ Q, Q = MQ below (qI D (w_M_likeliest cI a_r0 a_r0_weights v_r0_things v_r0_kinds v_r0_figures v_r0_days v_r0_hampers v_r0_wants0 v_r0_left0 v_r0_done0 v_r0_thrown v_r0_refusals v_r0_letters v_r0_letterMany v_r0_at v_r0_isBad v_r0_statements v_r0_placeIn v_r0_letterOf v_r0_told v_r0_kept v_r0_imaged v_r0_hasImage v_r0_place0 v_r0_isTaking v_r0_keptIn v_r0_turns0 v_r0_turnOf v_r0_turned v_r0_order0 v_r0_likely0 v_r0_leftThen v_r0_row v_r0_rowMany v_r0_seed r0_weights) o A) ([.ref a_r0, .int x1] : List Value).toArray s 0 0 A := ⟨_, rfl⟩
  rw [← hQ]
  refine lv_bipush (v := (-9)) hx hb d_M_likeliest_0 (by decide) ?_
  refine lv_istore_n (lv' := [(2, .int (-9)), (0, .ref a_r0), (1, .int x1)]) hx hb d_M_likeliest_2 rfl hl (by decide) rfl (fun ls hl => ?_)
  refine lv_iconst (v := 0) hx hb d_M_likeliest_3 (by decide) ?_
  refine lv_istore_n (lv' := [(3, .int 0), (2, .int (-9)), (0, .ref a_r0), (1, .int x1)]) hx hb d_M_likeliest_4 rfl hl (by decide) rfl (fun ls hl => ?_)
  refine lv_iconst (v := 0) hx hb d_M_likeliest_5 (by decide) ?_
  refine lv_istore (lv' := [(4, .int 0), (3, .int 0), (2, .int (-9)), (0, .ref a_r0), (1, .int x1)]) hx hb d_M_likeliest_6 hl (by decide) rfl (fun ls hl => ?_)
  obtain ⟨ex_1, hw_1, hk_1⟩ := ob hr
  have hx_1 : ∀ (e_1 : (Int32)), e_1 = ex_1 → ∀ (H : Heap) (locs : List Loc) (ls : Array Slot), wd A s.heap D (w_M_likeliest cI a_r0 a_r0_weights v_r0_things v_r0_kinds v_r0_figures v_r0_days v_r0_hampers v_r0_wants0 v_r0_left0 v_r0_done0 v_r0_thrown v_r0_refusals v_r0_letters v_r0_letterMany v_r0_at v_r0_isBad v_r0_statements v_r0_placeIn v_r0_letterOf v_r0_told v_r0_kept v_r0_imaged v_r0_hasImage v_r0_place0 v_r0_isTaking v_r0_keptIn v_r0_turns0 v_r0_turnOf v_r0_turned v_r0_order0 v_r0_likely0 v_r0_leftThen v_r0_row v_r0_rowMany v_r0_seed r0_weights) H locs → lv_has ls 6 [(2, .int e_1)] → W p l e (rmd 1) s m ([.ref a_r0, .int x1] : List Value).toArray below meth c H locs 0 0 Q (F0 m 77 ls []) := by
    intro e_1 hE H locs ls hW hl
    subst hE; have hr := hk_1
    refine lv_iload_n hx hb d_M_likeliest_77 rfl (lv_at hl 0 rfl) ?_
    obtain rfl := Option.some.inj hr
    rw [hQ]; exact k_iret C hret hW d_M_likeliest_78
  have hl_1 : ∀ (k : Nat) (y2_1 : Int32) (y3_1 : Int32) (y4_1 : Int32), wh (fun (s : (Int32) × (Int32) × (Int32)) => F_M_likeliest_L8 r0_weights x1 s.1 s.2.1 s.2.2) k (y2_1, y3_1, y4_1) = some ex_1 → ∀ (H : Heap) (locs : List Loc) (ls : Array Slot), wd A s.heap D (w_M_likeliest cI a_r0 a_r0_weights v_r0_things v_r0_kinds v_r0_figures v_r0_days v_r0_hampers v_r0_wants0 v_r0_left0 v_r0_done0 v_r0_thrown v_r0_refusals v_r0_letters v_r0_letterMany v_r0_at v_r0_isBad v_r0_statements v_r0_placeIn v_r0_letterOf v_r0_told v_r0_kept v_r0_imaged v_r0_hasImage v_r0_place0 v_r0_isTaking v_r0_keptIn v_r0_turns0 v_r0_turnOf v_r0_turned v_r0_order0 v_r0_likely0 v_r0_leftThen v_r0_row v_r0_rowMany v_r0_seed r0_weights) H locs → lv_has ls 6 [(0, .ref a_r0), (1, .int x1), (2, .int y2_1), (3, .int y3_1), (4, .int y4_1)] → W p l e (rmd 1) s m ([.ref a_r0, .int x1] : List Value).toArray below meth c H locs 0 0 Q (F0 m 8 ls []) := by
    intro k
    induction k with
    | zero => intro y2_1 y3_1 y4_1 hw; exact absurd hw wh_0
    | succ k ih_1 =>
      intro y2_1 y3_1 y4_1 hw H locs ls hW hl
      obtain ⟨z_1, hr, hz1_1, hz2_1⟩ := wh_s hw
      have hr : F_M_likeliest_L8 r0_weights x1 y2_1 y3_1 y4_1 = some z_1 := hr
      unfold F_M_likeliest_L8 at hr
      refine lv_iload hx hb d_M_likeliest_8 (lv_at hl 4 rfl) ?_
      refine lv_bipush (v := 6) hx hb d_M_likeliest_10 (by decide) ?_
      refine lv_icmp_ge (tgt := 77) hx hb d_M_likeliest_12 (by decide) (fun c_2 => ?_) (fun c_2 => ?_)
      · replace hr := ip c_2 hr
        exact hx_1 _ (hz2_1 _ (Option.some.inj hr).symm) _ _ _ hW (lv_sub hl [2] rfl)
      · replace hr := iN c_2 hr
        refine lv_iload_n hx hb d_M_likeliest_15 rfl (lv_at hl 1 rfl) ?_
        refine lv_iload hx hb d_M_likeliest_16 (lv_at hl 4 rfl) ?_
        obtain ⟨q_3, hc_3, hr⟩ := ob hr
        have ct_3 := C_M_hasBit l D cI cS x1 y4_1 q_3 hc_3
        refine k_goIp hA hW [] rfl rfl (k_runS C hA hW mw_M_hasBit ms_M_hasBit (ct_3.2 _) [] rfl rfl qm_M_85 ⟨Nat.le_of_ble_eq_true rfl, Nat.le_of_ble_eq_true rfl, Nat.zero_le _, Nat.zero_le _⟩ rfl rfl (Nat.le_of_ble_eq_true rfl) hl.1 d_M_likeliest_18) (fun H locs hW => ?_)
        have hJ_5 : ∀ (s0_5 : Int32), F_M_likeliest_J40_5 r0_weights y2_1 y3_1 y4_1 s0_5 = some z_1 → ∀ (H : Heap) (locs : List Loc) (ls : Array Slot), wd A s.heap D (w_M_likeliest cI a_r0 a_r0_weights v_r0_things v_r0_kinds v_r0_figures v_r0_days v_r0_hampers v_r0_wants0 v_r0_left0 v_r0_done0 v_r0_thrown v_r0_refusals v_r0_letters v_r0_letterMany v_r0_at v_r0_isBad v_r0_statements v_r0_placeIn v_r0_letterOf v_r0_told v_r0_kept v_r0_imaged v_r0_hasImage v_r0_place0 v_r0_isTaking v_r0_keptIn v_r0_turns0 v_r0_turnOf v_r0_turned v_r0_order0 v_r0_likely0 v_r0_leftThen v_r0_row v_r0_rowMany v_r0_seed r0_weights) H locs → lv_has ls 6 [(0, .ref a_r0), (1, .int x1), (2, .int y2_1), (3, .int y3_1), (4, .int y4_1)] → W p l e (rmd 1) s m ([.ref a_r0, .int x1] : List Value).toArray below meth c H locs 0 0 Q (F0 m 40 ls [.int s0_5]) := by
          intro s0_5 hr H locs ls hW hl
          unfold F_M_likeliest_J40_5 at hr
          refine lv_istore (lv' := [(5, .int s0_5), (0, .ref a_r0), (1, .int x1), (2, .int y2_1), (3, .int y3_1), (4, .int y4_1)]) hx hb d_M_likeliest_40 hl (by decide) rfl (fun ls hl => ?_)
          refine lv_iload hx hb d_M_likeliest_42 (lv_at hl 0 rfl) ?_
          have hJ_7 : ∀ (s0_7 : Int32), F_M_likeliest_J53_7 r0_weights y3_1 y4_1 s0_5 s0_7 = some z_1 → ∀ (H : Heap) (locs : List Loc) (ls : Array Slot), wd A s.heap D (w_M_likeliest cI a_r0 a_r0_weights v_r0_things v_r0_kinds v_r0_figures v_r0_days v_r0_hampers v_r0_wants0 v_r0_left0 v_r0_done0 v_r0_thrown v_r0_refusals v_r0_letters v_r0_letterMany v_r0_at v_r0_isBad v_r0_statements v_r0_placeIn v_r0_letterOf v_r0_told v_r0_kept v_r0_imaged v_r0_hasImage v_r0_place0 v_r0_isTaking v_r0_keptIn v_r0_turns0 v_r0_turnOf v_r0_turned v_r0_order0 v_r0_likely0 v_r0_leftThen v_r0_row v_r0_rowMany v_r0_seed r0_weights) H locs → lv_has ls 6 [(0, .ref a_r0), (1, .int x1), (3, .int y3_1), (4, .int y4_1), (5, .int s0_5)] → W p l e (rmd 1) s m ([.ref a_r0, .int x1] : List Value).toArray below meth c H locs 0 0 Q (F0 m 53 ls [.int s0_7]) := by
            intro s0_7 hr H locs ls hW hl
            unfold F_M_likeliest_J53_7 at hr
            refine lv_istore_n (lv' := [(2, .int s0_7), (0, .ref a_r0), (1, .int x1), (3, .int y3_1), (4, .int y4_1), (5, .int s0_5)]) hx hb d_M_likeliest_53 rfl hl (by decide) rfl (fun ls hl => ?_)
            refine lv_iload hx hb d_M_likeliest_54 (lv_at hl 5 rfl) ?_
            refine lv_if_eq (tgt := 69) hx hb d_M_likeliest_56 (by decide) (fun c_8 => ?_) (fun c_8 => ?_)
            · replace hr := ip c_8 hr
              refine lv_iload_n hx hb d_M_likeliest_69 rfl (lv_at hl 3 rfl) ?_
              refine lv_istore_n (lv' := [(3, .int y3_1), (2, .int s0_7), (0, .ref a_r0), (1, .int x1), (4, .int y4_1), (5, .int s0_5)]) hx hb d_M_likeliest_70 rfl hl (by decide) rfl (fun ls hl => ?_)
              refine lv_iinc (v := (y4_1 + 1)) (lv' := [(4, .int (y4_1 + 1)), (3, .int y3_1), (2, .int s0_7), (0, .ref a_r0), (1, .int x1), (5, .int s0_5)]) hx hb d_M_likeliest_71 hl (k := 4) rfl rfl (by decide) rfl (fun ls hl => ?_)
              refine lv_goto (tgt := 8) hx hb d_M_likeliest_74 (by decide) ?_
              exact ih_1 s0_7 y3_1 (y4_1 + 1) (hz1_1 _ (Option.some.inj hr).symm) _ _ _ hW (lv_sub hl [3, 4, 2, 1, 0] rfl)
            · replace hr := iN c_8 hr
              refine lv_aload_n hx hb d_M_likeliest_59 rfl (lv_at hl 1 rfl) ?_
              refine k_get i_M C hW 0 rfl rfl 0 (by decide) qf_M_7 rfl rfl d_M_likeliest_60 ?_
              refine lv_iload hx hb d_M_likeliest_63 (lv_at hl 4 rfl) ?_
              obtain ⟨h_9, hr⟩ := ck_some hr
              refine k_iald C hW 1 rfl h_9 d_M_likeliest_65 ?_
              refine lv_goto (tgt := 70) hx hb d_M_likeliest_66 (by decide) ?_
              refine lv_istore_n (lv' := [(3, .int (r0_weights (Int32.toNatClampNeg y4_1))), (2, .int s0_7), (0, .ref a_r0), (1, .int x1), (4, .int y4_1), (5, .int s0_5)]) hx hb d_M_likeliest_70 rfl hl (by decide) rfl (fun ls hl => ?_)
              refine lv_iinc (v := (y4_1 + 1)) (lv' := [(4, .int (y4_1 + 1)), (3, .int (r0_weights (Int32.toNatClampNeg y4_1))), (2, .int s0_7), (0, .ref a_r0), (1, .int x1), (5, .int s0_5)]) hx hb d_M_likeliest_71 hl (k := 4) rfl rfl (by decide) rfl (fun ls hl => ?_)
              refine lv_goto (tgt := 8) hx hb d_M_likeliest_74 (by decide) ?_
              exact ih_1 s0_7 (r0_weights (Int32.toNatClampNeg y4_1)) (y4_1 + 1) (hz1_1 _ (Option.some.inj hr).symm) _ _ _ hW (lv_sub hl [3, 4, 2, 1, 0] rfl)
          refine lv_if_eq (tgt := 52) hx hb d_M_likeliest_44 (by decide) (fun c_6 => ?_) (fun c_6 => ?_)
          · replace hr := ip c_6 hr
            refine lv_iload_n hx hb d_M_likeliest_52 rfl (lv_at hl 3 rfl) ?_
            exact hJ_7 y2_1 hr _ _ _ hW (lv_sub hl [1, 2, 4, 5, 0] rfl)
          · replace hr := iN c_6 hr
            refine lv_iload hx hb d_M_likeliest_47 (lv_at hl 5 rfl) ?_
            refine lv_goto (tgt := 53) hx hb d_M_likeliest_49 (by decide) ?_
            exact hJ_7 y4_1 hr _ _ _ hW (lv_sub hl [1, 2, 4, 5, 0] rfl)
        have hJ_10 : ∀ (_ : Unit), F_M_likeliest_J39_10 r0_weights y2_1 y3_1 y4_1 = some z_1 → ∀ (H : Heap) (locs : List Loc) (ls : Array Slot), wd A s.heap D (w_M_likeliest cI a_r0 a_r0_weights v_r0_things v_r0_kinds v_r0_figures v_r0_days v_r0_hampers v_r0_wants0 v_r0_left0 v_r0_done0 v_r0_thrown v_r0_refusals v_r0_letters v_r0_letterMany v_r0_at v_r0_isBad v_r0_statements v_r0_placeIn v_r0_letterOf v_r0_told v_r0_kept v_r0_imaged v_r0_hasImage v_r0_place0 v_r0_isTaking v_r0_keptIn v_r0_turns0 v_r0_turnOf v_r0_turned v_r0_order0 v_r0_likely0 v_r0_leftThen v_r0_row v_r0_rowMany v_r0_seed r0_weights) H locs → lv_has ls 6 [(0, .ref a_r0), (1, .int x1), (2, .int y2_1), (3, .int y3_1), (4, .int y4_1)] → W p l e (rmd 1) s m ([.ref a_r0, .int x1] : List Value).toArray below meth c H locs 0 0 Q (F0 m 39 ls []) := by
          intro _ hr H locs ls hW hl
          unfold F_M_likeliest_J39_10 at hr
          refine lv_iconst (v := 0) hx hb d_M_likeliest_39 (by decide) ?_
          exact hJ_5 0 hr _ _ _ hW (lv_sub hl [0, 1, 2, 3, 4] rfl)
        refine lv_if_eq (tgt := 39) hx hb d_M_likeliest_21 (by decide) (fun c_4 => ?_) (fun c_4 => ?_)
        · replace hr := ip c_4 hr
          exact hJ_10 () hr _ _ _ hW (lv_sub hl [0, 1, 2, 3, 4] rfl)
        · replace hr := iN c_4 hr
          refine lv_aload_n hx hb d_M_likeliest_24 rfl (lv_at hl 0 rfl) ?_
          refine k_get i_M C hW 0 rfl rfl 0 (by decide) qf_M_7 rfl rfl d_M_likeliest_25 ?_
          refine lv_iload hx hb d_M_likeliest_28 (lv_at hl 4 rfl) ?_
          obtain ⟨h_11, hr⟩ := ck_some hr
          refine k_iald C hW 1 rfl h_11 d_M_likeliest_30 ?_
          refine lv_iload_n hx hb d_M_likeliest_31 rfl (lv_at hl 3 rfl) ?_
          refine lv_icmp_le (tgt := 39) hx hb d_M_likeliest_32 (by decide) (fun c_12 => ?_) (fun c_12 => ?_)
          · replace hr := ip c_12 hr
            exact hJ_10 () hr _ _ _ hW (lv_sub hl [0, 1, 2, 3, 4] rfl)
          · replace hr := iN c_12 hr
            refine lv_iconst (v := 1) hx hb d_M_likeliest_35 (by decide) ?_
            refine lv_goto (tgt := 40) hx hb d_M_likeliest_36 (by decide) ?_
            exact hJ_5 1 hr _ _ _ hW (lv_sub hl [0, 1, 2, 3, 4] rfl)
  exact hl_1 _ (-9) 0 0 hw_1 _ _ _ hW (lv_sub hl [3, 4, 2, 1, 0] rfl)
def w_M_likelyOn (cI : ClassId) (a_r0 : Nat) (a_r0_figures : Nat) (a_r0_hampers : Nat) (a_r0_kinds : Nat) (a_r0_weights : Nat) (v_r0_days v_r0_wants0 v_r0_left0 v_r0_done0 v_r0_thrown v_r0_refusals v_r0_letters v_r0_letterMany v_r0_at v_r0_isBad v_r0_statements v_r0_placeIn v_r0_letterOf v_r0_told v_r0_kept v_r0_imaged v_r0_hasImage v_r0_place0 v_r0_isTaking v_r0_keptIn v_r0_turns0 v_r0_turnOf v_r0_turned v_r0_order0 v_r0_likely0 v_r0_leftThen v_r0_row v_r0_rowMany v_r0_seed : Value) (r0_things : Int32) (r0_figures : Nat → Int32) (r0_hampers : Nat → Int32) (r0_kinds : Nat → Int32) (r0_weights : Nat → Int32) : va_W := [(a_r0, .inr (9, [.ref a_r0_weights, .int r0_things, .ref a_r0_kinds, .ref a_r0_figures, v_r0_days, .ref a_r0_hampers, v_r0_wants0, v_r0_left0, v_r0_done0, v_r0_thrown, v_r0_refusals, v_r0_letters, v_r0_letterMany, v_r0_at, v_r0_isBad, v_r0_statements, v_r0_placeIn, v_r0_letterOf, v_r0_told, v_r0_kept, v_r0_imaged, v_r0_hasImage, v_r0_place0, v_r0_isTaking, v_r0_keptIn, v_r0_turns0, v_r0_turnOf, v_r0_turned, v_r0_order0, v_r0_likely0, v_r0_leftThen, v_r0_row, v_r0_rowMany, v_r0_seed])), (a_r0_figures, .inl (cI, 8, .inl r0_figures)), (a_r0_hampers, .inl (cI, 8, .inl r0_hampers)), (a_r0_kinds, .inl (cI, 8, .inl r0_kinds)), (a_r0_weights, .inl (cI, 6, .inl r0_weights))]
def F_M_likelyOn (r0_things : Int32) (r0_figures : Nat → Int32) (r0_hampers : Nat → Int32) (r0_kinds : Nat → Int32) (r0_weights : Nat → Int32) (x1 : Int32) : Option (Int32) :=
  (ck x1 8 ((F_M_couldBe r0_things r0_figures r0_kinds (r0_hampers (Int32.toNatClampNeg x1))).bind (fun q_2 => ((F_M_likeliest r0_weights q_2).bind (fun q_3 => (some q_3))))))
set_option maxHeartbeats 4000000 in
set_option maxRecDepth 100000 in
theorem C_M_likelyOn (l : Launch) (D : va_G) (cI cS : ClassId) (a_r0 : Nat) (a_r0_figures : Nat) (a_r0_hampers : Nat) (a_r0_kinds : Nat) (a_r0_weights : Nat) (v_r0_days v_r0_wants0 v_r0_left0 v_r0_done0 v_r0_thrown v_r0_refusals v_r0_letters v_r0_letterMany v_r0_at v_r0_isBad v_r0_statements v_r0_placeIn v_r0_letterOf v_r0_told v_r0_kept v_r0_imaged v_r0_hasImage v_r0_place0 v_r0_isTaking v_r0_keptIn v_r0_turns0 v_r0_turnOf v_r0_turned v_r0_order0 v_r0_likely0 v_r0_leftThen v_r0_row v_r0_rowMany v_r0_seed : Value) (r0_things : Int32) (r0_figures : Nat → Int32) (r0_hampers : Nat → Int32) (r0_kinds : Nat → Int32) (r0_weights : Nat → Int32) (x1 : Int32) (o : Int32) (hr : F_M_likelyOn r0_things r0_figures r0_hampers r0_kinds r0_weights x1 = some o) : ctI l y_M_likelyOn (Cond.code y_M_likelyOn b_M_likelyOn 2 (some FieldType.int)) (rmd 3) D (kTy cI cS) [.ref a_r0, .int x1] (w_M_likelyOn cI a_r0 a_r0_figures a_r0_hampers a_r0_kinds a_r0_weights v_r0_days v_r0_wants0 v_r0_left0 v_r0_done0 v_r0_thrown v_r0_refusals v_r0_letters v_r0_letterMany v_r0_at v_r0_isBad v_r0_statements v_r0_placeIn v_r0_letterOf v_r0_told v_r0_kept v_r0_imaged v_r0_hasImage v_r0_place0 v_r0_isTaking v_r0_keptIn v_r0_turns0 v_r0_turnOf v_r0_turned v_r0_order0 v_r0_likely0 v_r0_leftThen v_r0_row v_r0_rowMany v_r0_seed r0_things r0_figures r0_hampers r0_kinds r0_weights) (w_M_likelyOn cI a_r0 a_r0_figures a_r0_hampers a_r0_kinds a_r0_weights v_r0_days v_r0_wants0 v_r0_left0 v_r0_done0 v_r0_thrown v_r0_refusals v_r0_letters v_r0_letterMany v_r0_at v_r0_isBad v_r0_statements v_r0_placeIn v_r0_letterOf v_r0_told v_r0_kept v_r0_imaged v_r0_hasImage v_r0_place0 v_r0_isTaking v_r0_keptIn v_r0_turns0 v_r0_turnOf v_r0_turned v_r0_order0 v_r0_likely0 v_r0_leftThen v_r0_row v_r0_rowMany v_r0_seed r0_things r0_figures r0_hampers r0_kinds r0_weights) o := by
  unfold F_M_likelyOn at hr
  refine ⟨rfl, fun sz => ct_of (w0 := (w_M_likelyOn cI a_r0 a_r0_figures a_r0_hampers a_r0_kinds a_r0_weights v_r0_days v_r0_wants0 v_r0_left0 v_r0_done0 v_r0_thrown v_r0_refusals v_r0_letters v_r0_letterMany v_r0_at v_r0_isBad v_r0_statements v_r0_placeIn v_r0_letterOf v_r0_told v_r0_kept v_r0_imaged v_r0_hasImage v_r0_place0 v_r0_isTaking v_r0_keptIn v_r0_turns0 v_r0_turnOf v_r0_turned v_r0_order0 v_r0_likely0 v_r0_leftThen v_r0_row v_r0_rowMany v_r0_seed r0_things r0_figures r0_hampers r0_kinds r0_weights)) (Qc := fun A => qI D (w_M_likelyOn cI a_r0 a_r0_figures a_r0_hampers a_r0_kinds a_r0_weights v_r0_days v_r0_wants0 v_r0_left0 v_r0_done0 v_r0_thrown v_r0_refusals v_r0_letters v_r0_letterMany v_r0_at v_r0_isBad v_r0_statements v_r0_placeIn v_r0_letterOf v_r0_told v_r0_kept v_r0_imaged v_r0_hasImage v_r0_place0 v_r0_isTaking v_r0_keptIn v_r0_turns0 v_r0_turnOf v_r0_turned v_r0_order0 v_r0_likely0 v_r0_leftThen v_r0_row v_r0_rowMany v_r0_seed r0_things r0_figures r0_hampers r0_kinds r0_weights) o A) rfl (Nat.le_of_ble_eq_true rfl) ?_ sz⟩
  intro p e s m below meth c A hA C hret ls hl hW
  have C : cx p s m ([.ref a_r0, .int x1] : List Value).toArray meth c b_M_likelyOn 2 R_M D (kTy cI cS) (Cond.code y_M_likelyOn b_M_likelyOn 2 (some FieldType.int)) := C
  obtain ⟨hx, hb, hml, hown, hts, hK, hlk, hN⟩ := id C
  have hl : lv_has ls 2 [(0, .ref a_r0), (1, .int x1)] := hl
  obtain ⟨Q, hQ⟩ : ∃ Q, Q = MQ below (qI D (w_M_likelyOn cI a_r0 a_r0_figures a_r0_hampers a_r0_kinds a_r0_weights v_r0_days v_r0_wants0 v_r0_left0 v_r0_done0 v_r0_thrown v_r0_refusals v_r0_letters v_r0_letterMany v_r0_at v_r0_isBad v_r0_statements v_r0_placeIn v_r0_letterOf v_r0_told v_r0_kept v_r0_imaged v_r0_hasImage v_r0_place0 v_r0_isTaking v_r0_keptIn v_r0_turns0 v_r0_turnOf v_r0_turned v_r0_order0 v_r0_likely0 v_r0_leftThen v_r0_row v_r0_rowMany v_r0_seed r0_things r0_figures r0_hampers r0_kinds r0_weights) o A) ([.ref a_r0, .int x1] : List Value).toArray s 0 0 A := ⟨_, rfl⟩
  rw [← hQ]
  refine lv_aload_n hx hb d_M_likelyOn_0 rfl (lv_at hl 0 rfl) ?_
  refine lv_aload_n hx hb d_M_likelyOn_1 rfl (lv_at hl 0 rfl) ?_
  refine lv_aload_n hx hb d_M_likelyOn_2 rfl (lv_at hl 0 rfl) ?_
  refine k_get i_M C hW 0 rfl rfl 5 (by decide) qf_M_19 rfl rfl d_M_likelyOn_3 ?_
  refine lv_iload_n hx hb d_M_likelyOn_6 rfl (lv_at hl 1 rfl) ?_
  obtain ⟨h_1, hr⟩ := ck_some hr
  refine k_iald C hW 2 rfl h_1 d_M_likelyOn_7 ?_
  obtain ⟨q_2, hc_2, hr⟩ := ob hr
  have ct_2 := C_M_couldBe l D cI cS a_r0 a_r0_figures a_r0_kinds (Value.ref a_r0_weights) v_r0_days (Value.ref a_r0_hampers) v_r0_wants0 v_r0_left0 v_r0_done0 v_r0_thrown v_r0_refusals v_r0_letters v_r0_letterMany v_r0_at v_r0_isBad v_r0_statements v_r0_placeIn v_r0_letterOf v_r0_told v_r0_kept v_r0_imaged v_r0_hasImage v_r0_place0 v_r0_isTaking v_r0_keptIn v_r0_turns0 v_r0_turnOf v_r0_turned v_r0_order0 v_r0_likely0 v_r0_leftThen v_r0_row v_r0_rowMany v_r0_seed r0_things r0_figures r0_kinds (r0_hampers (Int32.toNatClampNeg x1)) q_2 hc_2
  refine k_goIp hA hW [0, 1, 3] rfl rfl (k_runV C hA hW mw_M_couldBe mv_M_couldBe (ct_2.2 _) [0, 1, 3] rfl rfl 0 rfl rfl qm_M_99 ⟨Nat.le_of_ble_eq_true rfl, Nat.le_of_ble_eq_true rfl, Nat.zero_le _, Nat.zero_le _⟩ rfl rfl (Nat.le_of_ble_eq_true rfl) hl.1 d_M_likelyOn_8) (fun H locs hW => ?_)
  obtain ⟨q_3, hc_3, hr⟩ := ob hr
  have ct_3 := C_M_likeliest l D cI cS a_r0 a_r0_weights (Value.int r0_things) (Value.ref a_r0_kinds) (Value.ref a_r0_figures) v_r0_days (Value.ref a_r0_hampers) v_r0_wants0 v_r0_left0 v_r0_done0 v_r0_thrown v_r0_refusals v_r0_letters v_r0_letterMany v_r0_at v_r0_isBad v_r0_statements v_r0_placeIn v_r0_letterOf v_r0_told v_r0_kept v_r0_imaged v_r0_hasImage v_r0_place0 v_r0_isTaking v_r0_keptIn v_r0_turns0 v_r0_turnOf v_r0_turned v_r0_order0 v_r0_likely0 v_r0_leftThen v_r0_row v_r0_rowMany v_r0_seed r0_weights q_2 q_3 hc_3
  refine k_goIp hA hW [0, 4] rfl rfl (k_runV C hA hW mw_M_likeliest mv_M_likeliest (ct_3.2 _) [0, 4] rfl rfl 0 rfl rfl qm_M_102 ⟨Nat.le_of_ble_eq_true rfl, Nat.le_of_ble_eq_true rfl, Nat.zero_le _, Nat.zero_le _⟩ rfl rfl (Nat.le_of_ble_eq_true rfl) hl.1 d_M_likelyOn_11) (fun H locs hW => ?_)
  obtain rfl := Option.some.inj hr
  rw [hQ]; exact k_iret C hret hW d_M_likelyOn_14
def w_M_spendWith (cI : ClassId) (a_r0 : Nat) (a_r0_left0 : Nat) (a_r0_wants0 : Nat) (v_r0_weights v_r0_things v_r0_kinds v_r0_figures v_r0_days v_r0_hampers v_r0_thrown v_r0_refusals v_r0_letters v_r0_letterMany v_r0_at v_r0_isBad v_r0_statements v_r0_placeIn v_r0_letterOf v_r0_told v_r0_kept v_r0_imaged v_r0_hasImage v_r0_place0 v_r0_isTaking v_r0_keptIn v_r0_turns0 v_r0_turnOf v_r0_turned v_r0_order0 v_r0_likely0 v_r0_leftThen v_r0_row v_r0_rowMany v_r0_seed : Value) (r0_done0 : Int32) (r0_left0 : Nat → Int32) (r0_wants0 : Nat → Int32) : va_W := [(a_r0, .inr (9, [v_r0_weights, v_r0_things, v_r0_kinds, v_r0_figures, v_r0_days, v_r0_hampers, .ref a_r0_wants0, .ref a_r0_left0, .int r0_done0, v_r0_thrown, v_r0_refusals, v_r0_letters, v_r0_letterMany, v_r0_at, v_r0_isBad, v_r0_statements, v_r0_placeIn, v_r0_letterOf, v_r0_told, v_r0_kept, v_r0_imaged, v_r0_hasImage, v_r0_place0, v_r0_isTaking, v_r0_keptIn, v_r0_turns0, v_r0_turnOf, v_r0_turned, v_r0_order0, v_r0_likely0, v_r0_leftThen, v_r0_row, v_r0_rowMany, v_r0_seed])), (a_r0_left0, .inl (cI, 4, .inl r0_left0)), (a_r0_wants0, .inl (cI, 4, .inl r0_wants0))]
def F_M_spendWith_L2 (r0_done0 : Int32) (r0_left0 : Nat → Int32) (r0_wants0 : Nat → Int32) (x1 : Int32) (y2_1 : Int32) : Option (((Int32)) ⊕ (((Unit) ⊕ (Int32 × (Int32) × (Nat → Int32))))) :=
  (if (4 : Int32) ≤ y2_1 then (some (.inr (.inl ()))) else (if x1 < 0 then (some (.inr (.inl ()))) else (ck y2_1 4 (if (r0_left0 (Int32.toNatClampNeg y2_1)) ≤ 0 then (some (.inl (y2_1 + 1))) else (ck y2_1 4 ((F_M_hasBit (r0_wants0 (Int32.toNatClampNeg y2_1)) x1).bind (fun q_7 => (if q_7 = 0 then (some (.inl (y2_1 + 1))) else (ck y2_1 4 (ck y2_1 4 (if (999 : Int32) ≤ r0_done0 then (some (.inr (.inr (y2_1, (r0_done0 + 0), (upd r0_left0 (Int32.toNatClampNeg y2_1) ((r0_left0 (Int32.toNatClampNeg y2_1)) - 1)))))) else (some (.inr (.inr (y2_1, (r0_done0 + 1), (upd r0_left0 (Int32.toNatClampNeg y2_1) ((r0_left0 (Int32.toNatClampNeg y2_1)) - 1)))))))))))))))))
def F_M_spendWith (r0_done0 : Int32) (r0_left0 : Nat → Int32) (r0_wants0 : Nat → Int32) (x1 : Int32) : Option (Int32 × (Int32) × (Nat → Int32)) :=
  ((wh (fun (s : (Int32)) => F_M_spendWith_L2 r0_done0 r0_left0 r0_wants0 x1 s) 400 (0 : Int32)).bind (sx (fun e_1 => (some ((-9), r0_done0, r0_left0))) (fun o => some o)))
set_option maxHeartbeats 4000000 in
set_option maxRecDepth 100000 in
theorem C_M_spendWith (l : Launch) (D : va_G) (cI cS : ClassId) (a_r0 : Nat) (a_r0_left0 : Nat) (a_r0_wants0 : Nat) (v_r0_weights v_r0_things v_r0_kinds v_r0_figures v_r0_days v_r0_hampers v_r0_thrown v_r0_refusals v_r0_letters v_r0_letterMany v_r0_at v_r0_isBad v_r0_statements v_r0_placeIn v_r0_letterOf v_r0_told v_r0_kept v_r0_imaged v_r0_hasImage v_r0_place0 v_r0_isTaking v_r0_keptIn v_r0_turns0 v_r0_turnOf v_r0_turned v_r0_order0 v_r0_likely0 v_r0_leftThen v_r0_row v_r0_rowMany v_r0_seed : Value) (r0_done0 : Int32) (r0_left0 : Nat → Int32) (r0_wants0 : Nat → Int32) (x1 : Int32) (o : Int32 × (Int32) × (Nat → Int32)) (hr : F_M_spendWith r0_done0 r0_left0 r0_wants0 x1 = some o) : ctI l y_M_spendWith (Cond.code y_M_spendWith b_M_spendWith 3 (some FieldType.int)) (rmd 1) D (kTy cI cS) [.ref a_r0, .int x1] (w_M_spendWith cI a_r0 a_r0_left0 a_r0_wants0 v_r0_weights v_r0_things v_r0_kinds v_r0_figures v_r0_days v_r0_hampers v_r0_thrown v_r0_refusals v_r0_letters v_r0_letterMany v_r0_at v_r0_isBad v_r0_statements v_r0_placeIn v_r0_letterOf v_r0_told v_r0_kept v_r0_imaged v_r0_hasImage v_r0_place0 v_r0_isTaking v_r0_keptIn v_r0_turns0 v_r0_turnOf v_r0_turned v_r0_order0 v_r0_likely0 v_r0_leftThen v_r0_row v_r0_rowMany v_r0_seed r0_done0 r0_left0 r0_wants0) (w_M_spendWith cI a_r0 a_r0_left0 a_r0_wants0 v_r0_weights v_r0_things v_r0_kinds v_r0_figures v_r0_days v_r0_hampers v_r0_thrown v_r0_refusals v_r0_letters v_r0_letterMany v_r0_at v_r0_isBad v_r0_statements v_r0_placeIn v_r0_letterOf v_r0_told v_r0_kept v_r0_imaged v_r0_hasImage v_r0_place0 v_r0_isTaking v_r0_keptIn v_r0_turns0 v_r0_turnOf v_r0_turned v_r0_order0 v_r0_likely0 v_r0_leftThen v_r0_row v_r0_rowMany v_r0_seed o.2.1 o.2.2 r0_wants0) o.1 := by
  unfold F_M_spendWith at hr
  refine ⟨rfl, fun sz => ct_of (w0 := (w_M_spendWith cI a_r0 a_r0_left0 a_r0_wants0 v_r0_weights v_r0_things v_r0_kinds v_r0_figures v_r0_days v_r0_hampers v_r0_thrown v_r0_refusals v_r0_letters v_r0_letterMany v_r0_at v_r0_isBad v_r0_statements v_r0_placeIn v_r0_letterOf v_r0_told v_r0_kept v_r0_imaged v_r0_hasImage v_r0_place0 v_r0_isTaking v_r0_keptIn v_r0_turns0 v_r0_turnOf v_r0_turned v_r0_order0 v_r0_likely0 v_r0_leftThen v_r0_row v_r0_rowMany v_r0_seed r0_done0 r0_left0 r0_wants0)) (Qc := fun A => qI D (w_M_spendWith cI a_r0 a_r0_left0 a_r0_wants0 v_r0_weights v_r0_things v_r0_kinds v_r0_figures v_r0_days v_r0_hampers v_r0_thrown v_r0_refusals v_r0_letters v_r0_letterMany v_r0_at v_r0_isBad v_r0_statements v_r0_placeIn v_r0_letterOf v_r0_told v_r0_kept v_r0_imaged v_r0_hasImage v_r0_place0 v_r0_isTaking v_r0_keptIn v_r0_turns0 v_r0_turnOf v_r0_turned v_r0_order0 v_r0_likely0 v_r0_leftThen v_r0_row v_r0_rowMany v_r0_seed o.2.1 o.2.2 r0_wants0) o.1 A) rfl (Nat.le_of_ble_eq_true rfl) ?_ sz⟩
  intro p e s m below meth c A hA C hret ls hl hW
  have C : cx p s m ([.ref a_r0, .int x1] : List Value).toArray meth c b_M_spendWith 3 R_M D (kTy cI cS) (Cond.code y_M_spendWith b_M_spendWith 3 (some FieldType.int)) := C
  obtain ⟨hx, hb, hml, hown, hts, hK, hlk, hN⟩ := id C
  have hl : lv_has ls 3 [(0, .ref a_r0), (1, .int x1)] := hl
  obtain ⟨Q, hQ⟩ : ∃ Q, Q = MQ below (qI D (w_M_spendWith cI a_r0 a_r0_left0 a_r0_wants0 v_r0_weights v_r0_things v_r0_kinds v_r0_figures v_r0_days v_r0_hampers v_r0_thrown v_r0_refusals v_r0_letters v_r0_letterMany v_r0_at v_r0_isBad v_r0_statements v_r0_placeIn v_r0_letterOf v_r0_told v_r0_kept v_r0_imaged v_r0_hasImage v_r0_place0 v_r0_isTaking v_r0_keptIn v_r0_turns0 v_r0_turnOf v_r0_turned v_r0_order0 v_r0_likely0 v_r0_leftThen v_r0_row v_r0_rowMany v_r0_seed o.2.1 o.2.2 r0_wants0) o.1 A) ([.ref a_r0, .int x1] : List Value).toArray s 0 0 A := ⟨_, rfl⟩
  rw [← hQ]
  refine lv_iconst (v := 0) hx hb d_M_spendWith_0 (by decide) ?_
  refine lv_istore_n (lv' := [(2, .int 0), (0, .ref a_r0), (1, .int x1)]) hx hb d_M_spendWith_1 rfl hl (by decide) rfl (fun ls hl => ?_)
  obtain ⟨ex_1, hw_1, hk_1⟩ := ob hr
  have hx_1 : ∀ (e_1 : Unit), Sum.inl e_1 = ex_1 → ∀ (H : Heap) (locs : List Loc) (ls : Array Slot), wd A s.heap D (w_M_spendWith cI a_r0 a_r0_left0 a_r0_wants0 v_r0_weights v_r0_things v_r0_kinds v_r0_figures v_r0_days v_r0_hampers v_r0_thrown v_r0_refusals v_r0_letters v_r0_letterMany v_r0_at v_r0_isBad v_r0_statements v_r0_placeIn v_r0_letterOf v_r0_told v_r0_kept v_r0_imaged v_r0_hasImage v_r0_place0 v_r0_isTaking v_r0_keptIn v_r0_turns0 v_r0_turnOf v_r0_turned v_r0_order0 v_r0_likely0 v_r0_leftThen v_r0_row v_r0_rowMany v_r0_seed r0_done0 r0_left0 r0_wants0) H locs → lv_has ls 3 [] → W p l e (rmd 1) s m ([.ref a_r0, .int x1] : List Value).toArray below meth c H locs 0 0 Q (F0 m 75 ls []) := by
    intro e_1 hE H locs ls hW hl
    have hr := sx_l hE.symm hk_1
    refine lv_bipush (v := (-9)) hx hb d_M_spendWith_75 (by decide) ?_
    obtain rfl := Option.some.inj hr
    rw [hQ]; exact k_iret C hret hW d_M_spendWith_77
  have hl_1 : ∀ (k : Nat) (y2_1 : Int32), wh (fun (s : (Int32)) => F_M_spendWith_L2 r0_done0 r0_left0 r0_wants0 x1 s) k y2_1 = some ex_1 → ∀ (H : Heap) (locs : List Loc) (ls : Array Slot), wd A s.heap D (w_M_spendWith cI a_r0 a_r0_left0 a_r0_wants0 v_r0_weights v_r0_things v_r0_kinds v_r0_figures v_r0_days v_r0_hampers v_r0_thrown v_r0_refusals v_r0_letters v_r0_letterMany v_r0_at v_r0_isBad v_r0_statements v_r0_placeIn v_r0_letterOf v_r0_told v_r0_kept v_r0_imaged v_r0_hasImage v_r0_place0 v_r0_isTaking v_r0_keptIn v_r0_turns0 v_r0_turnOf v_r0_turned v_r0_order0 v_r0_likely0 v_r0_leftThen v_r0_row v_r0_rowMany v_r0_seed r0_done0 r0_left0 r0_wants0) H locs → lv_has ls 3 [(0, .ref a_r0), (1, .int x1), (2, .int y2_1)] → W p l e (rmd 1) s m ([.ref a_r0, .int x1] : List Value).toArray below meth c H locs 0 0 Q (F0 m 2 ls []) := by
    intro k
    induction k with
    | zero => intro y2_1 hw; exact absurd hw wh_0
    | succ k ih_1 =>
      intro y2_1 hw H locs ls hW hl
      obtain ⟨z_1, hr, hz1_1, hz2_1⟩ := wh_s hw
      have hr : F_M_spendWith_L2 r0_done0 r0_left0 r0_wants0 x1 y2_1 = some z_1 := hr
      unfold F_M_spendWith_L2 at hr
      refine lv_iload_n hx hb d_M_spendWith_2 rfl (lv_at hl 2 rfl) ?_
      refine lv_iconst (v := 4) hx hb d_M_spendWith_3 (by decide) ?_
      refine lv_icmp_ge (tgt := 75) hx hb d_M_spendWith_4 (by decide) (fun c_2 => ?_) (fun c_2 => ?_)
      · replace hr := ip c_2 hr
        exact hx_1 _ (hz2_1 _ (Option.some.inj hr).symm) _ _ _ hW (lv_sub hl [] rfl)
      · replace hr := iN c_2 hr
        refine lv_iload_n hx hb d_M_spendWith_7 rfl (lv_at hl 1 rfl) ?_
        refine lv_if_lt (tgt := 75) hx hb d_M_spendWith_8 (by decide) (fun c_3 => ?_) (fun c_3 => ?_)
        · replace hr := ip c_3 hr
          exact hx_1 _ (hz2_1 _ (Option.some.inj hr).symm) _ _ _ hW (lv_sub hl [] rfl)
        · replace hr := iN c_3 hr
          refine lv_aload_n hx hb d_M_spendWith_11 rfl (lv_at hl 0 rfl) ?_
          refine k_get i_M C hW 0 rfl rfl 7 (by decide) qf_M_25 rfl rfl d_M_spendWith_12 ?_
          refine lv_iload_n hx hb d_M_spendWith_15 rfl (lv_at hl 2 rfl) ?_
          obtain ⟨h_4, hr⟩ := ck_some hr
          refine k_iald C hW 1 rfl h_4 d_M_spendWith_16 ?_
          refine lv_if_le (tgt := 69) hx hb d_M_spendWith_17 (by decide) (fun c_5 => ?_) (fun c_5 => ?_)
          · replace hr := ip c_5 hr
            refine lv_iinc (v := (y2_1 + 1)) (lv' := [(2, .int (y2_1 + 1)), (0, .ref a_r0), (1, .int x1)]) hx hb d_M_spendWith_69 hl (k := 2) rfl rfl (by decide) rfl (fun ls hl => ?_)
            refine lv_goto (tgt := 2) hx hb d_M_spendWith_72 (by decide) ?_
            exact ih_1 (y2_1 + 1) (hz1_1 _ (Option.some.inj hr).symm) _ _ _ hW (lv_sub hl [1, 2, 0] rfl)
          · replace hr := iN c_5 hr
            refine lv_aload_n hx hb d_M_spendWith_20 rfl (lv_at hl 0 rfl) ?_
            refine k_get i_M C hW 0 rfl rfl 6 (by decide) qf_M_22 rfl rfl d_M_spendWith_21 ?_
            refine lv_iload_n hx hb d_M_spendWith_24 rfl (lv_at hl 2 rfl) ?_
            obtain ⟨h_6, hr⟩ := ck_some hr
            refine k_iald C hW 2 rfl h_6 d_M_spendWith_25 ?_
            refine lv_iload_n hx hb d_M_spendWith_26 rfl (lv_at hl 1 rfl) ?_
            obtain ⟨q_7, hc_7, hr⟩ := ob hr
            have ct_7 := C_M_hasBit l D cI cS (r0_wants0 (Int32.toNatClampNeg y2_1)) x1 q_7 hc_7
            refine k_goIp hA hW [] rfl rfl (k_runS C hA hW mw_M_hasBit ms_M_hasBit (ct_7.2 _) [] rfl rfl qm_M_85 ⟨Nat.le_of_ble_eq_true rfl, Nat.le_of_ble_eq_true rfl, Nat.zero_le _, Nat.zero_le _⟩ rfl rfl (Nat.le_of_ble_eq_true rfl) hl.1 d_M_spendWith_27) (fun H locs hW => ?_)
            refine lv_if_eq (tgt := 69) hx hb d_M_spendWith_30 (by decide) (fun c_8 => ?_) (fun c_8 => ?_)
            · replace hr := ip c_8 hr
              refine lv_iinc (v := (y2_1 + 1)) (lv' := [(2, .int (y2_1 + 1)), (0, .ref a_r0), (1, .int x1)]) hx hb d_M_spendWith_69 hl (k := 2) rfl rfl (by decide) rfl (fun ls hl => ?_)
              refine lv_goto (tgt := 2) hx hb d_M_spendWith_72 (by decide) ?_
              exact ih_1 (y2_1 + 1) (hz1_1 _ (Option.some.inj hr).symm) _ _ _ hW (lv_sub hl [1, 2, 0] rfl)
            · replace hr := iN c_8 hr
              refine lv_aload_n hx hb d_M_spendWith_33 rfl (lv_at hl 0 rfl) ?_
              refine k_get i_M C hW 0 rfl rfl 7 (by decide) qf_M_25 rfl rfl d_M_spendWith_34 ?_
              refine lv_iload_n hx hb d_M_spendWith_37 rfl (lv_at hl 2 rfl) ?_
              refine lv_dup2_11 hx hb d_M_spendWith_38 rfl rfl ?_
              obtain ⟨h_9, hr⟩ := ck_some hr
              refine k_iald C hW 1 rfl h_9 d_M_spendWith_39 ?_
              refine lv_iconst (v := 1) hx hb d_M_spendWith_40 (by decide) ?_
              refine lv_isub hx hb d_M_spendWith_41 ?_
              obtain ⟨h_10, hr⟩ := ck_some hr
              refine k_iast C hW 1 rfl h_10 (ws' := (w_M_spendWith cI a_r0 a_r0_left0 a_r0_wants0 v_r0_weights v_r0_things v_r0_kinds v_r0_figures v_r0_days v_r0_hampers v_r0_thrown v_r0_refusals v_r0_letters v_r0_letterMany v_r0_at v_r0_isBad v_r0_statements v_r0_placeIn v_r0_letterOf v_r0_told v_r0_kept v_r0_imaged v_r0_hasImage v_r0_place0 v_r0_isTaking v_r0_keptIn v_r0_turns0 v_r0_turnOf v_r0_turned v_r0_order0 v_r0_likely0 v_r0_leftThen v_r0_row v_r0_rowMany v_r0_seed r0_done0 (upd r0_left0 (Int32.toNatClampNeg y2_1) ((r0_left0 (Int32.toNatClampNeg y2_1)) - 1)) r0_wants0)) rfl d_M_spendWith_42 (fun H locs hW => ?_)
              refine lv_aload_n hx hb d_M_spendWith_43 rfl (lv_at hl 0 rfl) ?_
              refine lv_dup hx hb d_M_spendWith_44 rfl ?_
              refine k_get i_M C hW 0 rfl rfl 8 (by decide) qf_M_105 rfl rfl d_M_spendWith_45 ?_
              refine lv_aload_n hx hb d_M_spendWith_48 rfl (lv_at hl 0 rfl) ?_
              refine k_get i_M C hW 0 rfl rfl 8 (by decide) qf_M_105 rfl rfl d_M_spendWith_49 ?_
              refine lv_sipush (v := 999) hx hb d_M_spendWith_52 (by decide) ?_
              refine lv_icmp_ge (tgt := 62) hx hb d_M_spendWith_55 (by decide) (fun c_11 => ?_) (fun c_11 => ?_)
              · replace hr := ip c_11 hr
                refine lv_iconst (v := 0) hx hb d_M_spendWith_62 (by decide) ?_
                refine lv_iadd hx hb d_M_spendWith_63 ?_
                refine k_put i_M t_M_ok n_M C hW 0 rfl rfl 8 (by decide) qf_M_105 rfl rfl (ty := .int) rfl rfl rfl (Nat.le_of_ble_eq_true rfl) (ws' := (w_M_spendWith cI a_r0 a_r0_left0 a_r0_wants0 v_r0_weights v_r0_things v_r0_kinds v_r0_figures v_r0_days v_r0_hampers v_r0_thrown v_r0_refusals v_r0_letters v_r0_letterMany v_r0_at v_r0_isBad v_r0_statements v_r0_placeIn v_r0_letterOf v_r0_told v_r0_kept v_r0_imaged v_r0_hasImage v_r0_place0 v_r0_isTaking v_r0_keptIn v_r0_turns0 v_r0_turnOf v_r0_turned v_r0_order0 v_r0_likely0 v_r0_leftThen v_r0_row v_r0_rowMany v_r0_seed (r0_done0 + 0) (upd r0_left0 (Int32.toNatClampNeg y2_1) ((r0_left0 (Int32.toNatClampNeg y2_1)) - 1)) r0_wants0)) rfl d_M_spendWith_64 (fun H locs hW => ?_)
                refine lv_iload_n hx hb d_M_spendWith_67 rfl (lv_at hl 2 rfl) ?_
                have hr := sx_r (hz2_1 _ (Option.some.inj hr).symm).symm hk_1
                obtain rfl := Option.some.inj hr
                rw [hQ]; exact k_iret C hret hW d_M_spendWith_68
              · replace hr := iN c_11 hr
                refine lv_iconst (v := 1) hx hb d_M_spendWith_58 (by decide) ?_
                refine lv_goto (tgt := 63) hx hb d_M_spendWith_59 (by decide) ?_
                refine lv_iadd hx hb d_M_spendWith_63 ?_
                refine k_put i_M t_M_ok n_M C hW 0 rfl rfl 8 (by decide) qf_M_105 rfl rfl (ty := .int) rfl rfl rfl (Nat.le_of_ble_eq_true rfl) (ws' := (w_M_spendWith cI a_r0 a_r0_left0 a_r0_wants0 v_r0_weights v_r0_things v_r0_kinds v_r0_figures v_r0_days v_r0_hampers v_r0_thrown v_r0_refusals v_r0_letters v_r0_letterMany v_r0_at v_r0_isBad v_r0_statements v_r0_placeIn v_r0_letterOf v_r0_told v_r0_kept v_r0_imaged v_r0_hasImage v_r0_place0 v_r0_isTaking v_r0_keptIn v_r0_turns0 v_r0_turnOf v_r0_turned v_r0_order0 v_r0_likely0 v_r0_leftThen v_r0_row v_r0_rowMany v_r0_seed (r0_done0 + 1) (upd r0_left0 (Int32.toNatClampNeg y2_1) ((r0_left0 (Int32.toNatClampNeg y2_1)) - 1)) r0_wants0)) rfl d_M_spendWith_64 (fun H locs hW => ?_)
                refine lv_iload_n hx hb d_M_spendWith_67 rfl (lv_at hl 2 rfl) ?_
                have hr := sx_r (hz2_1 _ (Option.some.inj hr).symm).symm hk_1
                obtain rfl := Option.some.inj hr
                rw [hQ]; exact k_iret C hret hW d_M_spendWith_68
  exact hl_1 _ 0 hw_1 _ _ _ hW (lv_sub hl [1, 2, 0] rfl)
def w_M_thingComes (cI : ClassId) (a_r0 : Nat) (a_r0_figures : Nat) (a_r0_kinds : Nat) (v_r0_weights v_r0_days v_r0_hampers v_r0_wants0 v_r0_left0 v_r0_done0 v_r0_thrown v_r0_refusals v_r0_letters v_r0_letterMany v_r0_at v_r0_isBad v_r0_statements v_r0_placeIn v_r0_letterOf v_r0_told v_r0_kept v_r0_imaged v_r0_hasImage v_r0_place0 v_r0_isTaking v_r0_keptIn v_r0_turns0 v_r0_turnOf v_r0_turned v_r0_order0 v_r0_likely0 v_r0_leftThen v_r0_row v_r0_rowMany v_r0_seed : Value) (r0_things : Int32) (r0_figures : Nat → Int32) (r0_kinds : Nat → Int32) : va_W := [(a_r0, .inr (9, [v_r0_weights, .int r0_things, .ref a_r0_kinds, .ref a_r0_figures, v_r0_days, v_r0_hampers, v_r0_wants0, v_r0_left0, v_r0_done0, v_r0_thrown, v_r0_refusals, v_r0_letters, v_r0_letterMany, v_r0_at, v_r0_isBad, v_r0_statements, v_r0_placeIn, v_r0_letterOf, v_r0_told, v_r0_kept, v_r0_imaged, v_r0_hasImage, v_r0_place0, v_r0_isTaking, v_r0_keptIn, v_r0_turns0, v_r0_turnOf, v_r0_turned, v_r0_order0, v_r0_likely0, v_r0_leftThen, v_r0_row, v_r0_rowMany, v_r0_seed])), (a_r0_figures, .inl (cI, 8, .inl r0_figures)), (a_r0_kinds, .inl (cI, 8, .inl r0_kinds))]
def F_M_thingComes (r0_things : Int32) (r0_figures : Nat → Int32) (r0_kinds : Nat → Int32) (x1 : Int32) (x2 : Int32) : Option ((Int32) × (Nat → Int32) × (Nat → Int32)) :=
  (ck r0_things 8 (ck r0_things 8 (some ((r0_things + 1), (upd r0_figures (Int32.toNatClampNeg r0_things) x2), (upd r0_kinds (Int32.toNatClampNeg r0_things) x1)))))
set_option maxHeartbeats 4000000 in
set_option maxRecDepth 100000 in
theorem C_M_thingComes (l : Launch) (D : va_G) (cI cS : ClassId) (a_r0 : Nat) (a_r0_figures : Nat) (a_r0_kinds : Nat) (v_r0_weights v_r0_days v_r0_hampers v_r0_wants0 v_r0_left0 v_r0_done0 v_r0_thrown v_r0_refusals v_r0_letters v_r0_letterMany v_r0_at v_r0_isBad v_r0_statements v_r0_placeIn v_r0_letterOf v_r0_told v_r0_kept v_r0_imaged v_r0_hasImage v_r0_place0 v_r0_isTaking v_r0_keptIn v_r0_turns0 v_r0_turnOf v_r0_turned v_r0_order0 v_r0_likely0 v_r0_leftThen v_r0_row v_r0_rowMany v_r0_seed : Value) (r0_things : Int32) (r0_figures : Nat → Int32) (r0_kinds : Nat → Int32) (x1 : Int32) (x2 : Int32) (o : (Int32) × (Nat → Int32) × (Nat → Int32)) (hr : F_M_thingComes r0_things r0_figures r0_kinds x1 x2 = some o) : ctV l y_M_thingComes (Cond.code y_M_thingComes b_M_thingComes 3 none) (rmd 0) D (kTy cI cS) [.ref a_r0, .int x1, .int x2] (w_M_thingComes cI a_r0 a_r0_figures a_r0_kinds v_r0_weights v_r0_days v_r0_hampers v_r0_wants0 v_r0_left0 v_r0_done0 v_r0_thrown v_r0_refusals v_r0_letters v_r0_letterMany v_r0_at v_r0_isBad v_r0_statements v_r0_placeIn v_r0_letterOf v_r0_told v_r0_kept v_r0_imaged v_r0_hasImage v_r0_place0 v_r0_isTaking v_r0_keptIn v_r0_turns0 v_r0_turnOf v_r0_turned v_r0_order0 v_r0_likely0 v_r0_leftThen v_r0_row v_r0_rowMany v_r0_seed r0_things r0_figures r0_kinds) (w_M_thingComes cI a_r0 a_r0_figures a_r0_kinds v_r0_weights v_r0_days v_r0_hampers v_r0_wants0 v_r0_left0 v_r0_done0 v_r0_thrown v_r0_refusals v_r0_letters v_r0_letterMany v_r0_at v_r0_isBad v_r0_statements v_r0_placeIn v_r0_letterOf v_r0_told v_r0_kept v_r0_imaged v_r0_hasImage v_r0_place0 v_r0_isTaking v_r0_keptIn v_r0_turns0 v_r0_turnOf v_r0_turned v_r0_order0 v_r0_likely0 v_r0_leftThen v_r0_row v_r0_rowMany v_r0_seed o.1 o.2.1 o.2.2) := by
  unfold F_M_thingComes at hr
  refine ⟨rfl, fun sz => ct_of (w0 := (w_M_thingComes cI a_r0 a_r0_figures a_r0_kinds v_r0_weights v_r0_days v_r0_hampers v_r0_wants0 v_r0_left0 v_r0_done0 v_r0_thrown v_r0_refusals v_r0_letters v_r0_letterMany v_r0_at v_r0_isBad v_r0_statements v_r0_placeIn v_r0_letterOf v_r0_told v_r0_kept v_r0_imaged v_r0_hasImage v_r0_place0 v_r0_isTaking v_r0_keptIn v_r0_turns0 v_r0_turnOf v_r0_turned v_r0_order0 v_r0_likely0 v_r0_leftThen v_r0_row v_r0_rowMany v_r0_seed r0_things r0_figures r0_kinds)) (Qc := fun A => qV D (w_M_thingComes cI a_r0 a_r0_figures a_r0_kinds v_r0_weights v_r0_days v_r0_hampers v_r0_wants0 v_r0_left0 v_r0_done0 v_r0_thrown v_r0_refusals v_r0_letters v_r0_letterMany v_r0_at v_r0_isBad v_r0_statements v_r0_placeIn v_r0_letterOf v_r0_told v_r0_kept v_r0_imaged v_r0_hasImage v_r0_place0 v_r0_isTaking v_r0_keptIn v_r0_turns0 v_r0_turnOf v_r0_turned v_r0_order0 v_r0_likely0 v_r0_leftThen v_r0_row v_r0_rowMany v_r0_seed o.1 o.2.1 o.2.2) A) rfl (Nat.le_of_ble_eq_true rfl) ?_ sz⟩
  intro p e s m below meth c A hA C hret ls hl hW
  have C : cx p s m ([.ref a_r0, .int x1, .int x2] : List Value).toArray meth c b_M_thingComes 3 R_M D (kTy cI cS) (Cond.code y_M_thingComes b_M_thingComes 3 none) := C
  obtain ⟨hx, hb, hml, hown, hts, hK, hlk, hN⟩ := id C
  have hl : lv_has ls 3 [(0, .ref a_r0), (1, .int x1), (2, .int x2)] := hl
  obtain ⟨Q, hQ⟩ : ∃ Q, Q = MQ below (qV D (w_M_thingComes cI a_r0 a_r0_figures a_r0_kinds v_r0_weights v_r0_days v_r0_hampers v_r0_wants0 v_r0_left0 v_r0_done0 v_r0_thrown v_r0_refusals v_r0_letters v_r0_letterMany v_r0_at v_r0_isBad v_r0_statements v_r0_placeIn v_r0_letterOf v_r0_told v_r0_kept v_r0_imaged v_r0_hasImage v_r0_place0 v_r0_isTaking v_r0_keptIn v_r0_turns0 v_r0_turnOf v_r0_turned v_r0_order0 v_r0_likely0 v_r0_leftThen v_r0_row v_r0_rowMany v_r0_seed o.1 o.2.1 o.2.2) A) ([.ref a_r0, .int x1, .int x2] : List Value).toArray s 0 0 A := ⟨_, rfl⟩
  rw [← hQ]
  refine lv_aload_n hx hb d_M_thingComes_0 rfl (lv_at hl 0 rfl) ?_
  refine k_get i_M C hW 0 rfl rfl 2 (by decide) qf_M_13 rfl rfl d_M_thingComes_1 ?_
  refine lv_aload_n hx hb d_M_thingComes_4 rfl (lv_at hl 0 rfl) ?_
  refine k_get i_M C hW 0 rfl rfl 1 (by decide) qf_M_71 rfl rfl d_M_thingComes_5 ?_
  refine lv_iload_n hx hb d_M_thingComes_8 rfl (lv_at hl 1 rfl) ?_
  obtain ⟨h_1, hr⟩ := ck_some hr
  refine k_iast C hW 2 rfl h_1 (ws' := (w_M_thingComes cI a_r0 a_r0_figures a_r0_kinds v_r0_weights v_r0_days v_r0_hampers v_r0_wants0 v_r0_left0 v_r0_done0 v_r0_thrown v_r0_refusals v_r0_letters v_r0_letterMany v_r0_at v_r0_isBad v_r0_statements v_r0_placeIn v_r0_letterOf v_r0_told v_r0_kept v_r0_imaged v_r0_hasImage v_r0_place0 v_r0_isTaking v_r0_keptIn v_r0_turns0 v_r0_turnOf v_r0_turned v_r0_order0 v_r0_likely0 v_r0_leftThen v_r0_row v_r0_rowMany v_r0_seed r0_things r0_figures (upd r0_kinds (Int32.toNatClampNeg r0_things) x1))) rfl d_M_thingComes_9 (fun H locs hW => ?_)
  refine lv_aload_n hx hb d_M_thingComes_10 rfl (lv_at hl 0 rfl) ?_
  refine k_get i_M C hW 0 rfl rfl 3 (by decide) qf_M_16 rfl rfl d_M_thingComes_11 ?_
  refine lv_aload_n hx hb d_M_thingComes_14 rfl (lv_at hl 0 rfl) ?_
  refine k_get i_M C hW 0 rfl rfl 1 (by decide) qf_M_71 rfl rfl d_M_thingComes_15 ?_
  refine lv_iload_n hx hb d_M_thingComes_18 rfl (lv_at hl 2 rfl) ?_
  obtain ⟨h_2, hr⟩ := ck_some hr
  refine k_iast C hW 1 rfl h_2 (ws' := (w_M_thingComes cI a_r0 a_r0_figures a_r0_kinds v_r0_weights v_r0_days v_r0_hampers v_r0_wants0 v_r0_left0 v_r0_done0 v_r0_thrown v_r0_refusals v_r0_letters v_r0_letterMany v_r0_at v_r0_isBad v_r0_statements v_r0_placeIn v_r0_letterOf v_r0_told v_r0_kept v_r0_imaged v_r0_hasImage v_r0_place0 v_r0_isTaking v_r0_keptIn v_r0_turns0 v_r0_turnOf v_r0_turned v_r0_order0 v_r0_likely0 v_r0_leftThen v_r0_row v_r0_rowMany v_r0_seed r0_things (upd r0_figures (Int32.toNatClampNeg r0_things) x2) (upd r0_kinds (Int32.toNatClampNeg r0_things) x1))) rfl d_M_thingComes_19 (fun H locs hW => ?_)
  refine lv_aload_n hx hb d_M_thingComes_20 rfl (lv_at hl 0 rfl) ?_
  refine lv_dup hx hb d_M_thingComes_21 rfl ?_
  refine k_get i_M C hW 0 rfl rfl 1 (by decide) qf_M_71 rfl rfl d_M_thingComes_22 ?_
  refine lv_iconst (v := 1) hx hb d_M_thingComes_25 (by decide) ?_
  refine lv_iadd hx hb d_M_thingComes_26 ?_
  refine k_put i_M t_M_ok n_M C hW 0 rfl rfl 1 (by decide) qf_M_71 rfl rfl (ty := .int) rfl rfl rfl (Nat.le_of_ble_eq_true rfl) (ws' := (w_M_thingComes cI a_r0 a_r0_figures a_r0_kinds v_r0_weights v_r0_days v_r0_hampers v_r0_wants0 v_r0_left0 v_r0_done0 v_r0_thrown v_r0_refusals v_r0_letters v_r0_letterMany v_r0_at v_r0_isBad v_r0_statements v_r0_placeIn v_r0_letterOf v_r0_told v_r0_kept v_r0_imaged v_r0_hasImage v_r0_place0 v_r0_isTaking v_r0_keptIn v_r0_turns0 v_r0_turnOf v_r0_turned v_r0_order0 v_r0_likely0 v_r0_leftThen v_r0_row v_r0_rowMany v_r0_seed (r0_things + 1) (upd r0_figures (Int32.toNatClampNeg r0_things) x2) (upd r0_kinds (Int32.toNatClampNeg r0_things) x1))) rfl d_M_thingComes_27 (fun H locs hW => ?_)
  obtain rfl := Option.some.inj hr
  rw [hQ]; exact k_vret C hret hW d_M_thingComes_30
def w_M_comesTold (cI : ClassId) (a_r0 : Nat) (a_r0_figures : Nat) (a_r0_hampers : Nat) (a_r0_kinds : Nat) (a_r0_left0 : Nat) (a_r0_letterOf : Nat) (a_r0_told : Nat) (a_r0_wants0 : Nat) (a_r0_weights : Nat) (v_r0_thrown v_r0_refusals v_r0_letters v_r0_letterMany v_r0_at v_r0_isBad v_r0_statements v_r0_placeIn v_r0_kept v_r0_imaged v_r0_hasImage v_r0_place0 v_r0_isTaking v_r0_keptIn v_r0_turns0 v_r0_turnOf v_r0_turned v_r0_order0 v_r0_likely0 v_r0_leftThen v_r0_row v_r0_rowMany v_r0_seed : Value) (r0_days : Int32) (r0_done0 : Int32) (r0_things : Int32) (r0_figures : Nat → Int32) (r0_hampers : Nat → Int32) (r0_kinds : Nat → Int32) (r0_left0 : Nat → Int32) (r0_letterOf : Nat → Int32) (r0_told : Nat → Int32) (r0_wants0 : Nat → Int32) (r0_weights : Nat → Int32) : va_W := [(a_r0, .inr (9, [.ref a_r0_weights, .int r0_things, .ref a_r0_kinds, .ref a_r0_figures, .int r0_days, .ref a_r0_hampers, .ref a_r0_wants0, .ref a_r0_left0, .int r0_done0, v_r0_thrown, v_r0_refusals, v_r0_letters, v_r0_letterMany, v_r0_at, v_r0_isBad, v_r0_statements, v_r0_placeIn, .ref a_r0_letterOf, .ref a_r0_told, v_r0_kept, v_r0_imaged, v_r0_hasImage, v_r0_place0, v_r0_isTaking, v_r0_keptIn, v_r0_turns0, v_r0_turnOf, v_r0_turned, v_r0_order0, v_r0_likely0, v_r0_leftThen, v_r0_row, v_r0_rowMany, v_r0_seed])), (a_r0_figures, .inl (cI, 8, .inl r0_figures)), (a_r0_hampers, .inl (cI, 8, .inl r0_hampers)), (a_r0_kinds, .inl (cI, 8, .inl r0_kinds)), (a_r0_left0, .inl (cI, 4, .inl r0_left0)), (a_r0_letterOf, .inl (cI, 49, .inl r0_letterOf)), (a_r0_told, .inl (cI, 147, .inl r0_told)), (a_r0_wants0, .inl (cI, 4, .inl r0_wants0)), (a_r0_weights, .inl (cI, 6, .inl r0_weights))]
def F_M_comesTold_J152_7 (r0_days : Int32) (r0_done0 : Int32) (r0_things : Int32) (r0_figures : Nat → Int32) (r0_hampers : Nat → Int32) (r0_kinds : Nat → Int32) (r0_left0 : Nat → Int32) (r0_told : Nat → Int32) (r0_wants0 : Nat → Int32) (r0_weights : Nat → Int32) (x1 : Int32) (s0_7 : Int32) : Option (Int32 × (Int32) × (Int32) × (Int32) × (Nat → Int32) × (Nat → Int32) × (Nat → Int32) × (Nat → Int32) × (Nat → Int32) × (Nat → Int32)) :=
  (if s0_7 = 0 then (ckz s0_7 (some (s0_7, r0_days, r0_done0, r0_things, r0_figures, r0_hampers, r0_kinds, r0_left0, r0_wants0, r0_weights))) else ((F_M_dayComes r0_days r0_hampers (r0_told (Int32.toNatClampNeg ((3 : Int32) * x1)))).bind (fun q_10 => (ckz s0_7 (some (s0_7, q_10.1, r0_done0, r0_things, r0_figures, q_10.2, r0_kinds, r0_left0, r0_wants0, r0_weights))))))
def F_M_comesTold_J151_12 (r0_days : Int32) (r0_done0 : Int32) (r0_things : Int32) (r0_figures : Nat → Int32) (r0_hampers : Nat → Int32) (r0_kinds : Nat → Int32) (r0_left0 : Nat → Int32) (r0_told : Nat → Int32) (r0_wants0 : Nat → Int32) (r0_weights : Nat → Int32) (x1 : Int32) : Option (Int32 × (Int32) × (Int32) × (Int32) × (Nat → Int32) × (Nat → Int32) × (Nat → Int32) × (Nat → Int32) × (Nat → Int32) × (Nat → Int32)) :=
  (F_M_comesTold_J152_7 r0_days r0_done0 r0_things r0_figures r0_hampers r0_kinds r0_left0 r0_told r0_wants0 r0_weights x1 0)
def F_M_comesTold_J211_16 (r0_days : Int32) (r0_done0 : Int32) (r0_things : Int32) (r0_figures : Nat → Int32) (r0_hampers : Nat → Int32) (r0_kinds : Nat → Int32) (r0_left0 : Nat → Int32) (r0_told : Nat → Int32) (r0_wants0 : Nat → Int32) (r0_weights : Nat → Int32) (x1 : Int32) (s0_16 : Int32) : Option (Int32 × (Int32) × (Int32) × (Int32) × (Nat → Int32) × (Nat → Int32) × (Nat → Int32) × (Nat → Int32) × (Nat → Int32) × (Nat → Int32)) :=
  (if s0_16 = 0 then (ckz s0_16 (some (s0_16, r0_days, r0_done0, r0_things, r0_figures, r0_hampers, r0_kinds, r0_left0, r0_wants0, r0_weights))) else (ck (r0_told (Int32.toNatClampNeg ((3 : Int32) * x1))) 4 (ck (r0_told (Int32.toNatClampNeg ((3 : Int32) * x1))) 4 (ckz s0_16 (some (s0_16, r0_days, r0_done0, r0_things, r0_figures, r0_hampers, r0_kinds, (upd r0_left0 (Int32.toNatClampNeg (r0_told (Int32.toNatClampNeg ((3 : Int32) * x1)))) (r0_told (Int32.toNatClampNeg (((3 : Int32) * x1) + 2)))), (upd r0_wants0 (Int32.toNatClampNeg (r0_told (Int32.toNatClampNeg ((3 : Int32) * x1)))) (r0_told (Int32.toNatClampNeg (((3 : Int32) * x1) + 1)))), r0_weights))))))
def F_M_comesTold_J210_22 (r0_days : Int32) (r0_done0 : Int32) (r0_things : Int32) (r0_figures : Nat → Int32) (r0_hampers : Nat → Int32) (r0_kinds : Nat → Int32) (r0_left0 : Nat → Int32) (r0_told : Nat → Int32) (r0_wants0 : Nat → Int32) (r0_weights : Nat → Int32) (x1 : Int32) : Option (Int32 × (Int32) × (Int32) × (Int32) × (Nat → Int32) × (Nat → Int32) × (Nat → Int32) × (Nat → Int32) × (Nat → Int32) × (Nat → Int32)) :=
  (F_M_comesTold_J211_16 r0_days r0_done0 r0_things r0_figures r0_hampers r0_kinds r0_left0 r0_told r0_wants0 r0_weights x1 0)
def F_M_comesTold_J112_33 (r0_days : Int32) (r0_done0 : Int32) (r0_things : Int32) (r0_figures : Nat → Int32) (r0_hampers : Nat → Int32) (r0_kinds : Nat → Int32) (r0_left0 : Nat → Int32) (r0_told : Nat → Int32) (r0_wants0 : Nat → Int32) (r0_weights : Nat → Int32) (x1 : Int32) (s0_33 : Int32) : Option (Int32 × (Int32) × (Int32) × (Int32) × (Nat → Int32) × (Nat → Int32) × (Nat → Int32) × (Nat → Int32) × (Nat → Int32) × (Nat → Int32)) :=
  (if s0_33 = 0 then (ckz s0_33 (some (s0_33, r0_days, r0_done0, r0_things, r0_figures, r0_hampers, r0_kinds, r0_left0, r0_wants0, r0_weights))) else ((F_M_thingComes r0_things r0_figures r0_kinds (r0_told (Int32.toNatClampNeg ((3 : Int32) * x1))) (r0_told (Int32.toNatClampNeg (((3 : Int32) * x1) + 1)))).bind (fun q_36 => (ckz s0_33 (some (s0_33, r0_days, r0_done0, q_36.1, q_36.2.1, r0_hampers, q_36.2.2, r0_left0, r0_wants0, r0_weights))))))
def F_M_comesTold_J111_38 (r0_days : Int32) (r0_done0 : Int32) (r0_things : Int32) (r0_figures : Nat → Int32) (r0_hampers : Nat → Int32) (r0_kinds : Nat → Int32) (r0_left0 : Nat → Int32) (r0_told : Nat → Int32) (r0_wants0 : Nat → Int32) (r0_weights : Nat → Int32) (x1 : Int32) : Option (Int32 × (Int32) × (Int32) × (Int32) × (Nat → Int32) × (Nat → Int32) × (Nat → Int32) × (Nat → Int32) × (Nat → Int32) × (Nat → Int32)) :=
  (F_M_comesTold_J112_33 r0_days r0_done0 r0_things r0_figures r0_hampers r0_kinds r0_left0 r0_told r0_wants0 r0_weights x1 0)
def F_M_comesTold_J178_42 (r0_days : Int32) (r0_done0 : Int32) (r0_things : Int32) (r0_figures : Nat → Int32) (r0_hampers : Nat → Int32) (r0_kinds : Nat → Int32) (r0_left0 : Nat → Int32) (r0_told : Nat → Int32) (r0_wants0 : Nat → Int32) (r0_weights : Nat → Int32) (x1 : Int32) (s0_42 : Int32) : Option (Int32 × (Int32) × (Int32) × (Int32) × (Nat → Int32) × (Nat → Int32) × (Nat → Int32) × (Nat → Int32) × (Nat → Int32) × (Nat → Int32)) :=
  (if s0_42 = 0 then (ckz s0_42 (some (s0_42, r0_days, r0_done0, r0_things, r0_figures, r0_hampers, r0_kinds, r0_left0, r0_wants0, r0_weights))) else (ck (r0_told (Int32.toNatClampNeg ((3 : Int32) * x1))) 6 (ckz s0_42 (some (s0_42, r0_days, r0_done0, r0_things, r0_figures, r0_hampers, r0_kinds, r0_left0, r0_wants0, (upd r0_weights (Int32.toNatClampNeg (r0_told (Int32.toNatClampNeg ((3 : Int32) * x1)))) (r0_told (Int32.toNatClampNeg (((3 : Int32) * x1) + 1)))))))))
def F_M_comesTold_J282_49 (r0_days : Int32) (r0_done0 : Int32) (r0_things : Int32) (r0_figures : Nat → Int32) (r0_hampers : Nat → Int32) (r0_kinds : Nat → Int32) (r0_left0 : Nat → Int32) (r0_told : Nat → Int32) (r0_wants0 : Nat → Int32) (r0_weights : Nat → Int32) (x1 : Int32) (s0_49 : Int32) : Option (Int32 × (Int32) × (Int32) × (Int32) × (Nat → Int32) × (Nat → Int32) × (Nat → Int32) × (Nat → Int32) × (Nat → Int32) × (Nat → Int32)) :=
  (if s0_49 = 0 then (ckz s0_49 (some (s0_49, r0_days, r0_done0, r0_things, r0_figures, r0_hampers, r0_kinds, r0_left0, r0_wants0, r0_weights))) else (ck (r0_told (Int32.toNatClampNeg ((3 : Int32) * x1))) 8 (ck (r0_told (Int32.toNatClampNeg ((3 : Int32) * x1))) 8 (ckz s0_49 (some (s0_49, r0_days, r0_done0, r0_things, r0_figures, (upd r0_hampers (Int32.toNatClampNeg (r0_told (Int32.toNatClampNeg ((3 : Int32) * x1)))) ((r0_hampers (Int32.toNatClampNeg (r0_told (Int32.toNatClampNeg ((3 : Int32) * x1))))) ^^^ ((1 : Int32) <<< (((r0_told (Int32.toNatClampNeg (((3 : Int32) * x1) + 1))) : Int32) &&& 31)))), r0_kinds, r0_left0, r0_wants0, r0_weights))))))
def F_M_comesTold_J281_55 (r0_days : Int32) (r0_done0 : Int32) (r0_things : Int32) (r0_figures : Nat → Int32) (r0_hampers : Nat → Int32) (r0_kinds : Nat → Int32) (r0_left0 : Nat → Int32) (r0_told : Nat → Int32) (r0_wants0 : Nat → Int32) (r0_weights : Nat → Int32) (x1 : Int32) : Option (Int32 × (Int32) × (Int32) × (Int32) × (Nat → Int32) × (Nat → Int32) × (Nat → Int32) × (Nat → Int32) × (Nat → Int32) × (Nat → Int32)) :=
  (F_M_comesTold_J282_49 r0_days r0_done0 r0_things r0_figures r0_hampers r0_kinds r0_left0 r0_told r0_wants0 r0_weights x1 0)
def F_M_comesTold (r0_days : Int32) (r0_done0 : Int32) (r0_things : Int32) (r0_figures : Nat → Int32) (r0_hampers : Nat → Int32) (r0_kinds : Nat → Int32) (r0_left0 : Nat → Int32) (r0_letterOf : Nat → Int32) (r0_told : Nat → Int32) (r0_wants0 : Nat → Int32) (r0_weights : Nat → Int32) (x1 : Int32) : Option (Int32 × (Int32) × (Int32) × (Int32) × (Nat → Int32) × (Nat → Int32) × (Nat → Int32) × (Nat → Int32) × (Nat → Int32) × (Nat → Int32)) :=
  (ck ((3 : Int32) * x1) 147 (ck (((3 : Int32) * x1) + 1) 147 (ck (((3 : Int32) * x1) + 2) 147 (ck x1 49 (if (r0_letterOf (Int32.toNatClampNeg x1)) = 100 then (if ((1 : Int32) <<< ((r0_things : Int32) &&& 31)) ≤ (r0_told (Int32.toNatClampNeg ((3 : Int32) * x1))) then (F_M_comesTold_J151_12 r0_days r0_done0 r0_things r0_figures r0_hampers r0_kinds r0_left0 r0_told r0_wants0 r0_weights x1) else (if (8 : Int32) ≤ r0_days then (F_M_comesTold_J151_12 r0_days r0_done0 r0_things r0_figures r0_hampers r0_kinds r0_left0 r0_told r0_wants0 r0_weights x1) else (F_M_comesTold_J152_7 r0_days r0_done0 r0_things r0_figures r0_hampers r0_kinds r0_left0 r0_told r0_wants0 r0_weights x1 1))) else (if (r0_letterOf (Int32.toNatClampNeg x1)) = 102 then (if (4 : Int32) ≤ (r0_told (Int32.toNatClampNeg ((3 : Int32) * x1))) then (F_M_comesTold_J210_22 r0_days r0_done0 r0_things r0_figures r0_hampers r0_kinds r0_left0 r0_told r0_wants0 r0_weights x1) else (if (64 : Int32) ≤ (r0_told (Int32.toNatClampNeg (((3 : Int32) * x1) + 1))) then (F_M_comesTold_J210_22 r0_days r0_done0 r0_things r0_figures r0_hampers r0_kinds r0_left0 r0_told r0_wants0 r0_weights x1) else (F_M_comesTold_J211_16 r0_days r0_done0 r0_things r0_figures r0_hampers r0_kinds r0_left0 r0_told r0_wants0 r0_weights x1 1))) else (if (r0_letterOf (Int32.toNatClampNeg x1)) = 115 then ((F_M_isDay r0_days (r0_told (Int32.toNatClampNeg ((3 : Int32) * x1)))).bind (fun q_25 => (if q_25 = 0 then (ckz q_25 (some (q_25, r0_days, r0_done0, r0_things, r0_figures, r0_hampers, r0_kinds, r0_left0, r0_wants0, r0_weights))) else ((F_M_likelyOn r0_things r0_figures r0_hampers r0_kinds r0_weights (r0_told (Int32.toNatClampNeg ((3 : Int32) * x1)))).bind (fun q_28 => ((F_M_spendWith r0_done0 r0_left0 r0_wants0 q_28).bind (fun q_29 => (ckz q_25 (some (q_25, r0_days, q_29.2.1, r0_things, r0_figures, r0_hampers, r0_kinds, q_29.2.2, r0_wants0, r0_weights)))))))))) else (if (r0_letterOf (Int32.toNatClampNeg x1)) = 116 then (if (6 : Int32) ≤ (r0_told (Int32.toNatClampNeg ((3 : Int32) * x1))) then (F_M_comesTold_J111_38 r0_days r0_done0 r0_things r0_figures r0_hampers r0_kinds r0_left0 r0_told r0_wants0 r0_weights x1) else (if (8 : Int32) ≤ r0_things then (F_M_comesTold_J111_38 r0_days r0_done0 r0_things r0_figures r0_hampers r0_kinds r0_left0 r0_told r0_wants0 r0_weights x1) else (F_M_comesTold_J112_33 r0_days r0_done0 r0_things r0_figures r0_hampers r0_kinds r0_left0 r0_told r0_wants0 r0_weights x1 1))) else (if (r0_letterOf (Int32.toNatClampNeg x1)) = 119 then (if (6 : Int32) ≤ (r0_told (Int32.toNatClampNeg ((3 : Int32) * x1))) then (F_M_comesTold_J178_42 r0_days r0_done0 r0_things r0_figures r0_hampers r0_kinds r0_left0 r0_told r0_wants0 r0_weights x1 0) else (F_M_comesTold_J178_42 r0_days r0_done0 r0_things r0_figures r0_hampers r0_kinds r0_left0 r0_told r0_wants0 r0_weights x1 1)) else ((F_M_isDay r0_days (r0_told (Int32.toNatClampNeg ((3 : Int32) * x1)))).bind (fun q_47 => (if q_47 = 0 then (F_M_comesTold_J281_55 r0_days r0_done0 r0_things r0_figures r0_hampers r0_kinds r0_left0 r0_told r0_wants0 r0_weights x1) else ((F_M_isThing r0_things (r0_told (Int32.toNatClampNeg (((3 : Int32) * x1) + 1)))).bind (fun q_56 => (if q_56 = 0 then (F_M_comesTold_J281_55 r0_days r0_done0 r0_things r0_figures r0_hampers r0_kinds r0_left0 r0_told r0_wants0 r0_weights x1) else (F_M_comesTold_J282_49 r0_days r0_done0 r0_things r0_figures r0_hampers r0_kinds r0_left0 r0_told r0_wants0 r0_weights x1 1))))))))))))))))
set_option maxHeartbeats 4000000 in
set_option maxRecDepth 100000 in
theorem C_M_comesTold (l : Launch) (D : va_G) (cI cS : ClassId) (a_r0 : Nat) (a_r0_figures : Nat) (a_r0_hampers : Nat) (a_r0_kinds : Nat) (a_r0_left0 : Nat) (a_r0_letterOf : Nat) (a_r0_told : Nat) (a_r0_wants0 : Nat) (a_r0_weights : Nat) (v_r0_thrown v_r0_refusals v_r0_letters v_r0_letterMany v_r0_at v_r0_isBad v_r0_statements v_r0_placeIn v_r0_kept v_r0_imaged v_r0_hasImage v_r0_place0 v_r0_isTaking v_r0_keptIn v_r0_turns0 v_r0_turnOf v_r0_turned v_r0_order0 v_r0_likely0 v_r0_leftThen v_r0_row v_r0_rowMany v_r0_seed : Value) (r0_days : Int32) (r0_done0 : Int32) (r0_things : Int32) (r0_figures : Nat → Int32) (r0_hampers : Nat → Int32) (r0_kinds : Nat → Int32) (r0_left0 : Nat → Int32) (r0_letterOf : Nat → Int32) (r0_told : Nat → Int32) (r0_wants0 : Nat → Int32) (r0_weights : Nat → Int32) (x1 : Int32) (o : Int32 × (Int32) × (Int32) × (Int32) × (Nat → Int32) × (Nat → Int32) × (Nat → Int32) × (Nat → Int32) × (Nat → Int32) × (Nat → Int32)) (hr : F_M_comesTold r0_days r0_done0 r0_things r0_figures r0_hampers r0_kinds r0_left0 r0_letterOf r0_told r0_wants0 r0_weights x1 = some o) : ctI l y_M_comesTold (Cond.code y_M_comesTold b_M_comesTold 6 (some FieldType.boolean)) (rmd 4) D (kTy cI cS) [.ref a_r0, .int x1] (w_M_comesTold cI a_r0 a_r0_figures a_r0_hampers a_r0_kinds a_r0_left0 a_r0_letterOf a_r0_told a_r0_wants0 a_r0_weights v_r0_thrown v_r0_refusals v_r0_letters v_r0_letterMany v_r0_at v_r0_isBad v_r0_statements v_r0_placeIn v_r0_kept v_r0_imaged v_r0_hasImage v_r0_place0 v_r0_isTaking v_r0_keptIn v_r0_turns0 v_r0_turnOf v_r0_turned v_r0_order0 v_r0_likely0 v_r0_leftThen v_r0_row v_r0_rowMany v_r0_seed r0_days r0_done0 r0_things r0_figures r0_hampers r0_kinds r0_left0 r0_letterOf r0_told r0_wants0 r0_weights) (w_M_comesTold cI a_r0 a_r0_figures a_r0_hampers a_r0_kinds a_r0_left0 a_r0_letterOf a_r0_told a_r0_wants0 a_r0_weights v_r0_thrown v_r0_refusals v_r0_letters v_r0_letterMany v_r0_at v_r0_isBad v_r0_statements v_r0_placeIn v_r0_kept v_r0_imaged v_r0_hasImage v_r0_place0 v_r0_isTaking v_r0_keptIn v_r0_turns0 v_r0_turnOf v_r0_turned v_r0_order0 v_r0_likely0 v_r0_leftThen v_r0_row v_r0_rowMany v_r0_seed o.2.1 o.2.2.1 o.2.2.2.1 o.2.2.2.2.1 o.2.2.2.2.2.1 o.2.2.2.2.2.2.1 o.2.2.2.2.2.2.2.1 r0_letterOf r0_told o.2.2.2.2.2.2.2.2.1 o.2.2.2.2.2.2.2.2.2) o.1 := by
  unfold F_M_comesTold at hr
  refine ⟨rfl, fun sz => ct_of (w0 := (w_M_comesTold cI a_r0 a_r0_figures a_r0_hampers a_r0_kinds a_r0_left0 a_r0_letterOf a_r0_told a_r0_wants0 a_r0_weights v_r0_thrown v_r0_refusals v_r0_letters v_r0_letterMany v_r0_at v_r0_isBad v_r0_statements v_r0_placeIn v_r0_kept v_r0_imaged v_r0_hasImage v_r0_place0 v_r0_isTaking v_r0_keptIn v_r0_turns0 v_r0_turnOf v_r0_turned v_r0_order0 v_r0_likely0 v_r0_leftThen v_r0_row v_r0_rowMany v_r0_seed r0_days r0_done0 r0_things r0_figures r0_hampers r0_kinds r0_left0 r0_letterOf r0_told r0_wants0 r0_weights)) (Qc := fun A => qI D (w_M_comesTold cI a_r0 a_r0_figures a_r0_hampers a_r0_kinds a_r0_left0 a_r0_letterOf a_r0_told a_r0_wants0 a_r0_weights v_r0_thrown v_r0_refusals v_r0_letters v_r0_letterMany v_r0_at v_r0_isBad v_r0_statements v_r0_placeIn v_r0_kept v_r0_imaged v_r0_hasImage v_r0_place0 v_r0_isTaking v_r0_keptIn v_r0_turns0 v_r0_turnOf v_r0_turned v_r0_order0 v_r0_likely0 v_r0_leftThen v_r0_row v_r0_rowMany v_r0_seed o.2.1 o.2.2.1 o.2.2.2.1 o.2.2.2.2.1 o.2.2.2.2.2.1 o.2.2.2.2.2.2.1 o.2.2.2.2.2.2.2.1 r0_letterOf r0_told o.2.2.2.2.2.2.2.2.1 o.2.2.2.2.2.2.2.2.2) o.1 A) rfl (Nat.le_of_ble_eq_true rfl) ?_ sz⟩
  intro p e s m below meth c A hA C hret ls hl hW
  have C : cx p s m ([.ref a_r0, .int x1] : List Value).toArray meth c b_M_comesTold 6 R_M D (kTy cI cS) (Cond.code y_M_comesTold b_M_comesTold 6 (some FieldType.boolean)) := C
  obtain ⟨hx, hb, hml, hown, hts, hK, hlk, hN⟩ := id C
  have hl : lv_has ls 6 [(0, .ref a_r0), (1, .int x1)] := hl
  obtain ⟨Q, hQ⟩ : ∃ Q, Q = MQ below (qI D (w_M_comesTold cI a_r0 a_r0_figures a_r0_hampers a_r0_kinds a_r0_left0 a_r0_letterOf a_r0_told a_r0_wants0 a_r0_weights v_r0_thrown v_r0_refusals v_r0_letters v_r0_letterMany v_r0_at v_r0_isBad v_r0_statements v_r0_placeIn v_r0_kept v_r0_imaged v_r0_hasImage v_r0_place0 v_r0_isTaking v_r0_keptIn v_r0_turns0 v_r0_turnOf v_r0_turned v_r0_order0 v_r0_likely0 v_r0_leftThen v_r0_row v_r0_rowMany v_r0_seed o.2.1 o.2.2.1 o.2.2.2.1 o.2.2.2.2.1 o.2.2.2.2.2.1 o.2.2.2.2.2.2.1 o.2.2.2.2.2.2.2.1 r0_letterOf r0_told o.2.2.2.2.2.2.2.2.1 o.2.2.2.2.2.2.2.2.2) o.1 A) ([.ref a_r0, .int x1] : List Value).toArray s 0 0 A := ⟨_, rfl⟩
  rw [← hQ]
  refine lv_aload_n hx hb d_M_comesTold_0 rfl (lv_at hl 0 rfl) ?_
  refine k_get i_M C hW 0 rfl rfl 18 (by decide) qf_M_40 rfl rfl d_M_comesTold_1 ?_
  refine lv_iconst (v := 3) hx hb d_M_comesTold_4 (by decide) ?_
  refine lv_iload_n hx hb d_M_comesTold_5 rfl (lv_at hl 1 rfl) ?_
  refine lv_imul hx hb d_M_comesTold_6 ?_
  obtain ⟨h_1, hr⟩ := ck_some hr
  refine k_iald C hW 6 rfl h_1 d_M_comesTold_7 ?_
  refine lv_istore_n (lv' := [(2, .int (r0_told (Int32.toNatClampNeg ((3 : Int32) * x1)))), (0, .ref a_r0), (1, .int x1)]) hx hb d_M_comesTold_8 rfl hl (by decide) rfl (fun ls hl => ?_)
  refine lv_aload_n hx hb d_M_comesTold_9 rfl (lv_at hl 1 rfl) ?_
  refine k_get i_M C hW 0 rfl rfl 18 (by decide) qf_M_40 rfl rfl d_M_comesTold_10 ?_
  refine lv_iconst (v := 3) hx hb d_M_comesTold_13 (by decide) ?_
  refine lv_iload_n hx hb d_M_comesTold_14 rfl (lv_at hl 2 rfl) ?_
  refine lv_imul hx hb d_M_comesTold_15 ?_
  refine lv_iconst (v := 1) hx hb d_M_comesTold_16 (by decide) ?_
  refine lv_iadd hx hb d_M_comesTold_17 ?_
  obtain ⟨h_2, hr⟩ := ck_some hr
  refine k_iald C hW 6 rfl h_2 d_M_comesTold_18 ?_
  refine lv_istore_n (lv' := [(3, .int (r0_told (Int32.toNatClampNeg (((3 : Int32) * x1) + 1)))), (2, .int (r0_told (Int32.toNatClampNeg ((3 : Int32) * x1)))), (0, .ref a_r0), (1, .int x1)]) hx hb d_M_comesTold_19 rfl hl (by decide) rfl (fun ls hl => ?_)
  refine lv_aload_n hx hb d_M_comesTold_20 rfl (lv_at hl 2 rfl) ?_
  refine k_get i_M C hW 0 rfl rfl 18 (by decide) qf_M_40 rfl rfl d_M_comesTold_21 ?_
  refine lv_iconst (v := 3) hx hb d_M_comesTold_24 (by decide) ?_
  refine lv_iload_n hx hb d_M_comesTold_25 rfl (lv_at hl 3 rfl) ?_
  refine lv_imul hx hb d_M_comesTold_26 ?_
  refine lv_iconst (v := 2) hx hb d_M_comesTold_27 (by decide) ?_
  refine lv_iadd hx hb d_M_comesTold_28 ?_
  obtain ⟨h_3, hr⟩ := ck_some hr
  refine k_iald C hW 6 rfl h_3 d_M_comesTold_29 ?_
  refine lv_istore (lv' := [(4, .int (r0_told (Int32.toNatClampNeg (((3 : Int32) * x1) + 2)))), (3, .int (r0_told (Int32.toNatClampNeg (((3 : Int32) * x1) + 1)))), (2, .int (r0_told (Int32.toNatClampNeg ((3 : Int32) * x1)))), (0, .ref a_r0), (1, .int x1)]) hx hb d_M_comesTold_30 hl (by decide) rfl (fun ls hl => ?_)
  refine lv_iconst (v := 1) hx hb d_M_comesTold_32 (by decide) ?_
  refine lv_istore (lv' := [(5, .int 1), (4, .int (r0_told (Int32.toNatClampNeg (((3 : Int32) * x1) + 2)))), (3, .int (r0_told (Int32.toNatClampNeg (((3 : Int32) * x1) + 1)))), (2, .int (r0_told (Int32.toNatClampNeg ((3 : Int32) * x1)))), (0, .ref a_r0), (1, .int x1)]) hx hb d_M_comesTold_33 hl (by decide) rfl (fun ls hl => ?_)
  refine lv_aload_n hx hb d_M_comesTold_35 rfl (lv_at hl 4 rfl) ?_
  refine k_get i_M C hW 0 rfl rfl 17 (by decide) qf_M_37 rfl rfl d_M_comesTold_36 ?_
  refine lv_iload_n hx hb d_M_comesTold_39 rfl (lv_at hl 5 rfl) ?_
  obtain ⟨h_4, hr⟩ := ck_some hr
  refine k_iald C hW 5 rfl h_4 d_M_comesTold_40 ?_
  by_cases c_5 : (r0_letterOf (Int32.toNatClampNeg x1)) = 100
  · replace hr := ip c_5 hr
    refine k_lookIn (tgt := 128) (off := 87) c_5 hx hb d_M_comesTold_41 (by decide) (by decide) (by decide) ?_
    refine lv_iload_n hx hb d_M_comesTold_128 rfl (lv_at hl 3 rfl) ?_
    refine lv_iconst (v := 1) hx hb d_M_comesTold_129 (by decide) ?_
    refine lv_aload_n hx hb d_M_comesTold_130 rfl (lv_at hl 4 rfl) ?_
    refine k_get i_M C hW 0 rfl rfl 1 (by decide) qf_M_71 rfl rfl d_M_comesTold_131 ?_
    refine lv_ishl hx hb d_M_comesTold_134 ?_
    have hJ_7 : ∀ (s0_7 : Int32), F_M_comesTold_J152_7 r0_days r0_done0 r0_things r0_figures r0_hampers r0_kinds r0_left0 r0_told r0_wants0 r0_weights x1 s0_7 = some o → ∀ (H : Heap) (locs : List Loc) (ls : Array Slot), wd A s.heap D (w_M_comesTold cI a_r0 a_r0_figures a_r0_hampers a_r0_kinds a_r0_left0 a_r0_letterOf a_r0_told a_r0_wants0 a_r0_weights v_r0_thrown v_r0_refusals v_r0_letters v_r0_letterMany v_r0_at v_r0_isBad v_r0_statements v_r0_placeIn v_r0_kept v_r0_imaged v_r0_hasImage v_r0_place0 v_r0_isTaking v_r0_keptIn v_r0_turns0 v_r0_turnOf v_r0_turned v_r0_order0 v_r0_likely0 v_r0_leftThen v_r0_row v_r0_rowMany v_r0_seed r0_days r0_done0 r0_things r0_figures r0_hampers r0_kinds r0_left0 r0_letterOf r0_told r0_wants0 r0_weights) H locs → lv_has ls 6 [(0, .ref a_r0), (2, .int (r0_told (Int32.toNatClampNeg ((3 : Int32) * x1))))] → W p l e (rmd 4) s m ([.ref a_r0, .int x1] : List Value).toArray below meth c H locs 0 0 Q (F0 m 152 ls [.int s0_7]) := by
      intro s0_7 hr H locs ls hW hl
      unfold F_M_comesTold_J152_7 at hr
      refine lv_istore (lv' := [(5, .int s0_7), (0, .ref a_r0), (2, .int (r0_told (Int32.toNatClampNeg ((3 : Int32) * x1))))]) hx hb d_M_comesTold_152 hl (by decide) rfl (fun ls hl => ?_)
      refine lv_iload hx hb d_M_comesTold_154 (lv_at hl 0 rfl) ?_
      refine lv_if_eq (tgt := 164) hx hb d_M_comesTold_156 (by decide) (fun c_8 => ?_) (fun c_8 => ?_)
      · replace hr := ip c_8 hr
        refine lv_iload hx hb d_M_comesTold_164 (lv_at hl 0 rfl) ?_
        obtain ⟨hz_9, -, hr⟩ := ckz_some hr
        obtain rfl := Option.some.inj hr
        rw [hQ]; exact k_zret C hret hz_9 hW d_M_comesTold_166
      · replace hr := iN c_8 hr
        refine lv_aload_n hx hb d_M_comesTold_159 rfl (lv_at hl 1 rfl) ?_
        refine lv_iload_n hx hb d_M_comesTold_160 rfl (lv_at hl 2 rfl) ?_
        obtain ⟨q_10, hc_10, hr⟩ := ob hr
        have ct_10 := C_M_dayComes l D cI cS a_r0 a_r0_hampers (Value.ref a_r0_weights) (Value.int r0_things) (Value.ref a_r0_kinds) (Value.ref a_r0_figures) (Value.ref a_r0_wants0) (Value.ref a_r0_left0) (Value.int r0_done0) v_r0_thrown v_r0_refusals v_r0_letters v_r0_letterMany v_r0_at v_r0_isBad v_r0_statements v_r0_placeIn (Value.ref a_r0_letterOf) (Value.ref a_r0_told) v_r0_kept v_r0_imaged v_r0_hasImage v_r0_place0 v_r0_isTaking v_r0_keptIn v_r0_turns0 v_r0_turnOf v_r0_turned v_r0_order0 v_r0_likely0 v_r0_leftThen v_r0_row v_r0_rowMany v_r0_seed r0_days r0_hampers (r0_told (Int32.toNatClampNeg ((3 : Int32) * x1))) q_10 hc_10
        refine k_goV hA hW [0, 2] rfl ct_10.1 (ws' := (w_M_comesTold cI a_r0 a_r0_figures a_r0_hampers a_r0_kinds a_r0_left0 a_r0_letterOf a_r0_told a_r0_wants0 a_r0_weights v_r0_thrown v_r0_refusals v_r0_letters v_r0_letterMany v_r0_at v_r0_isBad v_r0_statements v_r0_placeIn v_r0_kept v_r0_imaged v_r0_hasImage v_r0_place0 v_r0_isTaking v_r0_keptIn v_r0_turns0 v_r0_turnOf v_r0_turned v_r0_order0 v_r0_likely0 v_r0_leftThen v_r0_row v_r0_rowMany v_r0_seed q_10.1 r0_done0 r0_things r0_figures q_10.2 r0_kinds r0_left0 r0_letterOf r0_told r0_wants0 r0_weights)) rfl (k_runV C hA hW mw_M_dayComes mv_M_dayComes (ct_10.2 _) [0, 2] rfl rfl 0 rfl rfl qm_M_146 ⟨Nat.le_of_ble_eq_true rfl, Nat.le_of_ble_eq_true rfl, Nat.zero_le _, Nat.zero_le _⟩ rfl rfl (Nat.le_of_ble_eq_true rfl) hl.1 d_M_comesTold_161) (fun H locs hW => ?_)
        refine lv_iload hx hb d_M_comesTold_164 (lv_at hl 0 rfl) ?_
        obtain ⟨hz_11, -, hr⟩ := ckz_some hr
        obtain rfl := Option.some.inj hr
        rw [hQ]; exact k_zret C hret hz_11 hW d_M_comesTold_166
    have hJ_12 : ∀ (_ : Unit), F_M_comesTold_J151_12 r0_days r0_done0 r0_things r0_figures r0_hampers r0_kinds r0_left0 r0_told r0_wants0 r0_weights x1 = some o → ∀ (H : Heap) (locs : List Loc) (ls : Array Slot), wd A s.heap D (w_M_comesTold cI a_r0 a_r0_figures a_r0_hampers a_r0_kinds a_r0_left0 a_r0_letterOf a_r0_told a_r0_wants0 a_r0_weights v_r0_thrown v_r0_refusals v_r0_letters v_r0_letterMany v_r0_at v_r0_isBad v_r0_statements v_r0_placeIn v_r0_kept v_r0_imaged v_r0_hasImage v_r0_place0 v_r0_isTaking v_r0_keptIn v_r0_turns0 v_r0_turnOf v_r0_turned v_r0_order0 v_r0_likely0 v_r0_leftThen v_r0_row v_r0_rowMany v_r0_seed r0_days r0_done0 r0_things r0_figures r0_hampers r0_kinds r0_left0 r0_letterOf r0_told r0_wants0 r0_weights) H locs → lv_has ls 6 [(0, .ref a_r0), (2, .int (r0_told (Int32.toNatClampNeg ((3 : Int32) * x1))))] → W p l e (rmd 4) s m ([.ref a_r0, .int x1] : List Value).toArray below meth c H locs 0 0 Q (F0 m 151 ls []) := by
      intro _ hr H locs ls hW hl
      unfold F_M_comesTold_J151_12 at hr
      refine lv_iconst (v := 0) hx hb d_M_comesTold_151 (by decide) ?_
      exact hJ_7 0 hr _ _ _ hW (lv_sub hl [0, 1] rfl)
    refine lv_icmp_ge (tgt := 151) hx hb d_M_comesTold_135 (by decide) (fun c_6 => ?_) (fun c_6 => ?_)
    · replace hr := ip c_6 hr
      exact hJ_12 () hr _ _ _ hW (lv_sub hl [4, 3] rfl)
    · replace hr := iN c_6 hr
      refine lv_aload_n hx hb d_M_comesTold_138 rfl (lv_at hl 4 rfl) ?_
      refine k_get i_M C hW 0 rfl rfl 4 (by decide) qf_M_78 rfl rfl d_M_comesTold_139 ?_
      refine lv_bipush (v := 8) hx hb d_M_comesTold_142 (by decide) ?_
      refine lv_icmp_ge (tgt := 151) hx hb d_M_comesTold_144 (by decide) (fun c_13 => ?_) (fun c_13 => ?_)
      · replace hr := ip c_13 hr
        exact hJ_12 () hr _ _ _ hW (lv_sub hl [4, 3] rfl)
      · replace hr := iN c_13 hr
        refine lv_iconst (v := 1) hx hb d_M_comesTold_147 (by decide) ?_
        refine lv_goto (tgt := 152) hx hb d_M_comesTold_148 (by decide) ?_
        exact hJ_7 1 hr _ _ _ hW (lv_sub hl [4, 3] rfl)
  · replace hr := iN c_5 hr
    by_cases c_14 : (r0_letterOf (Int32.toNatClampNeg x1)) = 102
    · replace hr := ip c_14 hr
      refine k_lookIn (tgt := 195) (off := 154) c_14 hx hb d_M_comesTold_41 (by decide) (by decide) (by decide) ?_
      refine lv_iload_n hx hb d_M_comesTold_195 rfl (lv_at hl 3 rfl) ?_
      refine lv_iconst (v := 4) hx hb d_M_comesTold_196 (by decide) ?_
      have hJ_16 : ∀ (s0_16 : Int32), F_M_comesTold_J211_16 r0_days r0_done0 r0_things r0_figures r0_hampers r0_kinds r0_left0 r0_told r0_wants0 r0_weights x1 s0_16 = some o → ∀ (H : Heap) (locs : List Loc) (ls : Array Slot), wd A s.heap D (w_M_comesTold cI a_r0 a_r0_figures a_r0_hampers a_r0_kinds a_r0_left0 a_r0_letterOf a_r0_told a_r0_wants0 a_r0_weights v_r0_thrown v_r0_refusals v_r0_letters v_r0_letterMany v_r0_at v_r0_isBad v_r0_statements v_r0_placeIn v_r0_kept v_r0_imaged v_r0_hasImage v_r0_place0 v_r0_isTaking v_r0_keptIn v_r0_turns0 v_r0_turnOf v_r0_turned v_r0_order0 v_r0_likely0 v_r0_leftThen v_r0_row v_r0_rowMany v_r0_seed r0_days r0_done0 r0_things r0_figures r0_hampers r0_kinds r0_left0 r0_letterOf r0_told r0_wants0 r0_weights) H locs → lv_has ls 6 [(0, .ref a_r0), (2, .int (r0_told (Int32.toNatClampNeg ((3 : Int32) * x1)))), (3, .int (r0_told (Int32.toNatClampNeg (((3 : Int32) * x1) + 1)))), (4, .int (r0_told (Int32.toNatClampNeg (((3 : Int32) * x1) + 2))))] → W p l e (rmd 4) s m ([.ref a_r0, .int x1] : List Value).toArray below meth c H locs 0 0 Q (F0 m 211 ls [.int s0_16]) := by
        intro s0_16 hr H locs ls hW hl
        unfold F_M_comesTold_J211_16 at hr
        refine lv_istore (lv' := [(5, .int s0_16), (0, .ref a_r0), (2, .int (r0_told (Int32.toNatClampNeg ((3 : Int32) * x1)))), (3, .int (r0_told (Int32.toNatClampNeg (((3 : Int32) * x1) + 1)))), (4, .int (r0_told (Int32.toNatClampNeg (((3 : Int32) * x1) + 2))))]) hx hb d_M_comesTold_211 hl (by decide) rfl (fun ls hl => ?_)
        refine lv_iload hx hb d_M_comesTold_213 (lv_at hl 0 rfl) ?_
        refine lv_if_eq (tgt := 233) hx hb d_M_comesTold_215 (by decide) (fun c_17 => ?_) (fun c_17 => ?_)
        · replace hr := ip c_17 hr
          refine lv_iload hx hb d_M_comesTold_233 (lv_at hl 0 rfl) ?_
          obtain ⟨hz_18, -, hr⟩ := ckz_some hr
          obtain rfl := Option.some.inj hr
          rw [hQ]; exact k_zret C hret hz_18 hW d_M_comesTold_235
        · replace hr := iN c_17 hr
          refine lv_aload_n hx hb d_M_comesTold_218 rfl (lv_at hl 1 rfl) ?_
          refine k_get i_M C hW 0 rfl rfl 6 (by decide) qf_M_22 rfl rfl d_M_comesTold_219 ?_
          refine lv_iload_n hx hb d_M_comesTold_222 rfl (lv_at hl 2 rfl) ?_
          refine lv_iload_n hx hb d_M_comesTold_223 rfl (lv_at hl 3 rfl) ?_
          obtain ⟨h_19, hr⟩ := ck_some hr
          refine k_iast C hW 7 rfl h_19 (ws' := (w_M_comesTold cI a_r0 a_r0_figures a_r0_hampers a_r0_kinds a_r0_left0 a_r0_letterOf a_r0_told a_r0_wants0 a_r0_weights v_r0_thrown v_r0_refusals v_r0_letters v_r0_letterMany v_r0_at v_r0_isBad v_r0_statements v_r0_placeIn v_r0_kept v_r0_imaged v_r0_hasImage v_r0_place0 v_r0_isTaking v_r0_keptIn v_r0_turns0 v_r0_turnOf v_r0_turned v_r0_order0 v_r0_likely0 v_r0_leftThen v_r0_row v_r0_rowMany v_r0_seed r0_days r0_done0 r0_things r0_figures r0_hampers r0_kinds r0_left0 r0_letterOf r0_told (upd r0_wants0 (Int32.toNatClampNeg (r0_told (Int32.toNatClampNeg ((3 : Int32) * x1)))) (r0_told (Int32.toNatClampNeg (((3 : Int32) * x1) + 1)))) r0_weights)) rfl d_M_comesTold_224 (fun H locs hW => ?_)
          refine lv_aload_n hx hb d_M_comesTold_225 rfl (lv_at hl 1 rfl) ?_
          refine k_get i_M C hW 0 rfl rfl 7 (by decide) qf_M_25 rfl rfl d_M_comesTold_226 ?_
          refine lv_iload_n hx hb d_M_comesTold_229 rfl (lv_at hl 2 rfl) ?_
          refine lv_iload hx hb d_M_comesTold_230 (lv_at hl 4 rfl) ?_
          obtain ⟨h_20, hr⟩ := ck_some hr
          refine k_iast C hW 4 rfl h_20 (ws' := (w_M_comesTold cI a_r0 a_r0_figures a_r0_hampers a_r0_kinds a_r0_left0 a_r0_letterOf a_r0_told a_r0_wants0 a_r0_weights v_r0_thrown v_r0_refusals v_r0_letters v_r0_letterMany v_r0_at v_r0_isBad v_r0_statements v_r0_placeIn v_r0_kept v_r0_imaged v_r0_hasImage v_r0_place0 v_r0_isTaking v_r0_keptIn v_r0_turns0 v_r0_turnOf v_r0_turned v_r0_order0 v_r0_likely0 v_r0_leftThen v_r0_row v_r0_rowMany v_r0_seed r0_days r0_done0 r0_things r0_figures r0_hampers r0_kinds (upd r0_left0 (Int32.toNatClampNeg (r0_told (Int32.toNatClampNeg ((3 : Int32) * x1)))) (r0_told (Int32.toNatClampNeg (((3 : Int32) * x1) + 2)))) r0_letterOf r0_told (upd r0_wants0 (Int32.toNatClampNeg (r0_told (Int32.toNatClampNeg ((3 : Int32) * x1)))) (r0_told (Int32.toNatClampNeg (((3 : Int32) * x1) + 1)))) r0_weights)) rfl d_M_comesTold_232 (fun H locs hW => ?_)
          refine lv_iload hx hb d_M_comesTold_233 (lv_at hl 0 rfl) ?_
          obtain ⟨hz_21, -, hr⟩ := ckz_some hr
          obtain rfl := Option.some.inj hr
          rw [hQ]; exact k_zret C hret hz_21 hW d_M_comesTold_235
      have hJ_22 : ∀ (_ : Unit), F_M_comesTold_J210_22 r0_days r0_done0 r0_things r0_figures r0_hampers r0_kinds r0_left0 r0_told r0_wants0 r0_weights x1 = some o → ∀ (H : Heap) (locs : List Loc) (ls : Array Slot), wd A s.heap D (w_M_comesTold cI a_r0 a_r0_figures a_r0_hampers a_r0_kinds a_r0_left0 a_r0_letterOf a_r0_told a_r0_wants0 a_r0_weights v_r0_thrown v_r0_refusals v_r0_letters v_r0_letterMany v_r0_at v_r0_isBad v_r0_statements v_r0_placeIn v_r0_kept v_r0_imaged v_r0_hasImage v_r0_place0 v_r0_isTaking v_r0_keptIn v_r0_turns0 v_r0_turnOf v_r0_turned v_r0_order0 v_r0_likely0 v_r0_leftThen v_r0_row v_r0_rowMany v_r0_seed r0_days r0_done0 r0_things r0_figures r0_hampers r0_kinds r0_left0 r0_letterOf r0_told r0_wants0 r0_weights) H locs → lv_has ls 6 [(0, .ref a_r0), (2, .int (r0_told (Int32.toNatClampNeg ((3 : Int32) * x1)))), (3, .int (r0_told (Int32.toNatClampNeg (((3 : Int32) * x1) + 1)))), (4, .int (r0_told (Int32.toNatClampNeg (((3 : Int32) * x1) + 2))))] → W p l e (rmd 4) s m ([.ref a_r0, .int x1] : List Value).toArray below meth c H locs 0 0 Q (F0 m 210 ls []) := by
        intro _ hr H locs ls hW hl
        unfold F_M_comesTold_J210_22 at hr
        refine lv_iconst (v := 0) hx hb d_M_comesTold_210 (by decide) ?_
        exact hJ_16 0 hr _ _ _ hW (lv_sub hl [0, 1, 2, 3] rfl)
      refine lv_icmp_ge (tgt := 210) hx hb d_M_comesTold_197 (by decide) (fun c_15 => ?_) (fun c_15 => ?_)
      · replace hr := ip c_15 hr
        exact hJ_22 () hr _ _ _ hW (lv_sub hl [4, 3, 2, 1] rfl)
      · replace hr := iN c_15 hr
        refine lv_iload_n hx hb d_M_comesTold_200 rfl (lv_at hl 2 rfl) ?_
        refine lv_bipush (v := 64) hx hb d_M_comesTold_201 (by decide) ?_
        refine lv_icmp_ge (tgt := 210) hx hb d_M_comesTold_203 (by decide) (fun c_23 => ?_) (fun c_23 => ?_)
        · replace hr := ip c_23 hr
          exact hJ_22 () hr _ _ _ hW (lv_sub hl [4, 3, 2, 1] rfl)
        · replace hr := iN c_23 hr
          refine lv_iconst (v := 1) hx hb d_M_comesTold_206 (by decide) ?_
          refine lv_goto (tgt := 211) hx hb d_M_comesTold_207 (by decide) ?_
          exact hJ_16 1 hr _ _ _ hW (lv_sub hl [4, 3, 2, 1] rfl)
    · replace hr := iN c_14 hr
      by_cases c_24 : (r0_letterOf (Int32.toNatClampNeg x1)) = 115
      · replace hr := ip c_24 hr
        refine k_lookIn (tgt := 236) (off := 195) c_24 hx hb d_M_comesTold_41 (by decide) (by decide) (by decide) ?_
        refine lv_aload_n hx hb d_M_comesTold_236 rfl (lv_at hl 4 rfl) ?_
        refine lv_iload_n hx hb d_M_comesTold_237 rfl (lv_at hl 3 rfl) ?_
        obtain ⟨q_25, hc_25, hr⟩ := ob hr
        have ct_25 := C_M_isDay l D cI cS a_r0 (Value.ref a_r0_weights) (Value.int r0_things) (Value.ref a_r0_kinds) (Value.ref a_r0_figures) (Value.ref a_r0_hampers) (Value.ref a_r0_wants0) (Value.ref a_r0_left0) (Value.int r0_done0) v_r0_thrown v_r0_refusals v_r0_letters v_r0_letterMany v_r0_at v_r0_isBad v_r0_statements v_r0_placeIn (Value.ref a_r0_letterOf) (Value.ref a_r0_told) v_r0_kept v_r0_imaged v_r0_hasImage v_r0_place0 v_r0_isTaking v_r0_keptIn v_r0_turns0 v_r0_turnOf v_r0_turned v_r0_order0 v_r0_likely0 v_r0_leftThen v_r0_row v_r0_rowMany v_r0_seed r0_days (r0_told (Int32.toNatClampNeg ((3 : Int32) * x1))) q_25 hc_25
        refine k_goIp hA hW [0] rfl rfl (k_runV C hA hW mw_M_isDay mv_M_isDay (ct_25.2 _) [0] rfl rfl 0 rfl rfl qm_M_150 ⟨Nat.le_of_ble_eq_true rfl, Nat.le_of_ble_eq_true rfl, Nat.zero_le _, Nat.zero_le _⟩ rfl rfl (Nat.le_of_ble_eq_true rfl) hl.1 d_M_comesTold_238) (fun H locs hW => ?_)
        refine lv_istore (lv' := [(5, .int q_25), (4, .int (r0_told (Int32.toNatClampNeg (((3 : Int32) * x1) + 2)))), (3, .int (r0_told (Int32.toNatClampNeg (((3 : Int32) * x1) + 1)))), (2, .int (r0_told (Int32.toNatClampNeg ((3 : Int32) * x1)))), (0, .ref a_r0), (1, .int x1)]) hx hb d_M_comesTold_241 hl (by decide) rfl (fun ls hl => ?_)
        refine lv_iload hx hb d_M_comesTold_243 (lv_at hl 0 rfl) ?_
        refine lv_if_eq (tgt := 258) hx hb d_M_comesTold_245 (by decide) (fun c_26 => ?_) (fun c_26 => ?_)
        · replace hr := ip c_26 hr
          refine lv_iload hx hb d_M_comesTold_258 (lv_at hl 0 rfl) ?_
          obtain ⟨hz_27, -, hr⟩ := ckz_some hr
          obtain rfl := Option.some.inj hr
          rw [hQ]; exact k_zret C hret hz_27 hW d_M_comesTold_260
        · replace hr := iN c_26 hr
          refine lv_aload_n hx hb d_M_comesTold_248 rfl (lv_at hl 4 rfl) ?_
          refine lv_aload_n hx hb d_M_comesTold_249 rfl (lv_at hl 4 rfl) ?_
          refine lv_iload_n hx hb d_M_comesTold_250 rfl (lv_at hl 3 rfl) ?_
          obtain ⟨q_28, hc_28, hr⟩ := ob hr
          have ct_28 := C_M_likelyOn l D cI cS a_r0 a_r0_figures a_r0_hampers a_r0_kinds a_r0_weights (Value.int r0_days) (Value.ref a_r0_wants0) (Value.ref a_r0_left0) (Value.int r0_done0) v_r0_thrown v_r0_refusals v_r0_letters v_r0_letterMany v_r0_at v_r0_isBad v_r0_statements v_r0_placeIn (Value.ref a_r0_letterOf) (Value.ref a_r0_told) v_r0_kept v_r0_imaged v_r0_hasImage v_r0_place0 v_r0_isTaking v_r0_keptIn v_r0_turns0 v_r0_turnOf v_r0_turned v_r0_order0 v_r0_likely0 v_r0_leftThen v_r0_row v_r0_rowMany v_r0_seed r0_things r0_figures r0_hampers r0_kinds r0_weights (r0_told (Int32.toNatClampNeg ((3 : Int32) * x1))) q_28 hc_28
          refine k_goIp hA hW [0, 1, 2, 3, 8] rfl rfl (k_runV C hA hW mw_M_likelyOn mv_M_likelyOn (ct_28.2 _) [0, 1, 2, 3, 8] rfl rfl 0 rfl rfl qm_M_153 ⟨Nat.le_of_ble_eq_true rfl, Nat.le_of_ble_eq_true rfl, Nat.zero_le _, Nat.zero_le _⟩ rfl rfl (Nat.le_of_ble_eq_true rfl) hl.1 d_M_comesTold_251) (fun H locs hW => ?_)
          obtain ⟨q_29, hc_29, hr⟩ := ob hr
          have ct_29 := C_M_spendWith l D cI cS a_r0 a_r0_left0 a_r0_wants0 (Value.ref a_r0_weights) (Value.int r0_things) (Value.ref a_r0_kinds) (Value.ref a_r0_figures) (Value.int r0_days) (Value.ref a_r0_hampers) v_r0_thrown v_r0_refusals v_r0_letters v_r0_letterMany v_r0_at v_r0_isBad v_r0_statements v_r0_placeIn (Value.ref a_r0_letterOf) (Value.ref a_r0_told) v_r0_kept v_r0_imaged v_r0_hasImage v_r0_place0 v_r0_isTaking v_r0_keptIn v_r0_turns0 v_r0_turnOf v_r0_turned v_r0_order0 v_r0_likely0 v_r0_leftThen v_r0_row v_r0_rowMany v_r0_seed r0_done0 r0_left0 r0_wants0 q_28 q_29 hc_29
          refine k_goI hA hW [0, 4, 7] rfl ct_29.1 (ws' := (w_M_comesTold cI a_r0 a_r0_figures a_r0_hampers a_r0_kinds a_r0_left0 a_r0_letterOf a_r0_told a_r0_wants0 a_r0_weights v_r0_thrown v_r0_refusals v_r0_letters v_r0_letterMany v_r0_at v_r0_isBad v_r0_statements v_r0_placeIn v_r0_kept v_r0_imaged v_r0_hasImage v_r0_place0 v_r0_isTaking v_r0_keptIn v_r0_turns0 v_r0_turnOf v_r0_turned v_r0_order0 v_r0_likely0 v_r0_leftThen v_r0_row v_r0_rowMany v_r0_seed r0_days q_29.2.1 r0_things r0_figures r0_hampers r0_kinds q_29.2.2 r0_letterOf r0_told r0_wants0 r0_weights)) rfl (k_runV C hA hW mw_M_spendWith mv_M_spendWith (ct_29.2 _) [0, 4, 7] rfl rfl 0 rfl rfl qm_M_156 ⟨Nat.le_of_ble_eq_true rfl, Nat.le_of_ble_eq_true rfl, Nat.zero_le _, Nat.zero_le _⟩ rfl rfl (Nat.le_of_ble_eq_true rfl) hl.1 d_M_comesTold_254) (fun H locs hW => ?_)
          refine lv_pop hx hb d_M_comesTold_257 rfl ?_
          refine lv_iload hx hb d_M_comesTold_258 (lv_at hl 0 rfl) ?_
          obtain ⟨hz_30, -, hr⟩ := ckz_some hr
          obtain rfl := Option.some.inj hr
          rw [hQ]; exact k_zret C hret hz_30 hW d_M_comesTold_260
      · replace hr := iN c_24 hr
        by_cases c_31 : (r0_letterOf (Int32.toNatClampNeg x1)) = 116
        · replace hr := ip c_31 hr
          refine k_lookIn (tgt := 92) (off := 51) c_31 hx hb d_M_comesTold_41 (by decide) (by decide) (by decide) ?_
          refine lv_iload_n hx hb d_M_comesTold_92 rfl (lv_at hl 3 rfl) ?_
          refine lv_bipush (v := 6) hx hb d_M_comesTold_93 (by decide) ?_
          have hJ_33 : ∀ (s0_33 : Int32), F_M_comesTold_J112_33 r0_days r0_done0 r0_things r0_figures r0_hampers r0_kinds r0_left0 r0_told r0_wants0 r0_weights x1 s0_33 = some o → ∀ (H : Heap) (locs : List Loc) (ls : Array Slot), wd A s.heap D (w_M_comesTold cI a_r0 a_r0_figures a_r0_hampers a_r0_kinds a_r0_left0 a_r0_letterOf a_r0_told a_r0_wants0 a_r0_weights v_r0_thrown v_r0_refusals v_r0_letters v_r0_letterMany v_r0_at v_r0_isBad v_r0_statements v_r0_placeIn v_r0_kept v_r0_imaged v_r0_hasImage v_r0_place0 v_r0_isTaking v_r0_keptIn v_r0_turns0 v_r0_turnOf v_r0_turned v_r0_order0 v_r0_likely0 v_r0_leftThen v_r0_row v_r0_rowMany v_r0_seed r0_days r0_done0 r0_things r0_figures r0_hampers r0_kinds r0_left0 r0_letterOf r0_told r0_wants0 r0_weights) H locs → lv_has ls 6 [(0, .ref a_r0), (2, .int (r0_told (Int32.toNatClampNeg ((3 : Int32) * x1)))), (3, .int (r0_told (Int32.toNatClampNeg (((3 : Int32) * x1) + 1))))] → W p l e (rmd 4) s m ([.ref a_r0, .int x1] : List Value).toArray below meth c H locs 0 0 Q (F0 m 112 ls [.int s0_33]) := by
            intro s0_33 hr H locs ls hW hl
            unfold F_M_comesTold_J112_33 at hr
            refine lv_istore (lv' := [(5, .int s0_33), (0, .ref a_r0), (2, .int (r0_told (Int32.toNatClampNeg ((3 : Int32) * x1)))), (3, .int (r0_told (Int32.toNatClampNeg (((3 : Int32) * x1) + 1))))]) hx hb d_M_comesTold_112 hl (by decide) rfl (fun ls hl => ?_)
            refine lv_iload hx hb d_M_comesTold_114 (lv_at hl 0 rfl) ?_
            refine lv_if_eq (tgt := 125) hx hb d_M_comesTold_116 (by decide) (fun c_34 => ?_) (fun c_34 => ?_)
            · replace hr := ip c_34 hr
              refine lv_iload hx hb d_M_comesTold_125 (lv_at hl 0 rfl) ?_
              obtain ⟨hz_35, -, hr⟩ := ckz_some hr
              obtain rfl := Option.some.inj hr
              rw [hQ]; exact k_zret C hret hz_35 hW d_M_comesTold_127
            · replace hr := iN c_34 hr
              refine lv_aload_n hx hb d_M_comesTold_119 rfl (lv_at hl 1 rfl) ?_
              refine lv_iload_n hx hb d_M_comesTold_120 rfl (lv_at hl 2 rfl) ?_
              refine lv_iload_n hx hb d_M_comesTold_121 rfl (lv_at hl 3 rfl) ?_
              obtain ⟨q_36, hc_36, hr⟩ := ob hr
              have ct_36 := C_M_thingComes l D cI cS a_r0 a_r0_figures a_r0_kinds (Value.ref a_r0_weights) (Value.int r0_days) (Value.ref a_r0_hampers) (Value.ref a_r0_wants0) (Value.ref a_r0_left0) (Value.int r0_done0) v_r0_thrown v_r0_refusals v_r0_letters v_r0_letterMany v_r0_at v_r0_isBad v_r0_statements v_r0_placeIn (Value.ref a_r0_letterOf) (Value.ref a_r0_told) v_r0_kept v_r0_imaged v_r0_hasImage v_r0_place0 v_r0_isTaking v_r0_keptIn v_r0_turns0 v_r0_turnOf v_r0_turned v_r0_order0 v_r0_likely0 v_r0_leftThen v_r0_row v_r0_rowMany v_r0_seed r0_things r0_figures r0_kinds (r0_told (Int32.toNatClampNeg ((3 : Int32) * x1))) (r0_told (Int32.toNatClampNeg (((3 : Int32) * x1) + 1))) q_36 hc_36
              refine k_goV hA hW [0, 1, 3] rfl ct_36.1 (ws' := (w_M_comesTold cI a_r0 a_r0_figures a_r0_hampers a_r0_kinds a_r0_left0 a_r0_letterOf a_r0_told a_r0_wants0 a_r0_weights v_r0_thrown v_r0_refusals v_r0_letters v_r0_letterMany v_r0_at v_r0_isBad v_r0_statements v_r0_placeIn v_r0_kept v_r0_imaged v_r0_hasImage v_r0_place0 v_r0_isTaking v_r0_keptIn v_r0_turns0 v_r0_turnOf v_r0_turned v_r0_order0 v_r0_likely0 v_r0_leftThen v_r0_row v_r0_rowMany v_r0_seed r0_days r0_done0 q_36.1 q_36.2.1 r0_hampers q_36.2.2 r0_left0 r0_letterOf r0_told r0_wants0 r0_weights)) rfl (k_runV C hA hW mw_M_thingComes mv_M_thingComes (ct_36.2 _) [0, 1, 3] rfl rfl 0 rfl rfl qm_M_143 ⟨Nat.le_of_ble_eq_true rfl, Nat.le_of_ble_eq_true rfl, Nat.zero_le _, Nat.zero_le _⟩ rfl rfl (Nat.le_of_ble_eq_true rfl) hl.1 d_M_comesTold_122) (fun H locs hW => ?_)
              refine lv_iload hx hb d_M_comesTold_125 (lv_at hl 0 rfl) ?_
              obtain ⟨hz_37, -, hr⟩ := ckz_some hr
              obtain rfl := Option.some.inj hr
              rw [hQ]; exact k_zret C hret hz_37 hW d_M_comesTold_127
          have hJ_38 : ∀ (_ : Unit), F_M_comesTold_J111_38 r0_days r0_done0 r0_things r0_figures r0_hampers r0_kinds r0_left0 r0_told r0_wants0 r0_weights x1 = some o → ∀ (H : Heap) (locs : List Loc) (ls : Array Slot), wd A s.heap D (w_M_comesTold cI a_r0 a_r0_figures a_r0_hampers a_r0_kinds a_r0_left0 a_r0_letterOf a_r0_told a_r0_wants0 a_r0_weights v_r0_thrown v_r0_refusals v_r0_letters v_r0_letterMany v_r0_at v_r0_isBad v_r0_statements v_r0_placeIn v_r0_kept v_r0_imaged v_r0_hasImage v_r0_place0 v_r0_isTaking v_r0_keptIn v_r0_turns0 v_r0_turnOf v_r0_turned v_r0_order0 v_r0_likely0 v_r0_leftThen v_r0_row v_r0_rowMany v_r0_seed r0_days r0_done0 r0_things r0_figures r0_hampers r0_kinds r0_left0 r0_letterOf r0_told r0_wants0 r0_weights) H locs → lv_has ls 6 [(0, .ref a_r0), (2, .int (r0_told (Int32.toNatClampNeg ((3 : Int32) * x1)))), (3, .int (r0_told (Int32.toNatClampNeg (((3 : Int32) * x1) + 1))))] → W p l e (rmd 4) s m ([.ref a_r0, .int x1] : List Value).toArray below meth c H locs 0 0 Q (F0 m 111 ls []) := by
            intro _ hr H locs ls hW hl
            unfold F_M_comesTold_J111_38 at hr
            refine lv_iconst (v := 0) hx hb d_M_comesTold_111 (by decide) ?_
            exact hJ_33 0 hr _ _ _ hW (lv_sub hl [0, 1, 2] rfl)
          refine lv_icmp_ge (tgt := 111) hx hb d_M_comesTold_95 (by decide) (fun c_32 => ?_) (fun c_32 => ?_)
          · replace hr := ip c_32 hr
            exact hJ_38 () hr _ _ _ hW (lv_sub hl [4, 3, 2] rfl)
          · replace hr := iN c_32 hr
            refine lv_aload_n hx hb d_M_comesTold_98 rfl (lv_at hl 4 rfl) ?_
            refine k_get i_M C hW 0 rfl rfl 1 (by decide) qf_M_71 rfl rfl d_M_comesTold_99 ?_
            refine lv_bipush (v := 8) hx hb d_M_comesTold_102 (by decide) ?_
            refine lv_icmp_ge (tgt := 111) hx hb d_M_comesTold_104 (by decide) (fun c_39 => ?_) (fun c_39 => ?_)
            · replace hr := ip c_39 hr
              exact hJ_38 () hr _ _ _ hW (lv_sub hl [4, 3, 2] rfl)
            · replace hr := iN c_39 hr
              refine lv_iconst (v := 1) hx hb d_M_comesTold_107 (by decide) ?_
              refine lv_goto (tgt := 112) hx hb d_M_comesTold_108 (by decide) ?_
              exact hJ_33 1 hr _ _ _ hW (lv_sub hl [4, 3, 2] rfl)
        · replace hr := iN c_31 hr
          by_cases c_40 : (r0_letterOf (Int32.toNatClampNeg x1)) = 119
          · replace hr := ip c_40 hr
            refine k_lookIn (tgt := 167) (off := 126) c_40 hx hb d_M_comesTold_41 (by decide) (by decide) (by decide) ?_
            refine lv_iload_n hx hb d_M_comesTold_167 rfl (lv_at hl 3 rfl) ?_
            refine lv_bipush (v := 6) hx hb d_M_comesTold_168 (by decide) ?_
            have hJ_42 : ∀ (s0_42 : Int32), F_M_comesTold_J178_42 r0_days r0_done0 r0_things r0_figures r0_hampers r0_kinds r0_left0 r0_told r0_wants0 r0_weights x1 s0_42 = some o → ∀ (H : Heap) (locs : List Loc) (ls : Array Slot), wd A s.heap D (w_M_comesTold cI a_r0 a_r0_figures a_r0_hampers a_r0_kinds a_r0_left0 a_r0_letterOf a_r0_told a_r0_wants0 a_r0_weights v_r0_thrown v_r0_refusals v_r0_letters v_r0_letterMany v_r0_at v_r0_isBad v_r0_statements v_r0_placeIn v_r0_kept v_r0_imaged v_r0_hasImage v_r0_place0 v_r0_isTaking v_r0_keptIn v_r0_turns0 v_r0_turnOf v_r0_turned v_r0_order0 v_r0_likely0 v_r0_leftThen v_r0_row v_r0_rowMany v_r0_seed r0_days r0_done0 r0_things r0_figures r0_hampers r0_kinds r0_left0 r0_letterOf r0_told r0_wants0 r0_weights) H locs → lv_has ls 6 [(0, .ref a_r0), (2, .int (r0_told (Int32.toNatClampNeg ((3 : Int32) * x1)))), (3, .int (r0_told (Int32.toNatClampNeg (((3 : Int32) * x1) + 1))))] → W p l e (rmd 4) s m ([.ref a_r0, .int x1] : List Value).toArray below meth c H locs 0 0 Q (F0 m 178 ls [.int s0_42]) := by
              intro s0_42 hr H locs ls hW hl
              unfold F_M_comesTold_J178_42 at hr
              refine lv_istore (lv' := [(5, .int s0_42), (0, .ref a_r0), (2, .int (r0_told (Int32.toNatClampNeg ((3 : Int32) * x1)))), (3, .int (r0_told (Int32.toNatClampNeg (((3 : Int32) * x1) + 1))))]) hx hb d_M_comesTold_178 hl (by decide) rfl (fun ls hl => ?_)
              refine lv_iload hx hb d_M_comesTold_180 (lv_at hl 0 rfl) ?_
              refine lv_if_eq (tgt := 192) hx hb d_M_comesTold_182 (by decide) (fun c_43 => ?_) (fun c_43 => ?_)
              · replace hr := ip c_43 hr
                refine lv_iload hx hb d_M_comesTold_192 (lv_at hl 0 rfl) ?_
                obtain ⟨hz_44, -, hr⟩ := ckz_some hr
                obtain rfl := Option.some.inj hr
                rw [hQ]; exact k_zret C hret hz_44 hW d_M_comesTold_194
              · replace hr := iN c_43 hr
                refine lv_aload_n hx hb d_M_comesTold_185 rfl (lv_at hl 1 rfl) ?_
                refine k_get i_M C hW 0 rfl rfl 0 (by decide) qf_M_7 rfl rfl d_M_comesTold_186 ?_
                refine lv_iload_n hx hb d_M_comesTold_189 rfl (lv_at hl 2 rfl) ?_
                refine lv_iload_n hx hb d_M_comesTold_190 rfl (lv_at hl 3 rfl) ?_
                obtain ⟨h_45, hr⟩ := ck_some hr
                refine k_iast C hW 8 rfl h_45 (ws' := (w_M_comesTold cI a_r0 a_r0_figures a_r0_hampers a_r0_kinds a_r0_left0 a_r0_letterOf a_r0_told a_r0_wants0 a_r0_weights v_r0_thrown v_r0_refusals v_r0_letters v_r0_letterMany v_r0_at v_r0_isBad v_r0_statements v_r0_placeIn v_r0_kept v_r0_imaged v_r0_hasImage v_r0_place0 v_r0_isTaking v_r0_keptIn v_r0_turns0 v_r0_turnOf v_r0_turned v_r0_order0 v_r0_likely0 v_r0_leftThen v_r0_row v_r0_rowMany v_r0_seed r0_days r0_done0 r0_things r0_figures r0_hampers r0_kinds r0_left0 r0_letterOf r0_told r0_wants0 (upd r0_weights (Int32.toNatClampNeg (r0_told (Int32.toNatClampNeg ((3 : Int32) * x1)))) (r0_told (Int32.toNatClampNeg (((3 : Int32) * x1) + 1)))))) rfl d_M_comesTold_191 (fun H locs hW => ?_)
                refine lv_iload hx hb d_M_comesTold_192 (lv_at hl 0 rfl) ?_
                obtain ⟨hz_46, -, hr⟩ := ckz_some hr
                obtain rfl := Option.some.inj hr
                rw [hQ]; exact k_zret C hret hz_46 hW d_M_comesTold_194
            refine lv_icmp_ge (tgt := 177) hx hb d_M_comesTold_170 (by decide) (fun c_41 => ?_) (fun c_41 => ?_)
            · replace hr := ip c_41 hr
              refine lv_iconst (v := 0) hx hb d_M_comesTold_177 (by decide) ?_
              exact hJ_42 0 hr _ _ _ hW (lv_sub hl [4, 3, 2] rfl)
            · replace hr := iN c_41 hr
              refine lv_iconst (v := 1) hx hb d_M_comesTold_173 (by decide) ?_
              refine lv_goto (tgt := 178) hx hb d_M_comesTold_174 (by decide) ?_
              exact hJ_42 1 hr _ _ _ hW (lv_sub hl [4, 3, 2] rfl)
          · replace hr := iN c_40 hr
            refine lv_lookup (tgt := 261) (off := 220) hx hb d_M_comesTold_41 (by decide) (look_out _ [100, 102, 115, 116, 119] (by decide +kernel) (by simp only [List.forall_mem_cons]; exact ⟨c_5, c_14, c_24, c_31, c_40, fun _ h => absurd h List.not_mem_nil⟩)) (by decide) ?_
            refine lv_aload_n hx hb d_M_comesTold_261 rfl (lv_at hl 4 rfl) ?_
            refine lv_iload_n hx hb d_M_comesTold_262 rfl (lv_at hl 3 rfl) ?_
            obtain ⟨q_47, hc_47, hr⟩ := ob hr
            have ct_47 := C_M_isDay l D cI cS a_r0 (Value.ref a_r0_weights) (Value.int r0_things) (Value.ref a_r0_kinds) (Value.ref a_r0_figures) (Value.ref a_r0_hampers) (Value.ref a_r0_wants0) (Value.ref a_r0_left0) (Value.int r0_done0) v_r0_thrown v_r0_refusals v_r0_letters v_r0_letterMany v_r0_at v_r0_isBad v_r0_statements v_r0_placeIn (Value.ref a_r0_letterOf) (Value.ref a_r0_told) v_r0_kept v_r0_imaged v_r0_hasImage v_r0_place0 v_r0_isTaking v_r0_keptIn v_r0_turns0 v_r0_turnOf v_r0_turned v_r0_order0 v_r0_likely0 v_r0_leftThen v_r0_row v_r0_rowMany v_r0_seed r0_days (r0_told (Int32.toNatClampNeg ((3 : Int32) * x1))) q_47 hc_47
            refine k_goIp hA hW [0] rfl rfl (k_runV C hA hW mw_M_isDay mv_M_isDay (ct_47.2 _) [0] rfl rfl 0 rfl rfl qm_M_150 ⟨Nat.le_of_ble_eq_true rfl, Nat.le_of_ble_eq_true rfl, Nat.zero_le _, Nat.zero_le _⟩ rfl rfl (Nat.le_of_ble_eq_true rfl) hl.1 d_M_comesTold_263) (fun H locs hW => ?_)
            have hJ_49 : ∀ (s0_49 : Int32), F_M_comesTold_J282_49 r0_days r0_done0 r0_things r0_figures r0_hampers r0_kinds r0_left0 r0_told r0_wants0 r0_weights x1 s0_49 = some o → ∀ (H : Heap) (locs : List Loc) (ls : Array Slot), wd A s.heap D (w_M_comesTold cI a_r0 a_r0_figures a_r0_hampers a_r0_kinds a_r0_left0 a_r0_letterOf a_r0_told a_r0_wants0 a_r0_weights v_r0_thrown v_r0_refusals v_r0_letters v_r0_letterMany v_r0_at v_r0_isBad v_r0_statements v_r0_placeIn v_r0_kept v_r0_imaged v_r0_hasImage v_r0_place0 v_r0_isTaking v_r0_keptIn v_r0_turns0 v_r0_turnOf v_r0_turned v_r0_order0 v_r0_likely0 v_r0_leftThen v_r0_row v_r0_rowMany v_r0_seed r0_days r0_done0 r0_things r0_figures r0_hampers r0_kinds r0_left0 r0_letterOf r0_told r0_wants0 r0_weights) H locs → lv_has ls 6 [(0, .ref a_r0), (2, .int (r0_told (Int32.toNatClampNeg ((3 : Int32) * x1)))), (3, .int (r0_told (Int32.toNatClampNeg (((3 : Int32) * x1) + 1))))] → W p l e (rmd 4) s m ([.ref a_r0, .int x1] : List Value).toArray below meth c H locs 0 0 Q (F0 m 282 ls [.int s0_49]) := by
              intro s0_49 hr H locs ls hW hl
              unfold F_M_comesTold_J282_49 at hr
              refine lv_istore (lv' := [(5, .int s0_49), (0, .ref a_r0), (2, .int (r0_told (Int32.toNatClampNeg ((3 : Int32) * x1)))), (3, .int (r0_told (Int32.toNatClampNeg (((3 : Int32) * x1) + 1))))]) hx hb d_M_comesTold_282 hl (by decide) rfl (fun ls hl => ?_)
              refine lv_iload hx hb d_M_comesTold_284 (lv_at hl 0 rfl) ?_
              refine lv_if_eq (tgt := 301) hx hb d_M_comesTold_286 (by decide) (fun c_50 => ?_) (fun c_50 => ?_)
              · replace hr := ip c_50 hr
                refine lv_iload hx hb d_M_comesTold_301 (lv_at hl 0 rfl) ?_
                obtain ⟨hz_51, -, hr⟩ := ckz_some hr
                obtain rfl := Option.some.inj hr
                rw [hQ]; exact k_zret C hret hz_51 hW d_M_comesTold_303
              · replace hr := iN c_50 hr
                refine lv_aload_n hx hb d_M_comesTold_289 rfl (lv_at hl 1 rfl) ?_
                refine k_get i_M C hW 0 rfl rfl 5 (by decide) qf_M_19 rfl rfl d_M_comesTold_290 ?_
                refine lv_iload_n hx hb d_M_comesTold_293 rfl (lv_at hl 2 rfl) ?_
                refine lv_dup2_11 hx hb d_M_comesTold_294 rfl rfl ?_
                obtain ⟨h_52, hr⟩ := ck_some hr
                refine k_iald C hW 2 rfl h_52 d_M_comesTold_295 ?_
                refine lv_iconst (v := 1) hx hb d_M_comesTold_296 (by decide) ?_
                refine lv_iload_n hx hb d_M_comesTold_297 rfl (lv_at hl 3 rfl) ?_
                refine lv_ishl hx hb d_M_comesTold_298 ?_
                refine lv_ixor hx hb d_M_comesTold_299 ?_
                obtain ⟨h_53, hr⟩ := ck_some hr
                refine k_iast C hW 2 rfl h_53 (ws' := (w_M_comesTold cI a_r0 a_r0_figures a_r0_hampers a_r0_kinds a_r0_left0 a_r0_letterOf a_r0_told a_r0_wants0 a_r0_weights v_r0_thrown v_r0_refusals v_r0_letters v_r0_letterMany v_r0_at v_r0_isBad v_r0_statements v_r0_placeIn v_r0_kept v_r0_imaged v_r0_hasImage v_r0_place0 v_r0_isTaking v_r0_keptIn v_r0_turns0 v_r0_turnOf v_r0_turned v_r0_order0 v_r0_likely0 v_r0_leftThen v_r0_row v_r0_rowMany v_r0_seed r0_days r0_done0 r0_things r0_figures (upd r0_hampers (Int32.toNatClampNeg (r0_told (Int32.toNatClampNeg ((3 : Int32) * x1)))) ((r0_hampers (Int32.toNatClampNeg (r0_told (Int32.toNatClampNeg ((3 : Int32) * x1))))) ^^^ ((1 : Int32) <<< (((r0_told (Int32.toNatClampNeg (((3 : Int32) * x1) + 1))) : Int32) &&& 31)))) r0_kinds r0_left0 r0_letterOf r0_told r0_wants0 r0_weights)) rfl d_M_comesTold_300 (fun H locs hW => ?_)
                refine lv_iload hx hb d_M_comesTold_301 (lv_at hl 0 rfl) ?_
                obtain ⟨hz_54, -, hr⟩ := ckz_some hr
                obtain rfl := Option.some.inj hr
                rw [hQ]; exact k_zret C hret hz_54 hW d_M_comesTold_303
            have hJ_55 : ∀ (_ : Unit), F_M_comesTold_J281_55 r0_days r0_done0 r0_things r0_figures r0_hampers r0_kinds r0_left0 r0_told r0_wants0 r0_weights x1 = some o → ∀ (H : Heap) (locs : List Loc) (ls : Array Slot), wd A s.heap D (w_M_comesTold cI a_r0 a_r0_figures a_r0_hampers a_r0_kinds a_r0_left0 a_r0_letterOf a_r0_told a_r0_wants0 a_r0_weights v_r0_thrown v_r0_refusals v_r0_letters v_r0_letterMany v_r0_at v_r0_isBad v_r0_statements v_r0_placeIn v_r0_kept v_r0_imaged v_r0_hasImage v_r0_place0 v_r0_isTaking v_r0_keptIn v_r0_turns0 v_r0_turnOf v_r0_turned v_r0_order0 v_r0_likely0 v_r0_leftThen v_r0_row v_r0_rowMany v_r0_seed r0_days r0_done0 r0_things r0_figures r0_hampers r0_kinds r0_left0 r0_letterOf r0_told r0_wants0 r0_weights) H locs → lv_has ls 6 [(0, .ref a_r0), (2, .int (r0_told (Int32.toNatClampNeg ((3 : Int32) * x1)))), (3, .int (r0_told (Int32.toNatClampNeg (((3 : Int32) * x1) + 1))))] → W p l e (rmd 4) s m ([.ref a_r0, .int x1] : List Value).toArray below meth c H locs 0 0 Q (F0 m 281 ls []) := by
              intro _ hr H locs ls hW hl
              unfold F_M_comesTold_J281_55 at hr
              refine lv_iconst (v := 0) hx hb d_M_comesTold_281 (by decide) ?_
              exact hJ_49 0 hr _ _ _ hW (lv_sub hl [0, 1, 2] rfl)
            refine lv_if_eq (tgt := 281) hx hb d_M_comesTold_266 (by decide) (fun c_48 => ?_) (fun c_48 => ?_)
            · replace hr := ip c_48 hr
              exact hJ_55 () hr _ _ _ hW (lv_sub hl [4, 3, 2] rfl)
            · replace hr := iN c_48 hr
              refine lv_aload_n hx hb d_M_comesTold_269 rfl (lv_at hl 4 rfl) ?_
              refine lv_iload_n hx hb d_M_comesTold_270 rfl (lv_at hl 2 rfl) ?_
              obtain ⟨q_56, hc_56, hr⟩ := ob hr
              have ct_56 := C_M_isThing l D cI cS a_r0 (Value.ref a_r0_weights) (Value.ref a_r0_kinds) (Value.ref a_r0_figures) (Value.int r0_days) (Value.ref a_r0_hampers) (Value.ref a_r0_wants0) (Value.ref a_r0_left0) (Value.int r0_done0) v_r0_thrown v_r0_refusals v_r0_letters v_r0_letterMany v_r0_at v_r0_isBad v_r0_statements v_r0_placeIn (Value.ref a_r0_letterOf) (Value.ref a_r0_told) v_r0_kept v_r0_imaged v_r0_hasImage v_r0_place0 v_r0_isTaking v_r0_keptIn v_r0_turns0 v_r0_turnOf v_r0_turned v_r0_order0 v_r0_likely0 v_r0_leftThen v_r0_row v_r0_rowMany v_r0_seed r0_things (r0_told (Int32.toNatClampNeg (((3 : Int32) * x1) + 1))) q_56 hc_56
              refine k_goIp hA hW [0] rfl rfl (k_runV C hA hW mw_M_isThing mv_M_isThing (ct_56.2 _) [0] rfl rfl 0 rfl rfl qm_M_159 ⟨Nat.le_of_ble_eq_true rfl, Nat.le_of_ble_eq_true rfl, Nat.zero_le _, Nat.zero_le _⟩ rfl rfl (Nat.le_of_ble_eq_true rfl) hl.1 d_M_comesTold_271) (fun H locs hW => ?_)
              refine lv_if_eq (tgt := 281) hx hb d_M_comesTold_274 (by decide) (fun c_57 => ?_) (fun c_57 => ?_)
              · replace hr := ip c_57 hr
                exact hJ_55 () hr _ _ _ hW (lv_sub hl [4, 3, 2] rfl)
              · replace hr := iN c_57 hr
                refine lv_iconst (v := 1) hx hb d_M_comesTold_277 (by decide) ?_
                refine lv_goto (tgt := 282) hx hb d_M_comesTold_278 (by decide) ?_
                exact hJ_49 1 hr _ _ _ hW (lv_sub hl [4, 3, 2] rfl)
def F_M_onesOf_L4 (y1_1 : Int32) (y2_1 : Int32) : Option (((Int32) × (Int32)) ⊕ ((Int32))) :=
  (if y2_1 = 0 then (some (.inr y1_1)) else (some (.inl ((y1_1 + 1), (y2_1 &&& (y2_1 - 1))))))
def F_M_onesOf (x0 : Int32) : Option (Int32) :=
  ((wh (fun (s : (Int32) × (Int32)) => F_M_onesOf_L4 s.1 s.2) 400 ((0 : Int32), x0)).bind (fun e_1 => (some e_1)))
set_option maxHeartbeats 4000000 in
set_option maxRecDepth 100000 in
theorem C_M_onesOf (l : Launch) (D : va_G) (cI cS : ClassId) (x0 : Int32) (o : Int32) (hr : F_M_onesOf x0 = some o) : ctI l y_M_onesOf (Cond.code y_M_onesOf b_M_onesOf 3 (some FieldType.int)) (rmd 0) D (kTy cI cS) [.int x0] [] [] o := by
  unfold F_M_onesOf at hr
  refine ⟨rfl, fun sz => ct_of (w0 := []) (Qc := fun A => qI D [] o A) rfl (Nat.le_of_ble_eq_true rfl) ?_ sz⟩
  intro p e s m below meth c A hA C hret ls hl hW
  have C : cx p s m ([.int x0] : List Value).toArray meth c b_M_onesOf 3 R_M D (kTy cI cS) (Cond.code y_M_onesOf b_M_onesOf 3 (some FieldType.int)) := C
  obtain ⟨hx, hb, hml, hown, hts, hK, hlk, hN⟩ := id C
  have hl : lv_has ls 3 [(0, .int x0)] := hl
  obtain ⟨Q, hQ⟩ : ∃ Q, Q = MQ below (qI D [] o A) ([.int x0] : List Value).toArray s 0 0 A := ⟨_, rfl⟩
  rw [← hQ]
  refine lv_iconst (v := 0) hx hb d_M_onesOf_0 (by decide) ?_
  refine lv_istore_n (lv' := [(1, .int 0), (0, .int x0)]) hx hb d_M_onesOf_1 rfl hl (by decide) rfl (fun ls hl => ?_)
  refine lv_iload_n hx hb d_M_onesOf_2 rfl (lv_at hl 1 rfl) ?_
  refine lv_istore_n (lv' := [(2, .int x0), (1, .int 0), (0, .int x0)]) hx hb d_M_onesOf_3 rfl hl (by decide) rfl (fun ls hl => ?_)
  obtain ⟨ex_1, hw_1, hk_1⟩ := ob hr
  have hx_1 : ∀ (e_1 : (Int32)), e_1 = ex_1 → ∀ (H : Heap) (locs : List Loc) (ls : Array Slot), wd A s.heap D [] H locs → lv_has ls 3 [(1, .int e_1)] → W p l e (rmd 0) s m ([.int x0] : List Value).toArray below meth c H locs 0 0 Q (F0 m 20 ls []) := by
    intro e_1 hE H locs ls hW hl
    subst hE; have hr := hk_1
    refine lv_iload_n hx hb d_M_onesOf_20 rfl (lv_at hl 0 rfl) ?_
    obtain rfl := Option.some.inj hr
    rw [hQ]; exact k_iret C hret hW d_M_onesOf_21
  have hl_1 : ∀ (k : Nat) (y1_1 : Int32) (y2_1 : Int32), wh (fun (s : (Int32) × (Int32)) => F_M_onesOf_L4 s.1 s.2) k (y1_1, y2_1) = some ex_1 → ∀ (H : Heap) (locs : List Loc) (ls : Array Slot), wd A s.heap D [] H locs → lv_has ls 3 [(1, .int y1_1), (2, .int y2_1)] → W p l e (rmd 0) s m ([.int x0] : List Value).toArray below meth c H locs 0 0 Q (F0 m 4 ls []) := by
    intro k
    induction k with
    | zero => intro y1_1 y2_1 hw; exact absurd hw wh_0
    | succ k ih_1 =>
      intro y1_1 y2_1 hw H locs ls hW hl
      obtain ⟨z_1, hr, hz1_1, hz2_1⟩ := wh_s hw
      have hr : F_M_onesOf_L4 y1_1 y2_1 = some z_1 := hr
      unfold F_M_onesOf_L4 at hr
      refine lv_iload_n hx hb d_M_onesOf_4 rfl (lv_at hl 1 rfl) ?_
      refine lv_if_eq (tgt := 20) hx hb d_M_onesOf_5 (by decide) (fun c_2 => ?_) (fun c_2 => ?_)
      · replace hr := ip c_2 hr
        exact hx_1 _ (hz2_1 _ (Option.some.inj hr).symm) _ _ _ hW (lv_sub hl [0] rfl)
      · replace hr := iN c_2 hr
        refine lv_iinc (v := (y1_1 + 1)) (lv' := [(1, .int (y1_1 + 1)), (2, .int y2_1)]) hx hb d_M_onesOf_8 hl (k := 0) rfl rfl (by decide) rfl (fun ls hl => ?_)
        refine lv_iload_n hx hb d_M_onesOf_11 rfl (lv_at hl 1 rfl) ?_
        refine lv_iload_n hx hb d_M_onesOf_12 rfl (lv_at hl 1 rfl) ?_
        refine lv_iconst (v := 1) hx hb d_M_onesOf_13 (by decide) ?_
        refine lv_isub hx hb d_M_onesOf_14 ?_
        refine lv_iand hx hb d_M_onesOf_15 ?_
        refine lv_istore_n (lv' := [(2, .int (y2_1 &&& (y2_1 - 1))), (1, .int (y1_1 + 1))]) hx hb d_M_onesOf_16 rfl hl (by decide) rfl (fun ls hl => ?_)
        refine lv_goto (tgt := 4) hx hb d_M_onesOf_17 (by decide) ?_
        exact ih_1 (y1_1 + 1) (y2_1 &&& (y2_1 - 1)) (hz1_1 _ (Option.some.inj hr).symm) _ _ _ hW (lv_sub hl [1, 0] rfl)
  exact hl_1 _ 0 x0 hw_1 _ _ _ hW (lv_sub hl [1, 0] rfl)
def w_M_weightOf (cI : ClassId) (a_r0 : Nat) (a_r0_weights : Nat) (v_r0_things v_r0_kinds v_r0_figures v_r0_days v_r0_hampers v_r0_wants0 v_r0_left0 v_r0_done0 v_r0_thrown v_r0_refusals v_r0_letters v_r0_letterMany v_r0_at v_r0_isBad v_r0_statements v_r0_placeIn v_r0_letterOf v_r0_told v_r0_kept v_r0_imaged v_r0_hasImage v_r0_place0 v_r0_isTaking v_r0_keptIn v_r0_turns0 v_r0_turnOf v_r0_turned v_r0_order0 v_r0_likely0 v_r0_leftThen v_r0_row v_r0_rowMany v_r0_seed : Value) (r0_weights : Nat → Int32) : va_W := [(a_r0, .inr (9, [.ref a_r0_weights, v_r0_things, v_r0_kinds, v_r0_figures, v_r0_days, v_r0_hampers, v_r0_wants0, v_r0_left0, v_r0_done0, v_r0_thrown, v_r0_refusals, v_r0_letters, v_r0_letterMany, v_r0_at, v_r0_isBad, v_r0_statements, v_r0_placeIn, v_r0_letterOf, v_r0_told, v_r0_kept, v_r0_imaged, v_r0_hasImage, v_r0_place0, v_r0_isTaking, v_r0_keptIn, v_r0_turns0, v_r0_turnOf, v_r0_turned, v_r0_order0, v_r0_likely0, v_r0_leftThen, v_r0_row, v_r0_rowMany, v_r0_seed])), (a_r0_weights, .inl (cI, 6, .inl r0_weights))]
def F_M_weightOf_L4 (r0_weights : Nat → Int32) (x1 : Int32) (y2_1 : Int32) (y3_1 : Int32) : Option (((Int32) × (Int32)) ⊕ ((Int32))) :=
  (if (6 : Int32) ≤ y3_1 then (some (.inr y2_1)) else ((F_M_hasBit x1 y3_1).bind (fun q_3 => (if q_3 = 0 then (some (.inl ((y2_1 + 0), (y3_1 + 1)))) else (ck y3_1 6 (some (.inl ((y2_1 + (r0_weights (Int32.toNatClampNeg y3_1))), (y3_1 + 1)))))))))
def F_M_weightOf (r0_weights : Nat → Int32) (x1 : Int32) : Option (Int32) :=
  ((wh (fun (s : (Int32) × (Int32)) => F_M_weightOf_L4 r0_weights x1 s.1 s.2) 400 ((0 : Int32), (0 : Int32))).bind (fun e_1 => (some e_1)))
set_option maxHeartbeats 4000000 in
set_option maxRecDepth 100000 in
theorem C_M_weightOf (l : Launch) (D : va_G) (cI cS : ClassId) (a_r0 : Nat) (a_r0_weights : Nat) (v_r0_things v_r0_kinds v_r0_figures v_r0_days v_r0_hampers v_r0_wants0 v_r0_left0 v_r0_done0 v_r0_thrown v_r0_refusals v_r0_letters v_r0_letterMany v_r0_at v_r0_isBad v_r0_statements v_r0_placeIn v_r0_letterOf v_r0_told v_r0_kept v_r0_imaged v_r0_hasImage v_r0_place0 v_r0_isTaking v_r0_keptIn v_r0_turns0 v_r0_turnOf v_r0_turned v_r0_order0 v_r0_likely0 v_r0_leftThen v_r0_row v_r0_rowMany v_r0_seed : Value) (r0_weights : Nat → Int32) (x1 : Int32) (o : Int32) (hr : F_M_weightOf r0_weights x1 = some o) : ctI l y_M_weightOf (Cond.code y_M_weightOf b_M_weightOf 4 (some FieldType.int)) (rmd 1) D (kTy cI cS) [.ref a_r0, .int x1] (w_M_weightOf cI a_r0 a_r0_weights v_r0_things v_r0_kinds v_r0_figures v_r0_days v_r0_hampers v_r0_wants0 v_r0_left0 v_r0_done0 v_r0_thrown v_r0_refusals v_r0_letters v_r0_letterMany v_r0_at v_r0_isBad v_r0_statements v_r0_placeIn v_r0_letterOf v_r0_told v_r0_kept v_r0_imaged v_r0_hasImage v_r0_place0 v_r0_isTaking v_r0_keptIn v_r0_turns0 v_r0_turnOf v_r0_turned v_r0_order0 v_r0_likely0 v_r0_leftThen v_r0_row v_r0_rowMany v_r0_seed r0_weights) (w_M_weightOf cI a_r0 a_r0_weights v_r0_things v_r0_kinds v_r0_figures v_r0_days v_r0_hampers v_r0_wants0 v_r0_left0 v_r0_done0 v_r0_thrown v_r0_refusals v_r0_letters v_r0_letterMany v_r0_at v_r0_isBad v_r0_statements v_r0_placeIn v_r0_letterOf v_r0_told v_r0_kept v_r0_imaged v_r0_hasImage v_r0_place0 v_r0_isTaking v_r0_keptIn v_r0_turns0 v_r0_turnOf v_r0_turned v_r0_order0 v_r0_likely0 v_r0_leftThen v_r0_row v_r0_rowMany v_r0_seed r0_weights) o := by
  unfold F_M_weightOf at hr
  refine ⟨rfl, fun sz => ct_of (w0 := (w_M_weightOf cI a_r0 a_r0_weights v_r0_things v_r0_kinds v_r0_figures v_r0_days v_r0_hampers v_r0_wants0 v_r0_left0 v_r0_done0 v_r0_thrown v_r0_refusals v_r0_letters v_r0_letterMany v_r0_at v_r0_isBad v_r0_statements v_r0_placeIn v_r0_letterOf v_r0_told v_r0_kept v_r0_imaged v_r0_hasImage v_r0_place0 v_r0_isTaking v_r0_keptIn v_r0_turns0 v_r0_turnOf v_r0_turned v_r0_order0 v_r0_likely0 v_r0_leftThen v_r0_row v_r0_rowMany v_r0_seed r0_weights)) (Qc := fun A => qI D (w_M_weightOf cI a_r0 a_r0_weights v_r0_things v_r0_kinds v_r0_figures v_r0_days v_r0_hampers v_r0_wants0 v_r0_left0 v_r0_done0 v_r0_thrown v_r0_refusals v_r0_letters v_r0_letterMany v_r0_at v_r0_isBad v_r0_statements v_r0_placeIn v_r0_letterOf v_r0_told v_r0_kept v_r0_imaged v_r0_hasImage v_r0_place0 v_r0_isTaking v_r0_keptIn v_r0_turns0 v_r0_turnOf v_r0_turned v_r0_order0 v_r0_likely0 v_r0_leftThen v_r0_row v_r0_rowMany v_r0_seed r0_weights) o A) rfl (Nat.le_of_ble_eq_true rfl) ?_ sz⟩
  intro p e s m below meth c A hA C hret ls hl hW
  have C : cx p s m ([.ref a_r0, .int x1] : List Value).toArray meth c b_M_weightOf 4 R_M D (kTy cI cS) (Cond.code y_M_weightOf b_M_weightOf 4 (some FieldType.int)) := C
  obtain ⟨hx, hb, hml, hown, hts, hK, hlk, hN⟩ := id C
  have hl : lv_has ls 4 [(0, .ref a_r0), (1, .int x1)] := hl
  obtain ⟨Q, hQ⟩ : ∃ Q, Q = MQ below (qI D (w_M_weightOf cI a_r0 a_r0_weights v_r0_things v_r0_kinds v_r0_figures v_r0_days v_r0_hampers v_r0_wants0 v_r0_left0 v_r0_done0 v_r0_thrown v_r0_refusals v_r0_letters v_r0_letterMany v_r0_at v_r0_isBad v_r0_statements v_r0_placeIn v_r0_letterOf v_r0_told v_r0_kept v_r0_imaged v_r0_hasImage v_r0_place0 v_r0_isTaking v_r0_keptIn v_r0_turns0 v_r0_turnOf v_r0_turned v_r0_order0 v_r0_likely0 v_r0_leftThen v_r0_row v_r0_rowMany v_r0_seed r0_weights) o A) ([.ref a_r0, .int x1] : List Value).toArray s 0 0 A := ⟨_, rfl⟩
  rw [← hQ]
  refine lv_iconst (v := 0) hx hb d_M_weightOf_0 (by decide) ?_
  refine lv_istore_n (lv' := [(2, .int 0), (0, .ref a_r0), (1, .int x1)]) hx hb d_M_weightOf_1 rfl hl (by decide) rfl (fun ls hl => ?_)
  refine lv_iconst (v := 0) hx hb d_M_weightOf_2 (by decide) ?_
  refine lv_istore_n (lv' := [(3, .int 0), (2, .int 0), (0, .ref a_r0), (1, .int x1)]) hx hb d_M_weightOf_3 rfl hl (by decide) rfl (fun ls hl => ?_)
  obtain ⟨ex_1, hw_1, hk_1⟩ := ob hr
  have hx_1 : ∀ (e_1 : (Int32)), e_1 = ex_1 → ∀ (H : Heap) (locs : List Loc) (ls : Array Slot), wd A s.heap D (w_M_weightOf cI a_r0 a_r0_weights v_r0_things v_r0_kinds v_r0_figures v_r0_days v_r0_hampers v_r0_wants0 v_r0_left0 v_r0_done0 v_r0_thrown v_r0_refusals v_r0_letters v_r0_letterMany v_r0_at v_r0_isBad v_r0_statements v_r0_placeIn v_r0_letterOf v_r0_told v_r0_kept v_r0_imaged v_r0_hasImage v_r0_place0 v_r0_isTaking v_r0_keptIn v_r0_turns0 v_r0_turnOf v_r0_turned v_r0_order0 v_r0_likely0 v_r0_leftThen v_r0_row v_r0_rowMany v_r0_seed r0_weights) H locs → lv_has ls 4 [(2, .int e_1)] → W p l e (rmd 1) s m ([.ref a_r0, .int x1] : List Value).toArray below meth c H locs 0 0 Q (F0 m 37 ls []) := by
    intro e_1 hE H locs ls hW hl
    subst hE; have hr := hk_1
    refine lv_iload_n hx hb d_M_weightOf_37 rfl (lv_at hl 0 rfl) ?_
    obtain rfl := Option.some.inj hr
    rw [hQ]; exact k_iret C hret hW d_M_weightOf_38
  have hl_1 : ∀ (k : Nat) (y2_1 : Int32) (y3_1 : Int32), wh (fun (s : (Int32) × (Int32)) => F_M_weightOf_L4 r0_weights x1 s.1 s.2) k (y2_1, y3_1) = some ex_1 → ∀ (H : Heap) (locs : List Loc) (ls : Array Slot), wd A s.heap D (w_M_weightOf cI a_r0 a_r0_weights v_r0_things v_r0_kinds v_r0_figures v_r0_days v_r0_hampers v_r0_wants0 v_r0_left0 v_r0_done0 v_r0_thrown v_r0_refusals v_r0_letters v_r0_letterMany v_r0_at v_r0_isBad v_r0_statements v_r0_placeIn v_r0_letterOf v_r0_told v_r0_kept v_r0_imaged v_r0_hasImage v_r0_place0 v_r0_isTaking v_r0_keptIn v_r0_turns0 v_r0_turnOf v_r0_turned v_r0_order0 v_r0_likely0 v_r0_leftThen v_r0_row v_r0_rowMany v_r0_seed r0_weights) H locs → lv_has ls 4 [(0, .ref a_r0), (1, .int x1), (2, .int y2_1), (3, .int y3_1)] → W p l e (rmd 1) s m ([.ref a_r0, .int x1] : List Value).toArray below meth c H locs 0 0 Q (F0 m 4 ls []) := by
    intro k
    induction k with
    | zero => intro y2_1 y3_1 hw; exact absurd hw wh_0
    | succ k ih_1 =>
      intro y2_1 y3_1 hw H locs ls hW hl
      obtain ⟨z_1, hr, hz1_1, hz2_1⟩ := wh_s hw
      have hr : F_M_weightOf_L4 r0_weights x1 y2_1 y3_1 = some z_1 := hr
      unfold F_M_weightOf_L4 at hr
      refine lv_iload_n hx hb d_M_weightOf_4 rfl (lv_at hl 3 rfl) ?_
      refine lv_bipush (v := 6) hx hb d_M_weightOf_5 (by decide) ?_
      refine lv_icmp_ge (tgt := 37) hx hb d_M_weightOf_7 (by decide) (fun c_2 => ?_) (fun c_2 => ?_)
      · replace hr := ip c_2 hr
        exact hx_1 _ (hz2_1 _ (Option.some.inj hr).symm) _ _ _ hW (lv_sub hl [2] rfl)
      · replace hr := iN c_2 hr
        refine lv_iload_n hx hb d_M_weightOf_10 rfl (lv_at hl 2 rfl) ?_
        refine lv_iload_n hx hb d_M_weightOf_11 rfl (lv_at hl 1 rfl) ?_
        refine lv_iload_n hx hb d_M_weightOf_12 rfl (lv_at hl 3 rfl) ?_
        obtain ⟨q_3, hc_3, hr⟩ := ob hr
        have ct_3 := C_M_hasBit l D cI cS x1 y3_1 q_3 hc_3
        refine k_goIp hA hW [] rfl rfl (k_runS C hA hW mw_M_hasBit ms_M_hasBit (ct_3.2 _) [] rfl rfl qm_M_85 ⟨Nat.le_of_ble_eq_true rfl, Nat.le_of_ble_eq_true rfl, Nat.zero_le _, Nat.zero_le _⟩ rfl rfl (Nat.le_of_ble_eq_true rfl) hl.1 d_M_weightOf_13) (fun H locs hW => ?_)
        refine lv_if_eq (tgt := 28) hx hb d_M_weightOf_16 (by decide) (fun c_4 => ?_) (fun c_4 => ?_)
        · replace hr := ip c_4 hr
          refine lv_iconst (v := 0) hx hb d_M_weightOf_28 (by decide) ?_
          refine lv_iadd hx hb d_M_weightOf_29 ?_
          refine lv_istore_n (lv' := [(2, .int (y2_1 + 0)), (0, .ref a_r0), (1, .int x1), (3, .int y3_1)]) hx hb d_M_weightOf_30 rfl hl (by decide) rfl (fun ls hl => ?_)
          refine lv_iinc (v := (y3_1 + 1)) (lv' := [(3, .int (y3_1 + 1)), (2, .int (y2_1 + 0)), (0, .ref a_r0), (1, .int x1)]) hx hb d_M_weightOf_31 hl (k := 3) rfl rfl (by decide) rfl (fun ls hl => ?_)
          refine lv_goto (tgt := 4) hx hb d_M_weightOf_34 (by decide) ?_
          exact ih_1 (y2_1 + 0) (y3_1 + 1) (hz1_1 _ (Option.some.inj hr).symm) _ _ _ hW (lv_sub hl [2, 3, 1, 0] rfl)
        · replace hr := iN c_4 hr
          refine lv_aload_n hx hb d_M_weightOf_19 rfl (lv_at hl 0 rfl) ?_
          refine k_get i_M C hW 0 rfl rfl 0 (by decide) qf_M_7 rfl rfl d_M_weightOf_20 ?_
          refine lv_iload_n hx hb d_M_weightOf_23 rfl (lv_at hl 3 rfl) ?_
          obtain ⟨h_5, hr⟩ := ck_some hr
          refine k_iald C hW 1 rfl h_5 d_M_weightOf_24 ?_
          refine lv_goto (tgt := 29) hx hb d_M_weightOf_25 (by decide) ?_
          refine lv_iadd hx hb d_M_weightOf_29 ?_
          refine lv_istore_n (lv' := [(2, .int (y2_1 + (r0_weights (Int32.toNatClampNeg y3_1)))), (0, .ref a_r0), (1, .int x1), (3, .int y3_1)]) hx hb d_M_weightOf_30 rfl hl (by decide) rfl (fun ls hl => ?_)
          refine lv_iinc (v := (y3_1 + 1)) (lv' := [(3, .int (y3_1 + 1)), (2, .int (y2_1 + (r0_weights (Int32.toNatClampNeg y3_1)))), (0, .ref a_r0), (1, .int x1)]) hx hb d_M_weightOf_31 hl (k := 3) rfl rfl (by decide) rfl (fun ls hl => ?_)
          refine lv_goto (tgt := 4) hx hb d_M_weightOf_34 (by decide) ?_
          exact ih_1 (y2_1 + (r0_weights (Int32.toNatClampNeg y3_1))) (y3_1 + 1) (hz1_1 _ (Option.some.inj hr).symm) _ _ _ hW (lv_sub hl [2, 3, 1, 0] rfl)
  exact hl_1 _ 0 0 hw_1 _ _ _ hW (lv_sub hl [2, 3, 1, 0] rfl)
def w_M_count (cI : ClassId) (a_r0 : Nat) (a_r0_hampers : Nat) (a_r0_refusals : Nat) (a_r0_weights : Nat) (v_r0_kinds v_r0_figures v_r0_wants0 v_r0_left0 v_r0_letters v_r0_at v_r0_isBad v_r0_statements v_r0_placeIn v_r0_letterOf v_r0_told v_r0_kept v_r0_imaged v_r0_hasImage v_r0_place0 v_r0_isTaking v_r0_keptIn v_r0_turns0 v_r0_turnOf v_r0_order0 v_r0_likely0 v_r0_leftThen v_r0_row v_r0_seed : Value) (r0_days : Int32) (r0_done0 : Int32) (r0_letterMany : Int32) (r0_rowMany : Int32) (r0_things : Int32) (r0_thrown : Int32) (r0_turned : Int32) (r0_hampers : Nat → Int32) (r0_refusals : Nat → Int32) (r0_weights : Nat → Int32) : va_W := [(a_r0, .inr (9, [.ref a_r0_weights, .int r0_things, v_r0_kinds, v_r0_figures, .int r0_days, .ref a_r0_hampers, v_r0_wants0, v_r0_left0, .int r0_done0, .int r0_thrown, .ref a_r0_refusals, v_r0_letters, .int r0_letterMany, v_r0_at, v_r0_isBad, v_r0_statements, v_r0_placeIn, v_r0_letterOf, v_r0_told, v_r0_kept, v_r0_imaged, v_r0_hasImage, v_r0_place0, v_r0_isTaking, v_r0_keptIn, v_r0_turns0, v_r0_turnOf, .int r0_turned, v_r0_order0, v_r0_likely0, v_r0_leftThen, v_r0_row, .int r0_rowMany, v_r0_seed])), (a_r0_hampers, .inl (cI, 8, .inl r0_hampers)), (a_r0_refusals, .inl (cI, 7, .inl r0_refusals)), (a_r0_weights, .inl (cI, 6, .inl r0_weights))]
def F_M_count_L80 (r0_days : Int32) (r0_hampers : Nat → Int32) (y2_7 : Int32) (y3_7 : Int32) : Option (((Int32) × (Int32)) ⊕ ((Int32))) :=
  (if r0_days ≤ y3_7 then (some (.inr y2_7)) else (ck y3_7 8 ((F_M_onesOf (r0_hampers (Int32.toNatClampNeg y3_7))).bind (fun q_10 => (some (.inl ((y2_7 + q_10), (y3_7 + 1))))))))
def F_M_count (r0_days : Int32) (r0_done0 : Int32) (r0_letterMany : Int32) (r0_rowMany : Int32) (r0_things : Int32) (r0_turned : Int32) (r0_hampers : Nat → Int32) (r0_refusals : Nat → Int32) (r0_weights : Nat → Int32) (x1 : Int32) : Option (Int32 × (Int32)) :=
  (if x1 = 0 then (some (r0_things, 0)) else (if x1 = 1 then (some (r0_days, 0)) else (if x1 = 2 then (some (r0_done0, 0)) else (if x1 = 3 then ((F_M_weightOf r0_weights (63 : Int32)).bind (fun q_5 => (some (q_5, 0)))) else (if x1 = 4 then ((wh (fun (s : (Int32) × (Int32)) => F_M_count_L80 r0_days r0_hampers s.1 s.2) 400 ((0 : Int32), (0 : Int32))).bind (fun e_7 => (some (e_7, 0)))) else (if x1 = 5 then (some (r0_letterMany, 0)) else (if x1 = 6 then (some (r0_rowMany, 0)) else (if x1 = 7 then (some (r0_turned, 0)) else ((F_M_in (Int32.toInt64 x1) (11 : Int64) (16 : Int64)).bind (fun q_14 => (if q_14 = 0 then (some ((-9), 0)) else (ck (x1 - 10) 7 (some ((r0_refusals (Int32.toNatClampNeg (x1 - 10))), 0))))))))))))))
set_option maxHeartbeats 4000000 in
set_option maxRecDepth 100000 in
theorem C_M_count (l : Launch) (D : va_G) (cI cS : ClassId) (a_r0 : Nat) (a_r0_hampers : Nat) (a_r0_refusals : Nat) (a_r0_weights : Nat) (v_r0_kinds v_r0_figures v_r0_wants0 v_r0_left0 v_r0_letters v_r0_at v_r0_isBad v_r0_statements v_r0_placeIn v_r0_letterOf v_r0_told v_r0_kept v_r0_imaged v_r0_hasImage v_r0_place0 v_r0_isTaking v_r0_keptIn v_r0_turns0 v_r0_turnOf v_r0_order0 v_r0_likely0 v_r0_leftThen v_r0_row v_r0_seed : Value) (r0_days : Int32) (r0_done0 : Int32) (r0_letterMany : Int32) (r0_rowMany : Int32) (r0_things : Int32) (r0_thrown : Int32) (r0_turned : Int32) (r0_hampers : Nat → Int32) (r0_refusals : Nat → Int32) (r0_weights : Nat → Int32) (x1 : Int32) (o : Int32 × (Int32)) (hr : F_M_count r0_days r0_done0 r0_letterMany r0_rowMany r0_things r0_turned r0_hampers r0_refusals r0_weights x1 = some o) : ctI l y_M_count (Cond.code y_M_count b_M_count 4 (some FieldType.int)) (rmd 2) D (kTy cI cS) [.ref a_r0, .int x1] (w_M_count cI a_r0 a_r0_hampers a_r0_refusals a_r0_weights v_r0_kinds v_r0_figures v_r0_wants0 v_r0_left0 v_r0_letters v_r0_at v_r0_isBad v_r0_statements v_r0_placeIn v_r0_letterOf v_r0_told v_r0_kept v_r0_imaged v_r0_hasImage v_r0_place0 v_r0_isTaking v_r0_keptIn v_r0_turns0 v_r0_turnOf v_r0_order0 v_r0_likely0 v_r0_leftThen v_r0_row v_r0_seed r0_days r0_done0 r0_letterMany r0_rowMany r0_things r0_thrown r0_turned r0_hampers r0_refusals r0_weights) (w_M_count cI a_r0 a_r0_hampers a_r0_refusals a_r0_weights v_r0_kinds v_r0_figures v_r0_wants0 v_r0_left0 v_r0_letters v_r0_at v_r0_isBad v_r0_statements v_r0_placeIn v_r0_letterOf v_r0_told v_r0_kept v_r0_imaged v_r0_hasImage v_r0_place0 v_r0_isTaking v_r0_keptIn v_r0_turns0 v_r0_turnOf v_r0_order0 v_r0_likely0 v_r0_leftThen v_r0_row v_r0_seed r0_days r0_done0 r0_letterMany r0_rowMany r0_things o.2 r0_turned r0_hampers r0_refusals r0_weights) o.1 := by
  unfold F_M_count at hr
  refine ⟨rfl, fun sz => ct_of (w0 := (w_M_count cI a_r0 a_r0_hampers a_r0_refusals a_r0_weights v_r0_kinds v_r0_figures v_r0_wants0 v_r0_left0 v_r0_letters v_r0_at v_r0_isBad v_r0_statements v_r0_placeIn v_r0_letterOf v_r0_told v_r0_kept v_r0_imaged v_r0_hasImage v_r0_place0 v_r0_isTaking v_r0_keptIn v_r0_turns0 v_r0_turnOf v_r0_order0 v_r0_likely0 v_r0_leftThen v_r0_row v_r0_seed r0_days r0_done0 r0_letterMany r0_rowMany r0_things r0_thrown r0_turned r0_hampers r0_refusals r0_weights)) (Qc := fun A => qI D (w_M_count cI a_r0 a_r0_hampers a_r0_refusals a_r0_weights v_r0_kinds v_r0_figures v_r0_wants0 v_r0_left0 v_r0_letters v_r0_at v_r0_isBad v_r0_statements v_r0_placeIn v_r0_letterOf v_r0_told v_r0_kept v_r0_imaged v_r0_hasImage v_r0_place0 v_r0_isTaking v_r0_keptIn v_r0_turns0 v_r0_turnOf v_r0_order0 v_r0_likely0 v_r0_leftThen v_r0_row v_r0_seed r0_days r0_done0 r0_letterMany r0_rowMany r0_things o.2 r0_turned r0_hampers r0_refusals r0_weights) o.1 A) rfl (Nat.le_of_ble_eq_true rfl) ?_ sz⟩
  intro p e s m below meth c A hA C hret ls hl hW
  have C : cx p s m ([.ref a_r0, .int x1] : List Value).toArray meth c b_M_count 4 R_M D (kTy cI cS) (Cond.code y_M_count b_M_count 4 (some FieldType.int)) := C
  obtain ⟨hx, hb, hml, hown, hts, hK, hlk, hN⟩ := id C
  have hl : lv_has ls 4 [(0, .ref a_r0), (1, .int x1)] := hl
  obtain ⟨Q, hQ⟩ : ∃ Q, Q = MQ below (qI D (w_M_count cI a_r0 a_r0_hampers a_r0_refusals a_r0_weights v_r0_kinds v_r0_figures v_r0_wants0 v_r0_left0 v_r0_letters v_r0_at v_r0_isBad v_r0_statements v_r0_placeIn v_r0_letterOf v_r0_told v_r0_kept v_r0_imaged v_r0_hasImage v_r0_place0 v_r0_isTaking v_r0_keptIn v_r0_turns0 v_r0_turnOf v_r0_order0 v_r0_likely0 v_r0_leftThen v_r0_row v_r0_seed r0_days r0_done0 r0_letterMany r0_rowMany r0_things o.2 r0_turned r0_hampers r0_refusals r0_weights) o.1 A) ([.ref a_r0, .int x1] : List Value).toArray s 0 0 A := ⟨_, rfl⟩
  rw [← hQ]
  refine lv_aload_n hx hb d_M_count_0 rfl (lv_at hl 0 rfl) ?_
  refine lv_iconst (v := 0) hx hb d_M_count_1 (by decide) ?_
  refine k_put i_M t_M_ok n_M C hW 0 rfl rfl 9 (by decide) qf_M_67 rfl rfl (ty := .int) rfl rfl rfl (Nat.le_of_ble_eq_true rfl) (ws' := (w_M_count cI a_r0 a_r0_hampers a_r0_refusals a_r0_weights v_r0_kinds v_r0_figures v_r0_wants0 v_r0_left0 v_r0_letters v_r0_at v_r0_isBad v_r0_statements v_r0_placeIn v_r0_letterOf v_r0_told v_r0_kept v_r0_imaged v_r0_hasImage v_r0_place0 v_r0_isTaking v_r0_keptIn v_r0_turns0 v_r0_turnOf v_r0_order0 v_r0_likely0 v_r0_leftThen v_r0_row v_r0_seed r0_days r0_done0 r0_letterMany r0_rowMany r0_things 0 r0_turned r0_hampers r0_refusals r0_weights)) rfl d_M_count_2 (fun H locs hW => ?_)
  refine lv_iconst (v := 0) hx hb d_M_count_5 (by decide) ?_
  refine lv_istore_n (lv' := [(2, .int 0), (0, .ref a_r0), (1, .int x1)]) hx hb d_M_count_6 rfl hl (by decide) rfl (fun ls hl => ?_)
  refine lv_iload_n hx hb d_M_count_7 rfl (lv_at hl 2 rfl) ?_
  by_cases c_1 : x1 = 0
  · replace hr := ip c_1 hr
    refine k_tabIn (tgt := 56) (off := 48) c_1 hx hb d_M_count_8 (by decide) (by decide) (by decide) (by decide) ?_
    refine lv_aload_n hx hb d_M_count_56 rfl (lv_at hl 1 rfl) ?_
    refine k_get i_M C hW 0 rfl rfl 1 (by decide) qf_M_71 rfl rfl d_M_count_57 ?_
    obtain rfl := Option.some.inj hr
    rw [hQ]; exact k_iret C hret hW d_M_count_60
  · replace hr := iN c_1 hr
    by_cases c_2 : x1 = 1
    · replace hr := ip c_2 hr
      refine k_tabIn (tgt := 61) (off := 53) c_2 hx hb d_M_count_8 (by decide) (by decide) (by decide) (by decide) ?_
      refine lv_aload_n hx hb d_M_count_61 rfl (lv_at hl 1 rfl) ?_
      refine k_get i_M C hW 0 rfl rfl 4 (by decide) qf_M_78 rfl rfl d_M_count_62 ?_
      obtain rfl := Option.some.inj hr
      rw [hQ]; exact k_iret C hret hW d_M_count_65
    · replace hr := iN c_2 hr
      by_cases c_3 : x1 = 2
      · replace hr := ip c_3 hr
        refine k_tabIn (tgt := 66) (off := 58) c_3 hx hb d_M_count_8 (by decide) (by decide) (by decide) (by decide) ?_
        refine lv_aload_n hx hb d_M_count_66 rfl (lv_at hl 1 rfl) ?_
        refine k_get i_M C hW 0 rfl rfl 8 (by decide) qf_M_105 rfl rfl d_M_count_67 ?_
        obtain rfl := Option.some.inj hr
        rw [hQ]; exact k_iret C hret hW d_M_count_70
      · replace hr := iN c_3 hr
        by_cases c_4 : x1 = 3
        · replace hr := ip c_4 hr
          refine k_tabIn (tgt := 71) (off := 63) c_4 hx hb d_M_count_8 (by decide) (by decide) (by decide) (by decide) ?_
          refine lv_aload_n hx hb d_M_count_71 rfl (lv_at hl 1 rfl) ?_
          refine lv_bipush (v := 63) hx hb d_M_count_72 (by decide) ?_
          obtain ⟨q_5, hc_5, hr⟩ := ob hr
          have ct_5 := C_M_weightOf l D cI cS a_r0 a_r0_weights (Value.int r0_things) v_r0_kinds v_r0_figures (Value.int r0_days) (Value.ref a_r0_hampers) v_r0_wants0 v_r0_left0 (Value.int r0_done0) (Value.int 0) (Value.ref a_r0_refusals) v_r0_letters (Value.int r0_letterMany) v_r0_at v_r0_isBad v_r0_statements v_r0_placeIn v_r0_letterOf v_r0_told v_r0_kept v_r0_imaged v_r0_hasImage v_r0_place0 v_r0_isTaking v_r0_keptIn v_r0_turns0 v_r0_turnOf (Value.int r0_turned) v_r0_order0 v_r0_likely0 v_r0_leftThen v_r0_row (Value.int r0_rowMany) v_r0_seed r0_weights 63 q_5 hc_5
          refine k_goIp hA hW [0, 3] rfl rfl (k_runV C hA hW mw_M_weightOf mv_M_weightOf (ct_5.2 _) [0, 3] rfl rfl 0 rfl rfl qm_M_224 ⟨Nat.le_of_ble_eq_true rfl, Nat.le_of_ble_eq_true rfl, Nat.zero_le _, Nat.zero_le _⟩ rfl rfl (Nat.le_of_ble_eq_true rfl) hl.1 d_M_count_74) (fun H locs hW => ?_)
          obtain rfl := Option.some.inj hr
          rw [hQ]; exact k_iret C hret hW d_M_count_77
        · replace hr := iN c_4 hr
          by_cases c_6 : x1 = 4
          · replace hr := ip c_6 hr
            refine k_tabIn (tgt := 78) (off := 70) c_6 hx hb d_M_count_8 (by decide) (by decide) (by decide) (by decide) ?_
            refine lv_iconst (v := 0) hx hb d_M_count_78 (by decide) ?_
            refine lv_istore_n (lv' := [(3, .int 0), (2, .int 0), (0, .ref a_r0), (1, .int x1)]) hx hb d_M_count_79 rfl hl (by decide) rfl (fun ls hl => ?_)
            obtain ⟨ex_7, hw_7, hk_7⟩ := ob hr
            have hx_7 : ∀ (e_7 : (Int32)), e_7 = ex_7 → ∀ (H : Heap) (locs : List Loc) (ls : Array Slot), wd A s.heap D (w_M_count cI a_r0 a_r0_hampers a_r0_refusals a_r0_weights v_r0_kinds v_r0_figures v_r0_wants0 v_r0_left0 v_r0_letters v_r0_at v_r0_isBad v_r0_statements v_r0_placeIn v_r0_letterOf v_r0_told v_r0_kept v_r0_imaged v_r0_hasImage v_r0_place0 v_r0_isTaking v_r0_keptIn v_r0_turns0 v_r0_turnOf v_r0_order0 v_r0_likely0 v_r0_leftThen v_r0_row v_r0_seed r0_days r0_done0 r0_letterMany r0_rowMany r0_things 0 r0_turned r0_hampers r0_refusals r0_weights) H locs → lv_has ls 4 [(2, .int e_7)] → W p l e (rmd 2) s m ([.ref a_r0, .int x1] : List Value).toArray below meth c H locs 0 0 Q (F0 m 106 ls []) := by
              intro e_7 hE H locs ls hW hl
              subst hE; have hr := hk_7
              refine lv_iload_n hx hb d_M_count_106 rfl (lv_at hl 0 rfl) ?_
              obtain rfl := Option.some.inj hr
              rw [hQ]; exact k_iret C hret hW d_M_count_107
            have hl_7 : ∀ (k : Nat) (y2_7 : Int32) (y3_7 : Int32), wh (fun (s : (Int32) × (Int32)) => F_M_count_L80 r0_days r0_hampers s.1 s.2) k (y2_7, y3_7) = some ex_7 → ∀ (H : Heap) (locs : List Loc) (ls : Array Slot), wd A s.heap D (w_M_count cI a_r0 a_r0_hampers a_r0_refusals a_r0_weights v_r0_kinds v_r0_figures v_r0_wants0 v_r0_left0 v_r0_letters v_r0_at v_r0_isBad v_r0_statements v_r0_placeIn v_r0_letterOf v_r0_told v_r0_kept v_r0_imaged v_r0_hasImage v_r0_place0 v_r0_isTaking v_r0_keptIn v_r0_turns0 v_r0_turnOf v_r0_order0 v_r0_likely0 v_r0_leftThen v_r0_row v_r0_seed r0_days r0_done0 r0_letterMany r0_rowMany r0_things 0 r0_turned r0_hampers r0_refusals r0_weights) H locs → lv_has ls 4 [(0, .ref a_r0), (2, .int y2_7), (3, .int y3_7)] → W p l e (rmd 2) s m ([.ref a_r0, .int x1] : List Value).toArray below meth c H locs 0 0 Q (F0 m 80 ls []) := by
              intro k
              induction k with
              | zero => intro y2_7 y3_7 hw; exact absurd hw wh_0
              | succ k ih_7 =>
                intro y2_7 y3_7 hw H locs ls hW hl
                obtain ⟨z_7, hr, hz1_7, hz2_7⟩ := wh_s hw
                have hr : F_M_count_L80 r0_days r0_hampers y2_7 y3_7 = some z_7 := hr
                unfold F_M_count_L80 at hr
                refine lv_iload_n hx hb d_M_count_80 rfl (lv_at hl 2 rfl) ?_
                refine lv_aload_n hx hb d_M_count_81 rfl (lv_at hl 0 rfl) ?_
                refine k_get i_M C hW 0 rfl rfl 4 (by decide) qf_M_78 rfl rfl d_M_count_82 ?_
                refine lv_icmp_ge (tgt := 106) hx hb d_M_count_85 (by decide) (fun c_8 => ?_) (fun c_8 => ?_)
                · replace hr := ip c_8 hr
                  exact hx_7 _ (hz2_7 _ (Option.some.inj hr).symm) _ _ _ hW (lv_sub hl [1] rfl)
                · replace hr := iN c_8 hr
                  refine lv_iload_n hx hb d_M_count_88 rfl (lv_at hl 1 rfl) ?_
                  refine lv_aload_n hx hb d_M_count_89 rfl (lv_at hl 0 rfl) ?_
                  refine k_get i_M C hW 0 rfl rfl 5 (by decide) qf_M_19 rfl rfl d_M_count_90 ?_
                  refine lv_iload_n hx hb d_M_count_93 rfl (lv_at hl 2 rfl) ?_
                  obtain ⟨h_9, hr⟩ := ck_some hr
                  refine k_iald C hW 1 rfl h_9 d_M_count_94 ?_
                  obtain ⟨q_10, hc_10, hr⟩ := ob hr
                  have ct_10 := C_M_onesOf l D cI cS (r0_hampers (Int32.toNatClampNeg y3_7)) q_10 hc_10
                  refine k_goIp hA hW [] rfl rfl (k_runS C hA hW mw_M_onesOf ms_M_onesOf (ct_10.2 _) [] rfl rfl qm_M_231 ⟨Nat.le_of_ble_eq_true rfl, Nat.le_of_ble_eq_true rfl, Nat.zero_le _, Nat.zero_le _⟩ rfl rfl (Nat.le_of_ble_eq_true rfl) hl.1 d_M_count_95) (fun H locs hW => ?_)
                  refine lv_iadd hx hb d_M_count_98 ?_
                  refine lv_istore_n (lv' := [(2, .int (y2_7 + q_10)), (0, .ref a_r0), (3, .int y3_7)]) hx hb d_M_count_99 rfl hl (by decide) rfl (fun ls hl => ?_)
                  refine lv_iinc (v := (y3_7 + 1)) (lv' := [(3, .int (y3_7 + 1)), (2, .int (y2_7 + q_10)), (0, .ref a_r0)]) hx hb d_M_count_100 hl (k := 2) rfl rfl (by decide) rfl (fun ls hl => ?_)
                  refine lv_goto (tgt := 80) hx hb d_M_count_103 (by decide) ?_
                  exact ih_7 (y2_7 + q_10) (y3_7 + 1) (hz1_7 _ (Option.some.inj hr).symm) _ _ _ hW (lv_sub hl [2, 1, 0] rfl)
            exact hl_7 _ 0 0 hw_7 _ _ _ hW (lv_sub hl [2, 1, 0] rfl)
          · replace hr := iN c_6 hr
            by_cases c_11 : x1 = 5
            · replace hr := ip c_11 hr
              refine k_tabIn (tgt := 108) (off := 100) c_11 hx hb d_M_count_8 (by decide) (by decide) (by decide) (by decide) ?_
              refine lv_aload_n hx hb d_M_count_108 rfl (lv_at hl 1 rfl) ?_
              refine k_get i_M C hW 0 rfl rfl 12 (by decide) qf_M_111 rfl rfl d_M_count_109 ?_
              obtain rfl := Option.some.inj hr
              rw [hQ]; exact k_iret C hret hW d_M_count_112
            · replace hr := iN c_11 hr
              by_cases c_12 : x1 = 6
              · replace hr := ip c_12 hr
                refine k_tabIn (tgt := 113) (off := 105) c_12 hx hb d_M_count_8 (by decide) (by decide) (by decide) (by decide) ?_
                refine lv_aload_n hx hb d_M_count_113 rfl (lv_at hl 1 rfl) ?_
                refine k_get i_M C hW 0 rfl rfl 32 (by decide) qf_M_252 rfl rfl d_M_count_114 ?_
                obtain rfl := Option.some.inj hr
                rw [hQ]; exact k_iret C hret hW d_M_count_117
              · replace hr := iN c_12 hr
                by_cases c_13 : x1 = 7
                · replace hr := ip c_13 hr
                  refine k_tabIn (tgt := 118) (off := 110) c_13 hx hb d_M_count_8 (by decide) (by decide) (by decide) (by decide) ?_
                  refine lv_aload_n hx hb d_M_count_118 rfl (lv_at hl 1 rfl) ?_
                  refine k_get i_M C hW 0 rfl rfl 27 (by decide) qf_M_174 rfl rfl d_M_count_119 ?_
                  obtain rfl := Option.some.inj hr
                  rw [hQ]; exact k_iret C hret hW d_M_count_122
                · replace hr := iN c_13 hr
                  refine k_tabDef (tgt := 123) [0, 1, 2, 3, 4, 5, 6, 7] (by decide +kernel) (by simp only [List.forall_mem_cons]; exact ⟨c_1, c_2, c_3, c_4, c_6, c_11, c_12, c_13, fun _ h => absurd h List.not_mem_nil⟩) hx hb d_M_count_8 (by decide) ?_
                  refine lv_iload_n hx hb d_M_count_123 rfl (lv_at hl 2 rfl) ?_
                  refine lv_i2l hx hb d_M_count_124 rfl ?_
                  refine lv_ldc2 (v := 11) hx hb hown (hts _ (List.mem_cons_of_mem _ (qc_M_276))) d_M_count_125 ?_
                  refine lv_ldc2 (v := 16) hx hb hown (hts _ (List.mem_cons_of_mem _ (qc_M_278))) d_M_count_128 ?_
                  obtain ⟨q_14, hc_14, hr⟩ := ob hr
                  have ct_14 := C_M_in l D cI cS (Int32.toInt64 x1) (11 : Int64) (16 : Int64) q_14 hc_14
                  refine k_goIp hA hW [] rfl rfl (k_runS C hA hW mw_M_in ms_M_in (ct_14.2 _) [] rfl rfl qm_M_74 ⟨Nat.le_of_ble_eq_true rfl, Nat.le_of_ble_eq_true rfl, Nat.zero_le _, Nat.zero_le _⟩ rfl rfl (Nat.le_of_ble_eq_true rfl) hl.1 d_M_count_131) (fun H locs hW => ?_)
                  refine lv_if_eq (tgt := 149) hx hb d_M_count_134 (by decide) (fun c_15 => ?_) (fun c_15 => ?_)
                  · replace hr := ip c_15 hr
                    refine lv_bipush (v := (-9)) hx hb d_M_count_149 (by decide) ?_
                    obtain rfl := Option.some.inj hr
                    rw [hQ]; exact k_iret C hret hW d_M_count_151
                  · replace hr := iN c_15 hr
                    refine lv_aload_n hx hb d_M_count_137 rfl (lv_at hl 1 rfl) ?_
                    refine k_get i_M C hW 0 rfl rfl 10 (by decide) qf_M_28 rfl rfl d_M_count_138 ?_
                    refine lv_iload_n hx hb d_M_count_141 rfl (lv_at hl 2 rfl) ?_
                    refine lv_bipush (v := 10) hx hb d_M_count_142 (by decide) ?_
                    refine lv_isub hx hb d_M_count_144 ?_
                    obtain ⟨h_16, hr⟩ := ck_some hr
                    refine k_iald C hW 2 rfl h_16 d_M_count_145 ?_
                    refine lv_goto (tgt := 151) hx hb d_M_count_146 (by decide) ?_
                    obtain rfl := Option.some.inj hr
                    rw [hQ]; exact k_iret C hret hW d_M_count_151
def F_M_wrongNumber (x0 : Int32) (x1 : Int32) (x2 : Int32) : Option (Int32) :=
  (if x1 ≤ x0 then (if x0 ≤ x2 then (some 0) else (some (-6))) else (some (-4)))
set_option maxHeartbeats 4000000 in
set_option maxRecDepth 100000 in
theorem C_M_wrongNumber (l : Launch) (D : va_G) (cI cS : ClassId) (x0 : Int32) (x1 : Int32) (x2 : Int32) (o : Int32) (hr : F_M_wrongNumber x0 x1 x2 = some o) : ctI l y_M_wrongNumber (Cond.code y_M_wrongNumber b_M_wrongNumber 3 (some FieldType.int)) (rmd 0) D (kTy cI cS) [.int x0, .int x1, .int x2] [] [] o := by
  unfold F_M_wrongNumber at hr
  refine ⟨rfl, fun sz => ct_of (w0 := []) (Qc := fun A => qI D [] o A) rfl (Nat.le_of_ble_eq_true rfl) ?_ sz⟩
  intro p e s m below meth c A hA C hret ls hl hW
  have C : cx p s m ([.int x0, .int x1, .int x2] : List Value).toArray meth c b_M_wrongNumber 3 R_M D (kTy cI cS) (Cond.code y_M_wrongNumber b_M_wrongNumber 3 (some FieldType.int)) := C
  obtain ⟨hx, hb, hml, hown, hts, hK, hlk, hN⟩ := id C
  have hl : lv_has ls 3 [(0, .int x0), (1, .int x1), (2, .int x2)] := hl
  obtain ⟨Q, hQ⟩ : ∃ Q, Q = MQ below (qI D [] o A) ([.int x0, .int x1, .int x2] : List Value).toArray s 0 0 A := ⟨_, rfl⟩
  rw [← hQ]
  refine lv_iload_n hx hb d_M_wrongNumber_0 rfl (lv_at hl 0 rfl) ?_
  refine lv_iload_n hx hb d_M_wrongNumber_1 rfl (lv_at hl 1 rfl) ?_
  refine lv_icmp_ge (tgt := 10) hx hb d_M_wrongNumber_2 (by decide) (fun c_1 => ?_) (fun c_1 => ?_)
  · replace hr := ip c_1 hr
    refine lv_iload_n hx hb d_M_wrongNumber_10 rfl (lv_at hl 0 rfl) ?_
    refine lv_iload_n hx hb d_M_wrongNumber_11 rfl (lv_at hl 2 rfl) ?_
    refine lv_icmp_le (tgt := 20) hx hb d_M_wrongNumber_12 (by decide) (fun c_2 => ?_) (fun c_2 => ?_)
    · replace hr := ip c_2 hr
      refine lv_iconst (v := 0) hx hb d_M_wrongNumber_20 (by decide) ?_
      obtain rfl := Option.some.inj hr
      rw [hQ]; exact k_iret C hret hW d_M_wrongNumber_21
    · replace hr := iN c_2 hr
      refine lv_bipush (v := (-6)) hx hb d_M_wrongNumber_15 (by decide) ?_
      refine lv_goto (tgt := 21) hx hb d_M_wrongNumber_17 (by decide) ?_
      obtain rfl := Option.some.inj hr
      rw [hQ]; exact k_iret C hret hW d_M_wrongNumber_21
  · replace hr := iN c_1 hr
    refine lv_bipush (v := (-4)) hx hb d_M_wrongNumber_5 (by decide) ?_
    refine lv_goto (tgt := 21) hx hb d_M_wrongNumber_7 (by decide) ?_
    obtain rfl := Option.some.inj hr
    rw [hQ]; exact k_iret C hret hW d_M_wrongNumber_21
def w_M_day (cI : ClassId) (a_r0 : Nat) (a_r0_hampers : Nat) (a_r0_refusals : Nat) (v_r0_weights v_r0_kinds v_r0_figures v_r0_wants0 v_r0_left0 v_r0_done0 v_r0_letters v_r0_letterMany v_r0_at v_r0_isBad v_r0_statements v_r0_placeIn v_r0_letterOf v_r0_told v_r0_kept v_r0_imaged v_r0_hasImage v_r0_place0 v_r0_isTaking v_r0_keptIn v_r0_turns0 v_r0_turnOf v_r0_order0 v_r0_likely0 v_r0_leftThen v_r0_row v_r0_rowMany v_r0_seed : Value) (r0_days : Int32) (r0_things : Int32) (r0_thrown : Int32) (r0_turned : Int32) (r0_hampers : Nat → Int32) (r0_refusals : Nat → Int32) : va_W := [(a_r0, .inr (9, [v_r0_weights, .int r0_things, v_r0_kinds, v_r0_figures, .int r0_days, .ref a_r0_hampers, v_r0_wants0, v_r0_left0, v_r0_done0, .int r0_thrown, .ref a_r0_refusals, v_r0_letters, v_r0_letterMany, v_r0_at, v_r0_isBad, v_r0_statements, v_r0_placeIn, v_r0_letterOf, v_r0_told, v_r0_kept, v_r0_imaged, v_r0_hasImage, v_r0_place0, v_r0_isTaking, v_r0_keptIn, v_r0_turns0, v_r0_turnOf, .int r0_turned, v_r0_order0, v_r0_likely0, v_r0_leftThen, v_r0_row, v_r0_rowMany, v_r0_seed])), (a_r0_hampers, .inl (cI, 8, .inl r0_hampers)), (a_r0_refusals, .inl (cI, 7, .inl r0_refusals))]
def F_M_day_J38_3 (r0_days : Int32) (r0_turned : Int32) (r0_hampers : Nat → Int32) (r0_refusals : Nat → Int32) (x1 : Int32) (s0_3 : Int32) : Option (Int32 × (Int32) × (Int32) × (Int32) × (Nat → Int32) × (Nat → Int32)) :=
  (if (0 : Int32) ≤ s0_3 then ((F_M_dayComes r0_days r0_hampers x1).bind (fun q_5 => (some ((q_5.1 - 1), q_5.1, 0, 0, q_5.2, r0_refusals)))) else ((F_M_refuse r0_refusals s0_3).bind (fun q_6 => (some (q_6.1, r0_days, 0, r0_turned, r0_hampers, q_6.2)))))
def F_M_day_J37_7 (r0_days : Int32) (r0_turned : Int32) (r0_hampers : Nat → Int32) (r0_refusals : Nat → Int32) (q_1 : Int32) (x1 : Int32) : Option (Int32 × (Int32) × (Int32) × (Int32) × (Nat → Int32) × (Nat → Int32)) :=
  (F_M_day_J38_3 r0_days r0_turned r0_hampers r0_refusals x1 q_1)
def F_M_day (r0_days : Int32) (r0_things : Int32) (r0_turned : Int32) (r0_hampers : Nat → Int32) (r0_refusals : Nat → Int32) (x1 : Int32) : Option (Int32 × (Int32) × (Int32) × (Int32) × (Nat → Int32) × (Nat → Int32)) :=
  ((F_M_wrongNumber x1 (0 : Int32) (((1 : Int32) <<< ((r0_things : Int32) &&& 31)) - 1)).bind (fun q_1 => (if q_1 = 0 then (if r0_days = 8 then (F_M_day_J38_3 r0_days r0_turned r0_hampers r0_refusals x1 (-6)) else (F_M_day_J37_7 r0_days r0_turned r0_hampers r0_refusals q_1 x1)) else (F_M_day_J37_7 r0_days r0_turned r0_hampers r0_refusals q_1 x1))))
set_option maxHeartbeats 4000000 in
set_option maxRecDepth 100000 in
theorem C_M_day (l : Launch) (D : va_G) (cI cS : ClassId) (a_r0 : Nat) (a_r0_hampers : Nat) (a_r0_refusals : Nat) (v_r0_weights v_r0_kinds v_r0_figures v_r0_wants0 v_r0_left0 v_r0_done0 v_r0_letters v_r0_letterMany v_r0_at v_r0_isBad v_r0_statements v_r0_placeIn v_r0_letterOf v_r0_told v_r0_kept v_r0_imaged v_r0_hasImage v_r0_place0 v_r0_isTaking v_r0_keptIn v_r0_turns0 v_r0_turnOf v_r0_order0 v_r0_likely0 v_r0_leftThen v_r0_row v_r0_rowMany v_r0_seed : Value) (r0_days : Int32) (r0_things : Int32) (r0_thrown : Int32) (r0_turned : Int32) (r0_hampers : Nat → Int32) (r0_refusals : Nat → Int32) (x1 : Int32) (o : Int32 × (Int32) × (Int32) × (Int32) × (Nat → Int32) × (Nat → Int32)) (hr : F_M_day r0_days r0_things r0_turned r0_hampers r0_refusals x1 = some o) : ctI l y_M_day (Cond.code y_M_day b_M_day 3 (some FieldType.int)) (rmd 1) D (kTy cI cS) [.ref a_r0, .int x1] (w_M_day cI a_r0 a_r0_hampers a_r0_refusals v_r0_weights v_r0_kinds v_r0_figures v_r0_wants0 v_r0_left0 v_r0_done0 v_r0_letters v_r0_letterMany v_r0_at v_r0_isBad v_r0_statements v_r0_placeIn v_r0_letterOf v_r0_told v_r0_kept v_r0_imaged v_r0_hasImage v_r0_place0 v_r0_isTaking v_r0_keptIn v_r0_turns0 v_r0_turnOf v_r0_order0 v_r0_likely0 v_r0_leftThen v_r0_row v_r0_rowMany v_r0_seed r0_days r0_things r0_thrown r0_turned r0_hampers r0_refusals) (w_M_day cI a_r0 a_r0_hampers a_r0_refusals v_r0_weights v_r0_kinds v_r0_figures v_r0_wants0 v_r0_left0 v_r0_done0 v_r0_letters v_r0_letterMany v_r0_at v_r0_isBad v_r0_statements v_r0_placeIn v_r0_letterOf v_r0_told v_r0_kept v_r0_imaged v_r0_hasImage v_r0_place0 v_r0_isTaking v_r0_keptIn v_r0_turns0 v_r0_turnOf v_r0_order0 v_r0_likely0 v_r0_leftThen v_r0_row v_r0_rowMany v_r0_seed o.2.1 r0_things o.2.2.1 o.2.2.2.1 o.2.2.2.2.1 o.2.2.2.2.2) o.1 := by
  unfold F_M_day at hr
  refine ⟨rfl, fun sz => ct_of (w0 := (w_M_day cI a_r0 a_r0_hampers a_r0_refusals v_r0_weights v_r0_kinds v_r0_figures v_r0_wants0 v_r0_left0 v_r0_done0 v_r0_letters v_r0_letterMany v_r0_at v_r0_isBad v_r0_statements v_r0_placeIn v_r0_letterOf v_r0_told v_r0_kept v_r0_imaged v_r0_hasImage v_r0_place0 v_r0_isTaking v_r0_keptIn v_r0_turns0 v_r0_turnOf v_r0_order0 v_r0_likely0 v_r0_leftThen v_r0_row v_r0_rowMany v_r0_seed r0_days r0_things r0_thrown r0_turned r0_hampers r0_refusals)) (Qc := fun A => qI D (w_M_day cI a_r0 a_r0_hampers a_r0_refusals v_r0_weights v_r0_kinds v_r0_figures v_r0_wants0 v_r0_left0 v_r0_done0 v_r0_letters v_r0_letterMany v_r0_at v_r0_isBad v_r0_statements v_r0_placeIn v_r0_letterOf v_r0_told v_r0_kept v_r0_imaged v_r0_hasImage v_r0_place0 v_r0_isTaking v_r0_keptIn v_r0_turns0 v_r0_turnOf v_r0_order0 v_r0_likely0 v_r0_leftThen v_r0_row v_r0_rowMany v_r0_seed o.2.1 r0_things o.2.2.1 o.2.2.2.1 o.2.2.2.2.1 o.2.2.2.2.2) o.1 A) rfl (Nat.le_of_ble_eq_true rfl) ?_ sz⟩
  intro p e s m below meth c A hA C hret ls hl hW
  have C : cx p s m ([.ref a_r0, .int x1] : List Value).toArray meth c b_M_day 3 R_M D (kTy cI cS) (Cond.code y_M_day b_M_day 3 (some FieldType.int)) := C
  obtain ⟨hx, hb, hml, hown, hts, hK, hlk, hN⟩ := id C
  have hl : lv_has ls 3 [(0, .ref a_r0), (1, .int x1)] := hl
  obtain ⟨Q, hQ⟩ : ∃ Q, Q = MQ below (qI D (w_M_day cI a_r0 a_r0_hampers a_r0_refusals v_r0_weights v_r0_kinds v_r0_figures v_r0_wants0 v_r0_left0 v_r0_done0 v_r0_letters v_r0_letterMany v_r0_at v_r0_isBad v_r0_statements v_r0_placeIn v_r0_letterOf v_r0_told v_r0_kept v_r0_imaged v_r0_hasImage v_r0_place0 v_r0_isTaking v_r0_keptIn v_r0_turns0 v_r0_turnOf v_r0_order0 v_r0_likely0 v_r0_leftThen v_r0_row v_r0_rowMany v_r0_seed o.2.1 r0_things o.2.2.1 o.2.2.2.1 o.2.2.2.2.1 o.2.2.2.2.2) o.1 A) ([.ref a_r0, .int x1] : List Value).toArray s 0 0 A := ⟨_, rfl⟩
  rw [← hQ]
  refine lv_aload_n hx hb d_M_day_0 rfl (lv_at hl 0 rfl) ?_
  refine lv_iconst (v := 0) hx hb d_M_day_1 (by decide) ?_
  refine k_put i_M t_M_ok n_M C hW 0 rfl rfl 9 (by decide) qf_M_67 rfl rfl (ty := .int) rfl rfl rfl (Nat.le_of_ble_eq_true rfl) (ws' := (w_M_day cI a_r0 a_r0_hampers a_r0_refusals v_r0_weights v_r0_kinds v_r0_figures v_r0_wants0 v_r0_left0 v_r0_done0 v_r0_letters v_r0_letterMany v_r0_at v_r0_isBad v_r0_statements v_r0_placeIn v_r0_letterOf v_r0_told v_r0_kept v_r0_imaged v_r0_hasImage v_r0_place0 v_r0_isTaking v_r0_keptIn v_r0_turns0 v_r0_turnOf v_r0_order0 v_r0_likely0 v_r0_leftThen v_r0_row v_r0_rowMany v_r0_seed r0_days r0_things 0 r0_turned r0_hampers r0_refusals)) rfl d_M_day_2 (fun H locs hW => ?_)
  refine lv_iload_n hx hb d_M_day_5 rfl (lv_at hl 1 rfl) ?_
  refine lv_iconst (v := 0) hx hb d_M_day_6 (by decide) ?_
  refine lv_iconst (v := 1) hx hb d_M_day_7 (by decide) ?_
  refine lv_aload_n hx hb d_M_day_8 rfl (lv_at hl 0 rfl) ?_
  refine k_get i_M C hW 0 rfl rfl 1 (by decide) qf_M_71 rfl rfl d_M_day_9 ?_
  refine lv_ishl hx hb d_M_day_12 ?_
  refine lv_iconst (v := 1) hx hb d_M_day_13 (by decide) ?_
  refine lv_isub hx hb d_M_day_14 ?_
  obtain ⟨q_1, hc_1, hr⟩ := ob hr
  have ct_1 := C_M_wrongNumber l D cI cS x1 0 (((1 : Int32) <<< ((r0_things : Int32) &&& 31)) - 1) q_1 hc_1
  refine k_goIp hA hW [] rfl rfl (k_runS C hA hW mw_M_wrongNumber ms_M_wrongNumber (ct_1.2 _) [] rfl rfl qm_M_208 ⟨Nat.le_of_ble_eq_true rfl, Nat.le_of_ble_eq_true rfl, Nat.zero_le _, Nat.zero_le _⟩ rfl rfl (Nat.le_of_ble_eq_true rfl) hl.1 d_M_day_15) (fun H locs hW => ?_)
  refine lv_istore_n (lv' := [(2, .int q_1), (0, .ref a_r0), (1, .int x1)]) hx hb d_M_day_18 rfl hl (by decide) rfl (fun ls hl => ?_)
  refine lv_iload_n hx hb d_M_day_19 rfl (lv_at hl 0 rfl) ?_
  have hJ_3 : ∀ (s0_3 : Int32), F_M_day_J38_3 r0_days r0_turned r0_hampers r0_refusals x1 s0_3 = some o → ∀ (H : Heap) (locs : List Loc) (ls : Array Slot), wd A s.heap D (w_M_day cI a_r0 a_r0_hampers a_r0_refusals v_r0_weights v_r0_kinds v_r0_figures v_r0_wants0 v_r0_left0 v_r0_done0 v_r0_letters v_r0_letterMany v_r0_at v_r0_isBad v_r0_statements v_r0_placeIn v_r0_letterOf v_r0_told v_r0_kept v_r0_imaged v_r0_hasImage v_r0_place0 v_r0_isTaking v_r0_keptIn v_r0_turns0 v_r0_turnOf v_r0_order0 v_r0_likely0 v_r0_leftThen v_r0_row v_r0_rowMany v_r0_seed r0_days r0_things 0 r0_turned r0_hampers r0_refusals) H locs → lv_has ls 3 [(0, .ref a_r0), (1, .int x1)] → W p l e (rmd 1) s m ([.ref a_r0, .int x1] : List Value).toArray below meth c H locs 0 0 Q (F0 m 38 ls [.int s0_3]) := by
    intro s0_3 hr H locs ls hW hl
    unfold F_M_day_J38_3 at hr
    refine lv_istore_n (lv' := [(2, .int s0_3), (0, .ref a_r0), (1, .int x1)]) hx hb d_M_day_38 rfl hl (by decide) rfl (fun ls hl => ?_)
    refine lv_iload_n hx hb d_M_day_39 rfl (lv_at hl 0 rfl) ?_
    refine lv_if_ge (tgt := 49) hx hb d_M_day_40 (by decide) (fun c_4 => ?_) (fun c_4 => ?_)
    · replace hr := ip c_4 hr
      refine lv_aload_n hx hb d_M_day_49 rfl (lv_at hl 1 rfl) ?_
      refine lv_iload_n hx hb d_M_day_50 rfl (lv_at hl 2 rfl) ?_
      obtain ⟨q_5, hc_5, hr⟩ := ob hr
      have ct_5 := C_M_dayComes l D cI cS a_r0 a_r0_hampers v_r0_weights (Value.int r0_things) v_r0_kinds v_r0_figures v_r0_wants0 v_r0_left0 v_r0_done0 (Value.int 0) (Value.ref a_r0_refusals) v_r0_letters v_r0_letterMany v_r0_at v_r0_isBad v_r0_statements v_r0_placeIn v_r0_letterOf v_r0_told v_r0_kept v_r0_imaged v_r0_hasImage v_r0_place0 v_r0_isTaking v_r0_keptIn v_r0_turns0 v_r0_turnOf (Value.int r0_turned) v_r0_order0 v_r0_likely0 v_r0_leftThen v_r0_row v_r0_rowMany v_r0_seed r0_days r0_hampers x1 q_5 hc_5
      refine k_goV hA hW [0, 1] rfl ct_5.1 (ws' := (w_M_day cI a_r0 a_r0_hampers a_r0_refusals v_r0_weights v_r0_kinds v_r0_figures v_r0_wants0 v_r0_left0 v_r0_done0 v_r0_letters v_r0_letterMany v_r0_at v_r0_isBad v_r0_statements v_r0_placeIn v_r0_letterOf v_r0_told v_r0_kept v_r0_imaged v_r0_hasImage v_r0_place0 v_r0_isTaking v_r0_keptIn v_r0_turns0 v_r0_turnOf v_r0_order0 v_r0_likely0 v_r0_leftThen v_r0_row v_r0_rowMany v_r0_seed q_5.1 r0_things 0 r0_turned q_5.2 r0_refusals)) rfl (k_runV C hA hW mw_M_dayComes mv_M_dayComes (ct_5.2 _) [0, 1] rfl rfl 0 rfl rfl qm_M_146 ⟨Nat.le_of_ble_eq_true rfl, Nat.le_of_ble_eq_true rfl, Nat.zero_le _, Nat.zero_le _⟩ rfl rfl (Nat.le_of_ble_eq_true rfl) hl.1 d_M_day_51) (fun H locs hW => ?_)
      refine lv_aload_n hx hb d_M_day_54 rfl (lv_at hl 1 rfl) ?_
      refine lv_iconst (v := 0) hx hb d_M_day_55 (by decide) ?_
      refine k_put i_M t_M_ok n_M C hW 0 rfl rfl 27 (by decide) qf_M_174 rfl rfl (ty := .int) rfl rfl rfl (Nat.le_of_ble_eq_true rfl) (ws' := (w_M_day cI a_r0 a_r0_hampers a_r0_refusals v_r0_weights v_r0_kinds v_r0_figures v_r0_wants0 v_r0_left0 v_r0_done0 v_r0_letters v_r0_letterMany v_r0_at v_r0_isBad v_r0_statements v_r0_placeIn v_r0_letterOf v_r0_told v_r0_kept v_r0_imaged v_r0_hasImage v_r0_place0 v_r0_isTaking v_r0_keptIn v_r0_turns0 v_r0_turnOf v_r0_order0 v_r0_likely0 v_r0_leftThen v_r0_row v_r0_rowMany v_r0_seed q_5.1 r0_things 0 0 q_5.2 r0_refusals)) rfl d_M_day_56 (fun H locs hW => ?_)
      refine lv_aload_n hx hb d_M_day_59 rfl (lv_at hl 1 rfl) ?_
      refine k_get i_M C hW 0 rfl rfl 4 (by decide) qf_M_78 rfl rfl d_M_day_60 ?_
      refine lv_iconst (v := 1) hx hb d_M_day_63 (by decide) ?_
      refine lv_isub hx hb d_M_day_64 ?_
      obtain rfl := Option.some.inj hr
      rw [hQ]; exact k_iret C hret hW d_M_day_65
    · replace hr := iN c_4 hr
      refine lv_aload_n hx hb d_M_day_43 rfl (lv_at hl 1 rfl) ?_
      refine lv_iload_n hx hb d_M_day_44 rfl (lv_at hl 0 rfl) ?_
      obtain ⟨q_6, hc_6, hr⟩ := ob hr
      have ct_6 := C_M_refuse l D cI cS a_r0 a_r0_refusals v_r0_weights (Value.int r0_things) v_r0_kinds v_r0_figures (Value.int r0_days) (Value.ref a_r0_hampers) v_r0_wants0 v_r0_left0 v_r0_done0 (Value.int 0) v_r0_letters v_r0_letterMany v_r0_at v_r0_isBad v_r0_statements v_r0_placeIn v_r0_letterOf v_r0_told v_r0_kept v_r0_imaged v_r0_hasImage v_r0_place0 v_r0_isTaking v_r0_keptIn v_r0_turns0 v_r0_turnOf (Value.int r0_turned) v_r0_order0 v_r0_likely0 v_r0_leftThen v_r0_row v_r0_rowMany v_r0_seed r0_refusals s0_3 q_6 hc_6
      refine k_goI hA hW [0, 2] rfl ct_6.1 (ws' := (w_M_day cI a_r0 a_r0_hampers a_r0_refusals v_r0_weights v_r0_kinds v_r0_figures v_r0_wants0 v_r0_left0 v_r0_done0 v_r0_letters v_r0_letterMany v_r0_at v_r0_isBad v_r0_statements v_r0_placeIn v_r0_letterOf v_r0_told v_r0_kept v_r0_imaged v_r0_hasImage v_r0_place0 v_r0_isTaking v_r0_keptIn v_r0_turns0 v_r0_turnOf v_r0_order0 v_r0_likely0 v_r0_leftThen v_r0_row v_r0_rowMany v_r0_seed r0_days r0_things 0 r0_turned r0_hampers q_6.2)) rfl (k_runV C hA hW mw_M_refuse mv_M_refuse (ct_6.2 _) [0, 2] rfl rfl 0 rfl rfl qm_M_108 ⟨Nat.le_of_ble_eq_true rfl, Nat.le_of_ble_eq_true rfl, Nat.zero_le _, Nat.zero_le _⟩ rfl rfl (Nat.le_of_ble_eq_true rfl) hl.1 d_M_day_45) (fun H locs hW => ?_)
      obtain rfl := Option.some.inj hr
      rw [hQ]; exact k_iret C hret hW d_M_day_48
  have hJ_7 : ∀ (_ : Unit), F_M_day_J37_7 r0_days r0_turned r0_hampers r0_refusals q_1 x1 = some o → ∀ (H : Heap) (locs : List Loc) (ls : Array Slot), wd A s.heap D (w_M_day cI a_r0 a_r0_hampers a_r0_refusals v_r0_weights v_r0_kinds v_r0_figures v_r0_wants0 v_r0_left0 v_r0_done0 v_r0_letters v_r0_letterMany v_r0_at v_r0_isBad v_r0_statements v_r0_placeIn v_r0_letterOf v_r0_told v_r0_kept v_r0_imaged v_r0_hasImage v_r0_place0 v_r0_isTaking v_r0_keptIn v_r0_turns0 v_r0_turnOf v_r0_order0 v_r0_likely0 v_r0_leftThen v_r0_row v_r0_rowMany v_r0_seed r0_days r0_things 0 r0_turned r0_hampers r0_refusals) H locs → lv_has ls 3 [(0, .ref a_r0), (1, .int x1), (2, .int q_1)] → W p l e (rmd 1) s m ([.ref a_r0, .int x1] : List Value).toArray below meth c H locs 0 0 Q (F0 m 37 ls []) := by
    intro _ hr H locs ls hW hl
    unfold F_M_day_J37_7 at hr
    refine lv_iload_n hx hb d_M_day_37 rfl (lv_at hl 2 rfl) ?_
    exact hJ_3 q_1 hr _ _ _ hW (lv_sub hl [0, 1] rfl)
  refine lv_if_ne (tgt := 37) hx hb d_M_day_20 (by decide) (fun c_2 => ?_) (fun c_2 => ?_)
  · replace hr := iN c_2 hr
    exact hJ_7 () hr _ _ _ hW (lv_sub hl [1, 2, 0] rfl)
  · replace hr := ip c_2 hr
    refine lv_aload_n hx hb d_M_day_23 rfl (lv_at hl 1 rfl) ?_
    refine k_get i_M C hW 0 rfl rfl 4 (by decide) qf_M_78 rfl rfl d_M_day_24 ?_
    refine lv_bipush (v := 8) hx hb d_M_day_27 (by decide) ?_
    refine lv_icmp_ne (tgt := 37) hx hb d_M_day_29 (by decide) (fun c_8 => ?_) (fun c_8 => ?_)
    · replace hr := iN c_8 hr
      exact hJ_7 () hr _ _ _ hW (lv_sub hl [1, 2, 0] rfl)
    · replace hr := ip c_8 hr
      refine lv_bipush (v := (-6)) hx hb d_M_day_32 (by decide) ?_
      refine lv_goto (tgt := 38) hx hb d_M_day_34 (by decide) ?_
      exact hJ_3 (-6) hr _ _ _ hW (lv_sub hl [1, 2] rfl)
def w_M_dayOf (cI : ClassId) (a_r0 : Nat) (a_r0_figures : Nat) (a_r0_hampers : Nat) (a_r0_kinds : Nat) (a_r0_refusals : Nat) (a_r0_weights : Nat) (v_r0_wants0 v_r0_left0 v_r0_done0 v_r0_letters v_r0_letterMany v_r0_at v_r0_isBad v_r0_statements v_r0_placeIn v_r0_letterOf v_r0_told v_r0_kept v_r0_imaged v_r0_hasImage v_r0_place0 v_r0_isTaking v_r0_keptIn v_r0_turns0 v_r0_turnOf v_r0_turned v_r0_order0 v_r0_likely0 v_r0_leftThen v_r0_row v_r0_rowMany v_r0_seed : Value) (r0_days : Int32) (r0_things : Int32) (r0_thrown : Int32) (r0_figures : Nat → Int32) (r0_hampers : Nat → Int32) (r0_kinds : Nat → Int32) (r0_refusals : Nat → Int32) (r0_weights : Nat → Int32) : va_W := [(a_r0, .inr (9, [.ref a_r0_weights, .int r0_things, .ref a_r0_kinds, .ref a_r0_figures, .int r0_days, .ref a_r0_hampers, v_r0_wants0, v_r0_left0, v_r0_done0, .int r0_thrown, .ref a_r0_refusals, v_r0_letters, v_r0_letterMany, v_r0_at, v_r0_isBad, v_r0_statements, v_r0_placeIn, v_r0_letterOf, v_r0_told, v_r0_kept, v_r0_imaged, v_r0_hasImage, v_r0_place0, v_r0_isTaking, v_r0_keptIn, v_r0_turns0, v_r0_turnOf, v_r0_turned, v_r0_order0, v_r0_likely0, v_r0_leftThen, v_r0_row, v_r0_rowMany, v_r0_seed])), (a_r0_figures, .inl (cI, 8, .inl r0_figures)), (a_r0_hampers, .inl (cI, 8, .inl r0_hampers)), (a_r0_kinds, .inl (cI, 8, .inl r0_kinds)), (a_r0_refusals, .inl (cI, 7, .inl r0_refusals)), (a_r0_weights, .inl (cI, 6, .inl r0_weights))]
def F_M_dayOf_J25_3 (r0_days : Int32) (r0_refusals : Nat → Int32) (x1 : Int32) : Option (Int32 × (Int32) × (Nat → Int32)) :=
  ((F_M_isDay r0_days x1).bind (fun q_4 => (if q_4 = 0 then ((F_M_refuse r0_refusals ((-1) : Int32)).bind (fun q_6 => (some (q_6.1, 0, q_6.2)))) else ((F_M_refuse r0_refusals ((-2) : Int32)).bind (fun q_7 => (some (q_7.1, 0, q_7.2)))))))
def F_M_dayOf (r0_days : Int32) (r0_things : Int32) (r0_figures : Nat → Int32) (r0_hampers : Nat → Int32) (r0_kinds : Nat → Int32) (r0_refusals : Nat → Int32) (r0_weights : Nat → Int32) (x1 : Int32) (x2 : Int32) : Option (Int32 × (Int32) × (Nat → Int32)) :=
  ((F_M_isDay r0_days x1).bind (fun q_1 => (if q_1 = 0 then (F_M_dayOf_J25_3 r0_days r0_refusals x1) else ((F_M_in (Int32.toInt64 x2) (0 : Int64) (4 : Int64)).bind (fun q_8 => (if q_8 = 0 then (F_M_dayOf_J25_3 r0_days r0_refusals x1) else (if x2 = 0 then (ck x1 8 (some ((r0_hampers (Int32.toNatClampNeg x1)), 0, r0_refusals))) else (if x2 = 1 then (ck x1 8 ((F_M_couldBe r0_things r0_figures r0_kinds (r0_hampers (Int32.toNatClampNeg x1))).bind (fun q_14 => (some (q_14, 0, r0_refusals))))) else (if x2 = 2 then ((F_M_likelyOn r0_things r0_figures r0_hampers r0_kinds r0_weights x1).bind (fun q_16 => (some (q_16, 0, r0_refusals)))) else (if x2 = 3 then (ck x1 8 ((F_M_allHeavy r0_things r0_figures r0_kinds (r0_hampers (Int32.toNatClampNeg x1))).bind (fun q_19 => (some (q_19, 0, r0_refusals))))) else (ck x1 8 ((F_M_allDear r0_things r0_figures r0_kinds (r0_hampers (Int32.toNatClampNeg x1))).bind (fun q_21 => (some (q_21, 0, r0_refusals)))))))))))))))
set_option maxHeartbeats 4000000 in
set_option maxRecDepth 100000 in
theorem C_M_dayOf (l : Launch) (D : va_G) (cI cS : ClassId) (a_r0 : Nat) (a_r0_figures : Nat) (a_r0_hampers : Nat) (a_r0_kinds : Nat) (a_r0_refusals : Nat) (a_r0_weights : Nat) (v_r0_wants0 v_r0_left0 v_r0_done0 v_r0_letters v_r0_letterMany v_r0_at v_r0_isBad v_r0_statements v_r0_placeIn v_r0_letterOf v_r0_told v_r0_kept v_r0_imaged v_r0_hasImage v_r0_place0 v_r0_isTaking v_r0_keptIn v_r0_turns0 v_r0_turnOf v_r0_turned v_r0_order0 v_r0_likely0 v_r0_leftThen v_r0_row v_r0_rowMany v_r0_seed : Value) (r0_days : Int32) (r0_things : Int32) (r0_thrown : Int32) (r0_figures : Nat → Int32) (r0_hampers : Nat → Int32) (r0_kinds : Nat → Int32) (r0_refusals : Nat → Int32) (r0_weights : Nat → Int32) (x1 : Int32) (x2 : Int32) (o : Int32 × (Int32) × (Nat → Int32)) (hr : F_M_dayOf r0_days r0_things r0_figures r0_hampers r0_kinds r0_refusals r0_weights x1 x2 = some o) : ctI l y_M_dayOf (Cond.code y_M_dayOf b_M_dayOf 3 (some FieldType.int)) (rmd 4) D (kTy cI cS) [.ref a_r0, .int x1, .int x2] (w_M_dayOf cI a_r0 a_r0_figures a_r0_hampers a_r0_kinds a_r0_refusals a_r0_weights v_r0_wants0 v_r0_left0 v_r0_done0 v_r0_letters v_r0_letterMany v_r0_at v_r0_isBad v_r0_statements v_r0_placeIn v_r0_letterOf v_r0_told v_r0_kept v_r0_imaged v_r0_hasImage v_r0_place0 v_r0_isTaking v_r0_keptIn v_r0_turns0 v_r0_turnOf v_r0_turned v_r0_order0 v_r0_likely0 v_r0_leftThen v_r0_row v_r0_rowMany v_r0_seed r0_days r0_things r0_thrown r0_figures r0_hampers r0_kinds r0_refusals r0_weights) (w_M_dayOf cI a_r0 a_r0_figures a_r0_hampers a_r0_kinds a_r0_refusals a_r0_weights v_r0_wants0 v_r0_left0 v_r0_done0 v_r0_letters v_r0_letterMany v_r0_at v_r0_isBad v_r0_statements v_r0_placeIn v_r0_letterOf v_r0_told v_r0_kept v_r0_imaged v_r0_hasImage v_r0_place0 v_r0_isTaking v_r0_keptIn v_r0_turns0 v_r0_turnOf v_r0_turned v_r0_order0 v_r0_likely0 v_r0_leftThen v_r0_row v_r0_rowMany v_r0_seed r0_days r0_things o.2.1 r0_figures r0_hampers r0_kinds o.2.2 r0_weights) o.1 := by
  unfold F_M_dayOf at hr
  refine ⟨rfl, fun sz => ct_of (w0 := (w_M_dayOf cI a_r0 a_r0_figures a_r0_hampers a_r0_kinds a_r0_refusals a_r0_weights v_r0_wants0 v_r0_left0 v_r0_done0 v_r0_letters v_r0_letterMany v_r0_at v_r0_isBad v_r0_statements v_r0_placeIn v_r0_letterOf v_r0_told v_r0_kept v_r0_imaged v_r0_hasImage v_r0_place0 v_r0_isTaking v_r0_keptIn v_r0_turns0 v_r0_turnOf v_r0_turned v_r0_order0 v_r0_likely0 v_r0_leftThen v_r0_row v_r0_rowMany v_r0_seed r0_days r0_things r0_thrown r0_figures r0_hampers r0_kinds r0_refusals r0_weights)) (Qc := fun A => qI D (w_M_dayOf cI a_r0 a_r0_figures a_r0_hampers a_r0_kinds a_r0_refusals a_r0_weights v_r0_wants0 v_r0_left0 v_r0_done0 v_r0_letters v_r0_letterMany v_r0_at v_r0_isBad v_r0_statements v_r0_placeIn v_r0_letterOf v_r0_told v_r0_kept v_r0_imaged v_r0_hasImage v_r0_place0 v_r0_isTaking v_r0_keptIn v_r0_turns0 v_r0_turnOf v_r0_turned v_r0_order0 v_r0_likely0 v_r0_leftThen v_r0_row v_r0_rowMany v_r0_seed r0_days r0_things o.2.1 r0_figures r0_hampers r0_kinds o.2.2 r0_weights) o.1 A) rfl (Nat.le_of_ble_eq_true rfl) ?_ sz⟩
  intro p e s m below meth c A hA C hret ls hl hW
  have C : cx p s m ([.ref a_r0, .int x1, .int x2] : List Value).toArray meth c b_M_dayOf 3 R_M D (kTy cI cS) (Cond.code y_M_dayOf b_M_dayOf 3 (some FieldType.int)) := C
  obtain ⟨hx, hb, hml, hown, hts, hK, hlk, hN⟩ := id C
  have hl : lv_has ls 3 [(0, .ref a_r0), (1, .int x1), (2, .int x2)] := hl
  obtain ⟨Q, hQ⟩ : ∃ Q, Q = MQ below (qI D (w_M_dayOf cI a_r0 a_r0_figures a_r0_hampers a_r0_kinds a_r0_refusals a_r0_weights v_r0_wants0 v_r0_left0 v_r0_done0 v_r0_letters v_r0_letterMany v_r0_at v_r0_isBad v_r0_statements v_r0_placeIn v_r0_letterOf v_r0_told v_r0_kept v_r0_imaged v_r0_hasImage v_r0_place0 v_r0_isTaking v_r0_keptIn v_r0_turns0 v_r0_turnOf v_r0_turned v_r0_order0 v_r0_likely0 v_r0_leftThen v_r0_row v_r0_rowMany v_r0_seed r0_days r0_things o.2.1 r0_figures r0_hampers r0_kinds o.2.2 r0_weights) o.1 A) ([.ref a_r0, .int x1, .int x2] : List Value).toArray s 0 0 A := ⟨_, rfl⟩
  rw [← hQ]
  refine lv_aload_n hx hb d_M_dayOf_0 rfl (lv_at hl 0 rfl) ?_
  refine lv_iconst (v := 0) hx hb d_M_dayOf_1 (by decide) ?_
  refine k_put i_M t_M_ok n_M C hW 0 rfl rfl 9 (by decide) qf_M_67 rfl rfl (ty := .int) rfl rfl rfl (Nat.le_of_ble_eq_true rfl) (ws' := (w_M_dayOf cI a_r0 a_r0_figures a_r0_hampers a_r0_kinds a_r0_refusals a_r0_weights v_r0_wants0 v_r0_left0 v_r0_done0 v_r0_letters v_r0_letterMany v_r0_at v_r0_isBad v_r0_statements v_r0_placeIn v_r0_letterOf v_r0_told v_r0_kept v_r0_imaged v_r0_hasImage v_r0_place0 v_r0_isTaking v_r0_keptIn v_r0_turns0 v_r0_turnOf v_r0_turned v_r0_order0 v_r0_likely0 v_r0_leftThen v_r0_row v_r0_rowMany v_r0_seed r0_days r0_things 0 r0_figures r0_hampers r0_kinds r0_refusals r0_weights)) rfl d_M_dayOf_2 (fun H locs hW => ?_)
  refine lv_aload_n hx hb d_M_dayOf_5 rfl (lv_at hl 0 rfl) ?_
  refine lv_iload_n hx hb d_M_dayOf_6 rfl (lv_at hl 1 rfl) ?_
  obtain ⟨q_1, hc_1, hr⟩ := ob hr
  have ct_1 := C_M_isDay l D cI cS a_r0 (Value.ref a_r0_weights) (Value.int r0_things) (Value.ref a_r0_kinds) (Value.ref a_r0_figures) (Value.ref a_r0_hampers) v_r0_wants0 v_r0_left0 v_r0_done0 (Value.int 0) (Value.ref a_r0_refusals) v_r0_letters v_r0_letterMany v_r0_at v_r0_isBad v_r0_statements v_r0_placeIn v_r0_letterOf v_r0_told v_r0_kept v_r0_imaged v_r0_hasImage v_r0_place0 v_r0_isTaking v_r0_keptIn v_r0_turns0 v_r0_turnOf v_r0_turned v_r0_order0 v_r0_likely0 v_r0_leftThen v_r0_row v_r0_rowMany v_r0_seed r0_days x1 q_1 hc_1
  refine k_goIp hA hW [0] rfl rfl (k_runV C hA hW mw_M_isDay mv_M_isDay (ct_1.2 _) [0] rfl rfl 0 rfl rfl qm_M_150 ⟨Nat.le_of_ble_eq_true rfl, Nat.le_of_ble_eq_true rfl, Nat.zero_le _, Nat.zero_le _⟩ rfl rfl (Nat.le_of_ble_eq_true rfl) hl.1 d_M_dayOf_7) (fun H locs hW => ?_)
  have hJ_3 : ∀ (_ : Unit), F_M_dayOf_J25_3 r0_days r0_refusals x1 = some o → ∀ (H : Heap) (locs : List Loc) (ls : Array Slot), wd A s.heap D (w_M_dayOf cI a_r0 a_r0_figures a_r0_hampers a_r0_kinds a_r0_refusals a_r0_weights v_r0_wants0 v_r0_left0 v_r0_done0 v_r0_letters v_r0_letterMany v_r0_at v_r0_isBad v_r0_statements v_r0_placeIn v_r0_letterOf v_r0_told v_r0_kept v_r0_imaged v_r0_hasImage v_r0_place0 v_r0_isTaking v_r0_keptIn v_r0_turns0 v_r0_turnOf v_r0_turned v_r0_order0 v_r0_likely0 v_r0_leftThen v_r0_row v_r0_rowMany v_r0_seed r0_days r0_things 0 r0_figures r0_hampers r0_kinds r0_refusals r0_weights) H locs → lv_has ls 3 [(0, .ref a_r0), (1, .int x1)] → W p l e (rmd 4) s m ([.ref a_r0, .int x1, .int x2] : List Value).toArray below meth c H locs 0 0 Q (F0 m 25 ls []) := by
    intro _ hr H locs ls hW hl
    unfold F_M_dayOf_J25_3 at hr
    refine lv_aload_n hx hb d_M_dayOf_25 rfl (lv_at hl 0 rfl) ?_
    refine lv_aload_n hx hb d_M_dayOf_26 rfl (lv_at hl 0 rfl) ?_
    refine lv_iload_n hx hb d_M_dayOf_27 rfl (lv_at hl 1 rfl) ?_
    obtain ⟨q_4, hc_4, hr⟩ := ob hr
    have ct_4 := C_M_isDay l D cI cS a_r0 (Value.ref a_r0_weights) (Value.int r0_things) (Value.ref a_r0_kinds) (Value.ref a_r0_figures) (Value.ref a_r0_hampers) v_r0_wants0 v_r0_left0 v_r0_done0 (Value.int 0) (Value.ref a_r0_refusals) v_r0_letters v_r0_letterMany v_r0_at v_r0_isBad v_r0_statements v_r0_placeIn v_r0_letterOf v_r0_told v_r0_kept v_r0_imaged v_r0_hasImage v_r0_place0 v_r0_isTaking v_r0_keptIn v_r0_turns0 v_r0_turnOf v_r0_turned v_r0_order0 v_r0_likely0 v_r0_leftThen v_r0_row v_r0_rowMany v_r0_seed r0_days x1 q_4 hc_4
    refine k_goIp hA hW [0] rfl rfl (k_runV C hA hW mw_M_isDay mv_M_isDay (ct_4.2 _) [0] rfl rfl 0 rfl rfl qm_M_150 ⟨Nat.le_of_ble_eq_true rfl, Nat.le_of_ble_eq_true rfl, Nat.zero_le _, Nat.zero_le _⟩ rfl rfl (Nat.le_of_ble_eq_true rfl) hl.1 d_M_dayOf_28) (fun H locs hW => ?_)
    refine lv_if_eq (tgt := 39) hx hb d_M_dayOf_31 (by decide) (fun c_5 => ?_) (fun c_5 => ?_)
    · replace hr := ip c_5 hr
      refine lv_iconst (v := (-1)) hx hb d_M_dayOf_39 (by decide) ?_
      obtain ⟨q_6, hc_6, hr⟩ := ob hr
      have ct_6 := C_M_refuse l D cI cS a_r0 a_r0_refusals (Value.ref a_r0_weights) (Value.int r0_things) (Value.ref a_r0_kinds) (Value.ref a_r0_figures) (Value.int r0_days) (Value.ref a_r0_hampers) v_r0_wants0 v_r0_left0 v_r0_done0 (Value.int 0) v_r0_letters v_r0_letterMany v_r0_at v_r0_isBad v_r0_statements v_r0_placeIn v_r0_letterOf v_r0_told v_r0_kept v_r0_imaged v_r0_hasImage v_r0_place0 v_r0_isTaking v_r0_keptIn v_r0_turns0 v_r0_turnOf v_r0_turned v_r0_order0 v_r0_likely0 v_r0_leftThen v_r0_row v_r0_rowMany v_r0_seed r0_refusals (-1) q_6 hc_6
      refine k_goI hA hW [0, 4] rfl ct_6.1 (ws' := (w_M_dayOf cI a_r0 a_r0_figures a_r0_hampers a_r0_kinds a_r0_refusals a_r0_weights v_r0_wants0 v_r0_left0 v_r0_done0 v_r0_letters v_r0_letterMany v_r0_at v_r0_isBad v_r0_statements v_r0_placeIn v_r0_letterOf v_r0_told v_r0_kept v_r0_imaged v_r0_hasImage v_r0_place0 v_r0_isTaking v_r0_keptIn v_r0_turns0 v_r0_turnOf v_r0_turned v_r0_order0 v_r0_likely0 v_r0_leftThen v_r0_row v_r0_rowMany v_r0_seed r0_days r0_things 0 r0_figures r0_hampers r0_kinds q_6.2 r0_weights)) rfl (k_runV C hA hW mw_M_refuse mv_M_refuse (ct_6.2 _) [0, 4] rfl rfl 0 rfl rfl qm_M_108 ⟨Nat.le_of_ble_eq_true rfl, Nat.le_of_ble_eq_true rfl, Nat.zero_le _, Nat.zero_le _⟩ rfl rfl (Nat.le_of_ble_eq_true rfl) hl.1 d_M_dayOf_40) (fun H locs hW => ?_)
      obtain rfl := Option.some.inj hr
      rw [hQ]; exact k_iret C hret hW d_M_dayOf_43
    · replace hr := iN c_5 hr
      refine lv_bipush (v := (-2)) hx hb d_M_dayOf_34 (by decide) ?_
      refine lv_goto (tgt := 40) hx hb d_M_dayOf_36 (by decide) ?_
      obtain ⟨q_7, hc_7, hr⟩ := ob hr
      have ct_7 := C_M_refuse l D cI cS a_r0 a_r0_refusals (Value.ref a_r0_weights) (Value.int r0_things) (Value.ref a_r0_kinds) (Value.ref a_r0_figures) (Value.int r0_days) (Value.ref a_r0_hampers) v_r0_wants0 v_r0_left0 v_r0_done0 (Value.int 0) v_r0_letters v_r0_letterMany v_r0_at v_r0_isBad v_r0_statements v_r0_placeIn v_r0_letterOf v_r0_told v_r0_kept v_r0_imaged v_r0_hasImage v_r0_place0 v_r0_isTaking v_r0_keptIn v_r0_turns0 v_r0_turnOf v_r0_turned v_r0_order0 v_r0_likely0 v_r0_leftThen v_r0_row v_r0_rowMany v_r0_seed r0_refusals (-2) q_7 hc_7
      refine k_goI hA hW [0, 4] rfl ct_7.1 (ws' := (w_M_dayOf cI a_r0 a_r0_figures a_r0_hampers a_r0_kinds a_r0_refusals a_r0_weights v_r0_wants0 v_r0_left0 v_r0_done0 v_r0_letters v_r0_letterMany v_r0_at v_r0_isBad v_r0_statements v_r0_placeIn v_r0_letterOf v_r0_told v_r0_kept v_r0_imaged v_r0_hasImage v_r0_place0 v_r0_isTaking v_r0_keptIn v_r0_turns0 v_r0_turnOf v_r0_turned v_r0_order0 v_r0_likely0 v_r0_leftThen v_r0_row v_r0_rowMany v_r0_seed r0_days r0_things 0 r0_figures r0_hampers r0_kinds q_7.2 r0_weights)) rfl (k_runV C hA hW mw_M_refuse mv_M_refuse (ct_7.2 _) [0, 4] rfl rfl 0 rfl rfl qm_M_108 ⟨Nat.le_of_ble_eq_true rfl, Nat.le_of_ble_eq_true rfl, Nat.zero_le _, Nat.zero_le _⟩ rfl rfl (Nat.le_of_ble_eq_true rfl) hl.1 d_M_dayOf_40) (fun H locs hW => ?_)
      obtain rfl := Option.some.inj hr
      rw [hQ]; exact k_iret C hret hW d_M_dayOf_43
  refine lv_if_eq (tgt := 25) hx hb d_M_dayOf_10 (by decide) (fun c_2 => ?_) (fun c_2 => ?_)
  · replace hr := ip c_2 hr
    exact hJ_3 () hr _ _ _ hW (lv_sub hl [0, 1] rfl)
  · replace hr := iN c_2 hr
    refine lv_iload_n hx hb d_M_dayOf_13 rfl (lv_at hl 2 rfl) ?_
    refine lv_i2l hx hb d_M_dayOf_14 rfl ?_
    refine lv_lconst (v := 0) hx hb d_M_dayOf_15 (by decide) ?_
    refine lv_ldc2 (v := 4) hx hb hown (hts _ (List.mem_cons_of_mem _ (qc_M_196))) d_M_dayOf_16 ?_
    obtain ⟨q_8, hc_8, hr⟩ := ob hr
    have ct_8 := C_M_in l D cI cS (Int32.toInt64 x2) 0 (4 : Int64) q_8 hc_8
    refine k_goIp hA hW [] rfl rfl (k_runS C hA hW mw_M_in ms_M_in (ct_8.2 _) [] rfl rfl qm_M_74 ⟨Nat.le_of_ble_eq_true rfl, Nat.le_of_ble_eq_true rfl, Nat.zero_le _, Nat.zero_le _⟩ rfl rfl (Nat.le_of_ble_eq_true rfl) hl.1 d_M_dayOf_19) (fun H locs hW => ?_)
    refine lv_if_ne (tgt := 44) hx hb d_M_dayOf_22 (by decide) (fun c_9 => ?_) (fun c_9 => ?_)
    · replace hr := iN c_9 hr
      refine lv_iload_n hx hb d_M_dayOf_44 rfl (lv_at hl 2 rfl) ?_
      by_cases c_10 : x2 = 0
      · replace hr := ip c_10 hr
        refine k_tabIn (tgt := 76) (off := 31) c_10 hx hb d_M_dayOf_45 (by decide) (by decide) (by decide) (by decide) ?_
        refine lv_aload_n hx hb d_M_dayOf_76 rfl (lv_at hl 0 rfl) ?_
        refine k_get i_M C hW 0 rfl rfl 5 (by decide) qf_M_19 rfl rfl d_M_dayOf_77 ?_
        refine lv_iload_n hx hb d_M_dayOf_80 rfl (lv_at hl 1 rfl) ?_
        obtain ⟨h_11, hr⟩ := ck_some hr
        refine k_iald C hW 2 rfl h_11 d_M_dayOf_81 ?_
        obtain rfl := Option.some.inj hr
        rw [hQ]; exact k_iret C hret hW d_M_dayOf_82
      · replace hr := iN c_10 hr
        by_cases c_12 : x2 = 1
        · replace hr := ip c_12 hr
          refine k_tabIn (tgt := 83) (off := 38) c_12 hx hb d_M_dayOf_45 (by decide) (by decide) (by decide) (by decide) ?_
          refine lv_aload_n hx hb d_M_dayOf_83 rfl (lv_at hl 0 rfl) ?_
          refine lv_aload_n hx hb d_M_dayOf_84 rfl (lv_at hl 0 rfl) ?_
          refine k_get i_M C hW 0 rfl rfl 5 (by decide) qf_M_19 rfl rfl d_M_dayOf_85 ?_
          refine lv_iload_n hx hb d_M_dayOf_88 rfl (lv_at hl 1 rfl) ?_
          obtain ⟨h_13, hr⟩ := ck_some hr
          refine k_iald C hW 2 rfl h_13 d_M_dayOf_89 ?_
          obtain ⟨q_14, hc_14, hr⟩ := ob hr
          have ct_14 := C_M_couldBe l D cI cS a_r0 a_r0_figures a_r0_kinds (Value.ref a_r0_weights) (Value.int r0_days) (Value.ref a_r0_hampers) v_r0_wants0 v_r0_left0 v_r0_done0 (Value.int 0) (Value.ref a_r0_refusals) v_r0_letters v_r0_letterMany v_r0_at v_r0_isBad v_r0_statements v_r0_placeIn v_r0_letterOf v_r0_told v_r0_kept v_r0_imaged v_r0_hasImage v_r0_place0 v_r0_isTaking v_r0_keptIn v_r0_turns0 v_r0_turnOf v_r0_turned v_r0_order0 v_r0_likely0 v_r0_leftThen v_r0_row v_r0_rowMany v_r0_seed r0_things r0_figures r0_kinds (r0_hampers (Int32.toNatClampNeg x1)) q_14 hc_14
          refine k_goIp hA hW [0, 1, 3] rfl rfl (k_runV C hA hW mw_M_couldBe mv_M_couldBe (ct_14.2 _) [0, 1, 3] rfl rfl 0 rfl rfl qm_M_99 ⟨Nat.le_of_ble_eq_true rfl, Nat.le_of_ble_eq_true rfl, Nat.zero_le _, Nat.zero_le _⟩ rfl rfl (Nat.le_of_ble_eq_true rfl) hl.1 d_M_dayOf_90) (fun H locs hW => ?_)
          obtain rfl := Option.some.inj hr
          rw [hQ]; exact k_iret C hret hW d_M_dayOf_93
        · replace hr := iN c_12 hr
          by_cases c_15 : x2 = 2
          · replace hr := ip c_15 hr
            refine k_tabIn (tgt := 94) (off := 49) c_15 hx hb d_M_dayOf_45 (by decide) (by decide) (by decide) (by decide) ?_
            refine lv_aload_n hx hb d_M_dayOf_94 rfl (lv_at hl 0 rfl) ?_
            refine lv_iload_n hx hb d_M_dayOf_95 rfl (lv_at hl 1 rfl) ?_
            obtain ⟨q_16, hc_16, hr⟩ := ob hr
            have ct_16 := C_M_likelyOn l D cI cS a_r0 a_r0_figures a_r0_hampers a_r0_kinds a_r0_weights (Value.int r0_days) v_r0_wants0 v_r0_left0 v_r0_done0 (Value.int 0) (Value.ref a_r0_refusals) v_r0_letters v_r0_letterMany v_r0_at v_r0_isBad v_r0_statements v_r0_placeIn v_r0_letterOf v_r0_told v_r0_kept v_r0_imaged v_r0_hasImage v_r0_place0 v_r0_isTaking v_r0_keptIn v_r0_turns0 v_r0_turnOf v_r0_turned v_r0_order0 v_r0_likely0 v_r0_leftThen v_r0_row v_r0_rowMany v_r0_seed r0_things r0_figures r0_hampers r0_kinds r0_weights x1 q_16 hc_16
            refine k_goIp hA hW [0, 1, 2, 3, 5] rfl rfl (k_runV C hA hW mw_M_likelyOn mv_M_likelyOn (ct_16.2 _) [0, 1, 2, 3, 5] rfl rfl 0 rfl rfl qm_M_153 ⟨Nat.le_of_ble_eq_true rfl, Nat.le_of_ble_eq_true rfl, Nat.zero_le _, Nat.zero_le _⟩ rfl rfl (Nat.le_of_ble_eq_true rfl) hl.1 d_M_dayOf_96) (fun H locs hW => ?_)
            obtain rfl := Option.some.inj hr
            rw [hQ]; exact k_iret C hret hW d_M_dayOf_99
          · replace hr := iN c_15 hr
            by_cases c_17 : x2 = 3
            · replace hr := ip c_17 hr
              refine k_tabIn (tgt := 100) (off := 55) c_17 hx hb d_M_dayOf_45 (by decide) (by decide) (by decide) (by decide) ?_
              refine lv_aload_n hx hb d_M_dayOf_100 rfl (lv_at hl 0 rfl) ?_
              refine lv_aload_n hx hb d_M_dayOf_101 rfl (lv_at hl 0 rfl) ?_
              refine k_get i_M C hW 0 rfl rfl 5 (by decide) qf_M_19 rfl rfl d_M_dayOf_102 ?_
              refine lv_iload_n hx hb d_M_dayOf_105 rfl (lv_at hl 1 rfl) ?_
              obtain ⟨h_18, hr⟩ := ck_some hr
              refine k_iald C hW 2 rfl h_18 d_M_dayOf_106 ?_
              obtain ⟨q_19, hc_19, hr⟩ := ob hr
              have ct_19 := C_M_allHeavy l D cI cS a_r0 a_r0_figures a_r0_kinds (Value.ref a_r0_weights) (Value.int r0_days) (Value.ref a_r0_hampers) v_r0_wants0 v_r0_left0 v_r0_done0 (Value.int 0) (Value.ref a_r0_refusals) v_r0_letters v_r0_letterMany v_r0_at v_r0_isBad v_r0_statements v_r0_placeIn v_r0_letterOf v_r0_told v_r0_kept v_r0_imaged v_r0_hasImage v_r0_place0 v_r0_isTaking v_r0_keptIn v_r0_turns0 v_r0_turnOf v_r0_turned v_r0_order0 v_r0_likely0 v_r0_leftThen v_r0_row v_r0_rowMany v_r0_seed r0_things r0_figures r0_kinds (r0_hampers (Int32.toNatClampNeg x1)) q_19 hc_19
              refine k_goIp hA hW [0, 1, 3] rfl rfl (k_runV C hA hW mw_M_allHeavy mv_M_allHeavy (ct_19.2 _) [0, 1, 3] rfl rfl 0 rfl rfl qm_M_198 ⟨Nat.le_of_ble_eq_true rfl, Nat.le_of_ble_eq_true rfl, Nat.zero_le _, Nat.zero_le _⟩ rfl rfl (Nat.le_of_ble_eq_true rfl) hl.1 d_M_dayOf_107) (fun H locs hW => ?_)
              obtain rfl := Option.some.inj hr
              rw [hQ]; exact k_iret C hret hW d_M_dayOf_110
            · replace hr := iN c_17 hr
              refine k_tabDef (tgt := 111) [0, 1, 2, 3] (by decide +kernel) (by simp only [List.forall_mem_cons]; exact ⟨c_10, c_12, c_15, c_17, fun _ h => absurd h List.not_mem_nil⟩) hx hb d_M_dayOf_45 (by decide) ?_
              refine lv_aload_n hx hb d_M_dayOf_111 rfl (lv_at hl 0 rfl) ?_
              refine lv_aload_n hx hb d_M_dayOf_112 rfl (lv_at hl 0 rfl) ?_
              refine k_get i_M C hW 0 rfl rfl 5 (by decide) qf_M_19 rfl rfl d_M_dayOf_113 ?_
              refine lv_iload_n hx hb d_M_dayOf_116 rfl (lv_at hl 1 rfl) ?_
              obtain ⟨h_20, hr⟩ := ck_some hr
              refine k_iald C hW 2 rfl h_20 d_M_dayOf_117 ?_
              obtain ⟨q_21, hc_21, hr⟩ := ob hr
              have ct_21 := C_M_allDear l D cI cS a_r0 a_r0_figures a_r0_kinds (Value.ref a_r0_weights) (Value.int r0_days) (Value.ref a_r0_hampers) v_r0_wants0 v_r0_left0 v_r0_done0 (Value.int 0) (Value.ref a_r0_refusals) v_r0_letters v_r0_letterMany v_r0_at v_r0_isBad v_r0_statements v_r0_placeIn v_r0_letterOf v_r0_told v_r0_kept v_r0_imaged v_r0_hasImage v_r0_place0 v_r0_isTaking v_r0_keptIn v_r0_turns0 v_r0_turnOf v_r0_turned v_r0_order0 v_r0_likely0 v_r0_leftThen v_r0_row v_r0_rowMany v_r0_seed r0_things r0_figures r0_kinds (r0_hampers (Int32.toNatClampNeg x1)) q_21 hc_21
              refine k_goIp hA hW [0, 1, 3] rfl rfl (k_runV C hA hW mw_M_allDear mv_M_allDear (ct_21.2 _) [0, 1, 3] rfl rfl 0 rfl rfl qm_M_201 ⟨Nat.le_of_ble_eq_true rfl, Nat.le_of_ble_eq_true rfl, Nat.zero_le _, Nat.zero_le _⟩ rfl rfl (Nat.le_of_ble_eq_true rfl) hl.1 d_M_dayOf_118) (fun H locs hW => ?_)
              obtain rfl := Option.some.inj hr
              rw [hQ]; exact k_iret C hret hW d_M_dayOf_121
    · replace hr := ip c_9 hr
      exact hJ_3 () hr _ _ _ hW (lv_sub hl [0, 1] rfl)
def F_M_divisor_L6 (y4_1 : Int64) (y6_1 : Int64) : Option (((Int64) × (Int64)) ⊕ ((Int64))) :=
  (if (lg_cmp y6_1 0) = 0 then (some (.inr y4_1)) else (ck0L y6_1 (some (.inl (y6_1, (y4_1 - y4_1 / y6_1 * y6_1))))))
def F_M_divisor (x0 : Int64) (x2 : Int64) : Option (Int64) :=
  ((wh (fun (s : (Int64) × (Int64)) => F_M_divisor_L6 s.1 s.2) 400 (x0, x2)).bind (fun e_1 => (some e_1)))
set_option maxHeartbeats 4000000 in
set_option maxRecDepth 100000 in
theorem C_M_divisor (l : Launch) (D : va_G) (cI cS : ClassId) (x0 : Int64) (x2 : Int64) (o : Int64) (hr : F_M_divisor x0 x2 = some o) : ctL l y_M_divisor (Cond.code y_M_divisor b_M_divisor 10 (some FieldType.long)) (rmd 0) D (kTy cI cS) [.long x0, .long x2] [] [] o := by
  unfold F_M_divisor at hr
  refine ⟨rfl, fun sz => ct_of (w0 := []) (Qc := fun A => qL D [] o A) rfl (Nat.le_of_ble_eq_true rfl) ?_ sz⟩
  intro p e s m below meth c A hA C hret ls hl hW
  have C : cx p s m ([.long x0, .long x2] : List Value).toArray meth c b_M_divisor 10 R_M D (kTy cI cS) (Cond.code y_M_divisor b_M_divisor 10 (some FieldType.long)) := C
  obtain ⟨hx, hb, hml, hown, hts, hK, hlk, hN⟩ := id C
  have hl : lv_has ls 10 [(0, .long x0), (2, .long x2)] := hl
  obtain ⟨Q, hQ⟩ : ∃ Q, Q = MQ below (qL D [] o A) ([.long x0, .long x2] : List Value).toArray s 0 0 A := ⟨_, rfl⟩
  rw [← hQ]
  refine lv_lload_n hx hb d_M_divisor_0 rfl (lv_at hl 0 rfl) ?_
  refine lv_lstore (lv' := [(4, .long x0), (0, .long x0), (2, .long x2)]) hx hb d_M_divisor_1 hl (by decide) rfl (fun ls hl => ?_)
  refine lv_lload_n hx hb d_M_divisor_3 rfl (lv_at hl 2 rfl) ?_
  refine lv_lstore (lv' := [(6, .long x2), (4, .long x0), (0, .long x0), (2, .long x2)]) hx hb d_M_divisor_4 hl (by decide) rfl (fun ls hl => ?_)
  obtain ⟨ex_1, hw_1, hk_1⟩ := ob hr
  have hx_1 : ∀ (e_1 : (Int64)), e_1 = ex_1 → ∀ (H : Heap) (locs : List Loc) (ls : Array Slot), wd A s.heap D [] H locs → lv_has ls 10 [(4, .long e_1)] → W p l e (rmd 0) s m ([.long x0, .long x2] : List Value).toArray below meth c H locs 0 0 Q (F0 m 31 ls []) := by
    intro e_1 hE H locs ls hW hl
    subst hE; have hr := hk_1
    refine lv_lload hx hb d_M_divisor_31 (lv_at hl 0 rfl) ?_
    obtain rfl := Option.some.inj hr
    rw [hQ]; exact k_lret C hret hW d_M_divisor_33
  have hl_1 : ∀ (k : Nat) (y4_1 : Int64) (y6_1 : Int64), wh (fun (s : (Int64) × (Int64)) => F_M_divisor_L6 s.1 s.2) k (y4_1, y6_1) = some ex_1 → ∀ (H : Heap) (locs : List Loc) (ls : Array Slot), wd A s.heap D [] H locs → lv_has ls 10 [(4, .long y4_1), (6, .long y6_1)] → W p l e (rmd 0) s m ([.long x0, .long x2] : List Value).toArray below meth c H locs 0 0 Q (F0 m 6 ls []) := by
    intro k
    induction k with
    | zero => intro y4_1 y6_1 hw; exact absurd hw wh_0
    | succ k ih_1 =>
      intro y4_1 y6_1 hw H locs ls hW hl
      obtain ⟨z_1, hr, hz1_1, hz2_1⟩ := wh_s hw
      have hr : F_M_divisor_L6 y4_1 y6_1 = some z_1 := hr
      unfold F_M_divisor_L6 at hr
      refine lv_lload hx hb d_M_divisor_6 (lv_at hl 1 rfl) ?_
      refine lv_lconst (v := 0) hx hb d_M_divisor_8 (by decide) ?_
      refine W.lcmp hx hb d_M_divisor_9 ?_
      refine lv_if_eq (tgt := 31) hx hb d_M_divisor_10 (by decide) (fun c_2 => ?_) (fun c_2 => ?_)
      · replace hr := ip c_2 hr
        exact hx_1 _ (hz2_1 _ (Option.some.inj hr).symm) _ _ _ hW (lv_sub hl [0] rfl)
      · replace hr := iN c_2 hr
        refine lv_lload hx hb d_M_divisor_13 (lv_at hl 0 rfl) ?_
        refine lv_lload hx hb d_M_divisor_15 (lv_at hl 1 rfl) ?_
        obtain ⟨h_3, hr⟩ := ck0L_some hr
        refine lv_lrem hx hb d_M_divisor_17 h_3 ?_
        refine lv_lstore (lv' := [(8, .long (y4_1 - y4_1 / y6_1 * y6_1)), (4, .long y4_1), (6, .long y6_1)]) hx hb d_M_divisor_18 hl (by decide) rfl (fun ls hl => ?_)
        refine lv_lload hx hb d_M_divisor_20 (lv_at hl 2 rfl) ?_
        refine lv_lstore (lv' := [(4, .long y6_1), (8, .long (y4_1 - y4_1 / y6_1 * y6_1)), (6, .long y6_1)]) hx hb d_M_divisor_22 hl (by decide) rfl (fun ls hl => ?_)
        refine lv_lload hx hb d_M_divisor_24 (lv_at hl 1 rfl) ?_
        refine lv_lstore (lv' := [(6, .long (y4_1 - y4_1 / y6_1 * y6_1)), (4, .long y6_1), (8, .long (y4_1 - y4_1 / y6_1 * y6_1))]) hx hb d_M_divisor_26 hl (by decide) rfl (fun ls hl => ?_)
        refine lv_goto (tgt := 6) hx hb d_M_divisor_28 (by decide) ?_
        exact ih_1 y6_1 (y4_1 - y4_1 / y6_1 * y6_1) (hz1_1 _ (Option.some.inj hr).symm) _ _ _ hW (lv_sub hl [1, 0] rfl)
  exact hl_1 _ x0 x2 hw_1 _ _ _ hW (lv_sub hl [1, 0] rfl)
