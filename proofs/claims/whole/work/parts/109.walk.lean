def w_M_doneBy (cI : ClassId) (a_r0 : Nat) (a_r0_left0 : Nat) (a_r0_leftThen : Nat) (a_r0_likely0 : Nat) (a_r0_order0 : Nat) (a_r0_wants0 : Nat) (v_r0_weights v_r0_things v_r0_kinds v_r0_figures v_r0_hampers v_r0_done0 v_r0_thrown v_r0_refusals v_r0_letters v_r0_letterMany v_r0_at v_r0_isBad v_r0_statements v_r0_placeIn v_r0_letterOf v_r0_told v_r0_kept v_r0_imaged v_r0_hasImage v_r0_place0 v_r0_isTaking v_r0_keptIn v_r0_turns0 v_r0_turnOf v_r0_turned v_r0_row v_r0_rowMany v_r0_seed : Value) (r0_days : Int32) (r0_left0 : Nat → Int32) (r0_leftThen : Nat → Int32) (r0_likely0 : Nat → Int32) (r0_order0 : Nat → Int32) (r0_wants0 : Nat → Int32) : va_W := [(a_r0, .inr (9, [v_r0_weights, v_r0_things, v_r0_kinds, v_r0_figures, .int r0_days, v_r0_hampers, .ref a_r0_wants0, .ref a_r0_left0, v_r0_done0, v_r0_thrown, v_r0_refusals, v_r0_letters, v_r0_letterMany, v_r0_at, v_r0_isBad, v_r0_statements, v_r0_placeIn, v_r0_letterOf, v_r0_told, v_r0_kept, v_r0_imaged, v_r0_hasImage, v_r0_place0, v_r0_isTaking, v_r0_keptIn, v_r0_turns0, v_r0_turnOf, v_r0_turned, .ref a_r0_order0, .ref a_r0_likely0, .ref a_r0_leftThen, v_r0_row, v_r0_rowMany, v_r0_seed])), (a_r0_left0, .inl (cI, 4, .inl r0_left0)), (a_r0_leftThen, .inl (cI, 4, .inl r0_leftThen)), (a_r0_likely0, .inl (cI, 8, .inl r0_likely0)), (a_r0_order0, .inl (cI, 8, .inl r0_order0)), (a_r0_wants0, .inl (cI, 4, .inl r0_wants0))]
def F_M_doneBy_L2 (r0_left0 : Nat → Int32) (y2_1 : Int32) (r0_leftThen_1 : Nat → Int32) : Option (((Int32) × (Nat → Int32)) ⊕ ((Nat → Int32))) :=
  (if (4 : Int32) ≤ y2_1 then (some (.inr r0_leftThen_1)) else (ck y2_1 4 (ck y2_1 4 (some (.inl ((y2_1 + 1), (upd r0_leftThen_1 (Int32.toNatClampNeg y2_1) (r0_left0 (Int32.toNatClampNeg y2_1)))))))))
def F_M_doneBy_L62 (r0_likely0 : Nat → Int32) (r0_order0 : Nat → Int32) (r0_wants0 : Nat → Int32) (r0_leftThen_5 : Nat → Int32) (y3_5 : Int32) (y5_10 : Int32) (y6_10 : Int32) : Option (((Int32) × (Int32)) ⊕ ((Int32))) :=
  (if y6_10 < 0 then (some (.inr y5_10)) else (if (r0_likely0 (Int32.toNatClampNeg (r0_order0 (Int32.toNatClampNeg y3_5)))) < 0 then (some (.inr y5_10)) else (ck y6_10 4 (if (r0_leftThen_5 (Int32.toNatClampNeg y6_10)) ≤ 0 then (some (.inl (y5_10, (y6_10 + (-1))))) else (ck y6_10 4 ((F_M_hasBit (r0_wants0 (Int32.toNatClampNeg y6_10)) (r0_likely0 (Int32.toNatClampNeg (r0_order0 (Int32.toNatClampNeg y3_5))))).bind (fun q_16 => (if q_16 = 0 then (some (.inl (y5_10, (y6_10 + (-1))))) else (some (.inl (y6_10, (y6_10 + (-1)))))))))))))
def F_M_doneBy_L29 (r0_days : Int32) (r0_likely0 : Nat → Int32) (r0_order0 : Nat → Int32) (r0_wants0 : Nat → Int32) (x1 : Int32) (y2_5 : Int32) (y3_5 : Int32) (r0_leftThen_5 : Nat → Int32) : Option (((Int32) × (Int32) × (Nat → Int32)) ⊕ ((Int32) × (Nat → Int32))) :=
  (if r0_days ≤ y3_5 then (some (.inr (y2_5, r0_leftThen_5))) else (if x1 ≤ y3_5 then (some (.inr (y2_5, r0_leftThen_5))) else (ck y3_5 8 (ck (r0_order0 (Int32.toNatClampNeg y3_5)) 8 ((wh (fun (s : (Int32) × (Int32)) => F_M_doneBy_L62 r0_likely0 r0_order0 r0_wants0 r0_leftThen_5 y3_5 s.1 s.2) 400 (((-9) : Int32), (3 : Int32))).bind (fun e_10 => (if e_10 < 0 then (some (.inl (y2_5, (y3_5 + 1), r0_leftThen_5))) else (ck e_10 4 (ck e_10 4 (some (.inl ((y2_5 + 1), (y3_5 + 1), (upd r0_leftThen_5 (Int32.toNatClampNeg e_10) ((r0_leftThen_5 (Int32.toNatClampNeg e_10)) - 1))))))))))))))
def F_M_doneBy (r0_days : Int32) (r0_left0 : Nat → Int32) (r0_leftThen : Nat → Int32) (r0_likely0 : Nat → Int32) (r0_order0 : Nat → Int32) (r0_wants0 : Nat → Int32) (x1 : Int32) : Option (Int32 × (Nat → Int32)) :=
  ((wh (fun (s : (Int32) × (Nat → Int32)) => F_M_doneBy_L2 r0_left0 s.1 s.2) 400 ((0 : Int32), r0_leftThen)).bind (fun e_1 => ((wh (fun (s : (Int32) × (Int32) × (Nat → Int32)) => F_M_doneBy_L29 r0_days r0_likely0 r0_order0 r0_wants0 x1 s.1 s.2.1 s.2.2) 400 ((0 : Int32), (0 : Int32), e_1)).bind (fun e_5 => (some (e_5.1, e_5.2))))))
set_option maxHeartbeats 4000000 in
set_option maxRecDepth 100000 in
theorem C_M_doneBy (l : Launch) (D : va_G) (cI cS : ClassId) (a_r0 : Nat) (a_r0_left0 : Nat) (a_r0_leftThen : Nat) (a_r0_likely0 : Nat) (a_r0_order0 : Nat) (a_r0_wants0 : Nat) (v_r0_weights v_r0_things v_r0_kinds v_r0_figures v_r0_hampers v_r0_done0 v_r0_thrown v_r0_refusals v_r0_letters v_r0_letterMany v_r0_at v_r0_isBad v_r0_statements v_r0_placeIn v_r0_letterOf v_r0_told v_r0_kept v_r0_imaged v_r0_hasImage v_r0_place0 v_r0_isTaking v_r0_keptIn v_r0_turns0 v_r0_turnOf v_r0_turned v_r0_row v_r0_rowMany v_r0_seed : Value) (r0_days : Int32) (r0_left0 : Nat → Int32) (r0_leftThen : Nat → Int32) (r0_likely0 : Nat → Int32) (r0_order0 : Nat → Int32) (r0_wants0 : Nat → Int32) (x1 : Int32) (o : Int32 × (Nat → Int32)) (hr : F_M_doneBy r0_days r0_left0 r0_leftThen r0_likely0 r0_order0 r0_wants0 x1 = some o) : ctI l y_M_doneBy (Cond.code y_M_doneBy b_M_doneBy 7 (some FieldType.int)) (rmd 1) D (kTy cI cS) [.ref a_r0, .int x1] (w_M_doneBy cI a_r0 a_r0_left0 a_r0_leftThen a_r0_likely0 a_r0_order0 a_r0_wants0 v_r0_weights v_r0_things v_r0_kinds v_r0_figures v_r0_hampers v_r0_done0 v_r0_thrown v_r0_refusals v_r0_letters v_r0_letterMany v_r0_at v_r0_isBad v_r0_statements v_r0_placeIn v_r0_letterOf v_r0_told v_r0_kept v_r0_imaged v_r0_hasImage v_r0_place0 v_r0_isTaking v_r0_keptIn v_r0_turns0 v_r0_turnOf v_r0_turned v_r0_row v_r0_rowMany v_r0_seed r0_days r0_left0 r0_leftThen r0_likely0 r0_order0 r0_wants0) (w_M_doneBy cI a_r0 a_r0_left0 a_r0_leftThen a_r0_likely0 a_r0_order0 a_r0_wants0 v_r0_weights v_r0_things v_r0_kinds v_r0_figures v_r0_hampers v_r0_done0 v_r0_thrown v_r0_refusals v_r0_letters v_r0_letterMany v_r0_at v_r0_isBad v_r0_statements v_r0_placeIn v_r0_letterOf v_r0_told v_r0_kept v_r0_imaged v_r0_hasImage v_r0_place0 v_r0_isTaking v_r0_keptIn v_r0_turns0 v_r0_turnOf v_r0_turned v_r0_row v_r0_rowMany v_r0_seed r0_days r0_left0 o.2 r0_likely0 r0_order0 r0_wants0) o.1 := by
  unfold F_M_doneBy at hr
  refine ⟨rfl, fun sz => ct_of (w0 := (w_M_doneBy cI a_r0 a_r0_left0 a_r0_leftThen a_r0_likely0 a_r0_order0 a_r0_wants0 v_r0_weights v_r0_things v_r0_kinds v_r0_figures v_r0_hampers v_r0_done0 v_r0_thrown v_r0_refusals v_r0_letters v_r0_letterMany v_r0_at v_r0_isBad v_r0_statements v_r0_placeIn v_r0_letterOf v_r0_told v_r0_kept v_r0_imaged v_r0_hasImage v_r0_place0 v_r0_isTaking v_r0_keptIn v_r0_turns0 v_r0_turnOf v_r0_turned v_r0_row v_r0_rowMany v_r0_seed r0_days r0_left0 r0_leftThen r0_likely0 r0_order0 r0_wants0)) (Qc := fun A => qI D (w_M_doneBy cI a_r0 a_r0_left0 a_r0_leftThen a_r0_likely0 a_r0_order0 a_r0_wants0 v_r0_weights v_r0_things v_r0_kinds v_r0_figures v_r0_hampers v_r0_done0 v_r0_thrown v_r0_refusals v_r0_letters v_r0_letterMany v_r0_at v_r0_isBad v_r0_statements v_r0_placeIn v_r0_letterOf v_r0_told v_r0_kept v_r0_imaged v_r0_hasImage v_r0_place0 v_r0_isTaking v_r0_keptIn v_r0_turns0 v_r0_turnOf v_r0_turned v_r0_row v_r0_rowMany v_r0_seed r0_days r0_left0 o.2 r0_likely0 r0_order0 r0_wants0) o.1 A) rfl (Nat.le_of_ble_eq_true rfl) ?_ sz⟩
  intro p e s m below meth c A hA C hret ls hl hW
  have C : cx p s m ([.ref a_r0, .int x1] : List Value).toArray meth c b_M_doneBy 7 R_M D (kTy cI cS) (Cond.code y_M_doneBy b_M_doneBy 7 (some FieldType.int)) := C
  obtain ⟨hx, hb, hml, hown, hts, hK, hlk, hN⟩ := id C
  have hl : lv_has ls 7 [(0, .ref a_r0), (1, .int x1)] := hl
  obtain ⟨Q, hQ⟩ : ∃ Q, Q = MQ below (qI D (w_M_doneBy cI a_r0 a_r0_left0 a_r0_leftThen a_r0_likely0 a_r0_order0 a_r0_wants0 v_r0_weights v_r0_things v_r0_kinds v_r0_figures v_r0_hampers v_r0_done0 v_r0_thrown v_r0_refusals v_r0_letters v_r0_letterMany v_r0_at v_r0_isBad v_r0_statements v_r0_placeIn v_r0_letterOf v_r0_told v_r0_kept v_r0_imaged v_r0_hasImage v_r0_place0 v_r0_isTaking v_r0_keptIn v_r0_turns0 v_r0_turnOf v_r0_turned v_r0_row v_r0_rowMany v_r0_seed r0_days r0_left0 o.2 r0_likely0 r0_order0 r0_wants0) o.1 A) ([.ref a_r0, .int x1] : List Value).toArray s 0 0 A := ⟨_, rfl⟩
  rw [← hQ]
  refine lv_iconst (v := 0) hx hb d_M_doneBy_0 (by decide) ?_
  refine lv_istore_n (lv' := [(2, .int 0), (0, .ref a_r0), (1, .int x1)]) hx hb d_M_doneBy_1 rfl hl (by decide) rfl (fun ls hl => ?_)
  obtain ⟨ex_1, hw_1, hk_1⟩ := ob hr
  have hx_1 : ∀ (e_1 : (Nat → Int32)), e_1 = ex_1 → ∀ (H : Heap) (locs : List Loc) (ls : Array Slot), wd A s.heap D (w_M_doneBy cI a_r0 a_r0_left0 a_r0_leftThen a_r0_likely0 a_r0_order0 a_r0_wants0 v_r0_weights v_r0_things v_r0_kinds v_r0_figures v_r0_hampers v_r0_done0 v_r0_thrown v_r0_refusals v_r0_letters v_r0_letterMany v_r0_at v_r0_isBad v_r0_statements v_r0_placeIn v_r0_letterOf v_r0_told v_r0_kept v_r0_imaged v_r0_hasImage v_r0_place0 v_r0_isTaking v_r0_keptIn v_r0_turns0 v_r0_turnOf v_r0_turned v_r0_row v_r0_rowMany v_r0_seed r0_days r0_left0 e_1 r0_likely0 r0_order0 r0_wants0) H locs → lv_has ls 7 [(0, .ref a_r0), (1, .int x1)] → W p l e (rmd 1) s m ([.ref a_r0, .int x1] : List Value).toArray below meth c H locs 0 0 Q (F0 m 25 ls []) := by
    intro e_1 hE H locs ls hW hl
    subst hE; have hr := hk_1
    refine lv_iconst (v := 0) hx hb d_M_doneBy_25 (by decide) ?_
    refine lv_istore_n (lv' := [(2, .int 0), (0, .ref a_r0), (1, .int x1)]) hx hb d_M_doneBy_26 rfl hl (by decide) rfl (fun ls hl => ?_)
    refine lv_iconst (v := 0) hx hb d_M_doneBy_27 (by decide) ?_
    refine lv_istore_n (lv' := [(3, .int 0), (2, .int 0), (0, .ref a_r0), (1, .int x1)]) hx hb d_M_doneBy_28 rfl hl (by decide) rfl (fun ls hl => ?_)
    obtain ⟨ex_5, hw_5, hk_5⟩ := ob hr
    have hx_5 : ∀ (e_5 : (Int32) × (Nat → Int32)), e_5 = ex_5 → ∀ (H : Heap) (locs : List Loc) (ls : Array Slot), wd A s.heap D (w_M_doneBy cI a_r0 a_r0_left0 a_r0_leftThen a_r0_likely0 a_r0_order0 a_r0_wants0 v_r0_weights v_r0_things v_r0_kinds v_r0_figures v_r0_hampers v_r0_done0 v_r0_thrown v_r0_refusals v_r0_letters v_r0_letterMany v_r0_at v_r0_isBad v_r0_statements v_r0_placeIn v_r0_letterOf v_r0_told v_r0_kept v_r0_imaged v_r0_hasImage v_r0_place0 v_r0_isTaking v_r0_keptIn v_r0_turns0 v_r0_turnOf v_r0_turned v_r0_row v_r0_rowMany v_r0_seed r0_days r0_left0 e_5.2 r0_likely0 r0_order0 r0_wants0) H locs → lv_has ls 7 [(2, .int e_5.1)] → W p l e (rmd 1) s m ([.ref a_r0, .int x1] : List Value).toArray below meth c H locs 0 0 Q (F0 m 137 ls []) := by
      intro e_5 hE H locs ls hW hl
      subst hE; have hr := hk_5
      refine lv_iload_n hx hb d_M_doneBy_137 rfl (lv_at hl 0 rfl) ?_
      obtain rfl := Option.some.inj hr
      rw [hQ]; exact k_iret C hret hW d_M_doneBy_138
    have hl_5 : ∀ (k : Nat) (y2_5 : Int32) (y3_5 : Int32) (r0_leftThen_5 : Nat → Int32), wh (fun (s : (Int32) × (Int32) × (Nat → Int32)) => F_M_doneBy_L29 r0_days r0_likely0 r0_order0 r0_wants0 x1 s.1 s.2.1 s.2.2) k (y2_5, y3_5, r0_leftThen_5) = some ex_5 → ∀ (H : Heap) (locs : List Loc) (ls : Array Slot), wd A s.heap D (w_M_doneBy cI a_r0 a_r0_left0 a_r0_leftThen a_r0_likely0 a_r0_order0 a_r0_wants0 v_r0_weights v_r0_things v_r0_kinds v_r0_figures v_r0_hampers v_r0_done0 v_r0_thrown v_r0_refusals v_r0_letters v_r0_letterMany v_r0_at v_r0_isBad v_r0_statements v_r0_placeIn v_r0_letterOf v_r0_told v_r0_kept v_r0_imaged v_r0_hasImage v_r0_place0 v_r0_isTaking v_r0_keptIn v_r0_turns0 v_r0_turnOf v_r0_turned v_r0_row v_r0_rowMany v_r0_seed r0_days r0_left0 r0_leftThen_5 r0_likely0 r0_order0 r0_wants0) H locs → lv_has ls 7 [(0, .ref a_r0), (1, .int x1), (2, .int y2_5), (3, .int y3_5)] → W p l e (rmd 1) s m ([.ref a_r0, .int x1] : List Value).toArray below meth c H locs 0 0 Q (F0 m 29 ls []) := by
      intro k
      induction k with
      | zero => intro y2_5 y3_5 r0_leftThen_5 hw; exact absurd hw wh_0
      | succ k ih_5 =>
        intro y2_5 y3_5 r0_leftThen_5 hw H locs ls hW hl
        obtain ⟨z_5, hr, hz1_5, hz2_5⟩ := wh_s hw
        have hr : F_M_doneBy_L29 r0_days r0_likely0 r0_order0 r0_wants0 x1 y2_5 y3_5 r0_leftThen_5 = some z_5 := hr
        unfold F_M_doneBy_L29 at hr
        refine lv_iload_n hx hb d_M_doneBy_29 rfl (lv_at hl 3 rfl) ?_
        refine lv_aload_n hx hb d_M_doneBy_30 rfl (lv_at hl 0 rfl) ?_
        refine k_get i_M C hW 0 rfl rfl 4 (by decide) qf_M_78 rfl rfl d_M_doneBy_31 ?_
        refine lv_icmp_ge (tgt := 137) hx hb d_M_doneBy_34 (by decide) (fun c_6 => ?_) (fun c_6 => ?_)
        · replace hr := ip c_6 hr
          exact hx_5 _ (hz2_5 _ (Option.some.inj hr).symm) _ _ _ hW (lv_sub hl [2] rfl)
        · replace hr := iN c_6 hr
          refine lv_iload_n hx hb d_M_doneBy_37 rfl (lv_at hl 3 rfl) ?_
          refine lv_iload_n hx hb d_M_doneBy_38 rfl (lv_at hl 1 rfl) ?_
          refine lv_icmp_ge (tgt := 137) hx hb d_M_doneBy_39 (by decide) (fun c_7 => ?_) (fun c_7 => ?_)
          · replace hr := ip c_7 hr
            exact hx_5 _ (hz2_5 _ (Option.some.inj hr).symm) _ _ _ hW (lv_sub hl [2] rfl)
          · replace hr := iN c_7 hr
            refine lv_aload_n hx hb d_M_doneBy_42 rfl (lv_at hl 0 rfl) ?_
            refine k_get i_M C hW 0 rfl rfl 29 (by decide) qf_M_58 rfl rfl d_M_doneBy_43 ?_
            refine lv_aload_n hx hb d_M_doneBy_46 rfl (lv_at hl 0 rfl) ?_
            refine k_get i_M C hW 0 rfl rfl 28 (by decide) qf_M_55 rfl rfl d_M_doneBy_47 ?_
            refine lv_iload_n hx hb d_M_doneBy_50 rfl (lv_at hl 3 rfl) ?_
            obtain ⟨h_8, hr⟩ := ck_some hr
            refine k_iald C hW 4 rfl h_8 d_M_doneBy_51 ?_
            obtain ⟨h_9, hr⟩ := ck_some hr
            refine k_iald C hW 3 rfl h_9 d_M_doneBy_52 ?_
            refine lv_istore (lv' := [(4, .int (r0_likely0 (Int32.toNatClampNeg (r0_order0 (Int32.toNatClampNeg y3_5))))), (0, .ref a_r0), (1, .int x1), (2, .int y2_5), (3, .int y3_5)]) hx hb d_M_doneBy_53 hl (by decide) rfl (fun ls hl => ?_)
            refine lv_bipush (v := (-9)) hx hb d_M_doneBy_55 (by decide) ?_
            refine lv_istore (lv' := [(5, .int (-9)), (4, .int (r0_likely0 (Int32.toNatClampNeg (r0_order0 (Int32.toNatClampNeg y3_5))))), (0, .ref a_r0), (1, .int x1), (2, .int y2_5), (3, .int y3_5)]) hx hb d_M_doneBy_57 hl (by decide) rfl (fun ls hl => ?_)
            refine lv_iconst (v := 3) hx hb d_M_doneBy_59 (by decide) ?_
            refine lv_istore (lv' := [(6, .int 3), (5, .int (-9)), (4, .int (r0_likely0 (Int32.toNatClampNeg (r0_order0 (Int32.toNatClampNeg y3_5))))), (0, .ref a_r0), (1, .int x1), (2, .int y2_5), (3, .int y3_5)]) hx hb d_M_doneBy_60 hl (by decide) rfl (fun ls hl => ?_)
            obtain ⟨ex_10, hw_10, hk_10⟩ := ob hr
            have hx_10 : ∀ (e_10 : (Int32)), e_10 = ex_10 → ∀ (H : Heap) (locs : List Loc) (ls : Array Slot), wd A s.heap D (w_M_doneBy cI a_r0 a_r0_left0 a_r0_leftThen a_r0_likely0 a_r0_order0 a_r0_wants0 v_r0_weights v_r0_things v_r0_kinds v_r0_figures v_r0_hampers v_r0_done0 v_r0_thrown v_r0_refusals v_r0_letters v_r0_letterMany v_r0_at v_r0_isBad v_r0_statements v_r0_placeIn v_r0_letterOf v_r0_told v_r0_kept v_r0_imaged v_r0_hasImage v_r0_place0 v_r0_isTaking v_r0_keptIn v_r0_turns0 v_r0_turnOf v_r0_turned v_r0_row v_r0_rowMany v_r0_seed r0_days r0_left0 r0_leftThen_5 r0_likely0 r0_order0 r0_wants0) H locs → lv_has ls 7 [(0, .ref a_r0), (1, .int x1), (2, .int y2_5), (3, .int y3_5), (5, .int e_10)] → W p l e (rmd 1) s m ([.ref a_r0, .int x1] : List Value).toArray below meth c H locs 0 0 Q (F0 m 112 ls []) := by
              intro e_10 hE H locs ls hW hl
              subst hE; have hr := hk_10
              refine lv_iload hx hb d_M_doneBy_112 (lv_at hl 4 rfl) ?_
              refine lv_if_lt (tgt := 131) hx hb d_M_doneBy_114 (by decide) (fun c_18 => ?_) (fun c_18 => ?_)
              · replace hr := ip c_18 hr
                refine lv_iinc (v := (y3_5 + 1)) (lv' := [(3, .int (y3_5 + 1)), (0, .ref a_r0), (1, .int x1), (2, .int y2_5), (5, .int e_10)]) hx hb d_M_doneBy_131 hl (k := 3) rfl rfl (by decide) rfl (fun ls hl => ?_)
                refine lv_goto (tgt := 29) hx hb d_M_doneBy_134 (by decide) ?_
                exact ih_5 y2_5 (y3_5 + 1) r0_leftThen_5 (hz1_5 _ (Option.some.inj hr).symm) _ _ _ hW (lv_sub hl [1, 2, 3, 0] rfl)
              · replace hr := iN c_18 hr
                refine lv_aload_n hx hb d_M_doneBy_117 rfl (lv_at hl 0 rfl) ?_
                refine k_get i_M C hW 0 rfl rfl 30 (by decide) qf_M_61 rfl rfl d_M_doneBy_118 ?_
                refine lv_iload hx hb d_M_doneBy_121 (lv_at hl 4 rfl) ?_
                refine lv_dup2_11 hx hb d_M_doneBy_123 rfl rfl ?_
                obtain ⟨h_19, hr⟩ := ck_some hr
                refine k_iald C hW 2 rfl h_19 d_M_doneBy_124 ?_
                refine lv_iconst (v := 1) hx hb d_M_doneBy_125 (by decide) ?_
                refine lv_isub hx hb d_M_doneBy_126 ?_
                obtain ⟨h_20, hr⟩ := ck_some hr
                refine k_iast C hW 2 rfl h_20 (ws' := (w_M_doneBy cI a_r0 a_r0_left0 a_r0_leftThen a_r0_likely0 a_r0_order0 a_r0_wants0 v_r0_weights v_r0_things v_r0_kinds v_r0_figures v_r0_hampers v_r0_done0 v_r0_thrown v_r0_refusals v_r0_letters v_r0_letterMany v_r0_at v_r0_isBad v_r0_statements v_r0_placeIn v_r0_letterOf v_r0_told v_r0_kept v_r0_imaged v_r0_hasImage v_r0_place0 v_r0_isTaking v_r0_keptIn v_r0_turns0 v_r0_turnOf v_r0_turned v_r0_row v_r0_rowMany v_r0_seed r0_days r0_left0 (upd r0_leftThen_5 (Int32.toNatClampNeg e_10) ((r0_leftThen_5 (Int32.toNatClampNeg e_10)) - 1)) r0_likely0 r0_order0 r0_wants0)) rfl d_M_doneBy_127 (fun H locs hW => ?_)
                refine lv_iinc (v := (y2_5 + 1)) (lv' := [(2, .int (y2_5 + 1)), (0, .ref a_r0), (1, .int x1), (3, .int y3_5), (5, .int e_10)]) hx hb d_M_doneBy_128 hl (k := 2) rfl rfl (by decide) rfl (fun ls hl => ?_)
                refine lv_iinc (v := (y3_5 + 1)) (lv' := [(3, .int (y3_5 + 1)), (2, .int (y2_5 + 1)), (0, .ref a_r0), (1, .int x1), (5, .int e_10)]) hx hb d_M_doneBy_131 hl (k := 3) rfl rfl (by decide) rfl (fun ls hl => ?_)
                refine lv_goto (tgt := 29) hx hb d_M_doneBy_134 (by decide) ?_
                exact ih_5 (y2_5 + 1) (y3_5 + 1) (upd r0_leftThen_5 (Int32.toNatClampNeg e_10) ((r0_leftThen_5 (Int32.toNatClampNeg e_10)) - 1)) (hz1_5 _ (Option.some.inj hr).symm) _ _ _ hW (lv_sub hl [2, 3, 1, 0] rfl)
            have hl_10 : ∀ (k : Nat) (y5_10 : Int32) (y6_10 : Int32), wh (fun (s : (Int32) × (Int32)) => F_M_doneBy_L62 r0_likely0 r0_order0 r0_wants0 r0_leftThen_5 y3_5 s.1 s.2) k (y5_10, y6_10) = some ex_10 → ∀ (H : Heap) (locs : List Loc) (ls : Array Slot), wd A s.heap D (w_M_doneBy cI a_r0 a_r0_left0 a_r0_leftThen a_r0_likely0 a_r0_order0 a_r0_wants0 v_r0_weights v_r0_things v_r0_kinds v_r0_figures v_r0_hampers v_r0_done0 v_r0_thrown v_r0_refusals v_r0_letters v_r0_letterMany v_r0_at v_r0_isBad v_r0_statements v_r0_placeIn v_r0_letterOf v_r0_told v_r0_kept v_r0_imaged v_r0_hasImage v_r0_place0 v_r0_isTaking v_r0_keptIn v_r0_turns0 v_r0_turnOf v_r0_turned v_r0_row v_r0_rowMany v_r0_seed r0_days r0_left0 r0_leftThen_5 r0_likely0 r0_order0 r0_wants0) H locs → lv_has ls 7 [(4, .int (r0_likely0 (Int32.toNatClampNeg (r0_order0 (Int32.toNatClampNeg y3_5))))), (0, .ref a_r0), (1, .int x1), (2, .int y2_5), (3, .int y3_5), (5, .int y5_10), (6, .int y6_10)] → W p l e (rmd 1) s m ([.ref a_r0, .int x1] : List Value).toArray below meth c H locs 0 0 Q (F0 m 62 ls []) := by
              intro k
              induction k with
              | zero => intro y5_10 y6_10 hw; exact absurd hw wh_0
              | succ k ih_10 =>
                intro y5_10 y6_10 hw H locs ls hW hl
                obtain ⟨z_10, hr, hz1_10, hz2_10⟩ := wh_s hw
                have hr : F_M_doneBy_L62 r0_likely0 r0_order0 r0_wants0 r0_leftThen_5 y3_5 y5_10 y6_10 = some z_10 := hr
                unfold F_M_doneBy_L62 at hr
                refine lv_iload hx hb d_M_doneBy_62 (lv_at hl 6 rfl) ?_
                refine lv_if_lt (tgt := 112) hx hb d_M_doneBy_64 (by decide) (fun c_11 => ?_) (fun c_11 => ?_)
                · replace hr := ip c_11 hr
                  exact hx_10 _ (hz2_10 _ (Option.some.inj hr).symm) _ _ _ hW (lv_sub hl [1, 2, 3, 4, 5] rfl)
                · replace hr := iN c_11 hr
                  refine lv_iload hx hb d_M_doneBy_67 (lv_at hl 0 rfl) ?_
                  refine lv_if_lt (tgt := 112) hx hb d_M_doneBy_69 (by decide) (fun c_12 => ?_) (fun c_12 => ?_)
                  · replace hr := ip c_12 hr
                    exact hx_10 _ (hz2_10 _ (Option.some.inj hr).symm) _ _ _ hW (lv_sub hl [1, 2, 3, 4, 5] rfl)
                  · replace hr := iN c_12 hr
                    refine lv_aload_n hx hb d_M_doneBy_72 rfl (lv_at hl 1 rfl) ?_
                    refine k_get i_M C hW 0 rfl rfl 30 (by decide) qf_M_61 rfl rfl d_M_doneBy_73 ?_
                    refine lv_iload hx hb d_M_doneBy_76 (lv_at hl 6 rfl) ?_
                    obtain ⟨h_13, hr⟩ := ck_some hr
                    refine k_iald C hW 2 rfl h_13 d_M_doneBy_78 ?_
                    refine lv_if_le (tgt := 102) hx hb d_M_doneBy_79 (by decide) (fun c_14 => ?_) (fun c_14 => ?_)
                    · replace hr := ip c_14 hr
                      refine lv_iload hx hb d_M_doneBy_102 (lv_at hl 5 rfl) ?_
                      refine lv_istore (lv' := [(5, .int y5_10), (4, .int (r0_likely0 (Int32.toNatClampNeg (r0_order0 (Int32.toNatClampNeg y3_5))))), (0, .ref a_r0), (1, .int x1), (2, .int y2_5), (3, .int y3_5), (6, .int y6_10)]) hx hb d_M_doneBy_104 hl (by decide) rfl (fun ls hl => ?_)
                      refine lv_iinc (v := (y6_10 + (-1))) (lv' := [(6, .int (y6_10 + (-1))), (5, .int y5_10), (4, .int (r0_likely0 (Int32.toNatClampNeg (r0_order0 (Int32.toNatClampNeg y3_5))))), (0, .ref a_r0), (1, .int x1), (2, .int y2_5), (3, .int y3_5)]) hx hb d_M_doneBy_106 hl (k := 6) rfl rfl (by decide) rfl (fun ls hl => ?_)
                      refine lv_goto (tgt := 62) hx hb d_M_doneBy_109 (by decide) ?_
                      exact ih_10 y5_10 (y6_10 + (-1)) (hz1_10 _ (Option.some.inj hr).symm) _ _ _ hW (lv_sub hl [2, 3, 4, 5, 6, 1, 0] rfl)
                    · replace hr := iN c_14 hr
                      refine lv_aload_n hx hb d_M_doneBy_82 rfl (lv_at hl 1 rfl) ?_
                      refine k_get i_M C hW 0 rfl rfl 6 (by decide) qf_M_22 rfl rfl d_M_doneBy_83 ?_
                      refine lv_iload hx hb d_M_doneBy_86 (lv_at hl 6 rfl) ?_
                      obtain ⟨h_15, hr⟩ := ck_some hr
                      refine k_iald C hW 5 rfl h_15 d_M_doneBy_88 ?_
                      refine lv_iload hx hb d_M_doneBy_89 (lv_at hl 0 rfl) ?_
                      obtain ⟨q_16, hc_16, hr⟩ := ob hr
                      have ct_16 := C_M_hasBit l D cI cS (r0_wants0 (Int32.toNatClampNeg y6_10)) (r0_likely0 (Int32.toNatClampNeg (r0_order0 (Int32.toNatClampNeg y3_5)))) q_16 hc_16
                      refine k_goIp hA hW [] rfl rfl (k_runS C hA hW mw_M_hasBit ms_M_hasBit (ct_16.2 _) [] rfl rfl qm_M_85 ⟨Nat.le_of_ble_eq_true rfl, Nat.le_of_ble_eq_true rfl, Nat.zero_le _, Nat.zero_le _⟩ rfl rfl (Nat.le_of_ble_eq_true rfl) hl.1 d_M_doneBy_91) (fun H locs hW => ?_)
                      refine lv_if_eq (tgt := 102) hx hb d_M_doneBy_94 (by decide) (fun c_17 => ?_) (fun c_17 => ?_)
                      · replace hr := ip c_17 hr
                        refine lv_iload hx hb d_M_doneBy_102 (lv_at hl 5 rfl) ?_
                        refine lv_istore (lv' := [(5, .int y5_10), (4, .int (r0_likely0 (Int32.toNatClampNeg (r0_order0 (Int32.toNatClampNeg y3_5))))), (0, .ref a_r0), (1, .int x1), (2, .int y2_5), (3, .int y3_5), (6, .int y6_10)]) hx hb d_M_doneBy_104 hl (by decide) rfl (fun ls hl => ?_)
                        refine lv_iinc (v := (y6_10 + (-1))) (lv' := [(6, .int (y6_10 + (-1))), (5, .int y5_10), (4, .int (r0_likely0 (Int32.toNatClampNeg (r0_order0 (Int32.toNatClampNeg y3_5))))), (0, .ref a_r0), (1, .int x1), (2, .int y2_5), (3, .int y3_5)]) hx hb d_M_doneBy_106 hl (k := 6) rfl rfl (by decide) rfl (fun ls hl => ?_)
                        refine lv_goto (tgt := 62) hx hb d_M_doneBy_109 (by decide) ?_
                        exact ih_10 y5_10 (y6_10 + (-1)) (hz1_10 _ (Option.some.inj hr).symm) _ _ _ hW (lv_sub hl [2, 3, 4, 5, 6, 1, 0] rfl)
                      · replace hr := iN c_17 hr
                        refine lv_iload hx hb d_M_doneBy_97 (lv_at hl 6 rfl) ?_
                        refine lv_goto (tgt := 104) hx hb d_M_doneBy_99 (by decide) ?_
                        refine lv_istore (lv' := [(5, .int y6_10), (4, .int (r0_likely0 (Int32.toNatClampNeg (r0_order0 (Int32.toNatClampNeg y3_5))))), (0, .ref a_r0), (1, .int x1), (2, .int y2_5), (3, .int y3_5), (6, .int y6_10)]) hx hb d_M_doneBy_104 hl (by decide) rfl (fun ls hl => ?_)
                        refine lv_iinc (v := (y6_10 + (-1))) (lv' := [(6, .int (y6_10 + (-1))), (5, .int y6_10), (4, .int (r0_likely0 (Int32.toNatClampNeg (r0_order0 (Int32.toNatClampNeg y3_5))))), (0, .ref a_r0), (1, .int x1), (2, .int y2_5), (3, .int y3_5)]) hx hb d_M_doneBy_106 hl (k := 6) rfl rfl (by decide) rfl (fun ls hl => ?_)
                        refine lv_goto (tgt := 62) hx hb d_M_doneBy_109 (by decide) ?_
                        exact ih_10 y6_10 (y6_10 + (-1)) (hz1_10 _ (Option.some.inj hr).symm) _ _ _ hW (lv_sub hl [2, 3, 4, 5, 6, 1, 0] rfl)
            exact hl_10 _ (-9) 3 hw_10 _ _ _ hW (lv_sub hl [2, 3, 4, 5, 6, 1, 0] rfl)
    exact hl_5 _ 0 0 e_1 hw_5 _ _ _ hW (lv_sub hl [2, 3, 1, 0] rfl)
  have hl_1 : ∀ (k : Nat) (y2_1 : Int32) (r0_leftThen_1 : Nat → Int32), wh (fun (s : (Int32) × (Nat → Int32)) => F_M_doneBy_L2 r0_left0 s.1 s.2) k (y2_1, r0_leftThen_1) = some ex_1 → ∀ (H : Heap) (locs : List Loc) (ls : Array Slot), wd A s.heap D (w_M_doneBy cI a_r0 a_r0_left0 a_r0_leftThen a_r0_likely0 a_r0_order0 a_r0_wants0 v_r0_weights v_r0_things v_r0_kinds v_r0_figures v_r0_hampers v_r0_done0 v_r0_thrown v_r0_refusals v_r0_letters v_r0_letterMany v_r0_at v_r0_isBad v_r0_statements v_r0_placeIn v_r0_letterOf v_r0_told v_r0_kept v_r0_imaged v_r0_hasImage v_r0_place0 v_r0_isTaking v_r0_keptIn v_r0_turns0 v_r0_turnOf v_r0_turned v_r0_row v_r0_rowMany v_r0_seed r0_days r0_left0 r0_leftThen_1 r0_likely0 r0_order0 r0_wants0) H locs → lv_has ls 7 [(0, .ref a_r0), (1, .int x1), (2, .int y2_1)] → W p l e (rmd 1) s m ([.ref a_r0, .int x1] : List Value).toArray below meth c H locs 0 0 Q (F0 m 2 ls []) := by
    intro k
    induction k with
    | zero => intro y2_1 r0_leftThen_1 hw; exact absurd hw wh_0
    | succ k ih_1 =>
      intro y2_1 r0_leftThen_1 hw H locs ls hW hl
      obtain ⟨z_1, hr, hz1_1, hz2_1⟩ := wh_s hw
      have hr : F_M_doneBy_L2 r0_left0 y2_1 r0_leftThen_1 = some z_1 := hr
      unfold F_M_doneBy_L2 at hr
      refine lv_iload_n hx hb d_M_doneBy_2 rfl (lv_at hl 2 rfl) ?_
      refine lv_iconst (v := 4) hx hb d_M_doneBy_3 (by decide) ?_
      refine lv_icmp_ge (tgt := 25) hx hb d_M_doneBy_4 (by decide) (fun c_2 => ?_) (fun c_2 => ?_)
      · replace hr := ip c_2 hr
        exact hx_1 _ (hz2_1 _ (Option.some.inj hr).symm) _ _ _ hW (lv_sub hl [0, 1] rfl)
      · replace hr := iN c_2 hr
        refine lv_aload_n hx hb d_M_doneBy_7 rfl (lv_at hl 0 rfl) ?_
        refine k_get i_M C hW 0 rfl rfl 30 (by decide) qf_M_61 rfl rfl d_M_doneBy_8 ?_
        refine lv_iload_n hx hb d_M_doneBy_11 rfl (lv_at hl 2 rfl) ?_
        refine lv_aload_n hx hb d_M_doneBy_12 rfl (lv_at hl 0 rfl) ?_
        refine k_get i_M C hW 0 rfl rfl 7 (by decide) qf_M_25 rfl rfl d_M_doneBy_13 ?_
        refine lv_iload_n hx hb d_M_doneBy_16 rfl (lv_at hl 2 rfl) ?_
        obtain ⟨h_3, hr⟩ := ck_some hr
        refine k_iald C hW 1 rfl h_3 d_M_doneBy_17 ?_
        obtain ⟨h_4, hr⟩ := ck_some hr
        refine k_iast C hW 2 rfl h_4 (ws' := (w_M_doneBy cI a_r0 a_r0_left0 a_r0_leftThen a_r0_likely0 a_r0_order0 a_r0_wants0 v_r0_weights v_r0_things v_r0_kinds v_r0_figures v_r0_hampers v_r0_done0 v_r0_thrown v_r0_refusals v_r0_letters v_r0_letterMany v_r0_at v_r0_isBad v_r0_statements v_r0_placeIn v_r0_letterOf v_r0_told v_r0_kept v_r0_imaged v_r0_hasImage v_r0_place0 v_r0_isTaking v_r0_keptIn v_r0_turns0 v_r0_turnOf v_r0_turned v_r0_row v_r0_rowMany v_r0_seed r0_days r0_left0 (upd r0_leftThen_1 (Int32.toNatClampNeg y2_1) (r0_left0 (Int32.toNatClampNeg y2_1))) r0_likely0 r0_order0 r0_wants0)) rfl d_M_doneBy_18 (fun H locs hW => ?_)
        refine lv_iinc (v := (y2_1 + 1)) (lv' := [(2, .int (y2_1 + 1)), (0, .ref a_r0), (1, .int x1)]) hx hb d_M_doneBy_19 hl (k := 2) rfl rfl (by decide) rfl (fun ls hl => ?_)
        refine lv_goto (tgt := 2) hx hb d_M_doneBy_22 (by decide) ?_
        exact ih_1 (y2_1 + 1) (upd r0_leftThen_1 (Int32.toNatClampNeg y2_1) (r0_left0 (Int32.toNatClampNeg y2_1))) (hz1_1 _ (Option.some.inj hr).symm) _ _ _ hW (lv_sub hl [1, 2, 0] rfl)
  exact hl_1 _ 0 r0_leftThen hw_1 _ _ _ hW (lv_sub hl [1, 2, 0] rfl)
def w_M_drawBelow (cI : ClassId) (a_r0 : Nat) (v_r0_weights v_r0_things v_r0_kinds v_r0_figures v_r0_days v_r0_hampers v_r0_wants0 v_r0_left0 v_r0_done0 v_r0_thrown v_r0_refusals v_r0_letters v_r0_letterMany v_r0_at v_r0_isBad v_r0_statements v_r0_placeIn v_r0_letterOf v_r0_told v_r0_kept v_r0_imaged v_r0_hasImage v_r0_place0 v_r0_isTaking v_r0_keptIn v_r0_turns0 v_r0_turnOf v_r0_turned v_r0_order0 v_r0_likely0 v_r0_leftThen v_r0_row v_r0_rowMany : Value) (r0_seed : Int32) : va_W := [(a_r0, .inr (9, [v_r0_weights, v_r0_things, v_r0_kinds, v_r0_figures, v_r0_days, v_r0_hampers, v_r0_wants0, v_r0_left0, v_r0_done0, v_r0_thrown, v_r0_refusals, v_r0_letters, v_r0_letterMany, v_r0_at, v_r0_isBad, v_r0_statements, v_r0_placeIn, v_r0_letterOf, v_r0_told, v_r0_kept, v_r0_imaged, v_r0_hasImage, v_r0_place0, v_r0_isTaking, v_r0_keptIn, v_r0_turns0, v_r0_turnOf, v_r0_turned, v_r0_order0, v_r0_likely0, v_r0_leftThen, v_r0_row, v_r0_rowMany, .int r0_seed]))]
def F_M_drawBelow (r0_seed : Int32) (x1 : Int32) : Option (Int32 × (Int32)) :=
  (ck0 x1 (some ((((((r0_seed * (1103515245 : Int32)) + 12345) &&& (2147483647 : Int32)) / ((65536 : Int32) : Int32)) - ((((r0_seed * (1103515245 : Int32)) + 12345) &&& (2147483647 : Int32)) / ((65536 : Int32) : Int32)) / x1 * x1), ((r0_seed * (1103515245 : Int32)) + 12345))))
set_option maxHeartbeats 4000000 in
set_option maxRecDepth 100000 in
theorem C_M_drawBelow (l : Launch) (D : va_G) (cI cS : ClassId) (a_r0 : Nat) (v_r0_weights v_r0_things v_r0_kinds v_r0_figures v_r0_days v_r0_hampers v_r0_wants0 v_r0_left0 v_r0_done0 v_r0_thrown v_r0_refusals v_r0_letters v_r0_letterMany v_r0_at v_r0_isBad v_r0_statements v_r0_placeIn v_r0_letterOf v_r0_told v_r0_kept v_r0_imaged v_r0_hasImage v_r0_place0 v_r0_isTaking v_r0_keptIn v_r0_turns0 v_r0_turnOf v_r0_turned v_r0_order0 v_r0_likely0 v_r0_leftThen v_r0_row v_r0_rowMany : Value) (r0_seed : Int32) (x1 : Int32) (o : Int32 × (Int32)) (hr : F_M_drawBelow r0_seed x1 = some o) : ctI l y_M_drawBelow (Cond.code y_M_drawBelow b_M_drawBelow 2 (some FieldType.int)) (rmd 0) D (kTy cI cS) [.ref a_r0, .int x1] (w_M_drawBelow cI a_r0 v_r0_weights v_r0_things v_r0_kinds v_r0_figures v_r0_days v_r0_hampers v_r0_wants0 v_r0_left0 v_r0_done0 v_r0_thrown v_r0_refusals v_r0_letters v_r0_letterMany v_r0_at v_r0_isBad v_r0_statements v_r0_placeIn v_r0_letterOf v_r0_told v_r0_kept v_r0_imaged v_r0_hasImage v_r0_place0 v_r0_isTaking v_r0_keptIn v_r0_turns0 v_r0_turnOf v_r0_turned v_r0_order0 v_r0_likely0 v_r0_leftThen v_r0_row v_r0_rowMany r0_seed) (w_M_drawBelow cI a_r0 v_r0_weights v_r0_things v_r0_kinds v_r0_figures v_r0_days v_r0_hampers v_r0_wants0 v_r0_left0 v_r0_done0 v_r0_thrown v_r0_refusals v_r0_letters v_r0_letterMany v_r0_at v_r0_isBad v_r0_statements v_r0_placeIn v_r0_letterOf v_r0_told v_r0_kept v_r0_imaged v_r0_hasImage v_r0_place0 v_r0_isTaking v_r0_keptIn v_r0_turns0 v_r0_turnOf v_r0_turned v_r0_order0 v_r0_likely0 v_r0_leftThen v_r0_row v_r0_rowMany o.2) o.1 := by
  unfold F_M_drawBelow at hr
  refine ⟨rfl, fun sz => ct_of (w0 := (w_M_drawBelow cI a_r0 v_r0_weights v_r0_things v_r0_kinds v_r0_figures v_r0_days v_r0_hampers v_r0_wants0 v_r0_left0 v_r0_done0 v_r0_thrown v_r0_refusals v_r0_letters v_r0_letterMany v_r0_at v_r0_isBad v_r0_statements v_r0_placeIn v_r0_letterOf v_r0_told v_r0_kept v_r0_imaged v_r0_hasImage v_r0_place0 v_r0_isTaking v_r0_keptIn v_r0_turns0 v_r0_turnOf v_r0_turned v_r0_order0 v_r0_likely0 v_r0_leftThen v_r0_row v_r0_rowMany r0_seed)) (Qc := fun A => qI D (w_M_drawBelow cI a_r0 v_r0_weights v_r0_things v_r0_kinds v_r0_figures v_r0_days v_r0_hampers v_r0_wants0 v_r0_left0 v_r0_done0 v_r0_thrown v_r0_refusals v_r0_letters v_r0_letterMany v_r0_at v_r0_isBad v_r0_statements v_r0_placeIn v_r0_letterOf v_r0_told v_r0_kept v_r0_imaged v_r0_hasImage v_r0_place0 v_r0_isTaking v_r0_keptIn v_r0_turns0 v_r0_turnOf v_r0_turned v_r0_order0 v_r0_likely0 v_r0_leftThen v_r0_row v_r0_rowMany o.2) o.1 A) rfl (Nat.le_of_ble_eq_true rfl) ?_ sz⟩
  intro p e s m below meth c A hA C hret ls hl hW
  have C : cx p s m ([.ref a_r0, .int x1] : List Value).toArray meth c b_M_drawBelow 2 R_M D (kTy cI cS) (Cond.code y_M_drawBelow b_M_drawBelow 2 (some FieldType.int)) := C
  obtain ⟨hx, hb, hml, hown, hts, hK, hlk, hN⟩ := id C
  have hl : lv_has ls 2 [(0, .ref a_r0), (1, .int x1)] := hl
  obtain ⟨Q, hQ⟩ : ∃ Q, Q = MQ below (qI D (w_M_drawBelow cI a_r0 v_r0_weights v_r0_things v_r0_kinds v_r0_figures v_r0_days v_r0_hampers v_r0_wants0 v_r0_left0 v_r0_done0 v_r0_thrown v_r0_refusals v_r0_letters v_r0_letterMany v_r0_at v_r0_isBad v_r0_statements v_r0_placeIn v_r0_letterOf v_r0_told v_r0_kept v_r0_imaged v_r0_hasImage v_r0_place0 v_r0_isTaking v_r0_keptIn v_r0_turns0 v_r0_turnOf v_r0_turned v_r0_order0 v_r0_likely0 v_r0_leftThen v_r0_row v_r0_rowMany o.2) o.1 A) ([.ref a_r0, .int x1] : List Value).toArray s 0 0 A := ⟨_, rfl⟩
  rw [← hQ]
  refine lv_aload_n hx hb d_M_drawBelow_0 rfl (lv_at hl 0 rfl) ?_
  refine lv_aload_n hx hb d_M_drawBelow_1 rfl (lv_at hl 0 rfl) ?_
  refine k_get i_M C hW 0 rfl rfl 33 (by decide) qf_M_267 rfl rfl d_M_drawBelow_2 ?_
  refine lv_ldcw (v := 1103515245) hx hb hown (hts _ (List.mem_cons_of_mem _ (qc_M_270))) d_M_drawBelow_5 ?_
  refine lv_imul hx hb d_M_drawBelow_8 ?_
  refine lv_sipush (v := 12345) hx hb d_M_drawBelow_9 (by decide) ?_
  refine lv_iadd hx hb d_M_drawBelow_12 ?_
  refine k_put i_M t_M_ok n_M C hW 0 rfl rfl 33 (by decide) qf_M_267 rfl rfl (ty := .int) rfl rfl rfl (Nat.le_of_ble_eq_true rfl) (ws' := (w_M_drawBelow cI a_r0 v_r0_weights v_r0_things v_r0_kinds v_r0_figures v_r0_days v_r0_hampers v_r0_wants0 v_r0_left0 v_r0_done0 v_r0_thrown v_r0_refusals v_r0_letters v_r0_letterMany v_r0_at v_r0_isBad v_r0_statements v_r0_placeIn v_r0_letterOf v_r0_told v_r0_kept v_r0_imaged v_r0_hasImage v_r0_place0 v_r0_isTaking v_r0_keptIn v_r0_turns0 v_r0_turnOf v_r0_turned v_r0_order0 v_r0_likely0 v_r0_leftThen v_r0_row v_r0_rowMany ((r0_seed * (1103515245 : Int32)) + 12345))) rfl d_M_drawBelow_13 (fun H locs hW => ?_)
  refine lv_aload_n hx hb d_M_drawBelow_16 rfl (lv_at hl 0 rfl) ?_
  refine k_get i_M C hW 0 rfl rfl 33 (by decide) qf_M_267 rfl rfl d_M_drawBelow_17 ?_
  refine lv_ldcw (v := 2147483647) hx hb hown (hts _ (List.mem_cons_of_mem _ (qc_M_271))) d_M_drawBelow_20 ?_
  refine lv_iand hx hb d_M_drawBelow_23 ?_
  refine lv_ldcw (v := 65536) hx hb hown (hts _ (List.mem_cons_of_mem _ (qc_M_272))) d_M_drawBelow_24 ?_
  refine lv_idiv hx hb d_M_drawBelow_27 (by decide) ?_
  refine lv_iload_n hx hb d_M_drawBelow_28 rfl (lv_at hl 1 rfl) ?_
  obtain ⟨h_1, hr⟩ := ck0_some hr
  refine lv_irem hx hb d_M_drawBelow_29 h_1 ?_
  obtain rfl := Option.some.inj hr
  rw [hQ]; exact k_iret C hret hW d_M_drawBelow_30
def w_M_likelyDays (cI : ClassId) (a_r0 : Nat) (a_r0_figures : Nat) (a_r0_hampers : Nat) (a_r0_kinds : Nat) (a_r0_weights : Nat) (v_r0_wants0 v_r0_left0 v_r0_done0 v_r0_thrown v_r0_refusals v_r0_letters v_r0_letterMany v_r0_at v_r0_isBad v_r0_statements v_r0_placeIn v_r0_letterOf v_r0_told v_r0_kept v_r0_imaged v_r0_hasImage v_r0_place0 v_r0_isTaking v_r0_keptIn v_r0_turns0 v_r0_turnOf v_r0_turned v_r0_order0 v_r0_likely0 v_r0_leftThen v_r0_row v_r0_rowMany v_r0_seed : Value) (r0_days : Int32) (r0_things : Int32) (r0_figures : Nat → Int32) (r0_hampers : Nat → Int32) (r0_kinds : Nat → Int32) (r0_weights : Nat → Int32) : va_W := [(a_r0, .inr (9, [.ref a_r0_weights, .int r0_things, .ref a_r0_kinds, .ref a_r0_figures, .int r0_days, .ref a_r0_hampers, v_r0_wants0, v_r0_left0, v_r0_done0, v_r0_thrown, v_r0_refusals, v_r0_letters, v_r0_letterMany, v_r0_at, v_r0_isBad, v_r0_statements, v_r0_placeIn, v_r0_letterOf, v_r0_told, v_r0_kept, v_r0_imaged, v_r0_hasImage, v_r0_place0, v_r0_isTaking, v_r0_keptIn, v_r0_turns0, v_r0_turnOf, v_r0_turned, v_r0_order0, v_r0_likely0, v_r0_leftThen, v_r0_row, v_r0_rowMany, v_r0_seed])), (a_r0_figures, .inl (cI, 8, .inl r0_figures)), (a_r0_hampers, .inl (cI, 8, .inl r0_hampers)), (a_r0_kinds, .inl (cI, 8, .inl r0_kinds)), (a_r0_weights, .inl (cI, 6, .inl r0_weights))]
def F_M_likelyDays_L4 (r0_days : Int32) (r0_things : Int32) (r0_figures : Nat → Int32) (r0_hampers : Nat → Int32) (r0_kinds : Nat → Int32) (r0_weights : Nat → Int32) (y1_1 : Int32) (y2_1 : Int32) : Option (((Int32) × (Int32)) ⊕ ((Int32))) :=
  (if r0_days ≤ y2_1 then (some (.inr y1_1)) else ((F_M_likelyOn r0_things r0_figures r0_hampers r0_kinds r0_weights y2_1).bind (fun q_3 => (if q_3 < 0 then (some (.inl ((y1_1 + 0), (y2_1 + 1)))) else (some (.inl ((y1_1 + 1), (y2_1 + 1))))))))
def F_M_likelyDays (r0_days : Int32) (r0_things : Int32) (r0_figures : Nat → Int32) (r0_hampers : Nat → Int32) (r0_kinds : Nat → Int32) (r0_weights : Nat → Int32) : Option (Int32) :=
  ((wh (fun (s : (Int32) × (Int32)) => F_M_likelyDays_L4 r0_days r0_things r0_figures r0_hampers r0_kinds r0_weights s.1 s.2) 400 ((0 : Int32), (0 : Int32))).bind (fun e_1 => (some e_1)))
set_option maxHeartbeats 4000000 in
set_option maxRecDepth 100000 in
theorem C_M_likelyDays (l : Launch) (D : va_G) (cI cS : ClassId) (a_r0 : Nat) (a_r0_figures : Nat) (a_r0_hampers : Nat) (a_r0_kinds : Nat) (a_r0_weights : Nat) (v_r0_wants0 v_r0_left0 v_r0_done0 v_r0_thrown v_r0_refusals v_r0_letters v_r0_letterMany v_r0_at v_r0_isBad v_r0_statements v_r0_placeIn v_r0_letterOf v_r0_told v_r0_kept v_r0_imaged v_r0_hasImage v_r0_place0 v_r0_isTaking v_r0_keptIn v_r0_turns0 v_r0_turnOf v_r0_turned v_r0_order0 v_r0_likely0 v_r0_leftThen v_r0_row v_r0_rowMany v_r0_seed : Value) (r0_days : Int32) (r0_things : Int32) (r0_figures : Nat → Int32) (r0_hampers : Nat → Int32) (r0_kinds : Nat → Int32) (r0_weights : Nat → Int32) (o : Int32) (hr : F_M_likelyDays r0_days r0_things r0_figures r0_hampers r0_kinds r0_weights = some o) : ctI l y_M_likelyDays (Cond.code y_M_likelyDays b_M_likelyDays 3 (some FieldType.int)) (rmd 4) D (kTy cI cS) [.ref a_r0] (w_M_likelyDays cI a_r0 a_r0_figures a_r0_hampers a_r0_kinds a_r0_weights v_r0_wants0 v_r0_left0 v_r0_done0 v_r0_thrown v_r0_refusals v_r0_letters v_r0_letterMany v_r0_at v_r0_isBad v_r0_statements v_r0_placeIn v_r0_letterOf v_r0_told v_r0_kept v_r0_imaged v_r0_hasImage v_r0_place0 v_r0_isTaking v_r0_keptIn v_r0_turns0 v_r0_turnOf v_r0_turned v_r0_order0 v_r0_likely0 v_r0_leftThen v_r0_row v_r0_rowMany v_r0_seed r0_days r0_things r0_figures r0_hampers r0_kinds r0_weights) (w_M_likelyDays cI a_r0 a_r0_figures a_r0_hampers a_r0_kinds a_r0_weights v_r0_wants0 v_r0_left0 v_r0_done0 v_r0_thrown v_r0_refusals v_r0_letters v_r0_letterMany v_r0_at v_r0_isBad v_r0_statements v_r0_placeIn v_r0_letterOf v_r0_told v_r0_kept v_r0_imaged v_r0_hasImage v_r0_place0 v_r0_isTaking v_r0_keptIn v_r0_turns0 v_r0_turnOf v_r0_turned v_r0_order0 v_r0_likely0 v_r0_leftThen v_r0_row v_r0_rowMany v_r0_seed r0_days r0_things r0_figures r0_hampers r0_kinds r0_weights) o := by
  unfold F_M_likelyDays at hr
  refine ⟨rfl, fun sz => ct_of (w0 := (w_M_likelyDays cI a_r0 a_r0_figures a_r0_hampers a_r0_kinds a_r0_weights v_r0_wants0 v_r0_left0 v_r0_done0 v_r0_thrown v_r0_refusals v_r0_letters v_r0_letterMany v_r0_at v_r0_isBad v_r0_statements v_r0_placeIn v_r0_letterOf v_r0_told v_r0_kept v_r0_imaged v_r0_hasImage v_r0_place0 v_r0_isTaking v_r0_keptIn v_r0_turns0 v_r0_turnOf v_r0_turned v_r0_order0 v_r0_likely0 v_r0_leftThen v_r0_row v_r0_rowMany v_r0_seed r0_days r0_things r0_figures r0_hampers r0_kinds r0_weights)) (Qc := fun A => qI D (w_M_likelyDays cI a_r0 a_r0_figures a_r0_hampers a_r0_kinds a_r0_weights v_r0_wants0 v_r0_left0 v_r0_done0 v_r0_thrown v_r0_refusals v_r0_letters v_r0_letterMany v_r0_at v_r0_isBad v_r0_statements v_r0_placeIn v_r0_letterOf v_r0_told v_r0_kept v_r0_imaged v_r0_hasImage v_r0_place0 v_r0_isTaking v_r0_keptIn v_r0_turns0 v_r0_turnOf v_r0_turned v_r0_order0 v_r0_likely0 v_r0_leftThen v_r0_row v_r0_rowMany v_r0_seed r0_days r0_things r0_figures r0_hampers r0_kinds r0_weights) o A) rfl (Nat.le_of_ble_eq_true rfl) ?_ sz⟩
  intro p e s m below meth c A hA C hret ls hl hW
  have C : cx p s m ([.ref a_r0] : List Value).toArray meth c b_M_likelyDays 3 R_M D (kTy cI cS) (Cond.code y_M_likelyDays b_M_likelyDays 3 (some FieldType.int)) := C
  obtain ⟨hx, hb, hml, hown, hts, hK, hlk, hN⟩ := id C
  have hl : lv_has ls 3 [(0, .ref a_r0)] := hl
  obtain ⟨Q, hQ⟩ : ∃ Q, Q = MQ below (qI D (w_M_likelyDays cI a_r0 a_r0_figures a_r0_hampers a_r0_kinds a_r0_weights v_r0_wants0 v_r0_left0 v_r0_done0 v_r0_thrown v_r0_refusals v_r0_letters v_r0_letterMany v_r0_at v_r0_isBad v_r0_statements v_r0_placeIn v_r0_letterOf v_r0_told v_r0_kept v_r0_imaged v_r0_hasImage v_r0_place0 v_r0_isTaking v_r0_keptIn v_r0_turns0 v_r0_turnOf v_r0_turned v_r0_order0 v_r0_likely0 v_r0_leftThen v_r0_row v_r0_rowMany v_r0_seed r0_days r0_things r0_figures r0_hampers r0_kinds r0_weights) o A) ([.ref a_r0] : List Value).toArray s 0 0 A := ⟨_, rfl⟩
  rw [← hQ]
  refine lv_iconst (v := 0) hx hb d_M_likelyDays_0 (by decide) ?_
  refine lv_istore_n (lv' := [(1, .int 0), (0, .ref a_r0)]) hx hb d_M_likelyDays_1 rfl hl (by decide) rfl (fun ls hl => ?_)
  refine lv_iconst (v := 0) hx hb d_M_likelyDays_2 (by decide) ?_
  refine lv_istore_n (lv' := [(2, .int 0), (1, .int 0), (0, .ref a_r0)]) hx hb d_M_likelyDays_3 rfl hl (by decide) rfl (fun ls hl => ?_)
  obtain ⟨ex_1, hw_1, hk_1⟩ := ob hr
  have hx_1 : ∀ (e_1 : (Int32)), e_1 = ex_1 → ∀ (H : Heap) (locs : List Loc) (ls : Array Slot), wd A s.heap D (w_M_likelyDays cI a_r0 a_r0_figures a_r0_hampers a_r0_kinds a_r0_weights v_r0_wants0 v_r0_left0 v_r0_done0 v_r0_thrown v_r0_refusals v_r0_letters v_r0_letterMany v_r0_at v_r0_isBad v_r0_statements v_r0_placeIn v_r0_letterOf v_r0_told v_r0_kept v_r0_imaged v_r0_hasImage v_r0_place0 v_r0_isTaking v_r0_keptIn v_r0_turns0 v_r0_turnOf v_r0_turned v_r0_order0 v_r0_likely0 v_r0_leftThen v_r0_row v_r0_rowMany v_r0_seed r0_days r0_things r0_figures r0_hampers r0_kinds r0_weights) H locs → lv_has ls 3 [(1, .int e_1)] → W p l e (rmd 4) s m ([.ref a_r0] : List Value).toArray below meth c H locs 0 0 Q (F0 m 34 ls []) := by
    intro e_1 hE H locs ls hW hl
    subst hE; have hr := hk_1
    refine lv_iload_n hx hb d_M_likelyDays_34 rfl (lv_at hl 0 rfl) ?_
    obtain rfl := Option.some.inj hr
    rw [hQ]; exact k_iret C hret hW d_M_likelyDays_35
  have hl_1 : ∀ (k : Nat) (y1_1 : Int32) (y2_1 : Int32), wh (fun (s : (Int32) × (Int32)) => F_M_likelyDays_L4 r0_days r0_things r0_figures r0_hampers r0_kinds r0_weights s.1 s.2) k (y1_1, y2_1) = some ex_1 → ∀ (H : Heap) (locs : List Loc) (ls : Array Slot), wd A s.heap D (w_M_likelyDays cI a_r0 a_r0_figures a_r0_hampers a_r0_kinds a_r0_weights v_r0_wants0 v_r0_left0 v_r0_done0 v_r0_thrown v_r0_refusals v_r0_letters v_r0_letterMany v_r0_at v_r0_isBad v_r0_statements v_r0_placeIn v_r0_letterOf v_r0_told v_r0_kept v_r0_imaged v_r0_hasImage v_r0_place0 v_r0_isTaking v_r0_keptIn v_r0_turns0 v_r0_turnOf v_r0_turned v_r0_order0 v_r0_likely0 v_r0_leftThen v_r0_row v_r0_rowMany v_r0_seed r0_days r0_things r0_figures r0_hampers r0_kinds r0_weights) H locs → lv_has ls 3 [(0, .ref a_r0), (1, .int y1_1), (2, .int y2_1)] → W p l e (rmd 4) s m ([.ref a_r0] : List Value).toArray below meth c H locs 0 0 Q (F0 m 4 ls []) := by
    intro k
    induction k with
    | zero => intro y1_1 y2_1 hw; exact absurd hw wh_0
    | succ k ih_1 =>
      intro y1_1 y2_1 hw H locs ls hW hl
      obtain ⟨z_1, hr, hz1_1, hz2_1⟩ := wh_s hw
      have hr : F_M_likelyDays_L4 r0_days r0_things r0_figures r0_hampers r0_kinds r0_weights y1_1 y2_1 = some z_1 := hr
      unfold F_M_likelyDays_L4 at hr
      refine lv_iload_n hx hb d_M_likelyDays_4 rfl (lv_at hl 2 rfl) ?_
      refine lv_aload_n hx hb d_M_likelyDays_5 rfl (lv_at hl 0 rfl) ?_
      refine k_get i_M C hW 0 rfl rfl 4 (by decide) qf_M_78 rfl rfl d_M_likelyDays_6 ?_
      refine lv_icmp_ge (tgt := 34) hx hb d_M_likelyDays_9 (by decide) (fun c_2 => ?_) (fun c_2 => ?_)
      · replace hr := ip c_2 hr
        exact hx_1 _ (hz2_1 _ (Option.some.inj hr).symm) _ _ _ hW (lv_sub hl [1] rfl)
      · replace hr := iN c_2 hr
        refine lv_iload_n hx hb d_M_likelyDays_12 rfl (lv_at hl 1 rfl) ?_
        refine lv_aload_n hx hb d_M_likelyDays_13 rfl (lv_at hl 0 rfl) ?_
        refine lv_iload_n hx hb d_M_likelyDays_14 rfl (lv_at hl 2 rfl) ?_
        obtain ⟨q_3, hc_3, hr⟩ := ob hr
        have ct_3 := C_M_likelyOn l D cI cS a_r0 a_r0_figures a_r0_hampers a_r0_kinds a_r0_weights (Value.int r0_days) v_r0_wants0 v_r0_left0 v_r0_done0 v_r0_thrown v_r0_refusals v_r0_letters v_r0_letterMany v_r0_at v_r0_isBad v_r0_statements v_r0_placeIn v_r0_letterOf v_r0_told v_r0_kept v_r0_imaged v_r0_hasImage v_r0_place0 v_r0_isTaking v_r0_keptIn v_r0_turns0 v_r0_turnOf v_r0_turned v_r0_order0 v_r0_likely0 v_r0_leftThen v_r0_row v_r0_rowMany v_r0_seed r0_things r0_figures r0_hampers r0_kinds r0_weights y2_1 q_3 hc_3
        refine k_goIp hA hW [0, 1, 2, 3, 4] rfl rfl (k_runV C hA hW mw_M_likelyOn mv_M_likelyOn (ct_3.2 _) [0, 1, 2, 3, 4] rfl rfl 0 rfl rfl qm_M_153 ⟨Nat.le_of_ble_eq_true rfl, Nat.le_of_ble_eq_true rfl, Nat.zero_le _, Nat.zero_le _⟩ rfl rfl (Nat.le_of_ble_eq_true rfl) hl.1 d_M_likelyDays_15) (fun H locs hW => ?_)
        refine lv_if_lt (tgt := 25) hx hb d_M_likelyDays_18 (by decide) (fun c_4 => ?_) (fun c_4 => ?_)
        · replace hr := ip c_4 hr
          refine lv_iconst (v := 0) hx hb d_M_likelyDays_25 (by decide) ?_
          refine lv_iadd hx hb d_M_likelyDays_26 ?_
          refine lv_istore_n (lv' := [(1, .int (y1_1 + 0)), (0, .ref a_r0), (2, .int y2_1)]) hx hb d_M_likelyDays_27 rfl hl (by decide) rfl (fun ls hl => ?_)
          refine lv_iinc (v := (y2_1 + 1)) (lv' := [(2, .int (y2_1 + 1)), (1, .int (y1_1 + 0)), (0, .ref a_r0)]) hx hb d_M_likelyDays_28 hl (k := 2) rfl rfl (by decide) rfl (fun ls hl => ?_)
          refine lv_goto (tgt := 4) hx hb d_M_likelyDays_31 (by decide) ?_
          exact ih_1 (y1_1 + 0) (y2_1 + 1) (hz1_1 _ (Option.some.inj hr).symm) _ _ _ hW (lv_sub hl [2, 1, 0] rfl)
        · replace hr := iN c_4 hr
          refine lv_iconst (v := 1) hx hb d_M_likelyDays_21 (by decide) ?_
          refine lv_goto (tgt := 26) hx hb d_M_likelyDays_22 (by decide) ?_
          refine lv_iadd hx hb d_M_likelyDays_26 ?_
          refine lv_istore_n (lv' := [(1, .int (y1_1 + 1)), (0, .ref a_r0), (2, .int y2_1)]) hx hb d_M_likelyDays_27 rfl hl (by decide) rfl (fun ls hl => ?_)
          refine lv_iinc (v := (y2_1 + 1)) (lv' := [(2, .int (y2_1 + 1)), (1, .int (y1_1 + 1)), (0, .ref a_r0)]) hx hb d_M_likelyDays_28 hl (k := 2) rfl rfl (by decide) rfl (fun ls hl => ?_)
          refine lv_goto (tgt := 4) hx hb d_M_likelyDays_31 (by decide) ?_
          exact ih_1 (y1_1 + 1) (y2_1 + 1) (hz1_1 _ (Option.some.inj hr).symm) _ _ _ hW (lv_sub hl [2, 1, 0] rfl)
  exact hl_1 _ 0 0 hw_1 _ _ _ hW (lv_sub hl [2, 1, 0] rfl)
def w_M_think (cI : ClassId) (a_r0 : Nat) (a_r0_figures : Nat) (a_r0_hampers : Nat) (a_r0_kept : Nat) (a_r0_kinds : Nat) (a_r0_left0 : Nat) (a_r0_wants0 : Nat) (a_r0_weights : Nat) (v_r0_thrown v_r0_refusals v_r0_letters v_r0_letterMany v_r0_at v_r0_isBad v_r0_statements v_r0_placeIn v_r0_letterOf v_r0_told v_r0_imaged v_r0_hasImage v_r0_turns0 v_r0_turnOf v_r0_turned v_r0_order0 v_r0_likely0 v_r0_leftThen v_r0_row v_r0_rowMany v_r0_seed : Value) (kv : Int32 → Value) (r0_days : Int32) (r0_done0 : Int32) (r0_isTaking : Int32) (r0_keptIn : Int32) (r0_place0 : Int32) (r0_things : Int32) (r0_figures : Nat → Int32) (r0_hampers : Nat → Int32) (r0_kept : Nat → Int32) (r0_kinds : Nat → Int32) (r0_left0 : Nat → Int32) (r0_wants0 : Nat → Int32) (r0_weights : Nat → Int32) : va_W := [(a_r0, .inr (9, [.ref a_r0_weights, .int r0_things, .ref a_r0_kinds, .ref a_r0_figures, .int r0_days, .ref a_r0_hampers, .ref a_r0_wants0, .ref a_r0_left0, .int r0_done0, v_r0_thrown, v_r0_refusals, v_r0_letters, v_r0_letterMany, v_r0_at, v_r0_isBad, v_r0_statements, v_r0_placeIn, v_r0_letterOf, v_r0_told, .ref a_r0_kept, v_r0_imaged, v_r0_hasImage, .int r0_place0, .int r0_isTaking, (kv r0_keptIn), v_r0_turns0, v_r0_turnOf, v_r0_turned, v_r0_order0, v_r0_likely0, v_r0_leftThen, v_r0_row, v_r0_rowMany, v_r0_seed])), (a_r0_figures, .inl (cI, 8, .inl r0_figures)), (a_r0_hampers, .inl (cI, 8, .inl r0_hampers)), (a_r0_kept, .inl (cI, 41, .inl r0_kept)), (a_r0_kinds, .inl (cI, 8, .inl r0_kinds)), (a_r0_left0, .inl (cI, 4, .inl r0_left0)), (a_r0_wants0, .inl (cI, 4, .inl r0_wants0)), (a_r0_weights, .inl (cI, 6, .inl r0_weights))]
def F_M_think (r0_days : Int32) (r0_done0 : Int32) (r0_things : Int32) (r0_figures : Nat → Int32) (r0_hampers : Nat → Int32) (r0_kept : Nat → Int32) (r0_kinds : Nat → Int32) (r0_left0 : Nat → Int32) (r0_wants0 : Nat → Int32) (r0_weights : Nat → Int32) : Option ((Int32) × (Int32) × (Int32) × (Int32) × (Int32) × (Int32) × (Nat → Int32) × (Nat → Int32) × (Nat → Int32) × (Nat → Int32) × (Nat → Int32) × (Nat → Int32) × (Nat → Int32)) :=
  ((F_M_carryAll_kept r0_days r0_done0 r0_things r0_figures r0_hampers r0_kept r0_kinds r0_left0 r0_wants0 r0_weights (1 : Int32)).bind (fun q_1 => (some (q_1.1, q_1.2.1, q_1.2.2.1, 1, q_1.2.2.2.1, q_1.2.2.2.2.1, q_1.2.2.2.2.2.1, q_1.2.2.2.2.2.2.1, q_1.2.2.2.2.2.2.2.1, q_1.2.2.2.2.2.2.2.2.1, q_1.2.2.2.2.2.2.2.2.2.1, q_1.2.2.2.2.2.2.2.2.2.2.1, q_1.2.2.2.2.2.2.2.2.2.2.2))))
set_option maxHeartbeats 4000000 in
set_option maxRecDepth 100000 in
theorem C_M_think (l : Launch) (D : va_G) (cI cS : ClassId) (a_r0 : Nat) (a_r0_figures : Nat) (a_r0_hampers : Nat) (a_r0_kept : Nat) (a_r0_kinds : Nat) (a_r0_left0 : Nat) (a_r0_wants0 : Nat) (a_r0_weights : Nat) (v_r0_thrown v_r0_refusals v_r0_letters v_r0_letterMany v_r0_at v_r0_isBad v_r0_statements v_r0_placeIn v_r0_letterOf v_r0_told v_r0_imaged v_r0_hasImage v_r0_turns0 v_r0_turnOf v_r0_turned v_r0_order0 v_r0_likely0 v_r0_leftThen v_r0_row v_r0_rowMany v_r0_seed : Value) (kv : Int32 → Value) (hkv_kept : kv 1 = .ref a_r0_kept) (r0_days : Int32) (r0_done0 : Int32) (r0_isTaking : Int32) (r0_keptIn : Int32) (r0_place0 : Int32) (r0_things : Int32) (r0_figures : Nat → Int32) (r0_hampers : Nat → Int32) (r0_kept : Nat → Int32) (r0_kinds : Nat → Int32) (r0_left0 : Nat → Int32) (r0_wants0 : Nat → Int32) (r0_weights : Nat → Int32) (o : (Int32) × (Int32) × (Int32) × (Int32) × (Int32) × (Int32) × (Nat → Int32) × (Nat → Int32) × (Nat → Int32) × (Nat → Int32) × (Nat → Int32) × (Nat → Int32) × (Nat → Int32)) (hr : F_M_think r0_days r0_done0 r0_things r0_figures r0_hampers r0_kept r0_kinds r0_left0 r0_wants0 r0_weights = some o) : ctV l y_M_think (Cond.code y_M_think b_M_think 1 none) (rmd 2) D (kTy cI cS) [.ref a_r0] (w_M_think cI a_r0 a_r0_figures a_r0_hampers a_r0_kept a_r0_kinds a_r0_left0 a_r0_wants0 a_r0_weights v_r0_thrown v_r0_refusals v_r0_letters v_r0_letterMany v_r0_at v_r0_isBad v_r0_statements v_r0_placeIn v_r0_letterOf v_r0_told v_r0_imaged v_r0_hasImage v_r0_turns0 v_r0_turnOf v_r0_turned v_r0_order0 v_r0_likely0 v_r0_leftThen v_r0_row v_r0_rowMany v_r0_seed kv r0_days r0_done0 r0_isTaking r0_keptIn r0_place0 r0_things r0_figures r0_hampers r0_kept r0_kinds r0_left0 r0_wants0 r0_weights) (w_M_think cI a_r0 a_r0_figures a_r0_hampers a_r0_kept a_r0_kinds a_r0_left0 a_r0_wants0 a_r0_weights v_r0_thrown v_r0_refusals v_r0_letters v_r0_letterMany v_r0_at v_r0_isBad v_r0_statements v_r0_placeIn v_r0_letterOf v_r0_told v_r0_imaged v_r0_hasImage v_r0_turns0 v_r0_turnOf v_r0_turned v_r0_order0 v_r0_likely0 v_r0_leftThen v_r0_row v_r0_rowMany v_r0_seed kv o.1 o.2.1 o.2.2.1 o.2.2.2.1 o.2.2.2.2.1 o.2.2.2.2.2.1 o.2.2.2.2.2.2.1 o.2.2.2.2.2.2.2.1 o.2.2.2.2.2.2.2.2.1 o.2.2.2.2.2.2.2.2.2.1 o.2.2.2.2.2.2.2.2.2.2.1 o.2.2.2.2.2.2.2.2.2.2.2.1 o.2.2.2.2.2.2.2.2.2.2.2.2) := by
  unfold F_M_think at hr
  refine ⟨rfl, fun sz => ct_of (w0 := (w_M_think cI a_r0 a_r0_figures a_r0_hampers a_r0_kept a_r0_kinds a_r0_left0 a_r0_wants0 a_r0_weights v_r0_thrown v_r0_refusals v_r0_letters v_r0_letterMany v_r0_at v_r0_isBad v_r0_statements v_r0_placeIn v_r0_letterOf v_r0_told v_r0_imaged v_r0_hasImage v_r0_turns0 v_r0_turnOf v_r0_turned v_r0_order0 v_r0_likely0 v_r0_leftThen v_r0_row v_r0_rowMany v_r0_seed kv r0_days r0_done0 r0_isTaking r0_keptIn r0_place0 r0_things r0_figures r0_hampers r0_kept r0_kinds r0_left0 r0_wants0 r0_weights)) (Qc := fun A => qV D (w_M_think cI a_r0 a_r0_figures a_r0_hampers a_r0_kept a_r0_kinds a_r0_left0 a_r0_wants0 a_r0_weights v_r0_thrown v_r0_refusals v_r0_letters v_r0_letterMany v_r0_at v_r0_isBad v_r0_statements v_r0_placeIn v_r0_letterOf v_r0_told v_r0_imaged v_r0_hasImage v_r0_turns0 v_r0_turnOf v_r0_turned v_r0_order0 v_r0_likely0 v_r0_leftThen v_r0_row v_r0_rowMany v_r0_seed kv o.1 o.2.1 o.2.2.1 o.2.2.2.1 o.2.2.2.2.1 o.2.2.2.2.2.1 o.2.2.2.2.2.2.1 o.2.2.2.2.2.2.2.1 o.2.2.2.2.2.2.2.2.1 o.2.2.2.2.2.2.2.2.2.1 o.2.2.2.2.2.2.2.2.2.2.1 o.2.2.2.2.2.2.2.2.2.2.2.1 o.2.2.2.2.2.2.2.2.2.2.2.2) A) rfl (Nat.le_of_ble_eq_true rfl) ?_ sz⟩
  intro p e s m below meth c A hA C hret ls hl hW
  have C : cx p s m ([.ref a_r0] : List Value).toArray meth c b_M_think 1 R_M D (kTy cI cS) (Cond.code y_M_think b_M_think 1 none) := C
  obtain ⟨hx, hb, hml, hown, hts, hK, hlk, hN⟩ := id C
  have hl : lv_has ls 1 [(0, .ref a_r0)] := hl
  obtain ⟨Q, hQ⟩ : ∃ Q, Q = MQ below (qV D (w_M_think cI a_r0 a_r0_figures a_r0_hampers a_r0_kept a_r0_kinds a_r0_left0 a_r0_wants0 a_r0_weights v_r0_thrown v_r0_refusals v_r0_letters v_r0_letterMany v_r0_at v_r0_isBad v_r0_statements v_r0_placeIn v_r0_letterOf v_r0_told v_r0_imaged v_r0_hasImage v_r0_turns0 v_r0_turnOf v_r0_turned v_r0_order0 v_r0_likely0 v_r0_leftThen v_r0_row v_r0_rowMany v_r0_seed kv o.1 o.2.1 o.2.2.1 o.2.2.2.1 o.2.2.2.2.1 o.2.2.2.2.2.1 o.2.2.2.2.2.2.1 o.2.2.2.2.2.2.2.1 o.2.2.2.2.2.2.2.2.1 o.2.2.2.2.2.2.2.2.2.1 o.2.2.2.2.2.2.2.2.2.2.1 o.2.2.2.2.2.2.2.2.2.2.2.1 o.2.2.2.2.2.2.2.2.2.2.2.2) A) ([.ref a_r0] : List Value).toArray s 0 0 A := ⟨_, rfl⟩
  rw [← hQ]
  refine lv_aload_n hx hb d_M_think_0 rfl (lv_at hl 0 rfl) ?_
  refine lv_aload_n hx hb d_M_think_1 rfl (lv_at hl 0 rfl) ?_
  refine k_get i_M C hW 0 rfl rfl 19 (by decide) qf_M_43 rfl rfl d_M_think_2 ?_
  refine lv_iconst (v := 1) hx hb d_M_think_5 (by decide) ?_
  obtain ⟨q_1, hc_1, hr⟩ := ob hr
  have ct_1 := C_M_carryAll_kept l D cI cS a_r0 a_r0_figures a_r0_hampers a_r0_kept a_r0_kinds a_r0_left0 a_r0_wants0 a_r0_weights v_r0_thrown v_r0_refusals v_r0_letters v_r0_letterMany v_r0_at v_r0_isBad v_r0_statements v_r0_placeIn v_r0_letterOf v_r0_told v_r0_imaged v_r0_hasImage (kv r0_keptIn) v_r0_turns0 v_r0_turnOf v_r0_turned v_r0_order0 v_r0_likely0 v_r0_leftThen v_r0_row v_r0_rowMany v_r0_seed (kv 1) hkv_kept r0_days r0_done0 r0_isTaking r0_place0 r0_things r0_figures r0_hampers r0_kept r0_kinds r0_left0 r0_wants0 r0_weights 1 q_1 hc_1
  refine k_goV hA hW [0, 1, 2, 3, 4, 5, 6, 7] rfl ct_1.1 (ws' := (w_M_think cI a_r0 a_r0_figures a_r0_hampers a_r0_kept a_r0_kinds a_r0_left0 a_r0_wants0 a_r0_weights v_r0_thrown v_r0_refusals v_r0_letters v_r0_letterMany v_r0_at v_r0_isBad v_r0_statements v_r0_placeIn v_r0_letterOf v_r0_told v_r0_imaged v_r0_hasImage v_r0_turns0 v_r0_turnOf v_r0_turned v_r0_order0 v_r0_likely0 v_r0_leftThen v_r0_row v_r0_rowMany v_r0_seed kv q_1.1 q_1.2.1 q_1.2.2.1 1 q_1.2.2.2.1 q_1.2.2.2.2.1 q_1.2.2.2.2.2.1 q_1.2.2.2.2.2.2.1 q_1.2.2.2.2.2.2.2.1 q_1.2.2.2.2.2.2.2.2.1 q_1.2.2.2.2.2.2.2.2.2.1 q_1.2.2.2.2.2.2.2.2.2.2.1 q_1.2.2.2.2.2.2.2.2.2.2.2)) rfl (k_runV C hA hW mw_M_carryAll mv_M_carryAll (ct_1.2 _) [0, 1, 2, 3, 4, 5, 6, 7] rfl rfl 0 rfl rfl qm_M_189 ⟨Nat.le_of_ble_eq_true rfl, Nat.le_of_ble_eq_true rfl, Nat.zero_le _, Nat.zero_le _⟩ rfl rfl (Nat.le_of_ble_eq_true rfl) hl.1 d_M_think_6) (fun H locs hW => ?_)
  obtain rfl := Option.some.inj hr
  rw [hQ]; exact k_vret C hret hW d_M_think_9
def w_M_drop (cI : ClassId) (a_r0 : Nat) (a_r0_figures : Nat) (a_r0_hampers : Nat) (a_r0_kept : Nat) (a_r0_kinds : Nat) (a_r0_left0 : Nat) (a_r0_wants0 : Nat) (a_r0_weights : Nat) (v_r0_refusals v_r0_letters v_r0_letterMany v_r0_at v_r0_isBad v_r0_statements v_r0_placeIn v_r0_letterOf v_r0_told v_r0_imaged v_r0_hasImage v_r0_turns0 v_r0_turnOf v_r0_turned v_r0_order0 v_r0_likely0 v_r0_leftThen v_r0_row v_r0_rowMany v_r0_seed : Value) (kv : Int32 → Value) (r0_days : Int32) (r0_done0 : Int32) (r0_isTaking : Int32) (r0_keptIn : Int32) (r0_place0 : Int32) (r0_things : Int32) (r0_thrown : Int32) (r0_figures : Nat → Int32) (r0_hampers : Nat → Int32) (r0_kept : Nat → Int32) (r0_kinds : Nat → Int32) (r0_left0 : Nat → Int32) (r0_wants0 : Nat → Int32) (r0_weights : Nat → Int32) : va_W := [(a_r0, .inr (9, [.ref a_r0_weights, .int r0_things, .ref a_r0_kinds, .ref a_r0_figures, .int r0_days, .ref a_r0_hampers, .ref a_r0_wants0, .ref a_r0_left0, .int r0_done0, .int r0_thrown, v_r0_refusals, v_r0_letters, v_r0_letterMany, v_r0_at, v_r0_isBad, v_r0_statements, v_r0_placeIn, v_r0_letterOf, v_r0_told, .ref a_r0_kept, v_r0_imaged, v_r0_hasImage, .int r0_place0, .int r0_isTaking, (kv r0_keptIn), v_r0_turns0, v_r0_turnOf, v_r0_turned, v_r0_order0, v_r0_likely0, v_r0_leftThen, v_r0_row, v_r0_rowMany, v_r0_seed])), (a_r0_figures, .inl (cI, 8, .inl r0_figures)), (a_r0_hampers, .inl (cI, 8, .inl r0_hampers)), (a_r0_kept, .inl (cI, 41, .inl r0_kept)), (a_r0_kinds, .inl (cI, 8, .inl r0_kinds)), (a_r0_left0, .inl (cI, 4, .inl r0_left0)), (a_r0_wants0, .inl (cI, 4, .inl r0_wants0)), (a_r0_weights, .inl (cI, 6, .inl r0_weights))]
def F_M_drop_L27 (r0_days_2 : Int32) (y3_2 : Int32) (y4_4 : Int32) (r0_hampers_4 : Nat → Int32) : Option (((Int32) × (Nat → Int32)) ⊕ ((Nat → Int32))) :=
  (if r0_days_2 ≤ y4_4 then (some (.inr r0_hampers_4)) else (ck y4_4 8 (ck y4_4 8 (some (.inl ((y4_4 + 1), (upd r0_hampers_4 (Int32.toNatClampNeg y4_4) ((r0_hampers_4 (Int32.toNatClampNeg y4_4)) &&& (((1 : Int32) <<< ((y3_2 : Int32) &&& 31)) ^^^ (-1))))))))))
def F_M_drop_J78_11 (y2_2 : Int32) (y3_2 : Int32) (q_8 : Int32) (q_9 : (Int32) × (Int32) × (Int32) × (Int32) × (Int32) × (Int32) × (Nat → Int32) × (Nat → Int32) × (Nat → Int32) × (Nat → Int32) × (Nat → Int32) × (Nat → Int32) × (Nat → Int32)) (s0_11 : Int32) : Option (((Int32) × (Int32) × (Int32) × (Int32) × (Int32) × (Int32) × (Int32) × (Int32) × (Int32) × (Nat → Int32) × (Nat → Int32) × (Nat → Int32) × (Nat → Int32) × (Nat → Int32) × (Nat → Int32) × (Nat → Int32)) ⊕ ((Int32) × (Int32) × (Int32) × (Int32) × (Int32) × (Int32) × (Int32) × (Nat → Int32) × (Nat → Int32) × (Nat → Int32) × (Nat → Int32) × (Nat → Int32) × (Nat → Int32) × (Nat → Int32))) :=
  (if q_8 ≤ y2_2 then (some (.inl (s0_11, y2_2, (y3_2 + 1), q_9.1, q_9.2.1, q_9.2.2.1, q_9.2.2.2.1, q_9.2.2.2.2.1, q_9.2.2.2.2.2.1, q_9.2.2.2.2.2.2.1, q_9.2.2.2.2.2.2.2.1, q_9.2.2.2.2.2.2.2.2.1, q_9.2.2.2.2.2.2.2.2.2.1, q_9.2.2.2.2.2.2.2.2.2.2.1, q_9.2.2.2.2.2.2.2.2.2.2.2.1, q_9.2.2.2.2.2.2.2.2.2.2.2.2))) else (some (.inl (s0_11, q_8, (y3_2 + 1), q_9.1, q_9.2.1, q_9.2.2.1, q_9.2.2.2.1, q_9.2.2.2.2.1, q_9.2.2.2.2.2.1, q_9.2.2.2.2.2.2.1, q_9.2.2.2.2.2.2.2.1, q_9.2.2.2.2.2.2.2.2.1, q_9.2.2.2.2.2.2.2.2.2.1, q_9.2.2.2.2.2.2.2.2.2.2.1, q_9.2.2.2.2.2.2.2.2.2.2.2.1, q_9.2.2.2.2.2.2.2.2.2.2.2.2))))
def F_M_drop_L16 (y1_2 : Int32) (y2_2 : Int32) (y3_2 : Int32) (r0_days_2 : Int32) (r0_done0_2 : Int32) (r0_isTaking_2 : Int32) (r0_keptIn_2 : Int32) (r0_place0_2 : Int32) (r0_things_2 : Int32) (r0_figures_2 : Nat → Int32) (r0_hampers_2 : Nat → Int32) (r0_kept_2 : Nat → Int32) (r0_kinds_2 : Nat → Int32) (r0_left0_2 : Nat → Int32) (r0_wants0_2 : Nat → Int32) (r0_weights_2 : Nat → Int32) : Option (((Int32) × (Int32) × (Int32) × (Int32) × (Int32) × (Int32) × (Int32) × (Int32) × (Int32) × (Nat → Int32) × (Nat → Int32) × (Nat → Int32) × (Nat → Int32) × (Nat → Int32) × (Nat → Int32) × (Nat → Int32)) ⊕ ((Int32) × (Int32) × (Int32) × (Int32) × (Int32) × (Int32) × (Int32) × (Nat → Int32) × (Nat → Int32) × (Nat → Int32) × (Nat → Int32) × (Nat → Int32) × (Nat → Int32) × (Nat → Int32))) :=
  (if r0_things_2 ≤ y3_2 then (some (.inr (y1_2, r0_days_2, r0_done0_2, r0_isTaking_2, r0_keptIn_2, r0_place0_2, r0_things_2, r0_figures_2, r0_hampers_2, r0_kept_2, r0_kinds_2, r0_left0_2, r0_wants0_2, r0_weights_2))) else ((wh (fun (s : (Int32) × (Nat → Int32)) => F_M_drop_L27 r0_days_2 y3_2 s.1 s.2) 400 ((0 : Int32), r0_hampers_2)).bind (fun e_4 => ((F_M_likelyDays r0_days_2 r0_things_2 r0_figures_2 e_4 r0_kinds_2 r0_weights_2).bind (fun q_8 => ((F_M_again r0_days_2 r0_done0_2 r0_things_2 r0_figures_2 e_4 r0_kept_2 r0_kinds_2 r0_left0_2 r0_wants0_2 r0_weights_2).bind (fun q_9 => (if q_8 ≤ y2_2 then (F_M_drop_J78_11 y2_2 y3_2 q_8 q_9 y1_2) else (F_M_drop_J78_11 y2_2 y3_2 q_8 q_9 y3_2)))))))))
def F_M_drop (r0_days : Int32) (r0_done0 : Int32) (r0_things : Int32) (r0_figures : Nat → Int32) (r0_hampers : Nat → Int32) (r0_kept : Nat → Int32) (r0_kinds : Nat → Int32) (r0_left0 : Nat → Int32) (r0_wants0 : Nat → Int32) (r0_weights : Nat → Int32) : Option (Int32 × (Int32) × (Int32) × (Int32) × (Int32) × (Int32) × (Int32) × (Int32) × (Nat → Int32) × (Nat → Int32) × (Nat → Int32) × (Nat → Int32) × (Nat → Int32) × (Nat → Int32) × (Nat → Int32)) :=
  ((F_M_think r0_days r0_done0 r0_things r0_figures r0_hampers r0_kept r0_kinds r0_left0 r0_wants0 r0_weights).bind (fun q_1 => ((wh (fun (s : (Int32) × (Int32) × (Int32) × (Int32) × (Int32) × (Int32) × (Int32) × (Int32) × (Int32) × (Nat → Int32) × (Nat → Int32) × (Nat → Int32) × (Nat → Int32) × (Nat → Int32) × (Nat → Int32) × (Nat → Int32)) => F_M_drop_L16 s.1 s.2.1 s.2.2.1 s.2.2.2.1 s.2.2.2.2.1 s.2.2.2.2.2.1 s.2.2.2.2.2.2.1 s.2.2.2.2.2.2.2.1 s.2.2.2.2.2.2.2.2.1 s.2.2.2.2.2.2.2.2.2.1 s.2.2.2.2.2.2.2.2.2.2.1 s.2.2.2.2.2.2.2.2.2.2.2.1 s.2.2.2.2.2.2.2.2.2.2.2.2.1 s.2.2.2.2.2.2.2.2.2.2.2.2.2.1 s.2.2.2.2.2.2.2.2.2.2.2.2.2.2.1 s.2.2.2.2.2.2.2.2.2.2.2.2.2.2.2) 400 (((-9) : Int32), ((-1) : Int32), (0 : Int32), q_1.1, q_1.2.1, q_1.2.2.1, q_1.2.2.2.1, q_1.2.2.2.2.1, q_1.2.2.2.2.2.1, q_1.2.2.2.2.2.2.1, q_1.2.2.2.2.2.2.2.1, q_1.2.2.2.2.2.2.2.2.1, q_1.2.2.2.2.2.2.2.2.2.1, q_1.2.2.2.2.2.2.2.2.2.2.1, q_1.2.2.2.2.2.2.2.2.2.2.2.1, q_1.2.2.2.2.2.2.2.2.2.2.2.2)).bind (fun e_2 => (some (e_2.1, e_2.2.1, e_2.2.2.1, e_2.2.2.2.1, e_2.2.2.2.2.1, e_2.2.2.2.2.2.1, e_2.2.2.2.2.2.2.1, 0, e_2.2.2.2.2.2.2.2.1, e_2.2.2.2.2.2.2.2.2.1, e_2.2.2.2.2.2.2.2.2.2.1, e_2.2.2.2.2.2.2.2.2.2.2.1, e_2.2.2.2.2.2.2.2.2.2.2.2.1, e_2.2.2.2.2.2.2.2.2.2.2.2.2.1, e_2.2.2.2.2.2.2.2.2.2.2.2.2.2))))))
set_option maxHeartbeats 4000000 in
set_option maxRecDepth 100000 in
theorem C_M_drop (l : Launch) (D : va_G) (cI cS : ClassId) (a_r0 : Nat) (a_r0_figures : Nat) (a_r0_hampers : Nat) (a_r0_kept : Nat) (a_r0_kinds : Nat) (a_r0_left0 : Nat) (a_r0_wants0 : Nat) (a_r0_weights : Nat) (v_r0_refusals v_r0_letters v_r0_letterMany v_r0_at v_r0_isBad v_r0_statements v_r0_placeIn v_r0_letterOf v_r0_told v_r0_imaged v_r0_hasImage v_r0_turns0 v_r0_turnOf v_r0_turned v_r0_order0 v_r0_likely0 v_r0_leftThen v_r0_row v_r0_rowMany v_r0_seed : Value) (kv : Int32 → Value) (hkv_kept : kv 1 = .ref a_r0_kept) (r0_days : Int32) (r0_done0 : Int32) (r0_isTaking : Int32) (r0_keptIn : Int32) (r0_place0 : Int32) (r0_things : Int32) (r0_thrown : Int32) (r0_figures : Nat → Int32) (r0_hampers : Nat → Int32) (r0_kept : Nat → Int32) (r0_kinds : Nat → Int32) (r0_left0 : Nat → Int32) (r0_wants0 : Nat → Int32) (r0_weights : Nat → Int32) (o : Int32 × (Int32) × (Int32) × (Int32) × (Int32) × (Int32) × (Int32) × (Int32) × (Nat → Int32) × (Nat → Int32) × (Nat → Int32) × (Nat → Int32) × (Nat → Int32) × (Nat → Int32) × (Nat → Int32)) (hr : F_M_drop r0_days r0_done0 r0_things r0_figures r0_hampers r0_kept r0_kinds r0_left0 r0_wants0 r0_weights = some o) : ctI l y_M_drop (Cond.code y_M_drop b_M_drop 5 (some FieldType.int)) (rmd 5) D (kTy cI cS) [.ref a_r0] (w_M_drop cI a_r0 a_r0_figures a_r0_hampers a_r0_kept a_r0_kinds a_r0_left0 a_r0_wants0 a_r0_weights v_r0_refusals v_r0_letters v_r0_letterMany v_r0_at v_r0_isBad v_r0_statements v_r0_placeIn v_r0_letterOf v_r0_told v_r0_imaged v_r0_hasImage v_r0_turns0 v_r0_turnOf v_r0_turned v_r0_order0 v_r0_likely0 v_r0_leftThen v_r0_row v_r0_rowMany v_r0_seed kv r0_days r0_done0 r0_isTaking r0_keptIn r0_place0 r0_things r0_thrown r0_figures r0_hampers r0_kept r0_kinds r0_left0 r0_wants0 r0_weights) (w_M_drop cI a_r0 a_r0_figures a_r0_hampers a_r0_kept a_r0_kinds a_r0_left0 a_r0_wants0 a_r0_weights v_r0_refusals v_r0_letters v_r0_letterMany v_r0_at v_r0_isBad v_r0_statements v_r0_placeIn v_r0_letterOf v_r0_told v_r0_imaged v_r0_hasImage v_r0_turns0 v_r0_turnOf v_r0_turned v_r0_order0 v_r0_likely0 v_r0_leftThen v_r0_row v_r0_rowMany v_r0_seed kv o.2.1 o.2.2.1 o.2.2.2.1 o.2.2.2.2.1 o.2.2.2.2.2.1 o.2.2.2.2.2.2.1 o.2.2.2.2.2.2.2.1 o.2.2.2.2.2.2.2.2.1 o.2.2.2.2.2.2.2.2.2.1 o.2.2.2.2.2.2.2.2.2.2.1 o.2.2.2.2.2.2.2.2.2.2.2.1 o.2.2.2.2.2.2.2.2.2.2.2.2.1 o.2.2.2.2.2.2.2.2.2.2.2.2.2.1 o.2.2.2.2.2.2.2.2.2.2.2.2.2.2) o.1 := by
  unfold F_M_drop at hr
  refine ⟨rfl, fun sz => ct_of (w0 := (w_M_drop cI a_r0 a_r0_figures a_r0_hampers a_r0_kept a_r0_kinds a_r0_left0 a_r0_wants0 a_r0_weights v_r0_refusals v_r0_letters v_r0_letterMany v_r0_at v_r0_isBad v_r0_statements v_r0_placeIn v_r0_letterOf v_r0_told v_r0_imaged v_r0_hasImage v_r0_turns0 v_r0_turnOf v_r0_turned v_r0_order0 v_r0_likely0 v_r0_leftThen v_r0_row v_r0_rowMany v_r0_seed kv r0_days r0_done0 r0_isTaking r0_keptIn r0_place0 r0_things r0_thrown r0_figures r0_hampers r0_kept r0_kinds r0_left0 r0_wants0 r0_weights)) (Qc := fun A => qI D (w_M_drop cI a_r0 a_r0_figures a_r0_hampers a_r0_kept a_r0_kinds a_r0_left0 a_r0_wants0 a_r0_weights v_r0_refusals v_r0_letters v_r0_letterMany v_r0_at v_r0_isBad v_r0_statements v_r0_placeIn v_r0_letterOf v_r0_told v_r0_imaged v_r0_hasImage v_r0_turns0 v_r0_turnOf v_r0_turned v_r0_order0 v_r0_likely0 v_r0_leftThen v_r0_row v_r0_rowMany v_r0_seed kv o.2.1 o.2.2.1 o.2.2.2.1 o.2.2.2.2.1 o.2.2.2.2.2.1 o.2.2.2.2.2.2.1 o.2.2.2.2.2.2.2.1 o.2.2.2.2.2.2.2.2.1 o.2.2.2.2.2.2.2.2.2.1 o.2.2.2.2.2.2.2.2.2.2.1 o.2.2.2.2.2.2.2.2.2.2.2.1 o.2.2.2.2.2.2.2.2.2.2.2.2.1 o.2.2.2.2.2.2.2.2.2.2.2.2.2.1 o.2.2.2.2.2.2.2.2.2.2.2.2.2.2) o.1 A) rfl (Nat.le_of_ble_eq_true rfl) ?_ sz⟩
  intro p e s m below meth c A hA C hret ls hl hW
  have C : cx p s m ([.ref a_r0] : List Value).toArray meth c b_M_drop 5 R_M D (kTy cI cS) (Cond.code y_M_drop b_M_drop 5 (some FieldType.int)) := C
  obtain ⟨hx, hb, hml, hown, hts, hK, hlk, hN⟩ := id C
  have hl : lv_has ls 5 [(0, .ref a_r0)] := hl
  obtain ⟨Q, hQ⟩ : ∃ Q, Q = MQ below (qI D (w_M_drop cI a_r0 a_r0_figures a_r0_hampers a_r0_kept a_r0_kinds a_r0_left0 a_r0_wants0 a_r0_weights v_r0_refusals v_r0_letters v_r0_letterMany v_r0_at v_r0_isBad v_r0_statements v_r0_placeIn v_r0_letterOf v_r0_told v_r0_imaged v_r0_hasImage v_r0_turns0 v_r0_turnOf v_r0_turned v_r0_order0 v_r0_likely0 v_r0_leftThen v_r0_row v_r0_rowMany v_r0_seed kv o.2.1 o.2.2.1 o.2.2.2.1 o.2.2.2.2.1 o.2.2.2.2.2.1 o.2.2.2.2.2.2.1 o.2.2.2.2.2.2.2.1 o.2.2.2.2.2.2.2.2.1 o.2.2.2.2.2.2.2.2.2.1 o.2.2.2.2.2.2.2.2.2.2.1 o.2.2.2.2.2.2.2.2.2.2.2.1 o.2.2.2.2.2.2.2.2.2.2.2.2.1 o.2.2.2.2.2.2.2.2.2.2.2.2.2.1 o.2.2.2.2.2.2.2.2.2.2.2.2.2.2) o.1 A) ([.ref a_r0] : List Value).toArray s 0 0 A := ⟨_, rfl⟩
  rw [← hQ]
  refine lv_aload_n hx hb d_M_drop_0 rfl (lv_at hl 0 rfl) ?_
  refine lv_iconst (v := 0) hx hb d_M_drop_1 (by decide) ?_
  refine k_put i_M t_M_ok n_M C hW 0 rfl rfl 9 (by decide) qf_M_67 rfl rfl (ty := .int) rfl rfl rfl (Nat.le_of_ble_eq_true rfl) (ws' := (w_M_drop cI a_r0 a_r0_figures a_r0_hampers a_r0_kept a_r0_kinds a_r0_left0 a_r0_wants0 a_r0_weights v_r0_refusals v_r0_letters v_r0_letterMany v_r0_at v_r0_isBad v_r0_statements v_r0_placeIn v_r0_letterOf v_r0_told v_r0_imaged v_r0_hasImage v_r0_turns0 v_r0_turnOf v_r0_turned v_r0_order0 v_r0_likely0 v_r0_leftThen v_r0_row v_r0_rowMany v_r0_seed kv r0_days r0_done0 r0_isTaking r0_keptIn r0_place0 r0_things 0 r0_figures r0_hampers r0_kept r0_kinds r0_left0 r0_wants0 r0_weights)) rfl d_M_drop_2 (fun H locs hW => ?_)
  refine lv_bipush (v := (-9)) hx hb d_M_drop_5 (by decide) ?_
  refine lv_istore_n (lv' := [(1, .int (-9)), (0, .ref a_r0)]) hx hb d_M_drop_7 rfl hl (by decide) rfl (fun ls hl => ?_)
  refine lv_iconst (v := (-1)) hx hb d_M_drop_8 (by decide) ?_
  refine lv_istore_n (lv' := [(2, .int (-1)), (1, .int (-9)), (0, .ref a_r0)]) hx hb d_M_drop_9 rfl hl (by decide) rfl (fun ls hl => ?_)
  refine lv_aload_n hx hb d_M_drop_10 rfl (lv_at hl 2 rfl) ?_
  obtain ⟨q_1, hc_1, hr⟩ := ob hr
  have ct_1 := C_M_think l D cI cS a_r0 a_r0_figures a_r0_hampers a_r0_kept a_r0_kinds a_r0_left0 a_r0_wants0 a_r0_weights (Value.int 0) v_r0_refusals v_r0_letters v_r0_letterMany v_r0_at v_r0_isBad v_r0_statements v_r0_placeIn v_r0_letterOf v_r0_told v_r0_imaged v_r0_hasImage v_r0_turns0 v_r0_turnOf v_r0_turned v_r0_order0 v_r0_likely0 v_r0_leftThen v_r0_row v_r0_rowMany v_r0_seed kv hkv_kept r0_days r0_done0 r0_isTaking r0_keptIn r0_place0 r0_things r0_figures r0_hampers r0_kept r0_kinds r0_left0 r0_wants0 r0_weights q_1 hc_1
  refine k_goV hA hW [0, 1, 2, 3, 4, 5, 6, 7] rfl ct_1.1 (ws' := (w_M_drop cI a_r0 a_r0_figures a_r0_hampers a_r0_kept a_r0_kinds a_r0_left0 a_r0_wants0 a_r0_weights v_r0_refusals v_r0_letters v_r0_letterMany v_r0_at v_r0_isBad v_r0_statements v_r0_placeIn v_r0_letterOf v_r0_told v_r0_imaged v_r0_hasImage v_r0_turns0 v_r0_turnOf v_r0_turned v_r0_order0 v_r0_likely0 v_r0_leftThen v_r0_row v_r0_rowMany v_r0_seed kv q_1.1 q_1.2.1 q_1.2.2.1 q_1.2.2.2.1 q_1.2.2.2.2.1 q_1.2.2.2.2.2.1 0 q_1.2.2.2.2.2.2.1 q_1.2.2.2.2.2.2.2.1 q_1.2.2.2.2.2.2.2.2.1 q_1.2.2.2.2.2.2.2.2.2.1 q_1.2.2.2.2.2.2.2.2.2.2.1 q_1.2.2.2.2.2.2.2.2.2.2.2.1 q_1.2.2.2.2.2.2.2.2.2.2.2.2)) rfl (k_runV C hA hW mw_M_think mv_M_think (ct_1.2 _) [0, 1, 2, 3, 4, 5, 6, 7] rfl rfl 0 rfl rfl qm_M_165 ⟨Nat.le_of_ble_eq_true rfl, Nat.le_of_ble_eq_true rfl, Nat.zero_le _, Nat.zero_le _⟩ rfl rfl (Nat.le_of_ble_eq_true rfl) hl.1 d_M_drop_11) (fun H locs hW => ?_)
  refine lv_iconst (v := 0) hx hb d_M_drop_14 (by decide) ?_
  refine lv_istore_n (lv' := [(3, .int 0), (2, .int (-1)), (1, .int (-9)), (0, .ref a_r0)]) hx hb d_M_drop_15 rfl hl (by decide) rfl (fun ls hl => ?_)
  obtain ⟨ex_2, hw_2, hk_2⟩ := ob hr
  have hx_2 : ∀ (e_2 : (Int32) × (Int32) × (Int32) × (Int32) × (Int32) × (Int32) × (Int32) × (Nat → Int32) × (Nat → Int32) × (Nat → Int32) × (Nat → Int32) × (Nat → Int32) × (Nat → Int32) × (Nat → Int32)), e_2 = ex_2 → ∀ (H : Heap) (locs : List Loc) (ls : Array Slot), wd A s.heap D (w_M_drop cI a_r0 a_r0_figures a_r0_hampers a_r0_kept a_r0_kinds a_r0_left0 a_r0_wants0 a_r0_weights v_r0_refusals v_r0_letters v_r0_letterMany v_r0_at v_r0_isBad v_r0_statements v_r0_placeIn v_r0_letterOf v_r0_told v_r0_imaged v_r0_hasImage v_r0_turns0 v_r0_turnOf v_r0_turned v_r0_order0 v_r0_likely0 v_r0_leftThen v_r0_row v_r0_rowMany v_r0_seed kv e_2.2.1 e_2.2.2.1 e_2.2.2.2.1 e_2.2.2.2.2.1 e_2.2.2.2.2.2.1 e_2.2.2.2.2.2.2.1 0 e_2.2.2.2.2.2.2.2.1 e_2.2.2.2.2.2.2.2.2.1 e_2.2.2.2.2.2.2.2.2.2.1 e_2.2.2.2.2.2.2.2.2.2.2.1 e_2.2.2.2.2.2.2.2.2.2.2.2.1 e_2.2.2.2.2.2.2.2.2.2.2.2.2.1 e_2.2.2.2.2.2.2.2.2.2.2.2.2.2) H locs → lv_has ls 5 [(1, .int e_2.1)] → W p l e (rmd 5) s m ([.ref a_r0] : List Value).toArray below meth c H locs 0 0 Q (F0 m 98 ls []) := by
    intro e_2 hE H locs ls hW hl
    subst hE; have hr := hk_2
    refine lv_iload_n hx hb d_M_drop_98 rfl (lv_at hl 0 rfl) ?_
    obtain rfl := Option.some.inj hr
    rw [hQ]; exact k_iret C hret hW d_M_drop_99
  have hl_2 : ∀ (k : Nat) (y1_2 : Int32) (y2_2 : Int32) (y3_2 : Int32) (r0_days_2 : Int32) (r0_done0_2 : Int32) (r0_isTaking_2 : Int32) (r0_keptIn_2 : Int32) (r0_place0_2 : Int32) (r0_things_2 : Int32) (r0_figures_2 : Nat → Int32) (r0_hampers_2 : Nat → Int32) (r0_kept_2 : Nat → Int32) (r0_kinds_2 : Nat → Int32) (r0_left0_2 : Nat → Int32) (r0_wants0_2 : Nat → Int32) (r0_weights_2 : Nat → Int32), wh (fun (s : (Int32) × (Int32) × (Int32) × (Int32) × (Int32) × (Int32) × (Int32) × (Int32) × (Int32) × (Nat → Int32) × (Nat → Int32) × (Nat → Int32) × (Nat → Int32) × (Nat → Int32) × (Nat → Int32) × (Nat → Int32)) => F_M_drop_L16 s.1 s.2.1 s.2.2.1 s.2.2.2.1 s.2.2.2.2.1 s.2.2.2.2.2.1 s.2.2.2.2.2.2.1 s.2.2.2.2.2.2.2.1 s.2.2.2.2.2.2.2.2.1 s.2.2.2.2.2.2.2.2.2.1 s.2.2.2.2.2.2.2.2.2.2.1 s.2.2.2.2.2.2.2.2.2.2.2.1 s.2.2.2.2.2.2.2.2.2.2.2.2.1 s.2.2.2.2.2.2.2.2.2.2.2.2.2.1 s.2.2.2.2.2.2.2.2.2.2.2.2.2.2.1 s.2.2.2.2.2.2.2.2.2.2.2.2.2.2.2) k (y1_2, y2_2, y3_2, r0_days_2, r0_done0_2, r0_isTaking_2, r0_keptIn_2, r0_place0_2, r0_things_2, r0_figures_2, r0_hampers_2, r0_kept_2, r0_kinds_2, r0_left0_2, r0_wants0_2, r0_weights_2) = some ex_2 → ∀ (H : Heap) (locs : List Loc) (ls : Array Slot), wd A s.heap D (w_M_drop cI a_r0 a_r0_figures a_r0_hampers a_r0_kept a_r0_kinds a_r0_left0 a_r0_wants0 a_r0_weights v_r0_refusals v_r0_letters v_r0_letterMany v_r0_at v_r0_isBad v_r0_statements v_r0_placeIn v_r0_letterOf v_r0_told v_r0_imaged v_r0_hasImage v_r0_turns0 v_r0_turnOf v_r0_turned v_r0_order0 v_r0_likely0 v_r0_leftThen v_r0_row v_r0_rowMany v_r0_seed kv r0_days_2 r0_done0_2 r0_isTaking_2 r0_keptIn_2 r0_place0_2 r0_things_2 0 r0_figures_2 r0_hampers_2 r0_kept_2 r0_kinds_2 r0_left0_2 r0_wants0_2 r0_weights_2) H locs → lv_has ls 5 [(0, .ref a_r0), (1, .int y1_2), (2, .int y2_2), (3, .int y3_2)] → W p l e (rmd 5) s m ([.ref a_r0] : List Value).toArray below meth c H locs 0 0 Q (F0 m 16 ls []) := by
    intro k
    induction k with
    | zero => intro y1_2 y2_2 y3_2 r0_days_2 r0_done0_2 r0_isTaking_2 r0_keptIn_2 r0_place0_2 r0_things_2 r0_figures_2 r0_hampers_2 r0_kept_2 r0_kinds_2 r0_left0_2 r0_wants0_2 r0_weights_2 hw; exact absurd hw wh_0
    | succ k ih_2 =>
      intro y1_2 y2_2 y3_2 r0_days_2 r0_done0_2 r0_isTaking_2 r0_keptIn_2 r0_place0_2 r0_things_2 r0_figures_2 r0_hampers_2 r0_kept_2 r0_kinds_2 r0_left0_2 r0_wants0_2 r0_weights_2 hw H locs ls hW hl
      obtain ⟨z_2, hr, hz1_2, hz2_2⟩ := wh_s hw
      have hr : F_M_drop_L16 y1_2 y2_2 y3_2 r0_days_2 r0_done0_2 r0_isTaking_2 r0_keptIn_2 r0_place0_2 r0_things_2 r0_figures_2 r0_hampers_2 r0_kept_2 r0_kinds_2 r0_left0_2 r0_wants0_2 r0_weights_2 = some z_2 := hr
      unfold F_M_drop_L16 at hr
      refine lv_iload_n hx hb d_M_drop_16 rfl (lv_at hl 3 rfl) ?_
      refine lv_aload_n hx hb d_M_drop_17 rfl (lv_at hl 0 rfl) ?_
      refine k_get i_M C hW 0 rfl rfl 1 (by decide) qf_M_71 rfl rfl d_M_drop_18 ?_
      refine lv_icmp_ge (tgt := 98) hx hb d_M_drop_21 (by decide) (fun c_3 => ?_) (fun c_3 => ?_)
      · replace hr := ip c_3 hr
        exact hx_2 _ (hz2_2 _ (Option.some.inj hr).symm) _ _ _ hW (lv_sub hl [1] rfl)
      · replace hr := iN c_3 hr
        refine lv_iconst (v := 0) hx hb d_M_drop_24 (by decide) ?_
        refine lv_istore (lv' := [(4, .int 0), (0, .ref a_r0), (1, .int y1_2), (2, .int y2_2), (3, .int y3_2)]) hx hb d_M_drop_25 hl (by decide) rfl (fun ls hl => ?_)
        obtain ⟨ex_4, hw_4, hk_4⟩ := ob hr
        have hx_4 : ∀ (e_4 : (Nat → Int32)), e_4 = ex_4 → ∀ (H : Heap) (locs : List Loc) (ls : Array Slot), wd A s.heap D (w_M_drop cI a_r0 a_r0_figures a_r0_hampers a_r0_kept a_r0_kinds a_r0_left0 a_r0_wants0 a_r0_weights v_r0_refusals v_r0_letters v_r0_letterMany v_r0_at v_r0_isBad v_r0_statements v_r0_placeIn v_r0_letterOf v_r0_told v_r0_imaged v_r0_hasImage v_r0_turns0 v_r0_turnOf v_r0_turned v_r0_order0 v_r0_likely0 v_r0_leftThen v_r0_row v_r0_rowMany v_r0_seed kv r0_days_2 r0_done0_2 r0_isTaking_2 r0_keptIn_2 r0_place0_2 r0_things_2 0 r0_figures_2 e_4 r0_kept_2 r0_kinds_2 r0_left0_2 r0_wants0_2 r0_weights_2) H locs → lv_has ls 5 [(0, .ref a_r0), (1, .int y1_2), (2, .int y2_2), (3, .int y3_2)] → W p l e (rmd 5) s m ([.ref a_r0] : List Value).toArray below meth c H locs 0 0 Q (F0 m 57 ls []) := by
          intro e_4 hE H locs ls hW hl
          subst hE; have hr := hk_4
          refine lv_aload_n hx hb d_M_drop_57 rfl (lv_at hl 0 rfl) ?_
          obtain ⟨q_8, hc_8, hr⟩ := ob hr
          have ct_8 := C_M_likelyDays l D cI cS a_r0 a_r0_figures a_r0_hampers a_r0_kinds a_r0_weights (Value.ref a_r0_wants0) (Value.ref a_r0_left0) (Value.int r0_done0_2) (Value.int 0) v_r0_refusals v_r0_letters v_r0_letterMany v_r0_at v_r0_isBad v_r0_statements v_r0_placeIn v_r0_letterOf v_r0_told (Value.ref a_r0_kept) v_r0_imaged v_r0_hasImage (Value.int r0_place0_2) (Value.int r0_isTaking_2) (kv r0_keptIn_2) v_r0_turns0 v_r0_turnOf v_r0_turned v_r0_order0 v_r0_likely0 v_r0_leftThen v_r0_row v_r0_rowMany v_r0_seed r0_days_2 r0_things_2 r0_figures_2 e_4 r0_kinds_2 r0_weights_2 q_8 hc_8
          refine k_goIp hA hW [0, 1, 2, 4, 7] rfl rfl (k_runV C hA hW mw_M_likelyDays mv_M_likelyDays (ct_8.2 _) [0, 1, 2, 4, 7] rfl rfl 0 rfl rfl qm_M_262 ⟨Nat.le_of_ble_eq_true rfl, Nat.le_of_ble_eq_true rfl, Nat.zero_le _, Nat.zero_le _⟩ rfl rfl (Nat.le_of_ble_eq_true rfl) hl.1 d_M_drop_58) (fun H locs hW => ?_)
          refine lv_istore (lv' := [(4, .int q_8), (0, .ref a_r0), (1, .int y1_2), (2, .int y2_2), (3, .int y3_2)]) hx hb d_M_drop_61 hl (by decide) rfl (fun ls hl => ?_)
          refine lv_aload_n hx hb d_M_drop_63 rfl (lv_at hl 1 rfl) ?_
          obtain ⟨q_9, hc_9, hr⟩ := ob hr
          have ct_9 := C_M_again l D cI cS a_r0 a_r0_figures a_r0_hampers a_r0_kept a_r0_kinds a_r0_left0 a_r0_wants0 a_r0_weights (Value.int 0) v_r0_refusals v_r0_letters v_r0_letterMany v_r0_at v_r0_isBad v_r0_statements v_r0_placeIn v_r0_letterOf v_r0_told v_r0_imaged v_r0_hasImage v_r0_turns0 v_r0_turnOf v_r0_turned v_r0_order0 v_r0_likely0 v_r0_leftThen v_r0_row v_r0_rowMany v_r0_seed kv hkv_kept r0_days_2 r0_done0_2 r0_isTaking_2 r0_keptIn_2 r0_place0_2 r0_things_2 r0_figures_2 e_4 r0_kept_2 r0_kinds_2 r0_left0_2 r0_wants0_2 r0_weights_2 q_9 hc_9
          refine k_goV hA hW [0, 1, 2, 3, 4, 5, 6, 7] rfl ct_9.1 (ws' := (w_M_drop cI a_r0 a_r0_figures a_r0_hampers a_r0_kept a_r0_kinds a_r0_left0 a_r0_wants0 a_r0_weights v_r0_refusals v_r0_letters v_r0_letterMany v_r0_at v_r0_isBad v_r0_statements v_r0_placeIn v_r0_letterOf v_r0_told v_r0_imaged v_r0_hasImage v_r0_turns0 v_r0_turnOf v_r0_turned v_r0_order0 v_r0_likely0 v_r0_leftThen v_r0_row v_r0_rowMany v_r0_seed kv q_9.1 q_9.2.1 q_9.2.2.1 q_9.2.2.2.1 q_9.2.2.2.2.1 q_9.2.2.2.2.2.1 0 q_9.2.2.2.2.2.2.1 q_9.2.2.2.2.2.2.2.1 q_9.2.2.2.2.2.2.2.2.1 q_9.2.2.2.2.2.2.2.2.2.1 q_9.2.2.2.2.2.2.2.2.2.2.1 q_9.2.2.2.2.2.2.2.2.2.2.2.1 q_9.2.2.2.2.2.2.2.2.2.2.2.2)) rfl (k_runV C hA hW mw_M_again mv_M_again (ct_9.2 _) [0, 1, 2, 3, 4, 5, 6, 7] rfl rfl 0 rfl rfl qm_M_171 ⟨Nat.le_of_ble_eq_true rfl, Nat.le_of_ble_eq_true rfl, Nat.zero_le _, Nat.zero_le _⟩ rfl rfl (Nat.le_of_ble_eq_true rfl) hl.1 d_M_drop_64) (fun H locs hW => ?_)
          refine lv_iload hx hb d_M_drop_67 (lv_at hl 0 rfl) ?_
          refine lv_iload_n hx hb d_M_drop_69 rfl (lv_at hl 3 rfl) ?_
          have hJ_11 : ∀ (s0_11 : Int32), F_M_drop_J78_11 y2_2 y3_2 q_8 q_9 s0_11 = some z_2 → ∀ (H : Heap) (locs : List Loc) (ls : Array Slot), wd A s.heap D (w_M_drop cI a_r0 a_r0_figures a_r0_hampers a_r0_kept a_r0_kinds a_r0_left0 a_r0_wants0 a_r0_weights v_r0_refusals v_r0_letters v_r0_letterMany v_r0_at v_r0_isBad v_r0_statements v_r0_placeIn v_r0_letterOf v_r0_told v_r0_imaged v_r0_hasImage v_r0_turns0 v_r0_turnOf v_r0_turned v_r0_order0 v_r0_likely0 v_r0_leftThen v_r0_row v_r0_rowMany v_r0_seed kv q_9.1 q_9.2.1 q_9.2.2.1 q_9.2.2.2.1 q_9.2.2.2.2.1 q_9.2.2.2.2.2.1 0 q_9.2.2.2.2.2.2.1 q_9.2.2.2.2.2.2.2.1 q_9.2.2.2.2.2.2.2.2.1 q_9.2.2.2.2.2.2.2.2.2.1 q_9.2.2.2.2.2.2.2.2.2.2.1 q_9.2.2.2.2.2.2.2.2.2.2.2.1 q_9.2.2.2.2.2.2.2.2.2.2.2.2) H locs → lv_has ls 5 [(0, .ref a_r0), (2, .int y2_2), (3, .int y3_2), (4, .int q_8)] → W p l e (rmd 5) s m ([.ref a_r0] : List Value).toArray below meth c H locs 0 0 Q (F0 m 78 ls [.int s0_11]) := by
            intro s0_11 hr H locs ls hW hl
            unfold F_M_drop_J78_11 at hr
            refine lv_istore_n (lv' := [(1, .int s0_11), (0, .ref a_r0), (2, .int y2_2), (3, .int y3_2), (4, .int q_8)]) hx hb d_M_drop_78 rfl hl (by decide) rfl (fun ls hl => ?_)
            refine lv_iload hx hb d_M_drop_79 (lv_at hl 4 rfl) ?_
            refine lv_iload_n hx hb d_M_drop_81 rfl (lv_at hl 2 rfl) ?_
            refine lv_icmp_le (tgt := 90) hx hb d_M_drop_82 (by decide) (fun c_12 => ?_) (fun c_12 => ?_)
            · replace hr := ip c_12 hr
              refine lv_iload_n hx hb d_M_drop_90 rfl (lv_at hl 2 rfl) ?_
              refine lv_istore_n (lv' := [(2, .int y2_2), (1, .int s0_11), (0, .ref a_r0), (3, .int y3_2), (4, .int q_8)]) hx hb d_M_drop_91 rfl hl (by decide) rfl (fun ls hl => ?_)
              refine lv_iinc (v := (y3_2 + 1)) (lv' := [(3, .int (y3_2 + 1)), (2, .int y2_2), (1, .int s0_11), (0, .ref a_r0), (4, .int q_8)]) hx hb d_M_drop_92 hl (k := 3) rfl rfl (by decide) rfl (fun ls hl => ?_)
              refine lv_goto (tgt := 16) hx hb d_M_drop_95 (by decide) ?_
              exact ih_2 s0_11 y2_2 (y3_2 + 1) q_9.1 q_9.2.1 q_9.2.2.1 q_9.2.2.2.1 q_9.2.2.2.2.1 q_9.2.2.2.2.2.1 q_9.2.2.2.2.2.2.1 q_9.2.2.2.2.2.2.2.1 q_9.2.2.2.2.2.2.2.2.1 q_9.2.2.2.2.2.2.2.2.2.1 q_9.2.2.2.2.2.2.2.2.2.2.1 q_9.2.2.2.2.2.2.2.2.2.2.2.1 q_9.2.2.2.2.2.2.2.2.2.2.2.2 (hz1_2 _ (Option.some.inj hr).symm) _ _ _ hW (lv_sub hl [3, 2, 1, 0] rfl)
            · replace hr := iN c_12 hr
              refine lv_iload hx hb d_M_drop_85 (lv_at hl 4 rfl) ?_
              refine lv_goto (tgt := 91) hx hb d_M_drop_87 (by decide) ?_
              refine lv_istore_n (lv' := [(2, .int q_8), (1, .int s0_11), (0, .ref a_r0), (3, .int y3_2), (4, .int q_8)]) hx hb d_M_drop_91 rfl hl (by decide) rfl (fun ls hl => ?_)
              refine lv_iinc (v := (y3_2 + 1)) (lv' := [(3, .int (y3_2 + 1)), (2, .int q_8), (1, .int s0_11), (0, .ref a_r0), (4, .int q_8)]) hx hb d_M_drop_92 hl (k := 3) rfl rfl (by decide) rfl (fun ls hl => ?_)
              refine lv_goto (tgt := 16) hx hb d_M_drop_95 (by decide) ?_
              exact ih_2 s0_11 q_8 (y3_2 + 1) q_9.1 q_9.2.1 q_9.2.2.1 q_9.2.2.2.1 q_9.2.2.2.2.1 q_9.2.2.2.2.2.1 q_9.2.2.2.2.2.2.1 q_9.2.2.2.2.2.2.2.1 q_9.2.2.2.2.2.2.2.2.1 q_9.2.2.2.2.2.2.2.2.2.1 q_9.2.2.2.2.2.2.2.2.2.2.1 q_9.2.2.2.2.2.2.2.2.2.2.2.1 q_9.2.2.2.2.2.2.2.2.2.2.2.2 (hz1_2 _ (Option.some.inj hr).symm) _ _ _ hW (lv_sub hl [3, 2, 1, 0] rfl)
          refine lv_icmp_le (tgt := 77) hx hb d_M_drop_70 (by decide) (fun c_10 => ?_) (fun c_10 => ?_)
          · replace hr := ip c_10 hr
            refine lv_iload_n hx hb d_M_drop_77 rfl (lv_at hl 2 rfl) ?_
            exact hJ_11 y1_2 hr _ _ _ hW (lv_sub hl [1, 3, 4, 0] rfl)
          · replace hr := iN c_10 hr
            refine lv_iload_n hx hb d_M_drop_73 rfl (lv_at hl 4 rfl) ?_
            refine lv_goto (tgt := 78) hx hb d_M_drop_74 (by decide) ?_
            exact hJ_11 y3_2 hr _ _ _ hW (lv_sub hl [1, 3, 4, 0] rfl)
        have hl_4 : ∀ (k : Nat) (y4_4 : Int32) (r0_hampers_4 : Nat → Int32), wh (fun (s : (Int32) × (Nat → Int32)) => F_M_drop_L27 r0_days_2 y3_2 s.1 s.2) k (y4_4, r0_hampers_4) = some ex_4 → ∀ (H : Heap) (locs : List Loc) (ls : Array Slot), wd A s.heap D (w_M_drop cI a_r0 a_r0_figures a_r0_hampers a_r0_kept a_r0_kinds a_r0_left0 a_r0_wants0 a_r0_weights v_r0_refusals v_r0_letters v_r0_letterMany v_r0_at v_r0_isBad v_r0_statements v_r0_placeIn v_r0_letterOf v_r0_told v_r0_imaged v_r0_hasImage v_r0_turns0 v_r0_turnOf v_r0_turned v_r0_order0 v_r0_likely0 v_r0_leftThen v_r0_row v_r0_rowMany v_r0_seed kv r0_days_2 r0_done0_2 r0_isTaking_2 r0_keptIn_2 r0_place0_2 r0_things_2 0 r0_figures_2 r0_hampers_4 r0_kept_2 r0_kinds_2 r0_left0_2 r0_wants0_2 r0_weights_2) H locs → lv_has ls 5 [(0, .ref a_r0), (1, .int y1_2), (2, .int y2_2), (3, .int y3_2), (4, .int y4_4)] → W p l e (rmd 5) s m ([.ref a_r0] : List Value).toArray below meth c H locs 0 0 Q (F0 m 27 ls []) := by
          intro k
          induction k with
          | zero => intro y4_4 r0_hampers_4 hw; exact absurd hw wh_0
          | succ k ih_4 =>
            intro y4_4 r0_hampers_4 hw H locs ls hW hl
            obtain ⟨z_4, hr, hz1_4, hz2_4⟩ := wh_s hw
            have hr : F_M_drop_L27 r0_days_2 y3_2 y4_4 r0_hampers_4 = some z_4 := hr
            unfold F_M_drop_L27 at hr
            refine lv_iload hx hb d_M_drop_27 (lv_at hl 4 rfl) ?_
            refine lv_aload_n hx hb d_M_drop_29 rfl (lv_at hl 0 rfl) ?_
            refine k_get i_M C hW 0 rfl rfl 4 (by decide) qf_M_78 rfl rfl d_M_drop_30 ?_
            refine lv_icmp_ge (tgt := 57) hx hb d_M_drop_33 (by decide) (fun c_5 => ?_) (fun c_5 => ?_)
            · replace hr := ip c_5 hr
              exact hx_4 _ (hz2_4 _ (Option.some.inj hr).symm) _ _ _ hW (lv_sub hl [0, 1, 2, 3] rfl)
            · replace hr := iN c_5 hr
              refine lv_aload_n hx hb d_M_drop_36 rfl (lv_at hl 0 rfl) ?_
              refine k_get i_M C hW 0 rfl rfl 5 (by decide) qf_M_19 rfl rfl d_M_drop_37 ?_
              refine lv_iload hx hb d_M_drop_40 (lv_at hl 4 rfl) ?_
              refine lv_dup2_11 hx hb d_M_drop_42 rfl rfl ?_
              obtain ⟨h_6, hr⟩ := ck_some hr
              refine k_iald C hW 2 rfl h_6 d_M_drop_43 ?_
              refine lv_iconst (v := 1) hx hb d_M_drop_44 (by decide) ?_
              refine lv_iload_n hx hb d_M_drop_45 rfl (lv_at hl 3 rfl) ?_
              refine lv_ishl hx hb d_M_drop_46 ?_
              refine lv_iconst (v := (-1)) hx hb d_M_drop_47 (by decide) ?_
              refine lv_ixor hx hb d_M_drop_48 ?_
              refine lv_iand hx hb d_M_drop_49 ?_
              obtain ⟨h_7, hr⟩ := ck_some hr
              refine k_iast C hW 2 rfl h_7 (ws' := (w_M_drop cI a_r0 a_r0_figures a_r0_hampers a_r0_kept a_r0_kinds a_r0_left0 a_r0_wants0 a_r0_weights v_r0_refusals v_r0_letters v_r0_letterMany v_r0_at v_r0_isBad v_r0_statements v_r0_placeIn v_r0_letterOf v_r0_told v_r0_imaged v_r0_hasImage v_r0_turns0 v_r0_turnOf v_r0_turned v_r0_order0 v_r0_likely0 v_r0_leftThen v_r0_row v_r0_rowMany v_r0_seed kv r0_days_2 r0_done0_2 r0_isTaking_2 r0_keptIn_2 r0_place0_2 r0_things_2 0 r0_figures_2 (upd r0_hampers_4 (Int32.toNatClampNeg y4_4) ((r0_hampers_4 (Int32.toNatClampNeg y4_4)) &&& (((1 : Int32) <<< ((y3_2 : Int32) &&& 31)) ^^^ (-1)))) r0_kept_2 r0_kinds_2 r0_left0_2 r0_wants0_2 r0_weights_2)) rfl d_M_drop_50 (fun H locs hW => ?_)
              refine lv_iinc (v := (y4_4 + 1)) (lv' := [(4, .int (y4_4 + 1)), (0, .ref a_r0), (1, .int y1_2), (2, .int y2_2), (3, .int y3_2)]) hx hb d_M_drop_51 hl (k := 4) rfl rfl (by decide) rfl (fun ls hl => ?_)
              refine lv_goto (tgt := 27) hx hb d_M_drop_54 (by decide) ?_
              exact ih_4 (y4_4 + 1) (upd r0_hampers_4 (Int32.toNatClampNeg y4_4) ((r0_hampers_4 (Int32.toNatClampNeg y4_4)) &&& (((1 : Int32) <<< ((y3_2 : Int32) &&& 31)) ^^^ (-1)))) (hz1_4 _ (Option.some.inj hr).symm) _ _ _ hW (lv_sub hl [1, 2, 3, 4, 0] rfl)
        exact hl_4 _ 0 r0_hampers_2 hw_4 _ _ _ hW (lv_sub hl [1, 2, 3, 4, 0] rfl)
  exact hl_2 _ (-9) (-1) 0 q_1.1 q_1.2.1 q_1.2.2.1 q_1.2.2.2.1 q_1.2.2.2.2.1 q_1.2.2.2.2.2.1 q_1.2.2.2.2.2.2.1 q_1.2.2.2.2.2.2.2.1 q_1.2.2.2.2.2.2.2.2.1 q_1.2.2.2.2.2.2.2.2.2.1 q_1.2.2.2.2.2.2.2.2.2.2.1 q_1.2.2.2.2.2.2.2.2.2.2.2.1 q_1.2.2.2.2.2.2.2.2.2.2.2.2 hw_2 _ _ _ hW (lv_sub hl [3, 2, 1, 0] rfl)
def w_M_eggAndRope (cI : ClassId) (a_r0 : Nat) (a_r0_figures : Nat) (a_r0_kinds : Nat) (v_r0_weights v_r0_days v_r0_hampers v_r0_wants0 v_r0_left0 v_r0_done0 v_r0_refusals v_r0_letters v_r0_letterMany v_r0_at v_r0_isBad v_r0_statements v_r0_placeIn v_r0_letterOf v_r0_told v_r0_kept v_r0_imaged v_r0_hasImage v_r0_place0 v_r0_isTaking v_r0_keptIn v_r0_turns0 v_r0_turnOf v_r0_turned v_r0_order0 v_r0_likely0 v_r0_leftThen v_r0_row v_r0_rowMany v_r0_seed : Value) (r0_things : Int32) (r0_thrown : Int32) (r0_figures : Nat → Int32) (r0_kinds : Nat → Int32) : va_W := [(a_r0, .inr (9, [v_r0_weights, .int r0_things, .ref a_r0_kinds, .ref a_r0_figures, v_r0_days, v_r0_hampers, v_r0_wants0, v_r0_left0, v_r0_done0, .int r0_thrown, v_r0_refusals, v_r0_letters, v_r0_letterMany, v_r0_at, v_r0_isBad, v_r0_statements, v_r0_placeIn, v_r0_letterOf, v_r0_told, v_r0_kept, v_r0_imaged, v_r0_hasImage, v_r0_place0, v_r0_isTaking, v_r0_keptIn, v_r0_turns0, v_r0_turnOf, v_r0_turned, v_r0_order0, v_r0_likely0, v_r0_leftThen, v_r0_row, v_r0_rowMany, v_r0_seed])), (a_r0_figures, .inl (cI, 8, .inl r0_figures)), (a_r0_kinds, .inl (cI, 8, .inl r0_kinds))]
def F_M_eggAndRope_J86_11 (y2_3 : Int32) (y4_3 : Int32) (q_7 : Int32) (s0_9 : Int32) (s0_11 : Int32) : Option (((Int32) × (Int32) × (Int32)) ⊕ ((Int32) × (Int32))) :=
  (if s0_9 = 0 then (some (.inl (s0_11, y2_3, (y4_3 + 1)))) else (some (.inl (s0_11, q_7, (y4_3 + 1)))))
def F_M_eggAndRope_J68_9 (y3_1 : Int32) (y1_3 : Int32) (y2_3 : Int32) (y4_3 : Int32) (q_7 : Int32) (s0_9 : Int32) : Option (((Int32) × (Int32) × (Int32)) ⊕ ((Int32) × (Int32))) :=
  (if s0_9 = 0 then (F_M_eggAndRope_J86_11 y2_3 y4_3 q_7 s0_9 y1_3) else (F_M_eggAndRope_J86_11 y2_3 y4_3 q_7 s0_9 (((10 : Int32) * y3_1) + y4_3)))
def F_M_eggAndRope_J67_13 (y3_1 : Int32) (y1_3 : Int32) (y2_3 : Int32) (y4_3 : Int32) (q_7 : Int32) : Option (((Int32) × (Int32) × (Int32)) ⊕ ((Int32) × (Int32))) :=
  (F_M_eggAndRope_J68_9 y3_1 y1_3 y2_3 y4_3 q_7 0)
def F_M_eggAndRope_L26 (r0_things : Int32) (r0_figures : Nat → Int32) (r0_kinds : Nat → Int32) (y3_1 : Int32) (y1_3 : Int32) (y2_3 : Int32) (y4_3 : Int32) : Option (((Int32) × (Int32) × (Int32)) ⊕ ((Int32) × (Int32))) :=
  (if r0_things ≤ y4_3 then (some (.inr (y1_3, y2_3))) else ((F_M_goesWith r0_figures r0_kinds y3_1).bind (fun q_5 => ((F_M_goesWith r0_figures r0_kinds y4_3).bind (fun q_6 => ((F_M_onesOf (q_5 &&& q_6)).bind (fun q_7 => (if q_7 ≤ 0 then (F_M_eggAndRope_J67_13 y3_1 y1_3 y2_3 y4_3 q_7) else (if y2_3 ≤ q_7 then (F_M_eggAndRope_J67_13 y3_1 y1_3 y2_3 y4_3 q_7) else (F_M_eggAndRope_J68_9 y3_1 y1_3 y2_3 y4_3 q_7 1))))))))))
def F_M_eggAndRope_L13 (r0_things : Int32) (r0_figures : Nat → Int32) (r0_kinds : Nat → Int32) (y1_1 : Int32) (y2_1 : Int32) (y3_1 : Int32) : Option (((Int32) × (Int32) × (Int32)) ⊕ ((Int32))) :=
  (if r0_things ≤ y3_1 then (some (.inr y1_1)) else ((wh (fun (s : (Int32) × (Int32) × (Int32)) => F_M_eggAndRope_L26 r0_things r0_figures r0_kinds y3_1 s.1 s.2.1 s.2.2) 400 (y1_1, y2_1, (y3_1 + 1))).bind (fun e_3 => (some (.inl (e_3.1, e_3.2, (y3_1 + 1)))))))
def F_M_eggAndRope (r0_things : Int32) (r0_figures : Nat → Int32) (r0_kinds : Nat → Int32) : Option (Int32 × (Int32)) :=
  ((wh (fun (s : (Int32) × (Int32) × (Int32)) => F_M_eggAndRope_L13 r0_things r0_figures r0_kinds s.1 s.2.1 s.2.2) 400 (((-9) : Int32), (7 : Int32), (0 : Int32))).bind (fun e_1 => (some (e_1, 0))))
set_option maxHeartbeats 4000000 in
set_option maxRecDepth 100000 in
theorem C_M_eggAndRope (l : Launch) (D : va_G) (cI cS : ClassId) (a_r0 : Nat) (a_r0_figures : Nat) (a_r0_kinds : Nat) (v_r0_weights v_r0_days v_r0_hampers v_r0_wants0 v_r0_left0 v_r0_done0 v_r0_refusals v_r0_letters v_r0_letterMany v_r0_at v_r0_isBad v_r0_statements v_r0_placeIn v_r0_letterOf v_r0_told v_r0_kept v_r0_imaged v_r0_hasImage v_r0_place0 v_r0_isTaking v_r0_keptIn v_r0_turns0 v_r0_turnOf v_r0_turned v_r0_order0 v_r0_likely0 v_r0_leftThen v_r0_row v_r0_rowMany v_r0_seed : Value) (r0_things : Int32) (r0_thrown : Int32) (r0_figures : Nat → Int32) (r0_kinds : Nat → Int32) (o : Int32 × (Int32)) (hr : F_M_eggAndRope r0_things r0_figures r0_kinds = some o) : ctI l y_M_eggAndRope (Cond.code y_M_eggAndRope b_M_eggAndRope 7 (some FieldType.int)) (rmd 2) D (kTy cI cS) [.ref a_r0] (w_M_eggAndRope cI a_r0 a_r0_figures a_r0_kinds v_r0_weights v_r0_days v_r0_hampers v_r0_wants0 v_r0_left0 v_r0_done0 v_r0_refusals v_r0_letters v_r0_letterMany v_r0_at v_r0_isBad v_r0_statements v_r0_placeIn v_r0_letterOf v_r0_told v_r0_kept v_r0_imaged v_r0_hasImage v_r0_place0 v_r0_isTaking v_r0_keptIn v_r0_turns0 v_r0_turnOf v_r0_turned v_r0_order0 v_r0_likely0 v_r0_leftThen v_r0_row v_r0_rowMany v_r0_seed r0_things r0_thrown r0_figures r0_kinds) (w_M_eggAndRope cI a_r0 a_r0_figures a_r0_kinds v_r0_weights v_r0_days v_r0_hampers v_r0_wants0 v_r0_left0 v_r0_done0 v_r0_refusals v_r0_letters v_r0_letterMany v_r0_at v_r0_isBad v_r0_statements v_r0_placeIn v_r0_letterOf v_r0_told v_r0_kept v_r0_imaged v_r0_hasImage v_r0_place0 v_r0_isTaking v_r0_keptIn v_r0_turns0 v_r0_turnOf v_r0_turned v_r0_order0 v_r0_likely0 v_r0_leftThen v_r0_row v_r0_rowMany v_r0_seed r0_things o.2 r0_figures r0_kinds) o.1 := by
  unfold F_M_eggAndRope at hr
  refine ⟨rfl, fun sz => ct_of (w0 := (w_M_eggAndRope cI a_r0 a_r0_figures a_r0_kinds v_r0_weights v_r0_days v_r0_hampers v_r0_wants0 v_r0_left0 v_r0_done0 v_r0_refusals v_r0_letters v_r0_letterMany v_r0_at v_r0_isBad v_r0_statements v_r0_placeIn v_r0_letterOf v_r0_told v_r0_kept v_r0_imaged v_r0_hasImage v_r0_place0 v_r0_isTaking v_r0_keptIn v_r0_turns0 v_r0_turnOf v_r0_turned v_r0_order0 v_r0_likely0 v_r0_leftThen v_r0_row v_r0_rowMany v_r0_seed r0_things r0_thrown r0_figures r0_kinds)) (Qc := fun A => qI D (w_M_eggAndRope cI a_r0 a_r0_figures a_r0_kinds v_r0_weights v_r0_days v_r0_hampers v_r0_wants0 v_r0_left0 v_r0_done0 v_r0_refusals v_r0_letters v_r0_letterMany v_r0_at v_r0_isBad v_r0_statements v_r0_placeIn v_r0_letterOf v_r0_told v_r0_kept v_r0_imaged v_r0_hasImage v_r0_place0 v_r0_isTaking v_r0_keptIn v_r0_turns0 v_r0_turnOf v_r0_turned v_r0_order0 v_r0_likely0 v_r0_leftThen v_r0_row v_r0_rowMany v_r0_seed r0_things o.2 r0_figures r0_kinds) o.1 A) rfl (Nat.le_of_ble_eq_true rfl) ?_ sz⟩
  intro p e s m below meth c A hA C hret ls hl hW
  have C : cx p s m ([.ref a_r0] : List Value).toArray meth c b_M_eggAndRope 7 R_M D (kTy cI cS) (Cond.code y_M_eggAndRope b_M_eggAndRope 7 (some FieldType.int)) := C
  obtain ⟨hx, hb, hml, hown, hts, hK, hlk, hN⟩ := id C
  have hl : lv_has ls 7 [(0, .ref a_r0)] := hl
  obtain ⟨Q, hQ⟩ : ∃ Q, Q = MQ below (qI D (w_M_eggAndRope cI a_r0 a_r0_figures a_r0_kinds v_r0_weights v_r0_days v_r0_hampers v_r0_wants0 v_r0_left0 v_r0_done0 v_r0_refusals v_r0_letters v_r0_letterMany v_r0_at v_r0_isBad v_r0_statements v_r0_placeIn v_r0_letterOf v_r0_told v_r0_kept v_r0_imaged v_r0_hasImage v_r0_place0 v_r0_isTaking v_r0_keptIn v_r0_turns0 v_r0_turnOf v_r0_turned v_r0_order0 v_r0_likely0 v_r0_leftThen v_r0_row v_r0_rowMany v_r0_seed r0_things o.2 r0_figures r0_kinds) o.1 A) ([.ref a_r0] : List Value).toArray s 0 0 A := ⟨_, rfl⟩
  rw [← hQ]
  refine lv_aload_n hx hb d_M_eggAndRope_0 rfl (lv_at hl 0 rfl) ?_
  refine lv_iconst (v := 0) hx hb d_M_eggAndRope_1 (by decide) ?_
  refine k_put i_M t_M_ok n_M C hW 0 rfl rfl 9 (by decide) qf_M_67 rfl rfl (ty := .int) rfl rfl rfl (Nat.le_of_ble_eq_true rfl) (ws' := (w_M_eggAndRope cI a_r0 a_r0_figures a_r0_kinds v_r0_weights v_r0_days v_r0_hampers v_r0_wants0 v_r0_left0 v_r0_done0 v_r0_refusals v_r0_letters v_r0_letterMany v_r0_at v_r0_isBad v_r0_statements v_r0_placeIn v_r0_letterOf v_r0_told v_r0_kept v_r0_imaged v_r0_hasImage v_r0_place0 v_r0_isTaking v_r0_keptIn v_r0_turns0 v_r0_turnOf v_r0_turned v_r0_order0 v_r0_likely0 v_r0_leftThen v_r0_row v_r0_rowMany v_r0_seed r0_things 0 r0_figures r0_kinds)) rfl d_M_eggAndRope_2 (fun H locs hW => ?_)
  refine lv_bipush (v := (-9)) hx hb d_M_eggAndRope_5 (by decide) ?_
  refine lv_istore_n (lv' := [(1, .int (-9)), (0, .ref a_r0)]) hx hb d_M_eggAndRope_7 rfl hl (by decide) rfl (fun ls hl => ?_)
  refine lv_bipush (v := 7) hx hb d_M_eggAndRope_8 (by decide) ?_
  refine lv_istore_n (lv' := [(2, .int 7), (1, .int (-9)), (0, .ref a_r0)]) hx hb d_M_eggAndRope_10 rfl hl (by decide) rfl (fun ls hl => ?_)
  refine lv_iconst (v := 0) hx hb d_M_eggAndRope_11 (by decide) ?_
  refine lv_istore_n (lv' := [(3, .int 0), (2, .int 7), (1, .int (-9)), (0, .ref a_r0)]) hx hb d_M_eggAndRope_12 rfl hl (by decide) rfl (fun ls hl => ?_)
  obtain ⟨ex_1, hw_1, hk_1⟩ := ob hr
  have hx_1 : ∀ (e_1 : (Int32)), e_1 = ex_1 → ∀ (H : Heap) (locs : List Loc) (ls : Array Slot), wd A s.heap D (w_M_eggAndRope cI a_r0 a_r0_figures a_r0_kinds v_r0_weights v_r0_days v_r0_hampers v_r0_wants0 v_r0_left0 v_r0_done0 v_r0_refusals v_r0_letters v_r0_letterMany v_r0_at v_r0_isBad v_r0_statements v_r0_placeIn v_r0_letterOf v_r0_told v_r0_kept v_r0_imaged v_r0_hasImage v_r0_place0 v_r0_isTaking v_r0_keptIn v_r0_turns0 v_r0_turnOf v_r0_turned v_r0_order0 v_r0_likely0 v_r0_leftThen v_r0_row v_r0_rowMany v_r0_seed r0_things 0 r0_figures r0_kinds) H locs → lv_has ls 7 [(1, .int e_1)] → W p l e (rmd 2) s m ([.ref a_r0] : List Value).toArray below meth c H locs 0 0 Q (F0 m 111 ls []) := by
    intro e_1 hE H locs ls hW hl
    subst hE; have hr := hk_1
    refine lv_iload_n hx hb d_M_eggAndRope_111 rfl (lv_at hl 0 rfl) ?_
    obtain rfl := Option.some.inj hr
    rw [hQ]; exact k_iret C hret hW d_M_eggAndRope_112
  have hl_1 : ∀ (k : Nat) (y1_1 : Int32) (y2_1 : Int32) (y3_1 : Int32), wh (fun (s : (Int32) × (Int32) × (Int32)) => F_M_eggAndRope_L13 r0_things r0_figures r0_kinds s.1 s.2.1 s.2.2) k (y1_1, y2_1, y3_1) = some ex_1 → ∀ (H : Heap) (locs : List Loc) (ls : Array Slot), wd A s.heap D (w_M_eggAndRope cI a_r0 a_r0_figures a_r0_kinds v_r0_weights v_r0_days v_r0_hampers v_r0_wants0 v_r0_left0 v_r0_done0 v_r0_refusals v_r0_letters v_r0_letterMany v_r0_at v_r0_isBad v_r0_statements v_r0_placeIn v_r0_letterOf v_r0_told v_r0_kept v_r0_imaged v_r0_hasImage v_r0_place0 v_r0_isTaking v_r0_keptIn v_r0_turns0 v_r0_turnOf v_r0_turned v_r0_order0 v_r0_likely0 v_r0_leftThen v_r0_row v_r0_rowMany v_r0_seed r0_things 0 r0_figures r0_kinds) H locs → lv_has ls 7 [(0, .ref a_r0), (1, .int y1_1), (2, .int y2_1), (3, .int y3_1)] → W p l e (rmd 2) s m ([.ref a_r0] : List Value).toArray below meth c H locs 0 0 Q (F0 m 13 ls []) := by
    intro k
    induction k with
    | zero => intro y1_1 y2_1 y3_1 hw; exact absurd hw wh_0
    | succ k ih_1 =>
      intro y1_1 y2_1 y3_1 hw H locs ls hW hl
      obtain ⟨z_1, hr, hz1_1, hz2_1⟩ := wh_s hw
      have hr : F_M_eggAndRope_L13 r0_things r0_figures r0_kinds y1_1 y2_1 y3_1 = some z_1 := hr
      unfold F_M_eggAndRope_L13 at hr
      refine lv_iload_n hx hb d_M_eggAndRope_13 rfl (lv_at hl 3 rfl) ?_
      refine lv_aload_n hx hb d_M_eggAndRope_14 rfl (lv_at hl 0 rfl) ?_
      refine k_get i_M C hW 0 rfl rfl 1 (by decide) qf_M_71 rfl rfl d_M_eggAndRope_15 ?_
      refine lv_icmp_ge (tgt := 111) hx hb d_M_eggAndRope_18 (by decide) (fun c_2 => ?_) (fun c_2 => ?_)
      · replace hr := ip c_2 hr
        exact hx_1 _ (hz2_1 _ (Option.some.inj hr).symm) _ _ _ hW (lv_sub hl [1] rfl)
      · replace hr := iN c_2 hr
        refine lv_iload_n hx hb d_M_eggAndRope_21 rfl (lv_at hl 3 rfl) ?_
        refine lv_iconst (v := 1) hx hb d_M_eggAndRope_22 (by decide) ?_
        refine lv_iadd hx hb d_M_eggAndRope_23 ?_
        refine lv_istore (lv' := [(4, .int (y3_1 + 1)), (0, .ref a_r0), (1, .int y1_1), (2, .int y2_1), (3, .int y3_1)]) hx hb d_M_eggAndRope_24 hl (by decide) rfl (fun ls hl => ?_)
        obtain ⟨ex_3, hw_3, hk_3⟩ := ob hr
        have hx_3 : ∀ (e_3 : (Int32) × (Int32)), e_3 = ex_3 → ∀ (H : Heap) (locs : List Loc) (ls : Array Slot), wd A s.heap D (w_M_eggAndRope cI a_r0 a_r0_figures a_r0_kinds v_r0_weights v_r0_days v_r0_hampers v_r0_wants0 v_r0_left0 v_r0_done0 v_r0_refusals v_r0_letters v_r0_letterMany v_r0_at v_r0_isBad v_r0_statements v_r0_placeIn v_r0_letterOf v_r0_told v_r0_kept v_r0_imaged v_r0_hasImage v_r0_place0 v_r0_isTaking v_r0_keptIn v_r0_turns0 v_r0_turnOf v_r0_turned v_r0_order0 v_r0_likely0 v_r0_leftThen v_r0_row v_r0_rowMany v_r0_seed r0_things 0 r0_figures r0_kinds) H locs → lv_has ls 7 [(0, .ref a_r0), (3, .int y3_1), (1, .int e_3.1), (2, .int e_3.2)] → W p l e (rmd 2) s m ([.ref a_r0] : List Value).toArray below meth c H locs 0 0 Q (F0 m 105 ls []) := by
          intro e_3 hE H locs ls hW hl
          subst hE; have hr := hk_3
          refine lv_iinc (v := (y3_1 + 1)) (lv' := [(3, .int (y3_1 + 1)), (0, .ref a_r0), (1, .int e_3.1), (2, .int e_3.2)]) hx hb d_M_eggAndRope_105 hl (k := 1) rfl rfl (by decide) rfl (fun ls hl => ?_)
          refine lv_goto (tgt := 13) hx hb d_M_eggAndRope_108 (by decide) ?_
          exact ih_1 e_3.1 e_3.2 (y3_1 + 1) (hz1_1 _ (Option.some.inj hr).symm) _ _ _ hW (lv_sub hl [1, 2, 3, 0] rfl)
        have hl_3 : ∀ (k : Nat) (y1_3 : Int32) (y2_3 : Int32) (y4_3 : Int32), wh (fun (s : (Int32) × (Int32) × (Int32)) => F_M_eggAndRope_L26 r0_things r0_figures r0_kinds y3_1 s.1 s.2.1 s.2.2) k (y1_3, y2_3, y4_3) = some ex_3 → ∀ (H : Heap) (locs : List Loc) (ls : Array Slot), wd A s.heap D (w_M_eggAndRope cI a_r0 a_r0_figures a_r0_kinds v_r0_weights v_r0_days v_r0_hampers v_r0_wants0 v_r0_left0 v_r0_done0 v_r0_refusals v_r0_letters v_r0_letterMany v_r0_at v_r0_isBad v_r0_statements v_r0_placeIn v_r0_letterOf v_r0_told v_r0_kept v_r0_imaged v_r0_hasImage v_r0_place0 v_r0_isTaking v_r0_keptIn v_r0_turns0 v_r0_turnOf v_r0_turned v_r0_order0 v_r0_likely0 v_r0_leftThen v_r0_row v_r0_rowMany v_r0_seed r0_things 0 r0_figures r0_kinds) H locs → lv_has ls 7 [(0, .ref a_r0), (3, .int y3_1), (1, .int y1_3), (2, .int y2_3), (4, .int y4_3)] → W p l e (rmd 2) s m ([.ref a_r0] : List Value).toArray below meth c H locs 0 0 Q (F0 m 26 ls []) := by
          intro k
          induction k with
          | zero => intro y1_3 y2_3 y4_3 hw; exact absurd hw wh_0
          | succ k ih_3 =>
            intro y1_3 y2_3 y4_3 hw H locs ls hW hl
            obtain ⟨z_3, hr, hz1_3, hz2_3⟩ := wh_s hw
            have hr : F_M_eggAndRope_L26 r0_things r0_figures r0_kinds y3_1 y1_3 y2_3 y4_3 = some z_3 := hr
            unfold F_M_eggAndRope_L26 at hr
            refine lv_iload hx hb d_M_eggAndRope_26 (lv_at hl 4 rfl) ?_
            refine lv_aload_n hx hb d_M_eggAndRope_28 rfl (lv_at hl 0 rfl) ?_
            refine k_get i_M C hW 0 rfl rfl 1 (by decide) qf_M_71 rfl rfl d_M_eggAndRope_29 ?_
            refine lv_icmp_ge (tgt := 105) hx hb d_M_eggAndRope_32 (by decide) (fun c_4 => ?_) (fun c_4 => ?_)
            · replace hr := ip c_4 hr
              exact hx_3 _ (hz2_3 _ (Option.some.inj hr).symm) _ _ _ hW (lv_sub hl [0, 1, 2, 3] rfl)
            · replace hr := iN c_4 hr
              refine lv_aload_n hx hb d_M_eggAndRope_35 rfl (lv_at hl 0 rfl) ?_
              refine lv_iload_n hx hb d_M_eggAndRope_36 rfl (lv_at hl 1 rfl) ?_
              obtain ⟨q_5, hc_5, hr⟩ := ob hr
              have ct_5 := C_M_goesWith l D cI cS a_r0 a_r0_figures a_r0_kinds v_r0_weights (Value.int r0_things) v_r0_days v_r0_hampers v_r0_wants0 v_r0_left0 v_r0_done0 (Value.int 0) v_r0_refusals v_r0_letters v_r0_letterMany v_r0_at v_r0_isBad v_r0_statements v_r0_placeIn v_r0_letterOf v_r0_told v_r0_kept v_r0_imaged v_r0_hasImage v_r0_place0 v_r0_isTaking v_r0_keptIn v_r0_turns0 v_r0_turnOf v_r0_turned v_r0_order0 v_r0_likely0 v_r0_leftThen v_r0_row v_r0_rowMany v_r0_seed r0_figures r0_kinds y3_1 q_5 hc_5
              refine k_goIp hA hW [0, 1, 2] rfl rfl (k_runV C hA hW mw_M_goesWith mv_M_goesWith (ct_5.2 _) [0, 1, 2] rfl rfl 0 rfl rfl qm_M_96 ⟨Nat.le_of_ble_eq_true rfl, Nat.le_of_ble_eq_true rfl, Nat.zero_le _, Nat.zero_le _⟩ rfl rfl (Nat.le_of_ble_eq_true rfl) hl.1 d_M_eggAndRope_37) (fun H locs hW => ?_)
              refine lv_aload_n hx hb d_M_eggAndRope_40 rfl (lv_at hl 0 rfl) ?_
              refine lv_iload hx hb d_M_eggAndRope_41 (lv_at hl 4 rfl) ?_
              obtain ⟨q_6, hc_6, hr⟩ := ob hr
              have ct_6 := C_M_goesWith l D cI cS a_r0 a_r0_figures a_r0_kinds v_r0_weights (Value.int r0_things) v_r0_days v_r0_hampers v_r0_wants0 v_r0_left0 v_r0_done0 (Value.int 0) v_r0_refusals v_r0_letters v_r0_letterMany v_r0_at v_r0_isBad v_r0_statements v_r0_placeIn v_r0_letterOf v_r0_told v_r0_kept v_r0_imaged v_r0_hasImage v_r0_place0 v_r0_isTaking v_r0_keptIn v_r0_turns0 v_r0_turnOf v_r0_turned v_r0_order0 v_r0_likely0 v_r0_leftThen v_r0_row v_r0_rowMany v_r0_seed r0_figures r0_kinds y4_3 q_6 hc_6
              refine k_goIp hA hW [0, 1, 2] rfl rfl (k_runV C hA hW mw_M_goesWith mv_M_goesWith (ct_6.2 _) [0, 1, 2] rfl rfl 0 rfl rfl qm_M_96 ⟨Nat.le_of_ble_eq_true rfl, Nat.le_of_ble_eq_true rfl, Nat.zero_le _, Nat.zero_le _⟩ rfl rfl (Nat.le_of_ble_eq_true rfl) hl.1 d_M_eggAndRope_43) (fun H locs hW => ?_)
              refine lv_iand hx hb d_M_eggAndRope_46 ?_
              obtain ⟨q_7, hc_7, hr⟩ := ob hr
              have ct_7 := C_M_onesOf l D cI cS (q_5 &&& q_6) q_7 hc_7
              refine k_goIp hA hW [] rfl rfl (k_runS C hA hW mw_M_onesOf ms_M_onesOf (ct_7.2 _) [] rfl rfl qm_M_231 ⟨Nat.le_of_ble_eq_true rfl, Nat.le_of_ble_eq_true rfl, Nat.zero_le _, Nat.zero_le _⟩ rfl rfl (Nat.le_of_ble_eq_true rfl) hl.1 d_M_eggAndRope_47) (fun H locs hW => ?_)
              refine lv_istore (lv' := [(5, .int q_7), (0, .ref a_r0), (3, .int y3_1), (1, .int y1_3), (2, .int y2_3), (4, .int y4_3)]) hx hb d_M_eggAndRope_50 hl (by decide) rfl (fun ls hl => ?_)
              refine lv_iload hx hb d_M_eggAndRope_52 (lv_at hl 0 rfl) ?_
              have hJ_9 : ∀ (s0_9 : Int32), F_M_eggAndRope_J68_9 y3_1 y1_3 y2_3 y4_3 q_7 s0_9 = some z_3 → ∀ (H : Heap) (locs : List Loc) (ls : Array Slot), wd A s.heap D (w_M_eggAndRope cI a_r0 a_r0_figures a_r0_kinds v_r0_weights v_r0_days v_r0_hampers v_r0_wants0 v_r0_left0 v_r0_done0 v_r0_refusals v_r0_letters v_r0_letterMany v_r0_at v_r0_isBad v_r0_statements v_r0_placeIn v_r0_letterOf v_r0_told v_r0_kept v_r0_imaged v_r0_hasImage v_r0_place0 v_r0_isTaking v_r0_keptIn v_r0_turns0 v_r0_turnOf v_r0_turned v_r0_order0 v_r0_likely0 v_r0_leftThen v_r0_row v_r0_rowMany v_r0_seed r0_things 0 r0_figures r0_kinds) H locs → lv_has ls 7 [(0, .ref a_r0), (1, .int y1_3), (2, .int y2_3), (3, .int y3_1), (4, .int y4_3), (5, .int q_7)] → W p l e (rmd 2) s m ([.ref a_r0] : List Value).toArray below meth c H locs 0 0 Q (F0 m 68 ls [.int s0_9]) := by
                intro s0_9 hr H locs ls hW hl
                unfold F_M_eggAndRope_J68_9 at hr
                refine lv_istore (lv' := [(6, .int s0_9), (0, .ref a_r0), (1, .int y1_3), (2, .int y2_3), (3, .int y3_1), (4, .int y4_3), (5, .int q_7)]) hx hb d_M_eggAndRope_68 hl (by decide) rfl (fun ls hl => ?_)
                refine lv_iload hx hb d_M_eggAndRope_70 (lv_at hl 0 rfl) ?_
                have hJ_11 : ∀ (s0_11 : Int32), F_M_eggAndRope_J86_11 y2_3 y4_3 q_7 s0_9 s0_11 = some z_3 → ∀ (H : Heap) (locs : List Loc) (ls : Array Slot), wd A s.heap D (w_M_eggAndRope cI a_r0 a_r0_figures a_r0_kinds v_r0_weights v_r0_days v_r0_hampers v_r0_wants0 v_r0_left0 v_r0_done0 v_r0_refusals v_r0_letters v_r0_letterMany v_r0_at v_r0_isBad v_r0_statements v_r0_placeIn v_r0_letterOf v_r0_told v_r0_kept v_r0_imaged v_r0_hasImage v_r0_place0 v_r0_isTaking v_r0_keptIn v_r0_turns0 v_r0_turnOf v_r0_turned v_r0_order0 v_r0_likely0 v_r0_leftThen v_r0_row v_r0_rowMany v_r0_seed r0_things 0 r0_figures r0_kinds) H locs → lv_has ls 7 [(0, .ref a_r0), (2, .int y2_3), (3, .int y3_1), (4, .int y4_3), (5, .int q_7), (6, .int s0_9)] → W p l e (rmd 2) s m ([.ref a_r0] : List Value).toArray below meth c H locs 0 0 Q (F0 m 86 ls [.int s0_11]) := by
                  intro s0_11 hr H locs ls hW hl
                  unfold F_M_eggAndRope_J86_11 at hr
                  refine lv_istore_n (lv' := [(1, .int s0_11), (0, .ref a_r0), (2, .int y2_3), (3, .int y3_1), (4, .int y4_3), (5, .int q_7), (6, .int s0_9)]) hx hb d_M_eggAndRope_86 rfl hl (by decide) rfl (fun ls hl => ?_)
                  refine lv_iload hx hb d_M_eggAndRope_87 (lv_at hl 6 rfl) ?_
                  refine lv_if_eq (tgt := 97) hx hb d_M_eggAndRope_89 (by decide) (fun c_12 => ?_) (fun c_12 => ?_)
                  · replace hr := ip c_12 hr
                    refine lv_iload_n hx hb d_M_eggAndRope_97 rfl (lv_at hl 2 rfl) ?_
                    refine lv_istore_n (lv' := [(2, .int y2_3), (1, .int s0_11), (0, .ref a_r0), (3, .int y3_1), (4, .int y4_3), (5, .int q_7), (6, .int s0_9)]) hx hb d_M_eggAndRope_98 rfl hl (by decide) rfl (fun ls hl => ?_)
                    refine lv_iinc (v := (y4_3 + 1)) (lv' := [(4, .int (y4_3 + 1)), (2, .int y2_3), (1, .int s0_11), (0, .ref a_r0), (3, .int y3_1), (5, .int q_7), (6, .int s0_9)]) hx hb d_M_eggAndRope_99 hl (k := 4) rfl rfl (by decide) rfl (fun ls hl => ?_)
                    refine lv_goto (tgt := 26) hx hb d_M_eggAndRope_102 (by decide) ?_
                    exact ih_3 s0_11 y2_3 (y4_3 + 1) (hz1_3 _ (Option.some.inj hr).symm) _ _ _ hW (lv_sub hl [3, 4, 2, 1, 0] rfl)
                  · replace hr := iN c_12 hr
                    refine lv_iload hx hb d_M_eggAndRope_92 (lv_at hl 5 rfl) ?_
                    refine lv_goto (tgt := 98) hx hb d_M_eggAndRope_94 (by decide) ?_
                    refine lv_istore_n (lv' := [(2, .int q_7), (1, .int s0_11), (0, .ref a_r0), (3, .int y3_1), (4, .int y4_3), (5, .int q_7), (6, .int s0_9)]) hx hb d_M_eggAndRope_98 rfl hl (by decide) rfl (fun ls hl => ?_)
                    refine lv_iinc (v := (y4_3 + 1)) (lv' := [(4, .int (y4_3 + 1)), (2, .int q_7), (1, .int s0_11), (0, .ref a_r0), (3, .int y3_1), (5, .int q_7), (6, .int s0_9)]) hx hb d_M_eggAndRope_99 hl (k := 4) rfl rfl (by decide) rfl (fun ls hl => ?_)
                    refine lv_goto (tgt := 26) hx hb d_M_eggAndRope_102 (by decide) ?_
                    exact ih_3 s0_11 q_7 (y4_3 + 1) (hz1_3 _ (Option.some.inj hr).symm) _ _ _ hW (lv_sub hl [3, 4, 2, 1, 0] rfl)
                refine lv_if_eq (tgt := 85) hx hb d_M_eggAndRope_72 (by decide) (fun c_10 => ?_) (fun c_10 => ?_)
                · replace hr := ip c_10 hr
                  refine lv_iload_n hx hb d_M_eggAndRope_85 rfl (lv_at hl 2 rfl) ?_
                  exact hJ_11 y1_3 hr _ _ _ hW (lv_sub hl [1, 3, 4, 5, 6, 0] rfl)
                · replace hr := iN c_10 hr
                  refine lv_bipush (v := 10) hx hb d_M_eggAndRope_75 (by decide) ?_
                  refine lv_iload_n hx hb d_M_eggAndRope_77 rfl (lv_at hl 4 rfl) ?_
                  refine lv_imul hx hb d_M_eggAndRope_78 ?_
                  refine lv_iload hx hb d_M_eggAndRope_79 (lv_at hl 5 rfl) ?_
                  refine lv_iadd hx hb d_M_eggAndRope_81 ?_
                  refine lv_goto (tgt := 86) hx hb d_M_eggAndRope_82 (by decide) ?_
                  exact hJ_11 (((10 : Int32) * y3_1) + y4_3) hr _ _ _ hW (lv_sub hl [1, 3, 4, 5, 6, 0] rfl)
              have hJ_13 : ∀ (_ : Unit), F_M_eggAndRope_J67_13 y3_1 y1_3 y2_3 y4_3 q_7 = some z_3 → ∀ (H : Heap) (locs : List Loc) (ls : Array Slot), wd A s.heap D (w_M_eggAndRope cI a_r0 a_r0_figures a_r0_kinds v_r0_weights v_r0_days v_r0_hampers v_r0_wants0 v_r0_left0 v_r0_done0 v_r0_refusals v_r0_letters v_r0_letterMany v_r0_at v_r0_isBad v_r0_statements v_r0_placeIn v_r0_letterOf v_r0_told v_r0_kept v_r0_imaged v_r0_hasImage v_r0_place0 v_r0_isTaking v_r0_keptIn v_r0_turns0 v_r0_turnOf v_r0_turned v_r0_order0 v_r0_likely0 v_r0_leftThen v_r0_row v_r0_rowMany v_r0_seed r0_things 0 r0_figures r0_kinds) H locs → lv_has ls 7 [(0, .ref a_r0), (1, .int y1_3), (2, .int y2_3), (3, .int y3_1), (4, .int y4_3), (5, .int q_7)] → W p l e (rmd 2) s m ([.ref a_r0] : List Value).toArray below meth c H locs 0 0 Q (F0 m 67 ls []) := by
                intro _ hr H locs ls hW hl
                unfold F_M_eggAndRope_J67_13 at hr
                refine lv_iconst (v := 0) hx hb d_M_eggAndRope_67 (by decide) ?_
                exact hJ_9 0 hr _ _ _ hW (lv_sub hl [0, 1, 2, 3, 4, 5] rfl)
              refine lv_if_le (tgt := 67) hx hb d_M_eggAndRope_54 (by decide) (fun c_8 => ?_) (fun c_8 => ?_)
              · replace hr := ip c_8 hr
                exact hJ_13 () hr _ _ _ hW (lv_sub hl [1, 3, 4, 2, 5, 0] rfl)
              · replace hr := iN c_8 hr
                refine lv_iload hx hb d_M_eggAndRope_57 (lv_at hl 0 rfl) ?_
                refine lv_iload_n hx hb d_M_eggAndRope_59 rfl (lv_at hl 4 rfl) ?_
                refine lv_icmp_ge (tgt := 67) hx hb d_M_eggAndRope_60 (by decide) (fun c_14 => ?_) (fun c_14 => ?_)
                · replace hr := ip c_14 hr
                  exact hJ_13 () hr _ _ _ hW (lv_sub hl [1, 3, 4, 2, 5, 0] rfl)
                · replace hr := iN c_14 hr
                  refine lv_iconst (v := 1) hx hb d_M_eggAndRope_63 (by decide) ?_
                  refine lv_goto (tgt := 68) hx hb d_M_eggAndRope_64 (by decide) ?_
                  exact hJ_9 1 hr _ _ _ hW (lv_sub hl [1, 3, 4, 2, 5, 0] rfl)
        exact hl_3 _ y1_1 y2_1 (y3_1 + 1) hw_3 _ _ _ hW (lv_sub hl [1, 4, 2, 3, 0] rfl)
  exact hl_1 _ (-9) 7 0 hw_1 _ _ _ hW (lv_sub hl [3, 2, 1, 0] rfl)
def w_M_emptyFields (cI : ClassId) (a_r0 : Nat) (a_r0_left0 : Nat) (v_r0_weights v_r0_things v_r0_kinds v_r0_figures v_r0_days v_r0_hampers v_r0_wants0 v_r0_done0 v_r0_thrown v_r0_refusals v_r0_letters v_r0_letterMany v_r0_at v_r0_isBad v_r0_statements v_r0_placeIn v_r0_letterOf v_r0_told v_r0_kept v_r0_imaged v_r0_hasImage v_r0_place0 v_r0_isTaking v_r0_keptIn v_r0_turns0 v_r0_turnOf v_r0_turned v_r0_order0 v_r0_likely0 v_r0_leftThen v_r0_row v_r0_rowMany v_r0_seed : Value) (r0_left0 : Nat → Int32) : va_W := [(a_r0, .inr (9, [v_r0_weights, v_r0_things, v_r0_kinds, v_r0_figures, v_r0_days, v_r0_hampers, v_r0_wants0, .ref a_r0_left0, v_r0_done0, v_r0_thrown, v_r0_refusals, v_r0_letters, v_r0_letterMany, v_r0_at, v_r0_isBad, v_r0_statements, v_r0_placeIn, v_r0_letterOf, v_r0_told, v_r0_kept, v_r0_imaged, v_r0_hasImage, v_r0_place0, v_r0_isTaking, v_r0_keptIn, v_r0_turns0, v_r0_turnOf, v_r0_turned, v_r0_order0, v_r0_likely0, v_r0_leftThen, v_r0_row, v_r0_rowMany, v_r0_seed])), (a_r0_left0, .inl (cI, 4, .inl r0_left0))]
def F_M_emptyFields_L4 (r0_left0 : Nat → Int32) (y1_1 : Int32) (y2_1 : Int32) : Option (((Int32) × (Int32)) ⊕ ((Int32))) :=
  (if (4 : Int32) ≤ y2_1 then (some (.inr y1_1)) else (ck y2_1 4 (if (r0_left0 (Int32.toNatClampNeg y2_1)) = 0 then (some (.inl ((y1_1 ||| ((1 : Int32) <<< ((y2_1 : Int32) &&& 31))), (y2_1 + 1)))) else (some (.inl ((y1_1 ||| 0), (y2_1 + 1)))))))
def F_M_emptyFields (r0_left0 : Nat → Int32) : Option (Int32) :=
  ((wh (fun (s : (Int32) × (Int32)) => F_M_emptyFields_L4 r0_left0 s.1 s.2) 400 ((0 : Int32), (0 : Int32))).bind (fun e_1 => (some e_1)))
set_option maxHeartbeats 4000000 in
set_option maxRecDepth 100000 in
theorem C_M_emptyFields (l : Launch) (D : va_G) (cI cS : ClassId) (a_r0 : Nat) (a_r0_left0 : Nat) (v_r0_weights v_r0_things v_r0_kinds v_r0_figures v_r0_days v_r0_hampers v_r0_wants0 v_r0_done0 v_r0_thrown v_r0_refusals v_r0_letters v_r0_letterMany v_r0_at v_r0_isBad v_r0_statements v_r0_placeIn v_r0_letterOf v_r0_told v_r0_kept v_r0_imaged v_r0_hasImage v_r0_place0 v_r0_isTaking v_r0_keptIn v_r0_turns0 v_r0_turnOf v_r0_turned v_r0_order0 v_r0_likely0 v_r0_leftThen v_r0_row v_r0_rowMany v_r0_seed : Value) (r0_left0 : Nat → Int32) (o : Int32) (hr : F_M_emptyFields r0_left0 = some o) : ctI l y_M_emptyFields (Cond.code y_M_emptyFields b_M_emptyFields 3 (some FieldType.int)) (rmd 0) D (kTy cI cS) [.ref a_r0] (w_M_emptyFields cI a_r0 a_r0_left0 v_r0_weights v_r0_things v_r0_kinds v_r0_figures v_r0_days v_r0_hampers v_r0_wants0 v_r0_done0 v_r0_thrown v_r0_refusals v_r0_letters v_r0_letterMany v_r0_at v_r0_isBad v_r0_statements v_r0_placeIn v_r0_letterOf v_r0_told v_r0_kept v_r0_imaged v_r0_hasImage v_r0_place0 v_r0_isTaking v_r0_keptIn v_r0_turns0 v_r0_turnOf v_r0_turned v_r0_order0 v_r0_likely0 v_r0_leftThen v_r0_row v_r0_rowMany v_r0_seed r0_left0) (w_M_emptyFields cI a_r0 a_r0_left0 v_r0_weights v_r0_things v_r0_kinds v_r0_figures v_r0_days v_r0_hampers v_r0_wants0 v_r0_done0 v_r0_thrown v_r0_refusals v_r0_letters v_r0_letterMany v_r0_at v_r0_isBad v_r0_statements v_r0_placeIn v_r0_letterOf v_r0_told v_r0_kept v_r0_imaged v_r0_hasImage v_r0_place0 v_r0_isTaking v_r0_keptIn v_r0_turns0 v_r0_turnOf v_r0_turned v_r0_order0 v_r0_likely0 v_r0_leftThen v_r0_row v_r0_rowMany v_r0_seed r0_left0) o := by
  unfold F_M_emptyFields at hr
  refine ⟨rfl, fun sz => ct_of (w0 := (w_M_emptyFields cI a_r0 a_r0_left0 v_r0_weights v_r0_things v_r0_kinds v_r0_figures v_r0_days v_r0_hampers v_r0_wants0 v_r0_done0 v_r0_thrown v_r0_refusals v_r0_letters v_r0_letterMany v_r0_at v_r0_isBad v_r0_statements v_r0_placeIn v_r0_letterOf v_r0_told v_r0_kept v_r0_imaged v_r0_hasImage v_r0_place0 v_r0_isTaking v_r0_keptIn v_r0_turns0 v_r0_turnOf v_r0_turned v_r0_order0 v_r0_likely0 v_r0_leftThen v_r0_row v_r0_rowMany v_r0_seed r0_left0)) (Qc := fun A => qI D (w_M_emptyFields cI a_r0 a_r0_left0 v_r0_weights v_r0_things v_r0_kinds v_r0_figures v_r0_days v_r0_hampers v_r0_wants0 v_r0_done0 v_r0_thrown v_r0_refusals v_r0_letters v_r0_letterMany v_r0_at v_r0_isBad v_r0_statements v_r0_placeIn v_r0_letterOf v_r0_told v_r0_kept v_r0_imaged v_r0_hasImage v_r0_place0 v_r0_isTaking v_r0_keptIn v_r0_turns0 v_r0_turnOf v_r0_turned v_r0_order0 v_r0_likely0 v_r0_leftThen v_r0_row v_r0_rowMany v_r0_seed r0_left0) o A) rfl (Nat.le_of_ble_eq_true rfl) ?_ sz⟩
  intro p e s m below meth c A hA C hret ls hl hW
  have C : cx p s m ([.ref a_r0] : List Value).toArray meth c b_M_emptyFields 3 R_M D (kTy cI cS) (Cond.code y_M_emptyFields b_M_emptyFields 3 (some FieldType.int)) := C
  obtain ⟨hx, hb, hml, hown, hts, hK, hlk, hN⟩ := id C
  have hl : lv_has ls 3 [(0, .ref a_r0)] := hl
  obtain ⟨Q, hQ⟩ : ∃ Q, Q = MQ below (qI D (w_M_emptyFields cI a_r0 a_r0_left0 v_r0_weights v_r0_things v_r0_kinds v_r0_figures v_r0_days v_r0_hampers v_r0_wants0 v_r0_done0 v_r0_thrown v_r0_refusals v_r0_letters v_r0_letterMany v_r0_at v_r0_isBad v_r0_statements v_r0_placeIn v_r0_letterOf v_r0_told v_r0_kept v_r0_imaged v_r0_hasImage v_r0_place0 v_r0_isTaking v_r0_keptIn v_r0_turns0 v_r0_turnOf v_r0_turned v_r0_order0 v_r0_likely0 v_r0_leftThen v_r0_row v_r0_rowMany v_r0_seed r0_left0) o A) ([.ref a_r0] : List Value).toArray s 0 0 A := ⟨_, rfl⟩
  rw [← hQ]
  refine lv_iconst (v := 0) hx hb d_M_emptyFields_0 (by decide) ?_
  refine lv_istore_n (lv' := [(1, .int 0), (0, .ref a_r0)]) hx hb d_M_emptyFields_1 rfl hl (by decide) rfl (fun ls hl => ?_)
  refine lv_iconst (v := 0) hx hb d_M_emptyFields_2 (by decide) ?_
  refine lv_istore_n (lv' := [(2, .int 0), (1, .int 0), (0, .ref a_r0)]) hx hb d_M_emptyFields_3 rfl hl (by decide) rfl (fun ls hl => ?_)
  obtain ⟨ex_1, hw_1, hk_1⟩ := ob hr
  have hx_1 : ∀ (e_1 : (Int32)), e_1 = ex_1 → ∀ (H : Heap) (locs : List Loc) (ls : Array Slot), wd A s.heap D (w_M_emptyFields cI a_r0 a_r0_left0 v_r0_weights v_r0_things v_r0_kinds v_r0_figures v_r0_days v_r0_hampers v_r0_wants0 v_r0_done0 v_r0_thrown v_r0_refusals v_r0_letters v_r0_letterMany v_r0_at v_r0_isBad v_r0_statements v_r0_placeIn v_r0_letterOf v_r0_told v_r0_kept v_r0_imaged v_r0_hasImage v_r0_place0 v_r0_isTaking v_r0_keptIn v_r0_turns0 v_r0_turnOf v_r0_turned v_r0_order0 v_r0_likely0 v_r0_leftThen v_r0_row v_r0_rowMany v_r0_seed r0_left0) H locs → lv_has ls 3 [(1, .int e_1)] → W p l e (rmd 0) s m ([.ref a_r0] : List Value).toArray below meth c H locs 0 0 Q (F0 m 34 ls []) := by
    intro e_1 hE H locs ls hW hl
    subst hE; have hr := hk_1
    refine lv_iload_n hx hb d_M_emptyFields_34 rfl (lv_at hl 0 rfl) ?_
    obtain rfl := Option.some.inj hr
    rw [hQ]; exact k_iret C hret hW d_M_emptyFields_35
  have hl_1 : ∀ (k : Nat) (y1_1 : Int32) (y2_1 : Int32), wh (fun (s : (Int32) × (Int32)) => F_M_emptyFields_L4 r0_left0 s.1 s.2) k (y1_1, y2_1) = some ex_1 → ∀ (H : Heap) (locs : List Loc) (ls : Array Slot), wd A s.heap D (w_M_emptyFields cI a_r0 a_r0_left0 v_r0_weights v_r0_things v_r0_kinds v_r0_figures v_r0_days v_r0_hampers v_r0_wants0 v_r0_done0 v_r0_thrown v_r0_refusals v_r0_letters v_r0_letterMany v_r0_at v_r0_isBad v_r0_statements v_r0_placeIn v_r0_letterOf v_r0_told v_r0_kept v_r0_imaged v_r0_hasImage v_r0_place0 v_r0_isTaking v_r0_keptIn v_r0_turns0 v_r0_turnOf v_r0_turned v_r0_order0 v_r0_likely0 v_r0_leftThen v_r0_row v_r0_rowMany v_r0_seed r0_left0) H locs → lv_has ls 3 [(0, .ref a_r0), (1, .int y1_1), (2, .int y2_1)] → W p l e (rmd 0) s m ([.ref a_r0] : List Value).toArray below meth c H locs 0 0 Q (F0 m 4 ls []) := by
    intro k
    induction k with
    | zero => intro y1_1 y2_1 hw; exact absurd hw wh_0
    | succ k ih_1 =>
      intro y1_1 y2_1 hw H locs ls hW hl
      obtain ⟨z_1, hr, hz1_1, hz2_1⟩ := wh_s hw
      have hr : F_M_emptyFields_L4 r0_left0 y1_1 y2_1 = some z_1 := hr
      unfold F_M_emptyFields_L4 at hr
      refine lv_iload_n hx hb d_M_emptyFields_4 rfl (lv_at hl 2 rfl) ?_
      refine lv_iconst (v := 4) hx hb d_M_emptyFields_5 (by decide) ?_
      refine lv_icmp_ge (tgt := 34) hx hb d_M_emptyFields_6 (by decide) (fun c_2 => ?_) (fun c_2 => ?_)
      · replace hr := ip c_2 hr
        exact hx_1 _ (hz2_1 _ (Option.some.inj hr).symm) _ _ _ hW (lv_sub hl [1] rfl)
      · replace hr := iN c_2 hr
        refine lv_iload_n hx hb d_M_emptyFields_9 rfl (lv_at hl 1 rfl) ?_
        refine lv_aload_n hx hb d_M_emptyFields_10 rfl (lv_at hl 0 rfl) ?_
        refine k_get i_M C hW 0 rfl rfl 7 (by decide) qf_M_25 rfl rfl d_M_emptyFields_11 ?_
        refine lv_iload_n hx hb d_M_emptyFields_14 rfl (lv_at hl 2 rfl) ?_
        obtain ⟨h_3, hr⟩ := ck_some hr
        refine k_iald C hW 1 rfl h_3 d_M_emptyFields_15 ?_
        refine lv_if_ne (tgt := 25) hx hb d_M_emptyFields_16 (by decide) (fun c_4 => ?_) (fun c_4 => ?_)
        · replace hr := iN c_4 hr
          refine lv_iconst (v := 0) hx hb d_M_emptyFields_25 (by decide) ?_
          refine lv_ior hx hb d_M_emptyFields_26 ?_
          refine lv_istore_n (lv' := [(1, .int (y1_1 ||| 0)), (0, .ref a_r0), (2, .int y2_1)]) hx hb d_M_emptyFields_27 rfl hl (by decide) rfl (fun ls hl => ?_)
          refine lv_iinc (v := (y2_1 + 1)) (lv' := [(2, .int (y2_1 + 1)), (1, .int (y1_1 ||| 0)), (0, .ref a_r0)]) hx hb d_M_emptyFields_28 hl (k := 2) rfl rfl (by decide) rfl (fun ls hl => ?_)
          refine lv_goto (tgt := 4) hx hb d_M_emptyFields_31 (by decide) ?_
          exact ih_1 (y1_1 ||| 0) (y2_1 + 1) (hz1_1 _ (Option.some.inj hr).symm) _ _ _ hW (lv_sub hl [2, 1, 0] rfl)
        · replace hr := ip c_4 hr
          refine lv_iconst (v := 1) hx hb d_M_emptyFields_19 (by decide) ?_
          refine lv_iload_n hx hb d_M_emptyFields_20 rfl (lv_at hl 2 rfl) ?_
          refine lv_ishl hx hb d_M_emptyFields_21 ?_
          refine lv_goto (tgt := 26) hx hb d_M_emptyFields_22 (by decide) ?_
          refine lv_ior hx hb d_M_emptyFields_26 ?_
          refine lv_istore_n (lv' := [(1, .int (y1_1 ||| ((1 : Int32) <<< ((y2_1 : Int32) &&& 31)))), (0, .ref a_r0), (2, .int y2_1)]) hx hb d_M_emptyFields_27 rfl hl (by decide) rfl (fun ls hl => ?_)
          refine lv_iinc (v := (y2_1 + 1)) (lv' := [(2, .int (y2_1 + 1)), (1, .int (y1_1 ||| ((1 : Int32) <<< ((y2_1 : Int32) &&& 31)))), (0, .ref a_r0)]) hx hb d_M_emptyFields_28 hl (k := 2) rfl rfl (by decide) rfl (fun ls hl => ?_)
          refine lv_goto (tgt := 4) hx hb d_M_emptyFields_31 (by decide) ?_
          exact ih_1 (y1_1 ||| ((1 : Int32) <<< ((y2_1 : Int32) &&& 31))) (y2_1 + 1) (hz1_1 _ (Option.some.inj hr).symm) _ _ _ hW (lv_sub hl [2, 1, 0] rfl)
  exact hl_1 _ 0 0 hw_1 _ _ _ hW (lv_sub hl [2, 1, 0] rfl)
def w_M_feed (cI : ClassId) (a_r0 : Nat) (a_r0_letters : Nat) (a_r0_refusals : Nat) (v_r0_weights v_r0_things v_r0_kinds v_r0_figures v_r0_days v_r0_hampers v_r0_wants0 v_r0_left0 v_r0_done0 v_r0_at v_r0_isBad v_r0_statements v_r0_placeIn v_r0_letterOf v_r0_told v_r0_kept v_r0_imaged v_r0_hasImage v_r0_place0 v_r0_isTaking v_r0_keptIn v_r0_turns0 v_r0_turnOf v_r0_turned v_r0_order0 v_r0_likely0 v_r0_leftThen v_r0_row v_r0_rowMany v_r0_seed : Value) (r0_letterMany : Int32) (r0_thrown : Int32) (r0_letters : Nat → Int32) (r0_refusals : Nat → Int32) : va_W := [(a_r0, .inr (9, [v_r0_weights, v_r0_things, v_r0_kinds, v_r0_figures, v_r0_days, v_r0_hampers, v_r0_wants0, v_r0_left0, v_r0_done0, .int r0_thrown, .ref a_r0_refusals, .ref a_r0_letters, .int r0_letterMany, v_r0_at, v_r0_isBad, v_r0_statements, v_r0_placeIn, v_r0_letterOf, v_r0_told, v_r0_kept, v_r0_imaged, v_r0_hasImage, v_r0_place0, v_r0_isTaking, v_r0_keptIn, v_r0_turns0, v_r0_turnOf, v_r0_turned, v_r0_order0, v_r0_likely0, v_r0_leftThen, v_r0_row, v_r0_rowMany, v_r0_seed])), (a_r0_letters, .inl (cI, 96, .inl r0_letters)), (a_r0_refusals, .inl (cI, 7, .inl r0_refusals))]
def F_M_feed_J32_3 (r0_letterMany : Int32) (r0_letters : Nat → Int32) (r0_refusals : Nat → Int32) : Option (Int32 × (Int32) × (Int32) × (Nat → Int32) × (Nat → Int32)) :=
  ((F_M_refuse r0_refusals ((-6) : Int32)).bind (fun q_4 => (some (q_4.1, r0_letterMany, 0, r0_letters, q_4.2))))
def F_M_feed (r0_letterMany : Int32) (r0_letters : Nat → Int32) (r0_refusals : Nat → Int32) (x1 : Int32) : Option (Int32 × (Int32) × (Int32) × (Nat → Int32) × (Nat → Int32)) :=
  (if (0 : Int32) ≤ x1 then (if (255 : Int32) < x1 then (F_M_feed_J32_3 r0_letterMany r0_letters r0_refusals) else (if r0_letterMany = 96 then (F_M_feed_J32_3 r0_letterMany r0_letters r0_refusals) else (ck r0_letterMany 96 (some ((r0_letterMany + 1), (r0_letterMany + 1), 0, (upd r0_letters (Int32.toNatClampNeg r0_letterMany) x1), r0_refusals))))) else ((F_M_refuse r0_refusals ((-4) : Int32)).bind (fun q_7 => (some (q_7.1, r0_letterMany, 0, r0_letters, q_7.2)))))
set_option maxHeartbeats 4000000 in
set_option maxRecDepth 100000 in
theorem C_M_feed (l : Launch) (D : va_G) (cI cS : ClassId) (a_r0 : Nat) (a_r0_letters : Nat) (a_r0_refusals : Nat) (v_r0_weights v_r0_things v_r0_kinds v_r0_figures v_r0_days v_r0_hampers v_r0_wants0 v_r0_left0 v_r0_done0 v_r0_at v_r0_isBad v_r0_statements v_r0_placeIn v_r0_letterOf v_r0_told v_r0_kept v_r0_imaged v_r0_hasImage v_r0_place0 v_r0_isTaking v_r0_keptIn v_r0_turns0 v_r0_turnOf v_r0_turned v_r0_order0 v_r0_likely0 v_r0_leftThen v_r0_row v_r0_rowMany v_r0_seed : Value) (r0_letterMany : Int32) (r0_thrown : Int32) (r0_letters : Nat → Int32) (r0_refusals : Nat → Int32) (x1 : Int32) (o : Int32 × (Int32) × (Int32) × (Nat → Int32) × (Nat → Int32)) (hr : F_M_feed r0_letterMany r0_letters r0_refusals x1 = some o) : ctI l y_M_feed (Cond.code y_M_feed b_M_feed 2 (some FieldType.int)) (rmd 1) D (kTy cI cS) [.ref a_r0, .int x1] (w_M_feed cI a_r0 a_r0_letters a_r0_refusals v_r0_weights v_r0_things v_r0_kinds v_r0_figures v_r0_days v_r0_hampers v_r0_wants0 v_r0_left0 v_r0_done0 v_r0_at v_r0_isBad v_r0_statements v_r0_placeIn v_r0_letterOf v_r0_told v_r0_kept v_r0_imaged v_r0_hasImage v_r0_place0 v_r0_isTaking v_r0_keptIn v_r0_turns0 v_r0_turnOf v_r0_turned v_r0_order0 v_r0_likely0 v_r0_leftThen v_r0_row v_r0_rowMany v_r0_seed r0_letterMany r0_thrown r0_letters r0_refusals) (w_M_feed cI a_r0 a_r0_letters a_r0_refusals v_r0_weights v_r0_things v_r0_kinds v_r0_figures v_r0_days v_r0_hampers v_r0_wants0 v_r0_left0 v_r0_done0 v_r0_at v_r0_isBad v_r0_statements v_r0_placeIn v_r0_letterOf v_r0_told v_r0_kept v_r0_imaged v_r0_hasImage v_r0_place0 v_r0_isTaking v_r0_keptIn v_r0_turns0 v_r0_turnOf v_r0_turned v_r0_order0 v_r0_likely0 v_r0_leftThen v_r0_row v_r0_rowMany v_r0_seed o.2.1 o.2.2.1 o.2.2.2.1 o.2.2.2.2) o.1 := by
  unfold F_M_feed at hr
  refine ⟨rfl, fun sz => ct_of (w0 := (w_M_feed cI a_r0 a_r0_letters a_r0_refusals v_r0_weights v_r0_things v_r0_kinds v_r0_figures v_r0_days v_r0_hampers v_r0_wants0 v_r0_left0 v_r0_done0 v_r0_at v_r0_isBad v_r0_statements v_r0_placeIn v_r0_letterOf v_r0_told v_r0_kept v_r0_imaged v_r0_hasImage v_r0_place0 v_r0_isTaking v_r0_keptIn v_r0_turns0 v_r0_turnOf v_r0_turned v_r0_order0 v_r0_likely0 v_r0_leftThen v_r0_row v_r0_rowMany v_r0_seed r0_letterMany r0_thrown r0_letters r0_refusals)) (Qc := fun A => qI D (w_M_feed cI a_r0 a_r0_letters a_r0_refusals v_r0_weights v_r0_things v_r0_kinds v_r0_figures v_r0_days v_r0_hampers v_r0_wants0 v_r0_left0 v_r0_done0 v_r0_at v_r0_isBad v_r0_statements v_r0_placeIn v_r0_letterOf v_r0_told v_r0_kept v_r0_imaged v_r0_hasImage v_r0_place0 v_r0_isTaking v_r0_keptIn v_r0_turns0 v_r0_turnOf v_r0_turned v_r0_order0 v_r0_likely0 v_r0_leftThen v_r0_row v_r0_rowMany v_r0_seed o.2.1 o.2.2.1 o.2.2.2.1 o.2.2.2.2) o.1 A) rfl (Nat.le_of_ble_eq_true rfl) ?_ sz⟩
  intro p e s m below meth c A hA C hret ls hl hW
  have C : cx p s m ([.ref a_r0, .int x1] : List Value).toArray meth c b_M_feed 2 R_M D (kTy cI cS) (Cond.code y_M_feed b_M_feed 2 (some FieldType.int)) := C
  obtain ⟨hx, hb, hml, hown, hts, hK, hlk, hN⟩ := id C
  have hl : lv_has ls 2 [(0, .ref a_r0), (1, .int x1)] := hl
  obtain ⟨Q, hQ⟩ : ∃ Q, Q = MQ below (qI D (w_M_feed cI a_r0 a_r0_letters a_r0_refusals v_r0_weights v_r0_things v_r0_kinds v_r0_figures v_r0_days v_r0_hampers v_r0_wants0 v_r0_left0 v_r0_done0 v_r0_at v_r0_isBad v_r0_statements v_r0_placeIn v_r0_letterOf v_r0_told v_r0_kept v_r0_imaged v_r0_hasImage v_r0_place0 v_r0_isTaking v_r0_keptIn v_r0_turns0 v_r0_turnOf v_r0_turned v_r0_order0 v_r0_likely0 v_r0_leftThen v_r0_row v_r0_rowMany v_r0_seed o.2.1 o.2.2.1 o.2.2.2.1 o.2.2.2.2) o.1 A) ([.ref a_r0, .int x1] : List Value).toArray s 0 0 A := ⟨_, rfl⟩
  rw [← hQ]
  refine lv_aload_n hx hb d_M_feed_0 rfl (lv_at hl 0 rfl) ?_
  refine lv_iconst (v := 0) hx hb d_M_feed_1 (by decide) ?_
  refine k_put i_M t_M_ok n_M C hW 0 rfl rfl 9 (by decide) qf_M_67 rfl rfl (ty := .int) rfl rfl rfl (Nat.le_of_ble_eq_true rfl) (ws' := (w_M_feed cI a_r0 a_r0_letters a_r0_refusals v_r0_weights v_r0_things v_r0_kinds v_r0_figures v_r0_days v_r0_hampers v_r0_wants0 v_r0_left0 v_r0_done0 v_r0_at v_r0_isBad v_r0_statements v_r0_placeIn v_r0_letterOf v_r0_told v_r0_kept v_r0_imaged v_r0_hasImage v_r0_place0 v_r0_isTaking v_r0_keptIn v_r0_turns0 v_r0_turnOf v_r0_turned v_r0_order0 v_r0_likely0 v_r0_leftThen v_r0_row v_r0_rowMany v_r0_seed r0_letterMany 0 r0_letters r0_refusals)) rfl d_M_feed_2 (fun H locs hW => ?_)
  refine lv_iload_n hx hb d_M_feed_5 rfl (lv_at hl 1 rfl) ?_
  refine lv_if_ge (tgt := 16) hx hb d_M_feed_6 (by decide) (fun c_1 => ?_) (fun c_1 => ?_)
  · replace hr := ip c_1 hr
    refine lv_iload_n hx hb d_M_feed_16 rfl (lv_at hl 1 rfl) ?_
    refine lv_sipush (v := 255) hx hb d_M_feed_17 (by decide) ?_
    have hJ_3 : ∀ (_ : Unit), F_M_feed_J32_3 r0_letterMany r0_letters r0_refusals = some o → ∀ (H : Heap) (locs : List Loc) (ls : Array Slot), wd A s.heap D (w_M_feed cI a_r0 a_r0_letters a_r0_refusals v_r0_weights v_r0_things v_r0_kinds v_r0_figures v_r0_days v_r0_hampers v_r0_wants0 v_r0_left0 v_r0_done0 v_r0_at v_r0_isBad v_r0_statements v_r0_placeIn v_r0_letterOf v_r0_told v_r0_kept v_r0_imaged v_r0_hasImage v_r0_place0 v_r0_isTaking v_r0_keptIn v_r0_turns0 v_r0_turnOf v_r0_turned v_r0_order0 v_r0_likely0 v_r0_leftThen v_r0_row v_r0_rowMany v_r0_seed r0_letterMany 0 r0_letters r0_refusals) H locs → lv_has ls 2 [(0, .ref a_r0)] → W p l e (rmd 1) s m ([.ref a_r0, .int x1] : List Value).toArray below meth c H locs 0 0 Q (F0 m 32 ls []) := by
      intro _ hr H locs ls hW hl
      unfold F_M_feed_J32_3 at hr
      refine lv_aload_n hx hb d_M_feed_32 rfl (lv_at hl 0 rfl) ?_
      refine lv_bipush (v := (-6)) hx hb d_M_feed_33 (by decide) ?_
      obtain ⟨q_4, hc_4, hr⟩ := ob hr
      have ct_4 := C_M_refuse l D cI cS a_r0 a_r0_refusals v_r0_weights v_r0_things v_r0_kinds v_r0_figures v_r0_days v_r0_hampers v_r0_wants0 v_r0_left0 v_r0_done0 (Value.int 0) (Value.ref a_r0_letters) (Value.int r0_letterMany) v_r0_at v_r0_isBad v_r0_statements v_r0_placeIn v_r0_letterOf v_r0_told v_r0_kept v_r0_imaged v_r0_hasImage v_r0_place0 v_r0_isTaking v_r0_keptIn v_r0_turns0 v_r0_turnOf v_r0_turned v_r0_order0 v_r0_likely0 v_r0_leftThen v_r0_row v_r0_rowMany v_r0_seed r0_refusals (-6) q_4 hc_4
      refine k_goI hA hW [0, 2] rfl ct_4.1 (ws' := (w_M_feed cI a_r0 a_r0_letters a_r0_refusals v_r0_weights v_r0_things v_r0_kinds v_r0_figures v_r0_days v_r0_hampers v_r0_wants0 v_r0_left0 v_r0_done0 v_r0_at v_r0_isBad v_r0_statements v_r0_placeIn v_r0_letterOf v_r0_told v_r0_kept v_r0_imaged v_r0_hasImage v_r0_place0 v_r0_isTaking v_r0_keptIn v_r0_turns0 v_r0_turnOf v_r0_turned v_r0_order0 v_r0_likely0 v_r0_leftThen v_r0_row v_r0_rowMany v_r0_seed r0_letterMany 0 r0_letters q_4.2)) rfl (k_runV C hA hW mw_M_refuse mv_M_refuse (ct_4.2 _) [0, 2] rfl rfl 0 rfl rfl qm_M_108 ⟨Nat.le_of_ble_eq_true rfl, Nat.le_of_ble_eq_true rfl, Nat.zero_le _, Nat.zero_le _⟩ rfl rfl (Nat.le_of_ble_eq_true rfl) hl.1 d_M_feed_35) (fun H locs hW => ?_)
      obtain rfl := Option.some.inj hr
      rw [hQ]; exact k_iret C hret hW d_M_feed_38
    refine lv_icmp_gt (tgt := 32) hx hb d_M_feed_20 (by decide) (fun c_2 => ?_) (fun c_2 => ?_)
    · replace hr := ip c_2 hr
      exact hJ_3 () hr _ _ _ hW (lv_sub hl [0] rfl)
    · replace hr := iN c_2 hr
      refine lv_aload_n hx hb d_M_feed_23 rfl (lv_at hl 0 rfl) ?_
      refine k_get i_M C hW 0 rfl rfl 12 (by decide) qf_M_111 rfl rfl d_M_feed_24 ?_
      refine lv_bipush (v := 96) hx hb d_M_feed_27 (by decide) ?_
      refine lv_icmp_ne (tgt := 39) hx hb d_M_feed_29 (by decide) (fun c_5 => ?_) (fun c_5 => ?_)
      · replace hr := iN c_5 hr
        refine lv_aload_n hx hb d_M_feed_39 rfl (lv_at hl 0 rfl) ?_
        refine k_get i_M C hW 0 rfl rfl 11 (by decide) qf_M_31 rfl rfl d_M_feed_40 ?_
        refine lv_aload_n hx hb d_M_feed_43 rfl (lv_at hl 0 rfl) ?_
        refine k_get i_M C hW 0 rfl rfl 12 (by decide) qf_M_111 rfl rfl d_M_feed_44 ?_
        refine lv_iload_n hx hb d_M_feed_47 rfl (lv_at hl 1 rfl) ?_
        obtain ⟨h_6, hr⟩ := ck_some hr
        refine k_iast C hW 1 rfl h_6 (ws' := (w_M_feed cI a_r0 a_r0_letters a_r0_refusals v_r0_weights v_r0_things v_r0_kinds v_r0_figures v_r0_days v_r0_hampers v_r0_wants0 v_r0_left0 v_r0_done0 v_r0_at v_r0_isBad v_r0_statements v_r0_placeIn v_r0_letterOf v_r0_told v_r0_kept v_r0_imaged v_r0_hasImage v_r0_place0 v_r0_isTaking v_r0_keptIn v_r0_turns0 v_r0_turnOf v_r0_turned v_r0_order0 v_r0_likely0 v_r0_leftThen v_r0_row v_r0_rowMany v_r0_seed r0_letterMany 0 (upd r0_letters (Int32.toNatClampNeg r0_letterMany) x1) r0_refusals)) rfl d_M_feed_48 (fun H locs hW => ?_)
        refine lv_aload_n hx hb d_M_feed_49 rfl (lv_at hl 0 rfl) ?_
        refine lv_dup hx hb d_M_feed_50 rfl ?_
        refine k_get i_M C hW 0 rfl rfl 12 (by decide) qf_M_111 rfl rfl d_M_feed_51 ?_
        refine lv_iconst (v := 1) hx hb d_M_feed_54 (by decide) ?_
        refine lv_iadd hx hb d_M_feed_55 ?_
        refine k_put i_M t_M_ok n_M C hW 0 rfl rfl 12 (by decide) qf_M_111 rfl rfl (ty := .int) rfl rfl rfl (Nat.le_of_ble_eq_true rfl) (ws' := (w_M_feed cI a_r0 a_r0_letters a_r0_refusals v_r0_weights v_r0_things v_r0_kinds v_r0_figures v_r0_days v_r0_hampers v_r0_wants0 v_r0_left0 v_r0_done0 v_r0_at v_r0_isBad v_r0_statements v_r0_placeIn v_r0_letterOf v_r0_told v_r0_kept v_r0_imaged v_r0_hasImage v_r0_place0 v_r0_isTaking v_r0_keptIn v_r0_turns0 v_r0_turnOf v_r0_turned v_r0_order0 v_r0_likely0 v_r0_leftThen v_r0_row v_r0_rowMany v_r0_seed (r0_letterMany + 1) 0 (upd r0_letters (Int32.toNatClampNeg r0_letterMany) x1) r0_refusals)) rfl d_M_feed_56 (fun H locs hW => ?_)
        refine lv_aload_n hx hb d_M_feed_59 rfl (lv_at hl 0 rfl) ?_
        refine k_get i_M C hW 0 rfl rfl 12 (by decide) qf_M_111 rfl rfl d_M_feed_60 ?_
        obtain rfl := Option.some.inj hr
        rw [hQ]; exact k_iret C hret hW d_M_feed_63
      · replace hr := ip c_5 hr
        exact hJ_3 () hr _ _ _ hW (lv_sub hl [0] rfl)
  · replace hr := iN c_1 hr
    refine lv_aload_n hx hb d_M_feed_9 rfl (lv_at hl 0 rfl) ?_
    refine lv_bipush (v := (-4)) hx hb d_M_feed_10 (by decide) ?_
    obtain ⟨q_7, hc_7, hr⟩ := ob hr
    have ct_7 := C_M_refuse l D cI cS a_r0 a_r0_refusals v_r0_weights v_r0_things v_r0_kinds v_r0_figures v_r0_days v_r0_hampers v_r0_wants0 v_r0_left0 v_r0_done0 (Value.int 0) (Value.ref a_r0_letters) (Value.int r0_letterMany) v_r0_at v_r0_isBad v_r0_statements v_r0_placeIn v_r0_letterOf v_r0_told v_r0_kept v_r0_imaged v_r0_hasImage v_r0_place0 v_r0_isTaking v_r0_keptIn v_r0_turns0 v_r0_turnOf v_r0_turned v_r0_order0 v_r0_likely0 v_r0_leftThen v_r0_row v_r0_rowMany v_r0_seed r0_refusals (-4) q_7 hc_7
    refine k_goI hA hW [0, 2] rfl ct_7.1 (ws' := (w_M_feed cI a_r0 a_r0_letters a_r0_refusals v_r0_weights v_r0_things v_r0_kinds v_r0_figures v_r0_days v_r0_hampers v_r0_wants0 v_r0_left0 v_r0_done0 v_r0_at v_r0_isBad v_r0_statements v_r0_placeIn v_r0_letterOf v_r0_told v_r0_kept v_r0_imaged v_r0_hasImage v_r0_place0 v_r0_isTaking v_r0_keptIn v_r0_turns0 v_r0_turnOf v_r0_turned v_r0_order0 v_r0_likely0 v_r0_leftThen v_r0_row v_r0_rowMany v_r0_seed r0_letterMany 0 r0_letters q_7.2)) rfl (k_runV C hA hW mw_M_refuse mv_M_refuse (ct_7.2 _) [0, 2] rfl rfl 0 rfl rfl qm_M_108 ⟨Nat.le_of_ble_eq_true rfl, Nat.le_of_ble_eq_true rfl, Nat.zero_le _, Nat.zero_le _⟩ rfl rfl (Nat.le_of_ble_eq_true rfl) hl.1 d_M_feed_12) (fun H locs hW => ?_)
    obtain rfl := Option.some.inj hr
    rw [hQ]; exact k_iret C hret hW d_M_feed_15
def w_M_fieldOf (cI : ClassId) (a_r0 : Nat) (a_r0_left0 : Nat) (a_r0_refusals : Nat) (a_r0_wants0 : Nat) (v_r0_weights v_r0_things v_r0_kinds v_r0_figures v_r0_days v_r0_hampers v_r0_done0 v_r0_letters v_r0_letterMany v_r0_at v_r0_isBad v_r0_statements v_r0_placeIn v_r0_letterOf v_r0_told v_r0_kept v_r0_imaged v_r0_hasImage v_r0_place0 v_r0_isTaking v_r0_keptIn v_r0_turns0 v_r0_turnOf v_r0_turned v_r0_order0 v_r0_likely0 v_r0_leftThen v_r0_row v_r0_rowMany v_r0_seed : Value) (r0_thrown : Int32) (r0_left0 : Nat → Int32) (r0_refusals : Nat → Int32) (r0_wants0 : Nat → Int32) : va_W := [(a_r0, .inr (9, [v_r0_weights, v_r0_things, v_r0_kinds, v_r0_figures, v_r0_days, v_r0_hampers, .ref a_r0_wants0, .ref a_r0_left0, v_r0_done0, .int r0_thrown, .ref a_r0_refusals, v_r0_letters, v_r0_letterMany, v_r0_at, v_r0_isBad, v_r0_statements, v_r0_placeIn, v_r0_letterOf, v_r0_told, v_r0_kept, v_r0_imaged, v_r0_hasImage, v_r0_place0, v_r0_isTaking, v_r0_keptIn, v_r0_turns0, v_r0_turnOf, v_r0_turned, v_r0_order0, v_r0_likely0, v_r0_leftThen, v_r0_row, v_r0_rowMany, v_r0_seed])), (a_r0_left0, .inl (cI, 4, .inl r0_left0)), (a_r0_refusals, .inl (cI, 7, .inl r0_refusals)), (a_r0_wants0, .inl (cI, 4, .inl r0_wants0))]
def F_M_fieldOf_J29_3 (r0_refusals : Nat → Int32) (q_1 : Int32) : Option (Int32 × (Int32) × (Nat → Int32)) :=
  (if q_1 = 0 then ((F_M_refuse r0_refusals ((-1) : Int32)).bind (fun q_5 => (some (q_5.1, 0, q_5.2)))) else ((F_M_refuse r0_refusals ((-2) : Int32)).bind (fun q_6 => (some (q_6.1, 0, q_6.2)))))
def F_M_fieldOf (r0_left0 : Nat → Int32) (r0_refusals : Nat → Int32) (r0_wants0 : Nat → Int32) (x1 : Int32) (x2 : Int32) : Option (Int32 × (Int32) × (Nat → Int32)) :=
  ((F_M_in (Int32.toInt64 x1) (0 : Int64) (3 : Int64)).bind (fun q_1 => (if q_1 = 0 then (F_M_fieldOf_J29_3 r0_refusals q_1) else ((F_M_in (Int32.toInt64 x2) (0 : Int64) (1 : Int64)).bind (fun q_7 => (if q_7 = 0 then (F_M_fieldOf_J29_3 r0_refusals q_1) else (if x2 = 0 then (ck x1 4 (some ((r0_wants0 (Int32.toNatClampNeg x1)), 0, r0_refusals))) else (ck x1 4 (some ((r0_left0 (Int32.toNatClampNeg x1)), 0, r0_refusals))))))))))
set_option maxHeartbeats 4000000 in
set_option maxRecDepth 100000 in
theorem C_M_fieldOf (l : Launch) (D : va_G) (cI cS : ClassId) (a_r0 : Nat) (a_r0_left0 : Nat) (a_r0_refusals : Nat) (a_r0_wants0 : Nat) (v_r0_weights v_r0_things v_r0_kinds v_r0_figures v_r0_days v_r0_hampers v_r0_done0 v_r0_letters v_r0_letterMany v_r0_at v_r0_isBad v_r0_statements v_r0_placeIn v_r0_letterOf v_r0_told v_r0_kept v_r0_imaged v_r0_hasImage v_r0_place0 v_r0_isTaking v_r0_keptIn v_r0_turns0 v_r0_turnOf v_r0_turned v_r0_order0 v_r0_likely0 v_r0_leftThen v_r0_row v_r0_rowMany v_r0_seed : Value) (r0_thrown : Int32) (r0_left0 : Nat → Int32) (r0_refusals : Nat → Int32) (r0_wants0 : Nat → Int32) (x1 : Int32) (x2 : Int32) (o : Int32 × (Int32) × (Nat → Int32)) (hr : F_M_fieldOf r0_left0 r0_refusals r0_wants0 x1 x2 = some o) : ctI l y_M_fieldOf (Cond.code y_M_fieldOf b_M_fieldOf 4 (some FieldType.int)) (rmd 1) D (kTy cI cS) [.ref a_r0, .int x1, .int x2] (w_M_fieldOf cI a_r0 a_r0_left0 a_r0_refusals a_r0_wants0 v_r0_weights v_r0_things v_r0_kinds v_r0_figures v_r0_days v_r0_hampers v_r0_done0 v_r0_letters v_r0_letterMany v_r0_at v_r0_isBad v_r0_statements v_r0_placeIn v_r0_letterOf v_r0_told v_r0_kept v_r0_imaged v_r0_hasImage v_r0_place0 v_r0_isTaking v_r0_keptIn v_r0_turns0 v_r0_turnOf v_r0_turned v_r0_order0 v_r0_likely0 v_r0_leftThen v_r0_row v_r0_rowMany v_r0_seed r0_thrown r0_left0 r0_refusals r0_wants0) (w_M_fieldOf cI a_r0 a_r0_left0 a_r0_refusals a_r0_wants0 v_r0_weights v_r0_things v_r0_kinds v_r0_figures v_r0_days v_r0_hampers v_r0_done0 v_r0_letters v_r0_letterMany v_r0_at v_r0_isBad v_r0_statements v_r0_placeIn v_r0_letterOf v_r0_told v_r0_kept v_r0_imaged v_r0_hasImage v_r0_place0 v_r0_isTaking v_r0_keptIn v_r0_turns0 v_r0_turnOf v_r0_turned v_r0_order0 v_r0_likely0 v_r0_leftThen v_r0_row v_r0_rowMany v_r0_seed o.2.1 r0_left0 o.2.2 r0_wants0) o.1 := by
  unfold F_M_fieldOf at hr
  refine ⟨rfl, fun sz => ct_of (w0 := (w_M_fieldOf cI a_r0 a_r0_left0 a_r0_refusals a_r0_wants0 v_r0_weights v_r0_things v_r0_kinds v_r0_figures v_r0_days v_r0_hampers v_r0_done0 v_r0_letters v_r0_letterMany v_r0_at v_r0_isBad v_r0_statements v_r0_placeIn v_r0_letterOf v_r0_told v_r0_kept v_r0_imaged v_r0_hasImage v_r0_place0 v_r0_isTaking v_r0_keptIn v_r0_turns0 v_r0_turnOf v_r0_turned v_r0_order0 v_r0_likely0 v_r0_leftThen v_r0_row v_r0_rowMany v_r0_seed r0_thrown r0_left0 r0_refusals r0_wants0)) (Qc := fun A => qI D (w_M_fieldOf cI a_r0 a_r0_left0 a_r0_refusals a_r0_wants0 v_r0_weights v_r0_things v_r0_kinds v_r0_figures v_r0_days v_r0_hampers v_r0_done0 v_r0_letters v_r0_letterMany v_r0_at v_r0_isBad v_r0_statements v_r0_placeIn v_r0_letterOf v_r0_told v_r0_kept v_r0_imaged v_r0_hasImage v_r0_place0 v_r0_isTaking v_r0_keptIn v_r0_turns0 v_r0_turnOf v_r0_turned v_r0_order0 v_r0_likely0 v_r0_leftThen v_r0_row v_r0_rowMany v_r0_seed o.2.1 r0_left0 o.2.2 r0_wants0) o.1 A) rfl (Nat.le_of_ble_eq_true rfl) ?_ sz⟩
  intro p e s m below meth c A hA C hret ls hl hW
  have C : cx p s m ([.ref a_r0, .int x1, .int x2] : List Value).toArray meth c b_M_fieldOf 4 R_M D (kTy cI cS) (Cond.code y_M_fieldOf b_M_fieldOf 4 (some FieldType.int)) := C
  obtain ⟨hx, hb, hml, hown, hts, hK, hlk, hN⟩ := id C
  have hl : lv_has ls 4 [(0, .ref a_r0), (1, .int x1), (2, .int x2)] := hl
  obtain ⟨Q, hQ⟩ : ∃ Q, Q = MQ below (qI D (w_M_fieldOf cI a_r0 a_r0_left0 a_r0_refusals a_r0_wants0 v_r0_weights v_r0_things v_r0_kinds v_r0_figures v_r0_days v_r0_hampers v_r0_done0 v_r0_letters v_r0_letterMany v_r0_at v_r0_isBad v_r0_statements v_r0_placeIn v_r0_letterOf v_r0_told v_r0_kept v_r0_imaged v_r0_hasImage v_r0_place0 v_r0_isTaking v_r0_keptIn v_r0_turns0 v_r0_turnOf v_r0_turned v_r0_order0 v_r0_likely0 v_r0_leftThen v_r0_row v_r0_rowMany v_r0_seed o.2.1 r0_left0 o.2.2 r0_wants0) o.1 A) ([.ref a_r0, .int x1, .int x2] : List Value).toArray s 0 0 A := ⟨_, rfl⟩
  rw [← hQ]
  refine lv_aload_n hx hb d_M_fieldOf_0 rfl (lv_at hl 0 rfl) ?_
  refine lv_iconst (v := 0) hx hb d_M_fieldOf_1 (by decide) ?_
  refine k_put i_M t_M_ok n_M C hW 0 rfl rfl 9 (by decide) qf_M_67 rfl rfl (ty := .int) rfl rfl rfl (Nat.le_of_ble_eq_true rfl) (ws' := (w_M_fieldOf cI a_r0 a_r0_left0 a_r0_refusals a_r0_wants0 v_r0_weights v_r0_things v_r0_kinds v_r0_figures v_r0_days v_r0_hampers v_r0_done0 v_r0_letters v_r0_letterMany v_r0_at v_r0_isBad v_r0_statements v_r0_placeIn v_r0_letterOf v_r0_told v_r0_kept v_r0_imaged v_r0_hasImage v_r0_place0 v_r0_isTaking v_r0_keptIn v_r0_turns0 v_r0_turnOf v_r0_turned v_r0_order0 v_r0_likely0 v_r0_leftThen v_r0_row v_r0_rowMany v_r0_seed 0 r0_left0 r0_refusals r0_wants0)) rfl d_M_fieldOf_2 (fun H locs hW => ?_)
  refine lv_iload_n hx hb d_M_fieldOf_5 rfl (lv_at hl 1 rfl) ?_
  refine lv_i2l hx hb d_M_fieldOf_6 rfl ?_
  refine lv_lconst (v := 0) hx hb d_M_fieldOf_7 (by decide) ?_
  refine lv_ldc2 (v := 3) hx hb hown (hts _ (List.mem_cons_of_mem _ (qc_M_204))) d_M_fieldOf_8 ?_
  obtain ⟨q_1, hc_1, hr⟩ := ob hr
  have ct_1 := C_M_in l D cI cS (Int32.toInt64 x1) 0 (3 : Int64) q_1 hc_1
  refine k_goIp hA hW [] rfl rfl (k_runS C hA hW mw_M_in ms_M_in (ct_1.2 _) [] rfl rfl qm_M_74 ⟨Nat.le_of_ble_eq_true rfl, Nat.le_of_ble_eq_true rfl, Nat.zero_le _, Nat.zero_le _⟩ rfl rfl (Nat.le_of_ble_eq_true rfl) hl.1 d_M_fieldOf_11) (fun H locs hW => ?_)
  refine lv_istore_n (lv' := [(3, .int q_1), (0, .ref a_r0), (1, .int x1), (2, .int x2)]) hx hb d_M_fieldOf_14 rfl hl (by decide) rfl (fun ls hl => ?_)
  refine lv_iload_n hx hb d_M_fieldOf_15 rfl (lv_at hl 0 rfl) ?_
  have hJ_3 : ∀ (_ : Unit), F_M_fieldOf_J29_3 r0_refusals q_1 = some o → ∀ (H : Heap) (locs : List Loc) (ls : Array Slot), wd A s.heap D (w_M_fieldOf cI a_r0 a_r0_left0 a_r0_refusals a_r0_wants0 v_r0_weights v_r0_things v_r0_kinds v_r0_figures v_r0_days v_r0_hampers v_r0_done0 v_r0_letters v_r0_letterMany v_r0_at v_r0_isBad v_r0_statements v_r0_placeIn v_r0_letterOf v_r0_told v_r0_kept v_r0_imaged v_r0_hasImage v_r0_place0 v_r0_isTaking v_r0_keptIn v_r0_turns0 v_r0_turnOf v_r0_turned v_r0_order0 v_r0_likely0 v_r0_leftThen v_r0_row v_r0_rowMany v_r0_seed 0 r0_left0 r0_refusals r0_wants0) H locs → lv_has ls 4 [(0, .ref a_r0), (3, .int q_1)] → W p l e (rmd 1) s m ([.ref a_r0, .int x1, .int x2] : List Value).toArray below meth c H locs 0 0 Q (F0 m 29 ls []) := by
    intro _ hr H locs ls hW hl
    unfold F_M_fieldOf_J29_3 at hr
    refine lv_aload_n hx hb d_M_fieldOf_29 rfl (lv_at hl 0 rfl) ?_
    refine lv_iload_n hx hb d_M_fieldOf_30 rfl (lv_at hl 1 rfl) ?_
    refine lv_if_eq (tgt := 39) hx hb d_M_fieldOf_31 (by decide) (fun c_4 => ?_) (fun c_4 => ?_)
    · replace hr := ip c_4 hr
      refine lv_iconst (v := (-1)) hx hb d_M_fieldOf_39 (by decide) ?_
      obtain ⟨q_5, hc_5, hr⟩ := ob hr
      have ct_5 := C_M_refuse l D cI cS a_r0 a_r0_refusals v_r0_weights v_r0_things v_r0_kinds v_r0_figures v_r0_days v_r0_hampers (Value.ref a_r0_wants0) (Value.ref a_r0_left0) v_r0_done0 (Value.int 0) v_r0_letters v_r0_letterMany v_r0_at v_r0_isBad v_r0_statements v_r0_placeIn v_r0_letterOf v_r0_told v_r0_kept v_r0_imaged v_r0_hasImage v_r0_place0 v_r0_isTaking v_r0_keptIn v_r0_turns0 v_r0_turnOf v_r0_turned v_r0_order0 v_r0_likely0 v_r0_leftThen v_r0_row v_r0_rowMany v_r0_seed r0_refusals (-1) q_5 hc_5
      refine k_goI hA hW [0, 2] rfl ct_5.1 (ws' := (w_M_fieldOf cI a_r0 a_r0_left0 a_r0_refusals a_r0_wants0 v_r0_weights v_r0_things v_r0_kinds v_r0_figures v_r0_days v_r0_hampers v_r0_done0 v_r0_letters v_r0_letterMany v_r0_at v_r0_isBad v_r0_statements v_r0_placeIn v_r0_letterOf v_r0_told v_r0_kept v_r0_imaged v_r0_hasImage v_r0_place0 v_r0_isTaking v_r0_keptIn v_r0_turns0 v_r0_turnOf v_r0_turned v_r0_order0 v_r0_likely0 v_r0_leftThen v_r0_row v_r0_rowMany v_r0_seed 0 r0_left0 q_5.2 r0_wants0)) rfl (k_runV C hA hW mw_M_refuse mv_M_refuse (ct_5.2 _) [0, 2] rfl rfl 0 rfl rfl qm_M_108 ⟨Nat.le_of_ble_eq_true rfl, Nat.le_of_ble_eq_true rfl, Nat.zero_le _, Nat.zero_le _⟩ rfl rfl (Nat.le_of_ble_eq_true rfl) hl.1 d_M_fieldOf_40) (fun H locs hW => ?_)
      obtain rfl := Option.some.inj hr
      rw [hQ]; exact k_iret C hret hW d_M_fieldOf_43
    · replace hr := iN c_4 hr
      refine lv_bipush (v := (-2)) hx hb d_M_fieldOf_34 (by decide) ?_
      refine lv_goto (tgt := 40) hx hb d_M_fieldOf_36 (by decide) ?_
      obtain ⟨q_6, hc_6, hr⟩ := ob hr
      have ct_6 := C_M_refuse l D cI cS a_r0 a_r0_refusals v_r0_weights v_r0_things v_r0_kinds v_r0_figures v_r0_days v_r0_hampers (Value.ref a_r0_wants0) (Value.ref a_r0_left0) v_r0_done0 (Value.int 0) v_r0_letters v_r0_letterMany v_r0_at v_r0_isBad v_r0_statements v_r0_placeIn v_r0_letterOf v_r0_told v_r0_kept v_r0_imaged v_r0_hasImage v_r0_place0 v_r0_isTaking v_r0_keptIn v_r0_turns0 v_r0_turnOf v_r0_turned v_r0_order0 v_r0_likely0 v_r0_leftThen v_r0_row v_r0_rowMany v_r0_seed r0_refusals (-2) q_6 hc_6
      refine k_goI hA hW [0, 2] rfl ct_6.1 (ws' := (w_M_fieldOf cI a_r0 a_r0_left0 a_r0_refusals a_r0_wants0 v_r0_weights v_r0_things v_r0_kinds v_r0_figures v_r0_days v_r0_hampers v_r0_done0 v_r0_letters v_r0_letterMany v_r0_at v_r0_isBad v_r0_statements v_r0_placeIn v_r0_letterOf v_r0_told v_r0_kept v_r0_imaged v_r0_hasImage v_r0_place0 v_r0_isTaking v_r0_keptIn v_r0_turns0 v_r0_turnOf v_r0_turned v_r0_order0 v_r0_likely0 v_r0_leftThen v_r0_row v_r0_rowMany v_r0_seed 0 r0_left0 q_6.2 r0_wants0)) rfl (k_runV C hA hW mw_M_refuse mv_M_refuse (ct_6.2 _) [0, 2] rfl rfl 0 rfl rfl qm_M_108 ⟨Nat.le_of_ble_eq_true rfl, Nat.le_of_ble_eq_true rfl, Nat.zero_le _, Nat.zero_le _⟩ rfl rfl (Nat.le_of_ble_eq_true rfl) hl.1 d_M_fieldOf_40) (fun H locs hW => ?_)
      obtain rfl := Option.some.inj hr
      rw [hQ]; exact k_iret C hret hW d_M_fieldOf_43
  refine lv_if_eq (tgt := 29) hx hb d_M_fieldOf_16 (by decide) (fun c_2 => ?_) (fun c_2 => ?_)
  · replace hr := ip c_2 hr
    exact hJ_3 () hr _ _ _ hW (lv_sub hl [1, 0] rfl)
  · replace hr := iN c_2 hr
    refine lv_iload_n hx hb d_M_fieldOf_19 rfl (lv_at hl 3 rfl) ?_
    refine lv_i2l hx hb d_M_fieldOf_20 rfl ?_
    refine lv_lconst (v := 0) hx hb d_M_fieldOf_21 (by decide) ?_
    refine lv_lconst (v := 1) hx hb d_M_fieldOf_22 (by decide) ?_
    obtain ⟨q_7, hc_7, hr⟩ := ob hr
    have ct_7 := C_M_in l D cI cS (Int32.toInt64 x2) 0 1 q_7 hc_7
    refine k_goIp hA hW [] rfl rfl (k_runS C hA hW mw_M_in ms_M_in (ct_7.2 _) [] rfl rfl qm_M_74 ⟨Nat.le_of_ble_eq_true rfl, Nat.le_of_ble_eq_true rfl, Nat.zero_le _, Nat.zero_le _⟩ rfl rfl (Nat.le_of_ble_eq_true rfl) hl.1 d_M_fieldOf_23) (fun H locs hW => ?_)
    refine lv_if_ne (tgt := 44) hx hb d_M_fieldOf_26 (by decide) (fun c_8 => ?_) (fun c_8 => ?_)
    · replace hr := iN c_8 hr
      refine lv_iload_n hx hb d_M_fieldOf_44 rfl (lv_at hl 3 rfl) ?_
      refine lv_if_ne (tgt := 57) hx hb d_M_fieldOf_45 (by decide) (fun c_9 => ?_) (fun c_9 => ?_)
      · replace hr := iN c_9 hr
        refine lv_aload_n hx hb d_M_fieldOf_57 rfl (lv_at hl 1 rfl) ?_
        refine k_get i_M C hW 0 rfl rfl 7 (by decide) qf_M_25 rfl rfl d_M_fieldOf_58 ?_
        refine lv_iload_n hx hb d_M_fieldOf_61 rfl (lv_at hl 2 rfl) ?_
        obtain ⟨h_10, hr⟩ := ck_some hr
        refine k_iald C hW 1 rfl h_10 d_M_fieldOf_62 ?_
        obtain rfl := Option.some.inj hr
        rw [hQ]; exact k_iret C hret hW d_M_fieldOf_63
      · replace hr := ip c_9 hr
        refine lv_aload_n hx hb d_M_fieldOf_48 rfl (lv_at hl 1 rfl) ?_
        refine k_get i_M C hW 0 rfl rfl 6 (by decide) qf_M_22 rfl rfl d_M_fieldOf_49 ?_
        refine lv_iload_n hx hb d_M_fieldOf_52 rfl (lv_at hl 2 rfl) ?_
        obtain ⟨h_11, hr⟩ := ck_some hr
        refine k_iald C hW 3 rfl h_11 d_M_fieldOf_53 ?_
        refine lv_goto (tgt := 63) hx hb d_M_fieldOf_54 (by decide) ?_
        obtain rfl := Option.some.inj hr
        rw [hQ]; exact k_iret C hret hW d_M_fieldOf_63
    · replace hr := ip c_8 hr
      exact hJ_3 () hr _ _ _ hW (lv_sub hl [1, 0] rfl)
def w_M_gotWithout (cI : ClassId) (a_r0 : Nat) (a_r0_figures : Nat) (a_r0_hampers : Nat) (a_r0_kept : Nat) (a_r0_kinds : Nat) (a_r0_left0 : Nat) (a_r0_wants0 : Nat) (a_r0_weights : Nat) (v_r0_thrown v_r0_refusals v_r0_letters v_r0_letterMany v_r0_at v_r0_isBad v_r0_statements v_r0_placeIn v_r0_letterOf v_r0_told v_r0_imaged v_r0_hasImage v_r0_turns0 v_r0_turnOf v_r0_turned v_r0_order0 v_r0_likely0 v_r0_leftThen v_r0_row v_r0_rowMany v_r0_seed : Value) (kv : Int32 → Value) (r0_days : Int32) (r0_done0 : Int32) (r0_isTaking : Int32) (r0_keptIn : Int32) (r0_place0 : Int32) (r0_things : Int32) (r0_figures : Nat → Int32) (r0_hampers : Nat → Int32) (r0_kept : Nat → Int32) (r0_kinds : Nat → Int32) (r0_left0 : Nat → Int32) (r0_wants0 : Nat → Int32) (r0_weights : Nat → Int32) : va_W := [(a_r0, .inr (9, [.ref a_r0_weights, .int r0_things, .ref a_r0_kinds, .ref a_r0_figures, .int r0_days, .ref a_r0_hampers, .ref a_r0_wants0, .ref a_r0_left0, .int r0_done0, v_r0_thrown, v_r0_refusals, v_r0_letters, v_r0_letterMany, v_r0_at, v_r0_isBad, v_r0_statements, v_r0_placeIn, v_r0_letterOf, v_r0_told, .ref a_r0_kept, v_r0_imaged, v_r0_hasImage, .int r0_place0, .int r0_isTaking, (kv r0_keptIn), v_r0_turns0, v_r0_turnOf, v_r0_turned, v_r0_order0, v_r0_likely0, v_r0_leftThen, v_r0_row, v_r0_rowMany, v_r0_seed])), (a_r0_figures, .inl (cI, 8, .inl r0_figures)), (a_r0_hampers, .inl (cI, 8, .inl r0_hampers)), (a_r0_kept, .inl (cI, 41, .inl r0_kept)), (a_r0_kinds, .inl (cI, 8, .inl r0_kinds)), (a_r0_left0, .inl (cI, 4, .inl r0_left0)), (a_r0_wants0, .inl (cI, 4, .inl r0_wants0)), (a_r0_weights, .inl (cI, 6, .inl r0_weights))]
def F_M_gotWithout_L11 (q_2 : (Int32) × (Int32) × (Int32) × (Int32) × (Int32) × (Int32) × (Nat → Int32) × (Nat → Int32) × (Nat → Int32) × (Nat → Int32) × (Nat → Int32) × (Nat → Int32) × (Nat → Int32)) (x1 : Int32) (y3_3 : Int32) (r0_done0_3 : Int32) (r0_left0_3 : Nat → Int32) : Option (((Int32) × (Int32) × (Nat → Int32)) ⊕ ((Int32) × (Nat → Int32))) :=
  (if q_2.1 ≤ y3_3 then (some (.inr (r0_done0_3, r0_left0_3))) else (if y3_3 = x1 then (some (.inl ((y3_3 + 1), r0_done0_3, r0_left0_3))) else ((F_M_likelyOn q_2.2.2.2.2.2.1 q_2.2.2.2.2.2.2.1 q_2.2.2.2.2.2.2.2.1 q_2.2.2.2.2.2.2.2.2.2.1 q_2.2.2.2.2.2.2.2.2.2.2.2.2 y3_3).bind (fun q_6 => ((F_M_spendWith r0_done0_3 r0_left0_3 q_2.2.2.2.2.2.2.2.2.2.2.2.1 q_6).bind (fun q_7 => (some (.inl ((y3_3 + 1), q_7.2.1, q_7.2.2)))))))))
def F_M_gotWithout (r0_days : Int32) (r0_done0 : Int32) (r0_things : Int32) (r0_figures : Nat → Int32) (r0_hampers : Nat → Int32) (r0_kept : Nat → Int32) (r0_kinds : Nat → Int32) (r0_left0 : Nat → Int32) (r0_wants0 : Nat → Int32) (r0_weights : Nat → Int32) (x1 : Int32) : Option (Int32 × (Int32) × (Int32) × (Int32) × (Int32) × (Int32) × (Int32) × (Nat → Int32) × (Nat → Int32) × (Nat → Int32) × (Nat → Int32) × (Nat → Int32) × (Nat → Int32) × (Nat → Int32)) :=
  ((F_M_allLeft r0_left0).bind (fun q_1 => ((F_M_think r0_days r0_done0 r0_things r0_figures r0_hampers r0_kept r0_kinds r0_left0 r0_wants0 r0_weights).bind (fun q_2 => ((wh (fun (s : (Int32) × (Int32) × (Nat → Int32)) => F_M_gotWithout_L11 q_2 x1 s.1 s.2.1 s.2.2) 400 ((0 : Int32), q_2.2.1, q_2.2.2.2.2.2.2.2.2.2.2.1)).bind (fun e_3 => ((F_M_allLeft e_3.2).bind (fun q_8 => ((F_M_again q_2.1 e_3.1 q_2.2.2.2.2.2.1 q_2.2.2.2.2.2.2.1 q_2.2.2.2.2.2.2.2.1 q_2.2.2.2.2.2.2.2.2.1 q_2.2.2.2.2.2.2.2.2.2.1 e_3.2 q_2.2.2.2.2.2.2.2.2.2.2.2.1 q_2.2.2.2.2.2.2.2.2.2.2.2.2).bind (fun q_9 => (some ((q_1 - q_8), q_9.1, q_9.2.1, q_9.2.2.1, q_9.2.2.2.1, q_9.2.2.2.2.1, q_9.2.2.2.2.2.1, q_9.2.2.2.2.2.2.1, q_9.2.2.2.2.2.2.2.1, q_9.2.2.2.2.2.2.2.2.1, q_9.2.2.2.2.2.2.2.2.2.1, q_9.2.2.2.2.2.2.2.2.2.2.1, q_9.2.2.2.2.2.2.2.2.2.2.2.1, q_9.2.2.2.2.2.2.2.2.2.2.2.2))))))))))))
set_option maxHeartbeats 4000000 in
set_option maxRecDepth 100000 in
theorem C_M_gotWithout (l : Launch) (D : va_G) (cI cS : ClassId) (a_r0 : Nat) (a_r0_figures : Nat) (a_r0_hampers : Nat) (a_r0_kept : Nat) (a_r0_kinds : Nat) (a_r0_left0 : Nat) (a_r0_wants0 : Nat) (a_r0_weights : Nat) (v_r0_thrown v_r0_refusals v_r0_letters v_r0_letterMany v_r0_at v_r0_isBad v_r0_statements v_r0_placeIn v_r0_letterOf v_r0_told v_r0_imaged v_r0_hasImage v_r0_turns0 v_r0_turnOf v_r0_turned v_r0_order0 v_r0_likely0 v_r0_leftThen v_r0_row v_r0_rowMany v_r0_seed : Value) (kv : Int32 → Value) (hkv_kept : kv 1 = .ref a_r0_kept) (r0_days : Int32) (r0_done0 : Int32) (r0_isTaking : Int32) (r0_keptIn : Int32) (r0_place0 : Int32) (r0_things : Int32) (r0_figures : Nat → Int32) (r0_hampers : Nat → Int32) (r0_kept : Nat → Int32) (r0_kinds : Nat → Int32) (r0_left0 : Nat → Int32) (r0_wants0 : Nat → Int32) (r0_weights : Nat → Int32) (x1 : Int32) (o : Int32 × (Int32) × (Int32) × (Int32) × (Int32) × (Int32) × (Int32) × (Nat → Int32) × (Nat → Int32) × (Nat → Int32) × (Nat → Int32) × (Nat → Int32) × (Nat → Int32) × (Nat → Int32)) (hr : F_M_gotWithout r0_days r0_done0 r0_things r0_figures r0_hampers r0_kept r0_kinds r0_left0 r0_wants0 r0_weights x1 = some o) : ctI l y_M_gotWithout (Cond.code y_M_gotWithout b_M_gotWithout 4 (some FieldType.int)) (rmd 4) D (kTy cI cS) [.ref a_r0, .int x1] (w_M_gotWithout cI a_r0 a_r0_figures a_r0_hampers a_r0_kept a_r0_kinds a_r0_left0 a_r0_wants0 a_r0_weights v_r0_thrown v_r0_refusals v_r0_letters v_r0_letterMany v_r0_at v_r0_isBad v_r0_statements v_r0_placeIn v_r0_letterOf v_r0_told v_r0_imaged v_r0_hasImage v_r0_turns0 v_r0_turnOf v_r0_turned v_r0_order0 v_r0_likely0 v_r0_leftThen v_r0_row v_r0_rowMany v_r0_seed kv r0_days r0_done0 r0_isTaking r0_keptIn r0_place0 r0_things r0_figures r0_hampers r0_kept r0_kinds r0_left0 r0_wants0 r0_weights) (w_M_gotWithout cI a_r0 a_r0_figures a_r0_hampers a_r0_kept a_r0_kinds a_r0_left0 a_r0_wants0 a_r0_weights v_r0_thrown v_r0_refusals v_r0_letters v_r0_letterMany v_r0_at v_r0_isBad v_r0_statements v_r0_placeIn v_r0_letterOf v_r0_told v_r0_imaged v_r0_hasImage v_r0_turns0 v_r0_turnOf v_r0_turned v_r0_order0 v_r0_likely0 v_r0_leftThen v_r0_row v_r0_rowMany v_r0_seed kv o.2.1 o.2.2.1 o.2.2.2.1 o.2.2.2.2.1 o.2.2.2.2.2.1 o.2.2.2.2.2.2.1 o.2.2.2.2.2.2.2.1 o.2.2.2.2.2.2.2.2.1 o.2.2.2.2.2.2.2.2.2.1 o.2.2.2.2.2.2.2.2.2.2.1 o.2.2.2.2.2.2.2.2.2.2.2.1 o.2.2.2.2.2.2.2.2.2.2.2.2.1 o.2.2.2.2.2.2.2.2.2.2.2.2.2) o.1 := by
  unfold F_M_gotWithout at hr
  refine ⟨rfl, fun sz => ct_of (w0 := (w_M_gotWithout cI a_r0 a_r0_figures a_r0_hampers a_r0_kept a_r0_kinds a_r0_left0 a_r0_wants0 a_r0_weights v_r0_thrown v_r0_refusals v_r0_letters v_r0_letterMany v_r0_at v_r0_isBad v_r0_statements v_r0_placeIn v_r0_letterOf v_r0_told v_r0_imaged v_r0_hasImage v_r0_turns0 v_r0_turnOf v_r0_turned v_r0_order0 v_r0_likely0 v_r0_leftThen v_r0_row v_r0_rowMany v_r0_seed kv r0_days r0_done0 r0_isTaking r0_keptIn r0_place0 r0_things r0_figures r0_hampers r0_kept r0_kinds r0_left0 r0_wants0 r0_weights)) (Qc := fun A => qI D (w_M_gotWithout cI a_r0 a_r0_figures a_r0_hampers a_r0_kept a_r0_kinds a_r0_left0 a_r0_wants0 a_r0_weights v_r0_thrown v_r0_refusals v_r0_letters v_r0_letterMany v_r0_at v_r0_isBad v_r0_statements v_r0_placeIn v_r0_letterOf v_r0_told v_r0_imaged v_r0_hasImage v_r0_turns0 v_r0_turnOf v_r0_turned v_r0_order0 v_r0_likely0 v_r0_leftThen v_r0_row v_r0_rowMany v_r0_seed kv o.2.1 o.2.2.1 o.2.2.2.1 o.2.2.2.2.1 o.2.2.2.2.2.1 o.2.2.2.2.2.2.1 o.2.2.2.2.2.2.2.1 o.2.2.2.2.2.2.2.2.1 o.2.2.2.2.2.2.2.2.2.1 o.2.2.2.2.2.2.2.2.2.2.1 o.2.2.2.2.2.2.2.2.2.2.2.1 o.2.2.2.2.2.2.2.2.2.2.2.2.1 o.2.2.2.2.2.2.2.2.2.2.2.2.2) o.1 A) rfl (Nat.le_of_ble_eq_true rfl) ?_ sz⟩
  intro p e s m below meth c A hA C hret ls hl hW
  have C : cx p s m ([.ref a_r0, .int x1] : List Value).toArray meth c b_M_gotWithout 4 R_M D (kTy cI cS) (Cond.code y_M_gotWithout b_M_gotWithout 4 (some FieldType.int)) := C
  obtain ⟨hx, hb, hml, hown, hts, hK, hlk, hN⟩ := id C
  have hl : lv_has ls 4 [(0, .ref a_r0), (1, .int x1)] := hl
  obtain ⟨Q, hQ⟩ : ∃ Q, Q = MQ below (qI D (w_M_gotWithout cI a_r0 a_r0_figures a_r0_hampers a_r0_kept a_r0_kinds a_r0_left0 a_r0_wants0 a_r0_weights v_r0_thrown v_r0_refusals v_r0_letters v_r0_letterMany v_r0_at v_r0_isBad v_r0_statements v_r0_placeIn v_r0_letterOf v_r0_told v_r0_imaged v_r0_hasImage v_r0_turns0 v_r0_turnOf v_r0_turned v_r0_order0 v_r0_likely0 v_r0_leftThen v_r0_row v_r0_rowMany v_r0_seed kv o.2.1 o.2.2.1 o.2.2.2.1 o.2.2.2.2.1 o.2.2.2.2.2.1 o.2.2.2.2.2.2.1 o.2.2.2.2.2.2.2.1 o.2.2.2.2.2.2.2.2.1 o.2.2.2.2.2.2.2.2.2.1 o.2.2.2.2.2.2.2.2.2.2.1 o.2.2.2.2.2.2.2.2.2.2.2.1 o.2.2.2.2.2.2.2.2.2.2.2.2.1 o.2.2.2.2.2.2.2.2.2.2.2.2.2) o.1 A) ([.ref a_r0, .int x1] : List Value).toArray s 0 0 A := ⟨_, rfl⟩
  rw [← hQ]
  refine lv_aload_n hx hb d_M_gotWithout_0 rfl (lv_at hl 0 rfl) ?_
  obtain ⟨q_1, hc_1, hr⟩ := ob hr
  have ct_1 := C_M_allLeft l D cI cS a_r0 a_r0_left0 (Value.ref a_r0_weights) (Value.int r0_things) (Value.ref a_r0_kinds) (Value.ref a_r0_figures) (Value.int r0_days) (Value.ref a_r0_hampers) (Value.ref a_r0_wants0) (Value.int r0_done0) v_r0_thrown v_r0_refusals v_r0_letters v_r0_letterMany v_r0_at v_r0_isBad v_r0_statements v_r0_placeIn v_r0_letterOf v_r0_told (Value.ref a_r0_kept) v_r0_imaged v_r0_hasImage (Value.int r0_place0) (Value.int r0_isTaking) (kv r0_keptIn) v_r0_turns0 v_r0_turnOf v_r0_turned v_r0_order0 v_r0_likely0 v_r0_leftThen v_r0_row v_r0_rowMany v_r0_seed r0_left0 q_1 hc_1
  refine k_goIp hA hW [0, 5] rfl rfl (k_runV C hA hW mw_M_allLeft mv_M_allLeft (ct_1.2 _) [0, 5] rfl rfl 0 rfl rfl qm_M_234 ⟨Nat.le_of_ble_eq_true rfl, Nat.le_of_ble_eq_true rfl, Nat.zero_le _, Nat.zero_le _⟩ rfl rfl (Nat.le_of_ble_eq_true rfl) hl.1 d_M_gotWithout_1) (fun H locs hW => ?_)
  refine lv_istore_n (lv' := [(2, .int q_1), (0, .ref a_r0), (1, .int x1)]) hx hb d_M_gotWithout_4 rfl hl (by decide) rfl (fun ls hl => ?_)
  refine lv_aload_n hx hb d_M_gotWithout_5 rfl (lv_at hl 1 rfl) ?_
  obtain ⟨q_2, hc_2, hr⟩ := ob hr
  have ct_2 := C_M_think l D cI cS a_r0 a_r0_figures a_r0_hampers a_r0_kept a_r0_kinds a_r0_left0 a_r0_wants0 a_r0_weights v_r0_thrown v_r0_refusals v_r0_letters v_r0_letterMany v_r0_at v_r0_isBad v_r0_statements v_r0_placeIn v_r0_letterOf v_r0_told v_r0_imaged v_r0_hasImage v_r0_turns0 v_r0_turnOf v_r0_turned v_r0_order0 v_r0_likely0 v_r0_leftThen v_r0_row v_r0_rowMany v_r0_seed kv hkv_kept r0_days r0_done0 r0_isTaking r0_keptIn r0_place0 r0_things r0_figures r0_hampers r0_kept r0_kinds r0_left0 r0_wants0 r0_weights q_2 hc_2
  refine k_goV hA hW [0, 1, 2, 3, 4, 5, 6, 7] rfl ct_2.1 (ws' := (w_M_gotWithout cI a_r0 a_r0_figures a_r0_hampers a_r0_kept a_r0_kinds a_r0_left0 a_r0_wants0 a_r0_weights v_r0_thrown v_r0_refusals v_r0_letters v_r0_letterMany v_r0_at v_r0_isBad v_r0_statements v_r0_placeIn v_r0_letterOf v_r0_told v_r0_imaged v_r0_hasImage v_r0_turns0 v_r0_turnOf v_r0_turned v_r0_order0 v_r0_likely0 v_r0_leftThen v_r0_row v_r0_rowMany v_r0_seed kv q_2.1 q_2.2.1 q_2.2.2.1 q_2.2.2.2.1 q_2.2.2.2.2.1 q_2.2.2.2.2.2.1 q_2.2.2.2.2.2.2.1 q_2.2.2.2.2.2.2.2.1 q_2.2.2.2.2.2.2.2.2.1 q_2.2.2.2.2.2.2.2.2.2.1 q_2.2.2.2.2.2.2.2.2.2.2.1 q_2.2.2.2.2.2.2.2.2.2.2.2.1 q_2.2.2.2.2.2.2.2.2.2.2.2.2)) rfl (k_runV C hA hW mw_M_think mv_M_think (ct_2.2 _) [0, 1, 2, 3, 4, 5, 6, 7] rfl rfl 0 rfl rfl qm_M_165 ⟨Nat.le_of_ble_eq_true rfl, Nat.le_of_ble_eq_true rfl, Nat.zero_le _, Nat.zero_le _⟩ rfl rfl (Nat.le_of_ble_eq_true rfl) hl.1 d_M_gotWithout_6) (fun H locs hW => ?_)
  refine lv_iconst (v := 0) hx hb d_M_gotWithout_9 (by decide) ?_
  refine lv_istore_n (lv' := [(3, .int 0), (2, .int q_1), (0, .ref a_r0), (1, .int x1)]) hx hb d_M_gotWithout_10 rfl hl (by decide) rfl (fun ls hl => ?_)
  obtain ⟨ex_3, hw_3, hk_3⟩ := ob hr
  have hx_3 : ∀ (e_3 : (Int32) × (Nat → Int32)), e_3 = ex_3 → ∀ (H : Heap) (locs : List Loc) (ls : Array Slot), wd A s.heap D (w_M_gotWithout cI a_r0 a_r0_figures a_r0_hampers a_r0_kept a_r0_kinds a_r0_left0 a_r0_wants0 a_r0_weights v_r0_thrown v_r0_refusals v_r0_letters v_r0_letterMany v_r0_at v_r0_isBad v_r0_statements v_r0_placeIn v_r0_letterOf v_r0_told v_r0_imaged v_r0_hasImage v_r0_turns0 v_r0_turnOf v_r0_turned v_r0_order0 v_r0_likely0 v_r0_leftThen v_r0_row v_r0_rowMany v_r0_seed kv q_2.1 e_3.1 q_2.2.2.1 q_2.2.2.2.1 q_2.2.2.2.2.1 q_2.2.2.2.2.2.1 q_2.2.2.2.2.2.2.1 q_2.2.2.2.2.2.2.2.1 q_2.2.2.2.2.2.2.2.2.1 q_2.2.2.2.2.2.2.2.2.2.1 e_3.2 q_2.2.2.2.2.2.2.2.2.2.2.2.1 q_2.2.2.2.2.2.2.2.2.2.2.2.2) H locs → lv_has ls 4 [(2, .int q_1), (0, .ref a_r0)] → W p l e (rmd 4) s m ([.ref a_r0, .int x1] : List Value).toArray below meth c H locs 0 0 Q (F0 m 40 ls []) := by
    intro e_3 hE H locs ls hW hl
    subst hE; have hr := hk_3
    refine lv_iload_n hx hb d_M_gotWithout_40 rfl (lv_at hl 0 rfl) ?_
    refine lv_aload_n hx hb d_M_gotWithout_41 rfl (lv_at hl 1 rfl) ?_
    obtain ⟨q_8, hc_8, hr⟩ := ob hr
    have ct_8 := C_M_allLeft l D cI cS a_r0 a_r0_left0 (Value.ref a_r0_weights) (Value.int q_2.2.2.2.2.2.1) (Value.ref a_r0_kinds) (Value.ref a_r0_figures) (Value.int q_2.1) (Value.ref a_r0_hampers) (Value.ref a_r0_wants0) (Value.int e_3.1) v_r0_thrown v_r0_refusals v_r0_letters v_r0_letterMany v_r0_at v_r0_isBad v_r0_statements v_r0_placeIn v_r0_letterOf v_r0_told (Value.ref a_r0_kept) v_r0_imaged v_r0_hasImage (Value.int q_2.2.2.2.2.1) (Value.int q_2.2.2.1) (kv q_2.2.2.2.1) v_r0_turns0 v_r0_turnOf v_r0_turned v_r0_order0 v_r0_likely0 v_r0_leftThen v_r0_row v_r0_rowMany v_r0_seed e_3.2 q_8 hc_8
    refine k_goIp hA hW [0, 5] rfl rfl (k_runV C hA hW mw_M_allLeft mv_M_allLeft (ct_8.2 _) [0, 5] rfl rfl 0 rfl rfl qm_M_234 ⟨Nat.le_of_ble_eq_true rfl, Nat.le_of_ble_eq_true rfl, Nat.zero_le _, Nat.zero_le _⟩ rfl rfl (Nat.le_of_ble_eq_true rfl) hl.1 d_M_gotWithout_42) (fun H locs hW => ?_)
    refine lv_isub hx hb d_M_gotWithout_45 ?_
    refine lv_istore_n (lv' := [(3, .int (q_1 - q_8)), (2, .int q_1), (0, .ref a_r0)]) hx hb d_M_gotWithout_46 rfl hl (by decide) rfl (fun ls hl => ?_)
    refine lv_aload_n hx hb d_M_gotWithout_47 rfl (lv_at hl 2 rfl) ?_
    obtain ⟨q_9, hc_9, hr⟩ := ob hr
    have ct_9 := C_M_again l D cI cS a_r0 a_r0_figures a_r0_hampers a_r0_kept a_r0_kinds a_r0_left0 a_r0_wants0 a_r0_weights v_r0_thrown v_r0_refusals v_r0_letters v_r0_letterMany v_r0_at v_r0_isBad v_r0_statements v_r0_placeIn v_r0_letterOf v_r0_told v_r0_imaged v_r0_hasImage v_r0_turns0 v_r0_turnOf v_r0_turned v_r0_order0 v_r0_likely0 v_r0_leftThen v_r0_row v_r0_rowMany v_r0_seed kv hkv_kept q_2.1 e_3.1 q_2.2.2.1 q_2.2.2.2.1 q_2.2.2.2.2.1 q_2.2.2.2.2.2.1 q_2.2.2.2.2.2.2.1 q_2.2.2.2.2.2.2.2.1 q_2.2.2.2.2.2.2.2.2.1 q_2.2.2.2.2.2.2.2.2.2.1 e_3.2 q_2.2.2.2.2.2.2.2.2.2.2.2.1 q_2.2.2.2.2.2.2.2.2.2.2.2.2 q_9 hc_9
    refine k_goV hA hW [0, 1, 2, 3, 4, 5, 6, 7] rfl ct_9.1 (ws' := (w_M_gotWithout cI a_r0 a_r0_figures a_r0_hampers a_r0_kept a_r0_kinds a_r0_left0 a_r0_wants0 a_r0_weights v_r0_thrown v_r0_refusals v_r0_letters v_r0_letterMany v_r0_at v_r0_isBad v_r0_statements v_r0_placeIn v_r0_letterOf v_r0_told v_r0_imaged v_r0_hasImage v_r0_turns0 v_r0_turnOf v_r0_turned v_r0_order0 v_r0_likely0 v_r0_leftThen v_r0_row v_r0_rowMany v_r0_seed kv q_9.1 q_9.2.1 q_9.2.2.1 q_9.2.2.2.1 q_9.2.2.2.2.1 q_9.2.2.2.2.2.1 q_9.2.2.2.2.2.2.1 q_9.2.2.2.2.2.2.2.1 q_9.2.2.2.2.2.2.2.2.1 q_9.2.2.2.2.2.2.2.2.2.1 q_9.2.2.2.2.2.2.2.2.2.2.1 q_9.2.2.2.2.2.2.2.2.2.2.2.1 q_9.2.2.2.2.2.2.2.2.2.2.2.2)) rfl (k_runV C hA hW mw_M_again mv_M_again (ct_9.2 _) [0, 1, 2, 3, 4, 5, 6, 7] rfl rfl 0 rfl rfl qm_M_171 ⟨Nat.le_of_ble_eq_true rfl, Nat.le_of_ble_eq_true rfl, Nat.zero_le _, Nat.zero_le _⟩ rfl rfl (Nat.le_of_ble_eq_true rfl) hl.1 d_M_gotWithout_48) (fun H locs hW => ?_)
    refine lv_iload_n hx hb d_M_gotWithout_51 rfl (lv_at hl 0 rfl) ?_
    obtain rfl := Option.some.inj hr
    rw [hQ]; exact k_iret C hret hW d_M_gotWithout_52
  have hl_3 : ∀ (k : Nat) (y3_3 : Int32) (r0_done0_3 : Int32) (r0_left0_3 : Nat → Int32), wh (fun (s : (Int32) × (Int32) × (Nat → Int32)) => F_M_gotWithout_L11 q_2 x1 s.1 s.2.1 s.2.2) k (y3_3, r0_done0_3, r0_left0_3) = some ex_3 → ∀ (H : Heap) (locs : List Loc) (ls : Array Slot), wd A s.heap D (w_M_gotWithout cI a_r0 a_r0_figures a_r0_hampers a_r0_kept a_r0_kinds a_r0_left0 a_r0_wants0 a_r0_weights v_r0_thrown v_r0_refusals v_r0_letters v_r0_letterMany v_r0_at v_r0_isBad v_r0_statements v_r0_placeIn v_r0_letterOf v_r0_told v_r0_imaged v_r0_hasImage v_r0_turns0 v_r0_turnOf v_r0_turned v_r0_order0 v_r0_likely0 v_r0_leftThen v_r0_row v_r0_rowMany v_r0_seed kv q_2.1 r0_done0_3 q_2.2.2.1 q_2.2.2.2.1 q_2.2.2.2.2.1 q_2.2.2.2.2.2.1 q_2.2.2.2.2.2.2.1 q_2.2.2.2.2.2.2.2.1 q_2.2.2.2.2.2.2.2.2.1 q_2.2.2.2.2.2.2.2.2.2.1 r0_left0_3 q_2.2.2.2.2.2.2.2.2.2.2.2.1 q_2.2.2.2.2.2.2.2.2.2.2.2.2) H locs → lv_has ls 4 [(2, .int q_1), (0, .ref a_r0), (1, .int x1), (3, .int y3_3)] → W p l e (rmd 4) s m ([.ref a_r0, .int x1] : List Value).toArray below meth c H locs 0 0 Q (F0 m 11 ls []) := by
    intro k
    induction k with
    | zero => intro y3_3 r0_done0_3 r0_left0_3 hw; exact absurd hw wh_0
    | succ k ih_3 =>
      intro y3_3 r0_done0_3 r0_left0_3 hw H locs ls hW hl
      obtain ⟨z_3, hr, hz1_3, hz2_3⟩ := wh_s hw
      have hr : F_M_gotWithout_L11 q_2 x1 y3_3 r0_done0_3 r0_left0_3 = some z_3 := hr
      unfold F_M_gotWithout_L11 at hr
      refine lv_iload_n hx hb d_M_gotWithout_11 rfl (lv_at hl 3 rfl) ?_
      refine lv_aload_n hx hb d_M_gotWithout_12 rfl (lv_at hl 1 rfl) ?_
      refine k_get i_M C hW 0 rfl rfl 4 (by decide) qf_M_78 rfl rfl d_M_gotWithout_13 ?_
      refine lv_icmp_ge (tgt := 40) hx hb d_M_gotWithout_16 (by decide) (fun c_4 => ?_) (fun c_4 => ?_)
      · replace hr := ip c_4 hr
        exact hx_3 _ (hz2_3 _ (Option.some.inj hr).symm) _ _ _ hW (lv_sub hl [0, 1] rfl)
      · replace hr := iN c_4 hr
        refine lv_iload_n hx hb d_M_gotWithout_19 rfl (lv_at hl 3 rfl) ?_
        refine lv_iload_n hx hb d_M_gotWithout_20 rfl (lv_at hl 2 rfl) ?_
        refine lv_icmp_eq (tgt := 34) hx hb d_M_gotWithout_21 (by decide) (fun c_5 => ?_) (fun c_5 => ?_)
        · replace hr := ip c_5 hr
          refine lv_iinc (v := (y3_3 + 1)) (lv' := [(3, .int (y3_3 + 1)), (2, .int q_1), (0, .ref a_r0), (1, .int x1)]) hx hb d_M_gotWithout_34 hl (k := 3) rfl rfl (by decide) rfl (fun ls hl => ?_)
          refine lv_goto (tgt := 11) hx hb d_M_gotWithout_37 (by decide) ?_
          exact ih_3 (y3_3 + 1) r0_done0_3 r0_left0_3 (hz1_3 _ (Option.some.inj hr).symm) _ _ _ hW (lv_sub hl [1, 2, 3, 0] rfl)
        · replace hr := iN c_5 hr
          refine lv_aload_n hx hb d_M_gotWithout_24 rfl (lv_at hl 1 rfl) ?_
          refine lv_aload_n hx hb d_M_gotWithout_25 rfl (lv_at hl 1 rfl) ?_
          refine lv_iload_n hx hb d_M_gotWithout_26 rfl (lv_at hl 3 rfl) ?_
          obtain ⟨q_6, hc_6, hr⟩ := ob hr
          have ct_6 := C_M_likelyOn l D cI cS a_r0 a_r0_figures a_r0_hampers a_r0_kinds a_r0_weights (Value.int q_2.1) (Value.ref a_r0_wants0) (Value.ref a_r0_left0) (Value.int r0_done0_3) v_r0_thrown v_r0_refusals v_r0_letters v_r0_letterMany v_r0_at v_r0_isBad v_r0_statements v_r0_placeIn v_r0_letterOf v_r0_told (Value.ref a_r0_kept) v_r0_imaged v_r0_hasImage (Value.int q_2.2.2.2.2.1) (Value.int q_2.2.2.1) (kv q_2.2.2.2.1) v_r0_turns0 v_r0_turnOf v_r0_turned v_r0_order0 v_r0_likely0 v_r0_leftThen v_r0_row v_r0_rowMany v_r0_seed q_2.2.2.2.2.2.1 q_2.2.2.2.2.2.2.1 q_2.2.2.2.2.2.2.2.1 q_2.2.2.2.2.2.2.2.2.2.1 q_2.2.2.2.2.2.2.2.2.2.2.2.2 y3_3 q_6 hc_6
          refine k_goIp hA hW [0, 1, 2, 4, 7] rfl rfl (k_runV C hA hW mw_M_likelyOn mv_M_likelyOn (ct_6.2 _) [0, 1, 2, 4, 7] rfl rfl 0 rfl rfl qm_M_153 ⟨Nat.le_of_ble_eq_true rfl, Nat.le_of_ble_eq_true rfl, Nat.zero_le _, Nat.zero_le _⟩ rfl rfl (Nat.le_of_ble_eq_true rfl) hl.1 d_M_gotWithout_27) (fun H locs hW => ?_)
          obtain ⟨q_7, hc_7, hr⟩ := ob hr
          have ct_7 := C_M_spendWith l D cI cS a_r0 a_r0_left0 a_r0_wants0 (Value.ref a_r0_weights) (Value.int q_2.2.2.2.2.2.1) (Value.ref a_r0_kinds) (Value.ref a_r0_figures) (Value.int q_2.1) (Value.ref a_r0_hampers) v_r0_thrown v_r0_refusals v_r0_letters v_r0_letterMany v_r0_at v_r0_isBad v_r0_statements v_r0_placeIn v_r0_letterOf v_r0_told (Value.ref a_r0_kept) v_r0_imaged v_r0_hasImage (Value.int q_2.2.2.2.2.1) (Value.int q_2.2.2.1) (kv q_2.2.2.2.1) v_r0_turns0 v_r0_turnOf v_r0_turned v_r0_order0 v_r0_likely0 v_r0_leftThen v_r0_row v_r0_rowMany v_r0_seed r0_done0_3 r0_left0_3 q_2.2.2.2.2.2.2.2.2.2.2.2.1 q_6 q_7 hc_7
          refine k_goI hA hW [0, 5, 6] rfl ct_7.1 (ws' := (w_M_gotWithout cI a_r0 a_r0_figures a_r0_hampers a_r0_kept a_r0_kinds a_r0_left0 a_r0_wants0 a_r0_weights v_r0_thrown v_r0_refusals v_r0_letters v_r0_letterMany v_r0_at v_r0_isBad v_r0_statements v_r0_placeIn v_r0_letterOf v_r0_told v_r0_imaged v_r0_hasImage v_r0_turns0 v_r0_turnOf v_r0_turned v_r0_order0 v_r0_likely0 v_r0_leftThen v_r0_row v_r0_rowMany v_r0_seed kv q_2.1 q_7.2.1 q_2.2.2.1 q_2.2.2.2.1 q_2.2.2.2.2.1 q_2.2.2.2.2.2.1 q_2.2.2.2.2.2.2.1 q_2.2.2.2.2.2.2.2.1 q_2.2.2.2.2.2.2.2.2.1 q_2.2.2.2.2.2.2.2.2.2.1 q_7.2.2 q_2.2.2.2.2.2.2.2.2.2.2.2.1 q_2.2.2.2.2.2.2.2.2.2.2.2.2)) rfl (k_runV C hA hW mw_M_spendWith mv_M_spendWith (ct_7.2 _) [0, 5, 6] rfl rfl 0 rfl rfl qm_M_156 ⟨Nat.le_of_ble_eq_true rfl, Nat.le_of_ble_eq_true rfl, Nat.zero_le _, Nat.zero_le _⟩ rfl rfl (Nat.le_of_ble_eq_true rfl) hl.1 d_M_gotWithout_30) (fun H locs hW => ?_)
          refine lv_pop hx hb d_M_gotWithout_33 rfl ?_
          refine lv_iinc (v := (y3_3 + 1)) (lv' := [(3, .int (y3_3 + 1)), (2, .int q_1), (0, .ref a_r0), (1, .int x1)]) hx hb d_M_gotWithout_34 hl (k := 3) rfl rfl (by decide) rfl (fun ls hl => ?_)
          refine lv_goto (tgt := 11) hx hb d_M_gotWithout_37 (by decide) ?_
          exact ih_3 (y3_3 + 1) q_7.2.1 q_7.2.2 (hz1_3 _ (Option.some.inj hr).symm) _ _ _ hW (lv_sub hl [1, 2, 3, 0] rfl)
  exact hl_3 _ 0 q_2.2.1 q_2.2.2.2.2.2.2.2.2.2.2.1 hw_3 _ _ _ hW (lv_sub hl [1, 2, 3, 0] rfl)
def w_M_gotIn (cI : ClassId) (a_r0 : Nat) (a_r0_figures : Nat) (a_r0_hampers : Nat) (a_r0_kept : Nat) (a_r0_kinds : Nat) (a_r0_left0 : Nat) (a_r0_refusals : Nat) (a_r0_wants0 : Nat) (a_r0_weights : Nat) (v_r0_letters v_r0_letterMany v_r0_at v_r0_isBad v_r0_statements v_r0_placeIn v_r0_letterOf v_r0_told v_r0_imaged v_r0_hasImage v_r0_turns0 v_r0_turnOf v_r0_turned v_r0_order0 v_r0_likely0 v_r0_leftThen v_r0_row v_r0_rowMany v_r0_seed : Value) (kv : Int32 → Value) (r0_days : Int32) (r0_done0 : Int32) (r0_isTaking : Int32) (r0_keptIn : Int32) (r0_place0 : Int32) (r0_things : Int32) (r0_thrown : Int32) (r0_figures : Nat → Int32) (r0_hampers : Nat → Int32) (r0_kept : Nat → Int32) (r0_kinds : Nat → Int32) (r0_left0 : Nat → Int32) (r0_refusals : Nat → Int32) (r0_wants0 : Nat → Int32) (r0_weights : Nat → Int32) : va_W := [(a_r0, .inr (9, [.ref a_r0_weights, .int r0_things, .ref a_r0_kinds, .ref a_r0_figures, .int r0_days, .ref a_r0_hampers, .ref a_r0_wants0, .ref a_r0_left0, .int r0_done0, .int r0_thrown, .ref a_r0_refusals, v_r0_letters, v_r0_letterMany, v_r0_at, v_r0_isBad, v_r0_statements, v_r0_placeIn, v_r0_letterOf, v_r0_told, .ref a_r0_kept, v_r0_imaged, v_r0_hasImage, .int r0_place0, .int r0_isTaking, (kv r0_keptIn), v_r0_turns0, v_r0_turnOf, v_r0_turned, v_r0_order0, v_r0_likely0, v_r0_leftThen, v_r0_row, v_r0_rowMany, v_r0_seed])), (a_r0_figures, .inl (cI, 8, .inl r0_figures)), (a_r0_hampers, .inl (cI, 8, .inl r0_hampers)), (a_r0_kept, .inl (cI, 41, .inl r0_kept)), (a_r0_kinds, .inl (cI, 8, .inl r0_kinds)), (a_r0_left0, .inl (cI, 4, .inl r0_left0)), (a_r0_refusals, .inl (cI, 7, .inl r0_refusals)), (a_r0_wants0, .inl (cI, 4, .inl r0_wants0)), (a_r0_weights, .inl (cI, 6, .inl r0_weights))]
def F_M_gotIn_L39 (q_4 : (Int32) × (Int32) × (Int32) × (Int32) × (Int32) × (Int32) × (Nat → Int32) × (Nat → Int32) × (Nat → Int32) × (Nat → Int32) × (Nat → Int32) × (Nat → Int32) × (Nat → Int32)) (y2_5 : Int32) (r0_done0_5 : Int32) (r0_left0_5 : Nat → Int32) : Option (((Int32) × (Int32) × (Nat → Int32)) ⊕ ((Int32) × (Nat → Int32))) :=
  (if q_4.1 ≤ y2_5 then (some (.inr (r0_done0_5, r0_left0_5))) else ((F_M_likelyOn q_4.2.2.2.2.2.1 q_4.2.2.2.2.2.2.1 q_4.2.2.2.2.2.2.2.1 q_4.2.2.2.2.2.2.2.2.2.1 q_4.2.2.2.2.2.2.2.2.2.2.2.2 y2_5).bind (fun q_7 => ((F_M_spendWith r0_done0_5 r0_left0_5 q_4.2.2.2.2.2.2.2.2.2.2.2.1 q_7).bind (fun q_8 => (some (.inl ((y2_5 + 1), q_8.2.1, q_8.2.2))))))))
def F_M_gotIn (r0_days : Int32) (r0_done0 : Int32) (r0_isTaking : Int32) (r0_keptIn : Int32) (r0_place0 : Int32) (r0_things : Int32) (r0_figures : Nat → Int32) (r0_hampers : Nat → Int32) (r0_kept : Nat → Int32) (r0_kinds : Nat → Int32) (r0_left0 : Nat → Int32) (r0_refusals : Nat → Int32) (r0_wants0 : Nat → Int32) (r0_weights : Nat → Int32) (x1 : Int32) : Option (Int32 × (Int32) × (Int32) × (Int32) × (Int32) × (Int32) × (Int32) × (Int32) × (Nat → Int32) × (Nat → Int32) × (Nat → Int32) × (Nat → Int32) × (Nat → Int32) × (Nat → Int32) × (Nat → Int32) × (Nat → Int32)) :=
  ((F_M_in (Int32.toInt64 x1) (0 : Int64) (1 : Int64)).bind (fun q_1 => (if q_1 = 0 then ((F_M_refuse r0_refusals ((-2) : Int32)).bind (fun q_12 => (some (q_12.1, r0_days, r0_done0, r0_isTaking, r0_keptIn, r0_place0, r0_things, 0, r0_figures, r0_hampers, r0_kept, r0_kinds, r0_left0, q_12.2, r0_wants0, r0_weights)))) else (if x1 = 0 then ((F_M_gotWithout r0_days r0_done0 r0_things r0_figures r0_hampers r0_kept r0_kinds r0_left0 r0_wants0 r0_weights ((-9) : Int32)).bind (fun q_11 => (some (q_11.1, q_11.2.1, q_11.2.2.1, q_11.2.2.2.1, q_11.2.2.2.2.1, q_11.2.2.2.2.2.1, q_11.2.2.2.2.2.2.1, 0, q_11.2.2.2.2.2.2.2.1, q_11.2.2.2.2.2.2.2.2.1, q_11.2.2.2.2.2.2.2.2.2.1, q_11.2.2.2.2.2.2.2.2.2.2.1, q_11.2.2.2.2.2.2.2.2.2.2.2.1, r0_refusals, q_11.2.2.2.2.2.2.2.2.2.2.2.2.1, q_11.2.2.2.2.2.2.2.2.2.2.2.2.2)))) else ((F_M_think r0_days r0_done0 r0_things r0_figures r0_hampers r0_kept r0_kinds r0_left0 r0_wants0 r0_weights).bind (fun q_4 => ((wh (fun (s : (Int32) × (Int32) × (Nat → Int32)) => F_M_gotIn_L39 q_4 s.1 s.2.1 s.2.2) 400 ((0 : Int32), q_4.2.1, q_4.2.2.2.2.2.2.2.2.2.2.1)).bind (fun e_5 => ((F_M_emptyFields e_5.2).bind (fun q_9 => ((F_M_again q_4.1 e_5.1 q_4.2.2.2.2.2.1 q_4.2.2.2.2.2.2.1 q_4.2.2.2.2.2.2.2.1 q_4.2.2.2.2.2.2.2.2.1 q_4.2.2.2.2.2.2.2.2.2.1 e_5.2 q_4.2.2.2.2.2.2.2.2.2.2.2.1 q_4.2.2.2.2.2.2.2.2.2.2.2.2).bind (fun q_10 => (some (q_9, q_10.1, q_10.2.1, q_10.2.2.1, q_10.2.2.2.1, q_10.2.2.2.2.1, q_10.2.2.2.2.2.1, 0, q_10.2.2.2.2.2.2.1, q_10.2.2.2.2.2.2.2.1, q_10.2.2.2.2.2.2.2.2.1, q_10.2.2.2.2.2.2.2.2.2.1, q_10.2.2.2.2.2.2.2.2.2.2.1, r0_refusals, q_10.2.2.2.2.2.2.2.2.2.2.2.1, q_10.2.2.2.2.2.2.2.2.2.2.2.2))))))))))))))
set_option maxHeartbeats 4000000 in
set_option maxRecDepth 100000 in
theorem C_M_gotIn (l : Launch) (D : va_G) (cI cS : ClassId) (a_r0 : Nat) (a_r0_figures : Nat) (a_r0_hampers : Nat) (a_r0_kept : Nat) (a_r0_kinds : Nat) (a_r0_left0 : Nat) (a_r0_refusals : Nat) (a_r0_wants0 : Nat) (a_r0_weights : Nat) (v_r0_letters v_r0_letterMany v_r0_at v_r0_isBad v_r0_statements v_r0_placeIn v_r0_letterOf v_r0_told v_r0_imaged v_r0_hasImage v_r0_turns0 v_r0_turnOf v_r0_turned v_r0_order0 v_r0_likely0 v_r0_leftThen v_r0_row v_r0_rowMany v_r0_seed : Value) (kv : Int32 → Value) (hkv_kept : kv 1 = .ref a_r0_kept) (r0_days : Int32) (r0_done0 : Int32) (r0_isTaking : Int32) (r0_keptIn : Int32) (r0_place0 : Int32) (r0_things : Int32) (r0_thrown : Int32) (r0_figures : Nat → Int32) (r0_hampers : Nat → Int32) (r0_kept : Nat → Int32) (r0_kinds : Nat → Int32) (r0_left0 : Nat → Int32) (r0_refusals : Nat → Int32) (r0_wants0 : Nat → Int32) (r0_weights : Nat → Int32) (x1 : Int32) (o : Int32 × (Int32) × (Int32) × (Int32) × (Int32) × (Int32) × (Int32) × (Int32) × (Nat → Int32) × (Nat → Int32) × (Nat → Int32) × (Nat → Int32) × (Nat → Int32) × (Nat → Int32) × (Nat → Int32) × (Nat → Int32)) (hr : F_M_gotIn r0_days r0_done0 r0_isTaking r0_keptIn r0_place0 r0_things r0_figures r0_hampers r0_kept r0_kinds r0_left0 r0_refusals r0_wants0 r0_weights x1 = some o) : ctI l y_M_gotIn (Cond.code y_M_gotIn b_M_gotIn 3 (some FieldType.int)) (rmd 5) D (kTy cI cS) [.ref a_r0, .int x1] (w_M_gotIn cI a_r0 a_r0_figures a_r0_hampers a_r0_kept a_r0_kinds a_r0_left0 a_r0_refusals a_r0_wants0 a_r0_weights v_r0_letters v_r0_letterMany v_r0_at v_r0_isBad v_r0_statements v_r0_placeIn v_r0_letterOf v_r0_told v_r0_imaged v_r0_hasImage v_r0_turns0 v_r0_turnOf v_r0_turned v_r0_order0 v_r0_likely0 v_r0_leftThen v_r0_row v_r0_rowMany v_r0_seed kv r0_days r0_done0 r0_isTaking r0_keptIn r0_place0 r0_things r0_thrown r0_figures r0_hampers r0_kept r0_kinds r0_left0 r0_refusals r0_wants0 r0_weights) (w_M_gotIn cI a_r0 a_r0_figures a_r0_hampers a_r0_kept a_r0_kinds a_r0_left0 a_r0_refusals a_r0_wants0 a_r0_weights v_r0_letters v_r0_letterMany v_r0_at v_r0_isBad v_r0_statements v_r0_placeIn v_r0_letterOf v_r0_told v_r0_imaged v_r0_hasImage v_r0_turns0 v_r0_turnOf v_r0_turned v_r0_order0 v_r0_likely0 v_r0_leftThen v_r0_row v_r0_rowMany v_r0_seed kv o.2.1 o.2.2.1 o.2.2.2.1 o.2.2.2.2.1 o.2.2.2.2.2.1 o.2.2.2.2.2.2.1 o.2.2.2.2.2.2.2.1 o.2.2.2.2.2.2.2.2.1 o.2.2.2.2.2.2.2.2.2.1 o.2.2.2.2.2.2.2.2.2.2.1 o.2.2.2.2.2.2.2.2.2.2.2.1 o.2.2.2.2.2.2.2.2.2.2.2.2.1 o.2.2.2.2.2.2.2.2.2.2.2.2.2.1 o.2.2.2.2.2.2.2.2.2.2.2.2.2.2.1 o.2.2.2.2.2.2.2.2.2.2.2.2.2.2.2) o.1 := by
  unfold F_M_gotIn at hr
  refine ⟨rfl, fun sz => ct_of (w0 := (w_M_gotIn cI a_r0 a_r0_figures a_r0_hampers a_r0_kept a_r0_kinds a_r0_left0 a_r0_refusals a_r0_wants0 a_r0_weights v_r0_letters v_r0_letterMany v_r0_at v_r0_isBad v_r0_statements v_r0_placeIn v_r0_letterOf v_r0_told v_r0_imaged v_r0_hasImage v_r0_turns0 v_r0_turnOf v_r0_turned v_r0_order0 v_r0_likely0 v_r0_leftThen v_r0_row v_r0_rowMany v_r0_seed kv r0_days r0_done0 r0_isTaking r0_keptIn r0_place0 r0_things r0_thrown r0_figures r0_hampers r0_kept r0_kinds r0_left0 r0_refusals r0_wants0 r0_weights)) (Qc := fun A => qI D (w_M_gotIn cI a_r0 a_r0_figures a_r0_hampers a_r0_kept a_r0_kinds a_r0_left0 a_r0_refusals a_r0_wants0 a_r0_weights v_r0_letters v_r0_letterMany v_r0_at v_r0_isBad v_r0_statements v_r0_placeIn v_r0_letterOf v_r0_told v_r0_imaged v_r0_hasImage v_r0_turns0 v_r0_turnOf v_r0_turned v_r0_order0 v_r0_likely0 v_r0_leftThen v_r0_row v_r0_rowMany v_r0_seed kv o.2.1 o.2.2.1 o.2.2.2.1 o.2.2.2.2.1 o.2.2.2.2.2.1 o.2.2.2.2.2.2.1 o.2.2.2.2.2.2.2.1 o.2.2.2.2.2.2.2.2.1 o.2.2.2.2.2.2.2.2.2.1 o.2.2.2.2.2.2.2.2.2.2.1 o.2.2.2.2.2.2.2.2.2.2.2.1 o.2.2.2.2.2.2.2.2.2.2.2.2.1 o.2.2.2.2.2.2.2.2.2.2.2.2.2.1 o.2.2.2.2.2.2.2.2.2.2.2.2.2.2.1 o.2.2.2.2.2.2.2.2.2.2.2.2.2.2.2) o.1 A) rfl (Nat.le_of_ble_eq_true rfl) ?_ sz⟩
  intro p e s m below meth c A hA C hret ls hl hW
  have C : cx p s m ([.ref a_r0, .int x1] : List Value).toArray meth c b_M_gotIn 3 R_M D (kTy cI cS) (Cond.code y_M_gotIn b_M_gotIn 3 (some FieldType.int)) := C
  obtain ⟨hx, hb, hml, hown, hts, hK, hlk, hN⟩ := id C
  have hl : lv_has ls 3 [(0, .ref a_r0), (1, .int x1)] := hl
  obtain ⟨Q, hQ⟩ : ∃ Q, Q = MQ below (qI D (w_M_gotIn cI a_r0 a_r0_figures a_r0_hampers a_r0_kept a_r0_kinds a_r0_left0 a_r0_refusals a_r0_wants0 a_r0_weights v_r0_letters v_r0_letterMany v_r0_at v_r0_isBad v_r0_statements v_r0_placeIn v_r0_letterOf v_r0_told v_r0_imaged v_r0_hasImage v_r0_turns0 v_r0_turnOf v_r0_turned v_r0_order0 v_r0_likely0 v_r0_leftThen v_r0_row v_r0_rowMany v_r0_seed kv o.2.1 o.2.2.1 o.2.2.2.1 o.2.2.2.2.1 o.2.2.2.2.2.1 o.2.2.2.2.2.2.1 o.2.2.2.2.2.2.2.1 o.2.2.2.2.2.2.2.2.1 o.2.2.2.2.2.2.2.2.2.1 o.2.2.2.2.2.2.2.2.2.2.1 o.2.2.2.2.2.2.2.2.2.2.2.1 o.2.2.2.2.2.2.2.2.2.2.2.2.1 o.2.2.2.2.2.2.2.2.2.2.2.2.2.1 o.2.2.2.2.2.2.2.2.2.2.2.2.2.2.1 o.2.2.2.2.2.2.2.2.2.2.2.2.2.2.2) o.1 A) ([.ref a_r0, .int x1] : List Value).toArray s 0 0 A := ⟨_, rfl⟩
  rw [← hQ]
  refine lv_aload_n hx hb d_M_gotIn_0 rfl (lv_at hl 0 rfl) ?_
  refine lv_iconst (v := 0) hx hb d_M_gotIn_1 (by decide) ?_
  refine k_put i_M t_M_ok n_M C hW 0 rfl rfl 9 (by decide) qf_M_67 rfl rfl (ty := .int) rfl rfl rfl (Nat.le_of_ble_eq_true rfl) (ws' := (w_M_gotIn cI a_r0 a_r0_figures a_r0_hampers a_r0_kept a_r0_kinds a_r0_left0 a_r0_refusals a_r0_wants0 a_r0_weights v_r0_letters v_r0_letterMany v_r0_at v_r0_isBad v_r0_statements v_r0_placeIn v_r0_letterOf v_r0_told v_r0_imaged v_r0_hasImage v_r0_turns0 v_r0_turnOf v_r0_turned v_r0_order0 v_r0_likely0 v_r0_leftThen v_r0_row v_r0_rowMany v_r0_seed kv r0_days r0_done0 r0_isTaking r0_keptIn r0_place0 r0_things 0 r0_figures r0_hampers r0_kept r0_kinds r0_left0 r0_refusals r0_wants0 r0_weights)) rfl d_M_gotIn_2 (fun H locs hW => ?_)
  refine lv_iload_n hx hb d_M_gotIn_5 rfl (lv_at hl 1 rfl) ?_
  refine lv_i2l hx hb d_M_gotIn_6 rfl ?_
  refine lv_lconst (v := 0) hx hb d_M_gotIn_7 (by decide) ?_
  refine lv_lconst (v := 1) hx hb d_M_gotIn_8 (by decide) ?_
  obtain ⟨q_1, hc_1, hr⟩ := ob hr
  have ct_1 := C_M_in l D cI cS (Int32.toInt64 x1) 0 1 q_1 hc_1
  refine k_goIp hA hW [] rfl rfl (k_runS C hA hW mw_M_in ms_M_in (ct_1.2 _) [] rfl rfl qm_M_74 ⟨Nat.le_of_ble_eq_true rfl, Nat.le_of_ble_eq_true rfl, Nat.zero_le _, Nat.zero_le _⟩ rfl rfl (Nat.le_of_ble_eq_true rfl) hl.1 d_M_gotIn_9) (fun H locs hW => ?_)
  refine lv_if_ne (tgt := 22) hx hb d_M_gotIn_12 (by decide) (fun c_2 => ?_) (fun c_2 => ?_)
  · replace hr := iN c_2 hr
    refine lv_iload_n hx hb d_M_gotIn_22 rfl (lv_at hl 1 rfl) ?_
    refine lv_if_ne (tgt := 33) hx hb d_M_gotIn_23 (by decide) (fun c_3 => ?_) (fun c_3 => ?_)
    · replace hr := iN c_3 hr
      refine lv_aload_n hx hb d_M_gotIn_33 rfl (lv_at hl 0 rfl) ?_
      obtain ⟨q_4, hc_4, hr⟩ := ob hr
      have ct_4 := C_M_think l D cI cS a_r0 a_r0_figures a_r0_hampers a_r0_kept a_r0_kinds a_r0_left0 a_r0_wants0 a_r0_weights (Value.int 0) (Value.ref a_r0_refusals) v_r0_letters v_r0_letterMany v_r0_at v_r0_isBad v_r0_statements v_r0_placeIn v_r0_letterOf v_r0_told v_r0_imaged v_r0_hasImage v_r0_turns0 v_r0_turnOf v_r0_turned v_r0_order0 v_r0_likely0 v_r0_leftThen v_r0_row v_r0_rowMany v_r0_seed kv hkv_kept r0_days r0_done0 r0_isTaking r0_keptIn r0_place0 r0_things r0_figures r0_hampers r0_kept r0_kinds r0_left0 r0_wants0 r0_weights q_4 hc_4
      refine k_goV hA hW [0, 1, 2, 3, 4, 5, 7, 8] rfl ct_4.1 (ws' := (w_M_gotIn cI a_r0 a_r0_figures a_r0_hampers a_r0_kept a_r0_kinds a_r0_left0 a_r0_refusals a_r0_wants0 a_r0_weights v_r0_letters v_r0_letterMany v_r0_at v_r0_isBad v_r0_statements v_r0_placeIn v_r0_letterOf v_r0_told v_r0_imaged v_r0_hasImage v_r0_turns0 v_r0_turnOf v_r0_turned v_r0_order0 v_r0_likely0 v_r0_leftThen v_r0_row v_r0_rowMany v_r0_seed kv q_4.1 q_4.2.1 q_4.2.2.1 q_4.2.2.2.1 q_4.2.2.2.2.1 q_4.2.2.2.2.2.1 0 q_4.2.2.2.2.2.2.1 q_4.2.2.2.2.2.2.2.1 q_4.2.2.2.2.2.2.2.2.1 q_4.2.2.2.2.2.2.2.2.2.1 q_4.2.2.2.2.2.2.2.2.2.2.1 r0_refusals q_4.2.2.2.2.2.2.2.2.2.2.2.1 q_4.2.2.2.2.2.2.2.2.2.2.2.2)) rfl (k_runV C hA hW mw_M_think mv_M_think (ct_4.2 _) [0, 1, 2, 3, 4, 5, 7, 8] rfl rfl 0 rfl rfl qm_M_165 ⟨Nat.le_of_ble_eq_true rfl, Nat.le_of_ble_eq_true rfl, Nat.zero_le _, Nat.zero_le _⟩ rfl rfl (Nat.le_of_ble_eq_true rfl) hl.1 d_M_gotIn_34) (fun H locs hW => ?_)
      refine lv_iconst (v := 0) hx hb d_M_gotIn_37 (by decide) ?_
      refine lv_istore_n (lv' := [(2, .int 0), (0, .ref a_r0), (1, .int x1)]) hx hb d_M_gotIn_38 rfl hl (by decide) rfl (fun ls hl => ?_)
      obtain ⟨ex_5, hw_5, hk_5⟩ := ob hr
      have hx_5 : ∀ (e_5 : (Int32) × (Nat → Int32)), e_5 = ex_5 → ∀ (H : Heap) (locs : List Loc) (ls : Array Slot), wd A s.heap D (w_M_gotIn cI a_r0 a_r0_figures a_r0_hampers a_r0_kept a_r0_kinds a_r0_left0 a_r0_refusals a_r0_wants0 a_r0_weights v_r0_letters v_r0_letterMany v_r0_at v_r0_isBad v_r0_statements v_r0_placeIn v_r0_letterOf v_r0_told v_r0_imaged v_r0_hasImage v_r0_turns0 v_r0_turnOf v_r0_turned v_r0_order0 v_r0_likely0 v_r0_leftThen v_r0_row v_r0_rowMany v_r0_seed kv q_4.1 e_5.1 q_4.2.2.1 q_4.2.2.2.1 q_4.2.2.2.2.1 q_4.2.2.2.2.2.1 0 q_4.2.2.2.2.2.2.1 q_4.2.2.2.2.2.2.2.1 q_4.2.2.2.2.2.2.2.2.1 q_4.2.2.2.2.2.2.2.2.2.1 e_5.2 r0_refusals q_4.2.2.2.2.2.2.2.2.2.2.2.1 q_4.2.2.2.2.2.2.2.2.2.2.2.2) H locs → lv_has ls 3 [(0, .ref a_r0)] → W p l e (rmd 5) s m ([.ref a_r0, .int x1] : List Value).toArray below meth c H locs 0 0 Q (F0 m 63 ls []) := by
        intro e_5 hE H locs ls hW hl
        subst hE; have hr := hk_5
        refine lv_aload_n hx hb d_M_gotIn_63 rfl (lv_at hl 0 rfl) ?_
        obtain ⟨q_9, hc_9, hr⟩ := ob hr
        have ct_9 := C_M_emptyFields l D cI cS a_r0 a_r0_left0 (Value.ref a_r0_weights) (Value.int q_4.2.2.2.2.2.1) (Value.ref a_r0_kinds) (Value.ref a_r0_figures) (Value.int q_4.1) (Value.ref a_r0_hampers) (Value.ref a_r0_wants0) (Value.int e_5.1) (Value.int 0) (Value.ref a_r0_refusals) v_r0_letters v_r0_letterMany v_r0_at v_r0_isBad v_r0_statements v_r0_placeIn v_r0_letterOf v_r0_told (Value.ref a_r0_kept) v_r0_imaged v_r0_hasImage (Value.int q_4.2.2.2.2.1) (Value.int q_4.2.2.1) (kv q_4.2.2.2.1) v_r0_turns0 v_r0_turnOf v_r0_turned v_r0_order0 v_r0_likely0 v_r0_leftThen v_r0_row v_r0_rowMany v_r0_seed e_5.2 q_9 hc_9
        refine k_goIp hA hW [0, 5] rfl rfl (k_runV C hA hW mw_M_emptyFields mv_M_emptyFields (ct_9.2 _) [0, 5] rfl rfl 0 rfl rfl qm_M_240 ⟨Nat.le_of_ble_eq_true rfl, Nat.le_of_ble_eq_true rfl, Nat.zero_le _, Nat.zero_le _⟩ rfl rfl (Nat.le_of_ble_eq_true rfl) hl.1 d_M_gotIn_64) (fun H locs hW => ?_)
        refine lv_istore_n (lv' := [(2, .int q_9), (0, .ref a_r0)]) hx hb d_M_gotIn_67 rfl hl (by decide) rfl (fun ls hl => ?_)
        refine lv_aload_n hx hb d_M_gotIn_68 rfl (lv_at hl 1 rfl) ?_
        obtain ⟨q_10, hc_10, hr⟩ := ob hr
        have ct_10 := C_M_again l D cI cS a_r0 a_r0_figures a_r0_hampers a_r0_kept a_r0_kinds a_r0_left0 a_r0_wants0 a_r0_weights (Value.int 0) (Value.ref a_r0_refusals) v_r0_letters v_r0_letterMany v_r0_at v_r0_isBad v_r0_statements v_r0_placeIn v_r0_letterOf v_r0_told v_r0_imaged v_r0_hasImage v_r0_turns0 v_r0_turnOf v_r0_turned v_r0_order0 v_r0_likely0 v_r0_leftThen v_r0_row v_r0_rowMany v_r0_seed kv hkv_kept q_4.1 e_5.1 q_4.2.2.1 q_4.2.2.2.1 q_4.2.2.2.2.1 q_4.2.2.2.2.2.1 q_4.2.2.2.2.2.2.1 q_4.2.2.2.2.2.2.2.1 q_4.2.2.2.2.2.2.2.2.1 q_4.2.2.2.2.2.2.2.2.2.1 e_5.2 q_4.2.2.2.2.2.2.2.2.2.2.2.1 q_4.2.2.2.2.2.2.2.2.2.2.2.2 q_10 hc_10
        refine k_goV hA hW [0, 1, 2, 3, 4, 5, 7, 8] rfl ct_10.1 (ws' := (w_M_gotIn cI a_r0 a_r0_figures a_r0_hampers a_r0_kept a_r0_kinds a_r0_left0 a_r0_refusals a_r0_wants0 a_r0_weights v_r0_letters v_r0_letterMany v_r0_at v_r0_isBad v_r0_statements v_r0_placeIn v_r0_letterOf v_r0_told v_r0_imaged v_r0_hasImage v_r0_turns0 v_r0_turnOf v_r0_turned v_r0_order0 v_r0_likely0 v_r0_leftThen v_r0_row v_r0_rowMany v_r0_seed kv q_10.1 q_10.2.1 q_10.2.2.1 q_10.2.2.2.1 q_10.2.2.2.2.1 q_10.2.2.2.2.2.1 0 q_10.2.2.2.2.2.2.1 q_10.2.2.2.2.2.2.2.1 q_10.2.2.2.2.2.2.2.2.1 q_10.2.2.2.2.2.2.2.2.2.1 q_10.2.2.2.2.2.2.2.2.2.2.1 r0_refusals q_10.2.2.2.2.2.2.2.2.2.2.2.1 q_10.2.2.2.2.2.2.2.2.2.2.2.2)) rfl (k_runV C hA hW mw_M_again mv_M_again (ct_10.2 _) [0, 1, 2, 3, 4, 5, 7, 8] rfl rfl 0 rfl rfl qm_M_171 ⟨Nat.le_of_ble_eq_true rfl, Nat.le_of_ble_eq_true rfl, Nat.zero_le _, Nat.zero_le _⟩ rfl rfl (Nat.le_of_ble_eq_true rfl) hl.1 d_M_gotIn_69) (fun H locs hW => ?_)
        refine lv_iload_n hx hb d_M_gotIn_72 rfl (lv_at hl 0 rfl) ?_
        obtain rfl := Option.some.inj hr
        rw [hQ]; exact k_iret C hret hW d_M_gotIn_73
      have hl_5 : ∀ (k : Nat) (y2_5 : Int32) (r0_done0_5 : Int32) (r0_left0_5 : Nat → Int32), wh (fun (s : (Int32) × (Int32) × (Nat → Int32)) => F_M_gotIn_L39 q_4 s.1 s.2.1 s.2.2) k (y2_5, r0_done0_5, r0_left0_5) = some ex_5 → ∀ (H : Heap) (locs : List Loc) (ls : Array Slot), wd A s.heap D (w_M_gotIn cI a_r0 a_r0_figures a_r0_hampers a_r0_kept a_r0_kinds a_r0_left0 a_r0_refusals a_r0_wants0 a_r0_weights v_r0_letters v_r0_letterMany v_r0_at v_r0_isBad v_r0_statements v_r0_placeIn v_r0_letterOf v_r0_told v_r0_imaged v_r0_hasImage v_r0_turns0 v_r0_turnOf v_r0_turned v_r0_order0 v_r0_likely0 v_r0_leftThen v_r0_row v_r0_rowMany v_r0_seed kv q_4.1 r0_done0_5 q_4.2.2.1 q_4.2.2.2.1 q_4.2.2.2.2.1 q_4.2.2.2.2.2.1 0 q_4.2.2.2.2.2.2.1 q_4.2.2.2.2.2.2.2.1 q_4.2.2.2.2.2.2.2.2.1 q_4.2.2.2.2.2.2.2.2.2.1 r0_left0_5 r0_refusals q_4.2.2.2.2.2.2.2.2.2.2.2.1 q_4.2.2.2.2.2.2.2.2.2.2.2.2) H locs → lv_has ls 3 [(0, .ref a_r0), (2, .int y2_5)] → W p l e (rmd 5) s m ([.ref a_r0, .int x1] : List Value).toArray below meth c H locs 0 0 Q (F0 m 39 ls []) := by
        intro k
        induction k with
        | zero => intro y2_5 r0_done0_5 r0_left0_5 hw; exact absurd hw wh_0
        | succ k ih_5 =>
          intro y2_5 r0_done0_5 r0_left0_5 hw H locs ls hW hl
          obtain ⟨z_5, hr, hz1_5, hz2_5⟩ := wh_s hw
          have hr : F_M_gotIn_L39 q_4 y2_5 r0_done0_5 r0_left0_5 = some z_5 := hr
          unfold F_M_gotIn_L39 at hr
          refine lv_iload_n hx hb d_M_gotIn_39 rfl (lv_at hl 1 rfl) ?_
          refine lv_aload_n hx hb d_M_gotIn_40 rfl (lv_at hl 0 rfl) ?_
          refine k_get i_M C hW 0 rfl rfl 4 (by decide) qf_M_78 rfl rfl d_M_gotIn_41 ?_
          refine lv_icmp_ge (tgt := 63) hx hb d_M_gotIn_44 (by decide) (fun c_6 => ?_) (fun c_6 => ?_)
          · replace hr := ip c_6 hr
            exact hx_5 _ (hz2_5 _ (Option.some.inj hr).symm) _ _ _ hW (lv_sub hl [0] rfl)
          · replace hr := iN c_6 hr
            refine lv_aload_n hx hb d_M_gotIn_47 rfl (lv_at hl 0 rfl) ?_
            refine lv_aload_n hx hb d_M_gotIn_48 rfl (lv_at hl 0 rfl) ?_
            refine lv_iload_n hx hb d_M_gotIn_49 rfl (lv_at hl 1 rfl) ?_
            obtain ⟨q_7, hc_7, hr⟩ := ob hr
            have ct_7 := C_M_likelyOn l D cI cS a_r0 a_r0_figures a_r0_hampers a_r0_kinds a_r0_weights (Value.int q_4.1) (Value.ref a_r0_wants0) (Value.ref a_r0_left0) (Value.int r0_done0_5) (Value.int 0) (Value.ref a_r0_refusals) v_r0_letters v_r0_letterMany v_r0_at v_r0_isBad v_r0_statements v_r0_placeIn v_r0_letterOf v_r0_told (Value.ref a_r0_kept) v_r0_imaged v_r0_hasImage (Value.int q_4.2.2.2.2.1) (Value.int q_4.2.2.1) (kv q_4.2.2.2.1) v_r0_turns0 v_r0_turnOf v_r0_turned v_r0_order0 v_r0_likely0 v_r0_leftThen v_r0_row v_r0_rowMany v_r0_seed q_4.2.2.2.2.2.1 q_4.2.2.2.2.2.2.1 q_4.2.2.2.2.2.2.2.1 q_4.2.2.2.2.2.2.2.2.2.1 q_4.2.2.2.2.2.2.2.2.2.2.2.2 y2_5 q_7 hc_7
            refine k_goIp hA hW [0, 1, 2, 4, 8] rfl rfl (k_runV C hA hW mw_M_likelyOn mv_M_likelyOn (ct_7.2 _) [0, 1, 2, 4, 8] rfl rfl 0 rfl rfl qm_M_153 ⟨Nat.le_of_ble_eq_true rfl, Nat.le_of_ble_eq_true rfl, Nat.zero_le _, Nat.zero_le _⟩ rfl rfl (Nat.le_of_ble_eq_true rfl) hl.1 d_M_gotIn_50) (fun H locs hW => ?_)
            obtain ⟨q_8, hc_8, hr⟩ := ob hr
            have ct_8 := C_M_spendWith l D cI cS a_r0 a_r0_left0 a_r0_wants0 (Value.ref a_r0_weights) (Value.int q_4.2.2.2.2.2.1) (Value.ref a_r0_kinds) (Value.ref a_r0_figures) (Value.int q_4.1) (Value.ref a_r0_hampers) (Value.int 0) (Value.ref a_r0_refusals) v_r0_letters v_r0_letterMany v_r0_at v_r0_isBad v_r0_statements v_r0_placeIn v_r0_letterOf v_r0_told (Value.ref a_r0_kept) v_r0_imaged v_r0_hasImage (Value.int q_4.2.2.2.2.1) (Value.int q_4.2.2.1) (kv q_4.2.2.2.1) v_r0_turns0 v_r0_turnOf v_r0_turned v_r0_order0 v_r0_likely0 v_r0_leftThen v_r0_row v_r0_rowMany v_r0_seed r0_done0_5 r0_left0_5 q_4.2.2.2.2.2.2.2.2.2.2.2.1 q_7 q_8 hc_8
            refine k_goI hA hW [0, 5, 7] rfl ct_8.1 (ws' := (w_M_gotIn cI a_r0 a_r0_figures a_r0_hampers a_r0_kept a_r0_kinds a_r0_left0 a_r0_refusals a_r0_wants0 a_r0_weights v_r0_letters v_r0_letterMany v_r0_at v_r0_isBad v_r0_statements v_r0_placeIn v_r0_letterOf v_r0_told v_r0_imaged v_r0_hasImage v_r0_turns0 v_r0_turnOf v_r0_turned v_r0_order0 v_r0_likely0 v_r0_leftThen v_r0_row v_r0_rowMany v_r0_seed kv q_4.1 q_8.2.1 q_4.2.2.1 q_4.2.2.2.1 q_4.2.2.2.2.1 q_4.2.2.2.2.2.1 0 q_4.2.2.2.2.2.2.1 q_4.2.2.2.2.2.2.2.1 q_4.2.2.2.2.2.2.2.2.1 q_4.2.2.2.2.2.2.2.2.2.1 q_8.2.2 r0_refusals q_4.2.2.2.2.2.2.2.2.2.2.2.1 q_4.2.2.2.2.2.2.2.2.2.2.2.2)) rfl (k_runV C hA hW mw_M_spendWith mv_M_spendWith (ct_8.2 _) [0, 5, 7] rfl rfl 0 rfl rfl qm_M_156 ⟨Nat.le_of_ble_eq_true rfl, Nat.le_of_ble_eq_true rfl, Nat.zero_le _, Nat.zero_le _⟩ rfl rfl (Nat.le_of_ble_eq_true rfl) hl.1 d_M_gotIn_53) (fun H locs hW => ?_)
            refine lv_pop hx hb d_M_gotIn_56 rfl ?_
            refine lv_iinc (v := (y2_5 + 1)) (lv' := [(2, .int (y2_5 + 1)), (0, .ref a_r0)]) hx hb d_M_gotIn_57 hl (k := 1) rfl rfl (by decide) rfl (fun ls hl => ?_)
            refine lv_goto (tgt := 39) hx hb d_M_gotIn_60 (by decide) ?_
            exact ih_5 (y2_5 + 1) q_8.2.1 q_8.2.2 (hz1_5 _ (Option.some.inj hr).symm) _ _ _ hW (lv_sub hl [1, 0] rfl)
      exact hl_5 _ 0 q_4.2.1 q_4.2.2.2.2.2.2.2.2.2.2.1 hw_5 _ _ _ hW (lv_sub hl [1, 0] rfl)
    · replace hr := ip c_3 hr
      refine lv_aload_n hx hb d_M_gotIn_26 rfl (lv_at hl 0 rfl) ?_
      refine lv_bipush (v := (-9)) hx hb d_M_gotIn_27 (by decide) ?_
      obtain ⟨q_11, hc_11, hr⟩ := ob hr
      have ct_11 := C_M_gotWithout l D cI cS a_r0 a_r0_figures a_r0_hampers a_r0_kept a_r0_kinds a_r0_left0 a_r0_wants0 a_r0_weights (Value.int 0) (Value.ref a_r0_refusals) v_r0_letters v_r0_letterMany v_r0_at v_r0_isBad v_r0_statements v_r0_placeIn v_r0_letterOf v_r0_told v_r0_imaged v_r0_hasImage v_r0_turns0 v_r0_turnOf v_r0_turned v_r0_order0 v_r0_likely0 v_r0_leftThen v_r0_row v_r0_rowMany v_r0_seed kv hkv_kept r0_days r0_done0 r0_isTaking r0_keptIn r0_place0 r0_things r0_figures r0_hampers r0_kept r0_kinds r0_left0 r0_wants0 r0_weights (-9) q_11 hc_11
      refine k_goI hA hW [0, 1, 2, 3, 4, 5, 7, 8] rfl ct_11.1 (ws' := (w_M_gotIn cI a_r0 a_r0_figures a_r0_hampers a_r0_kept a_r0_kinds a_r0_left0 a_r0_refusals a_r0_wants0 a_r0_weights v_r0_letters v_r0_letterMany v_r0_at v_r0_isBad v_r0_statements v_r0_placeIn v_r0_letterOf v_r0_told v_r0_imaged v_r0_hasImage v_r0_turns0 v_r0_turnOf v_r0_turned v_r0_order0 v_r0_likely0 v_r0_leftThen v_r0_row v_r0_rowMany v_r0_seed kv q_11.2.1 q_11.2.2.1 q_11.2.2.2.1 q_11.2.2.2.2.1 q_11.2.2.2.2.2.1 q_11.2.2.2.2.2.2.1 0 q_11.2.2.2.2.2.2.2.1 q_11.2.2.2.2.2.2.2.2.1 q_11.2.2.2.2.2.2.2.2.2.1 q_11.2.2.2.2.2.2.2.2.2.2.1 q_11.2.2.2.2.2.2.2.2.2.2.2.1 r0_refusals q_11.2.2.2.2.2.2.2.2.2.2.2.2.1 q_11.2.2.2.2.2.2.2.2.2.2.2.2.2)) rfl (k_runV C hA hW mw_M_gotWithout mv_M_gotWithout (ct_11.2 _) [0, 1, 2, 3, 4, 5, 7, 8] rfl rfl 0 rfl rfl qm_M_237 ⟨Nat.le_of_ble_eq_true rfl, Nat.le_of_ble_eq_true rfl, Nat.zero_le _, Nat.zero_le _⟩ rfl rfl (Nat.le_of_ble_eq_true rfl) hl.1 d_M_gotIn_29) (fun H locs hW => ?_)
      obtain rfl := Option.some.inj hr
      rw [hQ]; exact k_iret C hret hW d_M_gotIn_32
  · replace hr := ip c_2 hr
    refine lv_aload_n hx hb d_M_gotIn_15 rfl (lv_at hl 0 rfl) ?_
    refine lv_bipush (v := (-2)) hx hb d_M_gotIn_16 (by decide) ?_
    obtain ⟨q_12, hc_12, hr⟩ := ob hr
    have ct_12 := C_M_refuse l D cI cS a_r0 a_r0_refusals (Value.ref a_r0_weights) (Value.int r0_things) (Value.ref a_r0_kinds) (Value.ref a_r0_figures) (Value.int r0_days) (Value.ref a_r0_hampers) (Value.ref a_r0_wants0) (Value.ref a_r0_left0) (Value.int r0_done0) (Value.int 0) v_r0_letters v_r0_letterMany v_r0_at v_r0_isBad v_r0_statements v_r0_placeIn v_r0_letterOf v_r0_told (Value.ref a_r0_kept) v_r0_imaged v_r0_hasImage (Value.int r0_place0) (Value.int r0_isTaking) (kv r0_keptIn) v_r0_turns0 v_r0_turnOf v_r0_turned v_r0_order0 v_r0_likely0 v_r0_leftThen v_r0_row v_r0_rowMany v_r0_seed r0_refusals (-2) q_12 hc_12
    refine k_goI hA hW [0, 6] rfl ct_12.1 (ws' := (w_M_gotIn cI a_r0 a_r0_figures a_r0_hampers a_r0_kept a_r0_kinds a_r0_left0 a_r0_refusals a_r0_wants0 a_r0_weights v_r0_letters v_r0_letterMany v_r0_at v_r0_isBad v_r0_statements v_r0_placeIn v_r0_letterOf v_r0_told v_r0_imaged v_r0_hasImage v_r0_turns0 v_r0_turnOf v_r0_turned v_r0_order0 v_r0_likely0 v_r0_leftThen v_r0_row v_r0_rowMany v_r0_seed kv r0_days r0_done0 r0_isTaking r0_keptIn r0_place0 r0_things 0 r0_figures r0_hampers r0_kept r0_kinds r0_left0 q_12.2 r0_wants0 r0_weights)) rfl (k_runV C hA hW mw_M_refuse mv_M_refuse (ct_12.2 _) [0, 6] rfl rfl 0 rfl rfl qm_M_108 ⟨Nat.le_of_ble_eq_true rfl, Nat.le_of_ble_eq_true rfl, Nat.zero_le _, Nat.zero_le _⟩ rfl rfl (Nat.le_of_ble_eq_true rfl) hl.1 d_M_gotIn_18) (fun H locs hW => ?_)
    obtain rfl := Option.some.inj hr
    rw [hQ]; exact k_iret C hret hW d_M_gotIn_21
def w_M_here (cI : ClassId) (a_r0 : Nat) (a_r0_letters : Nat) (v_r0_weights v_r0_things v_r0_kinds v_r0_figures v_r0_days v_r0_hampers v_r0_wants0 v_r0_left0 v_r0_done0 v_r0_thrown v_r0_refusals v_r0_isBad v_r0_statements v_r0_placeIn v_r0_letterOf v_r0_told v_r0_kept v_r0_imaged v_r0_hasImage v_r0_place0 v_r0_isTaking v_r0_keptIn v_r0_turns0 v_r0_turnOf v_r0_turned v_r0_order0 v_r0_likely0 v_r0_leftThen v_r0_row v_r0_rowMany v_r0_seed : Value) (r0_at : Int32) (r0_letterMany : Int32) (r0_letters : Nat → Int32) : va_W := [(a_r0, .inr (9, [v_r0_weights, v_r0_things, v_r0_kinds, v_r0_figures, v_r0_days, v_r0_hampers, v_r0_wants0, v_r0_left0, v_r0_done0, v_r0_thrown, v_r0_refusals, .ref a_r0_letters, .int r0_letterMany, .int r0_at, v_r0_isBad, v_r0_statements, v_r0_placeIn, v_r0_letterOf, v_r0_told, v_r0_kept, v_r0_imaged, v_r0_hasImage, v_r0_place0, v_r0_isTaking, v_r0_keptIn, v_r0_turns0, v_r0_turnOf, v_r0_turned, v_r0_order0, v_r0_likely0, v_r0_leftThen, v_r0_row, v_r0_rowMany, v_r0_seed])), (a_r0_letters, .inl (cI, 96, .inl r0_letters))]
def F_M_here (r0_at : Int32) (r0_letterMany : Int32) (r0_letters : Nat → Int32) : Option (Int32) :=
  (if r0_letterMany ≤ r0_at then (some (-1)) else (ck r0_at 96 (some (r0_letters (Int32.toNatClampNeg r0_at)))))
set_option maxHeartbeats 4000000 in
set_option maxRecDepth 100000 in
theorem C_M_here (l : Launch) (D : va_G) (cI cS : ClassId) (a_r0 : Nat) (a_r0_letters : Nat) (v_r0_weights v_r0_things v_r0_kinds v_r0_figures v_r0_days v_r0_hampers v_r0_wants0 v_r0_left0 v_r0_done0 v_r0_thrown v_r0_refusals v_r0_isBad v_r0_statements v_r0_placeIn v_r0_letterOf v_r0_told v_r0_kept v_r0_imaged v_r0_hasImage v_r0_place0 v_r0_isTaking v_r0_keptIn v_r0_turns0 v_r0_turnOf v_r0_turned v_r0_order0 v_r0_likely0 v_r0_leftThen v_r0_row v_r0_rowMany v_r0_seed : Value) (r0_at : Int32) (r0_letterMany : Int32) (r0_letters : Nat → Int32) (o : Int32) (hr : F_M_here r0_at r0_letterMany r0_letters = some o) : ctI l y_M_here (Cond.code y_M_here b_M_here 1 (some FieldType.int)) (rmd 0) D (kTy cI cS) [.ref a_r0] (w_M_here cI a_r0 a_r0_letters v_r0_weights v_r0_things v_r0_kinds v_r0_figures v_r0_days v_r0_hampers v_r0_wants0 v_r0_left0 v_r0_done0 v_r0_thrown v_r0_refusals v_r0_isBad v_r0_statements v_r0_placeIn v_r0_letterOf v_r0_told v_r0_kept v_r0_imaged v_r0_hasImage v_r0_place0 v_r0_isTaking v_r0_keptIn v_r0_turns0 v_r0_turnOf v_r0_turned v_r0_order0 v_r0_likely0 v_r0_leftThen v_r0_row v_r0_rowMany v_r0_seed r0_at r0_letterMany r0_letters) (w_M_here cI a_r0 a_r0_letters v_r0_weights v_r0_things v_r0_kinds v_r0_figures v_r0_days v_r0_hampers v_r0_wants0 v_r0_left0 v_r0_done0 v_r0_thrown v_r0_refusals v_r0_isBad v_r0_statements v_r0_placeIn v_r0_letterOf v_r0_told v_r0_kept v_r0_imaged v_r0_hasImage v_r0_place0 v_r0_isTaking v_r0_keptIn v_r0_turns0 v_r0_turnOf v_r0_turned v_r0_order0 v_r0_likely0 v_r0_leftThen v_r0_row v_r0_rowMany v_r0_seed r0_at r0_letterMany r0_letters) o := by
  unfold F_M_here at hr
  refine ⟨rfl, fun sz => ct_of (w0 := (w_M_here cI a_r0 a_r0_letters v_r0_weights v_r0_things v_r0_kinds v_r0_figures v_r0_days v_r0_hampers v_r0_wants0 v_r0_left0 v_r0_done0 v_r0_thrown v_r0_refusals v_r0_isBad v_r0_statements v_r0_placeIn v_r0_letterOf v_r0_told v_r0_kept v_r0_imaged v_r0_hasImage v_r0_place0 v_r0_isTaking v_r0_keptIn v_r0_turns0 v_r0_turnOf v_r0_turned v_r0_order0 v_r0_likely0 v_r0_leftThen v_r0_row v_r0_rowMany v_r0_seed r0_at r0_letterMany r0_letters)) (Qc := fun A => qI D (w_M_here cI a_r0 a_r0_letters v_r0_weights v_r0_things v_r0_kinds v_r0_figures v_r0_days v_r0_hampers v_r0_wants0 v_r0_left0 v_r0_done0 v_r0_thrown v_r0_refusals v_r0_isBad v_r0_statements v_r0_placeIn v_r0_letterOf v_r0_told v_r0_kept v_r0_imaged v_r0_hasImage v_r0_place0 v_r0_isTaking v_r0_keptIn v_r0_turns0 v_r0_turnOf v_r0_turned v_r0_order0 v_r0_likely0 v_r0_leftThen v_r0_row v_r0_rowMany v_r0_seed r0_at r0_letterMany r0_letters) o A) rfl (Nat.le_of_ble_eq_true rfl) ?_ sz⟩
  intro p e s m below meth c A hA C hret ls hl hW
  have C : cx p s m ([.ref a_r0] : List Value).toArray meth c b_M_here 1 R_M D (kTy cI cS) (Cond.code y_M_here b_M_here 1 (some FieldType.int)) := C
  obtain ⟨hx, hb, hml, hown, hts, hK, hlk, hN⟩ := id C
  have hl : lv_has ls 1 [(0, .ref a_r0)] := hl
  obtain ⟨Q, hQ⟩ : ∃ Q, Q = MQ below (qI D (w_M_here cI a_r0 a_r0_letters v_r0_weights v_r0_things v_r0_kinds v_r0_figures v_r0_days v_r0_hampers v_r0_wants0 v_r0_left0 v_r0_done0 v_r0_thrown v_r0_refusals v_r0_isBad v_r0_statements v_r0_placeIn v_r0_letterOf v_r0_told v_r0_kept v_r0_imaged v_r0_hasImage v_r0_place0 v_r0_isTaking v_r0_keptIn v_r0_turns0 v_r0_turnOf v_r0_turned v_r0_order0 v_r0_likely0 v_r0_leftThen v_r0_row v_r0_rowMany v_r0_seed r0_at r0_letterMany r0_letters) o A) ([.ref a_r0] : List Value).toArray s 0 0 A := ⟨_, rfl⟩
  rw [← hQ]
  refine lv_aload_n hx hb d_M_here_0 rfl (lv_at hl 0 rfl) ?_
  refine k_get i_M C hW 0 rfl rfl 13 (by decide) qf_M_114 rfl rfl d_M_here_1 ?_
  refine lv_aload_n hx hb d_M_here_4 rfl (lv_at hl 0 rfl) ?_
  refine k_get i_M C hW 0 rfl rfl 12 (by decide) qf_M_111 rfl rfl d_M_here_5 ?_
  refine lv_icmp_ge (tgt := 23) hx hb d_M_here_8 (by decide) (fun c_1 => ?_) (fun c_1 => ?_)
  · replace hr := ip c_1 hr
    refine lv_iconst (v := (-1)) hx hb d_M_here_23 (by decide) ?_
    obtain rfl := Option.some.inj hr
    rw [hQ]; exact k_iret C hret hW d_M_here_24
  · replace hr := iN c_1 hr
    refine lv_aload_n hx hb d_M_here_11 rfl (lv_at hl 0 rfl) ?_
    refine k_get i_M C hW 0 rfl rfl 11 (by decide) qf_M_31 rfl rfl d_M_here_12 ?_
    refine lv_aload_n hx hb d_M_here_15 rfl (lv_at hl 0 rfl) ?_
    refine k_get i_M C hW 0 rfl rfl 13 (by decide) qf_M_114 rfl rfl d_M_here_16 ?_
    obtain ⟨h_2, hr⟩ := ck_some hr
    refine k_iald C hW 1 rfl h_2 d_M_here_19 ?_
    refine lv_goto (tgt := 24) hx hb d_M_here_20 (by decide) ?_
    obtain rfl := Option.some.inj hr
    rw [hQ]; exact k_iret C hret hW d_M_here_24
def F_M_isLetter (x0 : Int32) : Option (Int32) :=
  (if x0 = 116 then (some 1) else (if x0 = 100 then (some 1) else (if x0 = 119 then (some 1) else (if x0 = 102 then (some 1) else (if x0 = 115 then (some 1) else (if x0 = 112 then (some 1) else (some 0)))))))
set_option maxHeartbeats 4000000 in
set_option maxRecDepth 100000 in
theorem C_M_isLetter (l : Launch) (D : va_G) (cI cS : ClassId) (x0 : Int32) (o : Int32) (hr : F_M_isLetter x0 = some o) : ctI l y_M_isLetter (Cond.code y_M_isLetter b_M_isLetter 1 (some FieldType.boolean)) (rmd 0) D (kTy cI cS) [.int x0] [] [] o := by
  unfold F_M_isLetter at hr
  refine ⟨rfl, fun sz => ct_of (w0 := []) (Qc := fun A => qI D [] o A) rfl (Nat.le_of_ble_eq_true rfl) ?_ sz⟩
  intro p e s m below meth c A hA C hret ls hl hW
  have C : cx p s m ([.int x0] : List Value).toArray meth c b_M_isLetter 1 R_M D (kTy cI cS) (Cond.code y_M_isLetter b_M_isLetter 1 (some FieldType.boolean)) := C
  obtain ⟨hx, hb, hml, hown, hts, hK, hlk, hN⟩ := id C
  have hl : lv_has ls 1 [(0, .int x0)] := hl
  obtain ⟨Q, hQ⟩ : ∃ Q, Q = MQ below (qI D [] o A) ([.int x0] : List Value).toArray s 0 0 A := ⟨_, rfl⟩
  rw [← hQ]
  refine lv_iload_n hx hb d_M_isLetter_0 rfl (lv_at hl 0 rfl) ?_
  refine lv_bipush (v := 116) hx hb d_M_isLetter_1 (by decide) ?_
  refine lv_icmp_eq (tgt := 36) hx hb d_M_isLetter_3 (by decide) (fun c_1 => ?_) (fun c_1 => ?_)
  · replace hr := ip c_1 hr
    refine lv_iconst (v := 1) hx hb d_M_isLetter_36 (by decide) ?_
    refine lv_goto (tgt := 41) hx hb d_M_isLetter_37 (by decide) ?_
    obtain rfl := Option.some.inj hr
    rw [hQ]; exact k_zret C hret nar1 hW d_M_isLetter_41
  · replace hr := iN c_1 hr
    refine lv_iload_n hx hb d_M_isLetter_6 rfl (lv_at hl 0 rfl) ?_
    refine lv_bipush (v := 100) hx hb d_M_isLetter_7 (by decide) ?_
    refine lv_icmp_eq (tgt := 36) hx hb d_M_isLetter_9 (by decide) (fun c_2 => ?_) (fun c_2 => ?_)
    · replace hr := ip c_2 hr
      refine lv_iconst (v := 1) hx hb d_M_isLetter_36 (by decide) ?_
      refine lv_goto (tgt := 41) hx hb d_M_isLetter_37 (by decide) ?_
      obtain rfl := Option.some.inj hr
      rw [hQ]; exact k_zret C hret nar1 hW d_M_isLetter_41
    · replace hr := iN c_2 hr
      refine lv_iload_n hx hb d_M_isLetter_12 rfl (lv_at hl 0 rfl) ?_
      refine lv_bipush (v := 119) hx hb d_M_isLetter_13 (by decide) ?_
      refine lv_icmp_eq (tgt := 36) hx hb d_M_isLetter_15 (by decide) (fun c_3 => ?_) (fun c_3 => ?_)
      · replace hr := ip c_3 hr
        refine lv_iconst (v := 1) hx hb d_M_isLetter_36 (by decide) ?_
        refine lv_goto (tgt := 41) hx hb d_M_isLetter_37 (by decide) ?_
        obtain rfl := Option.some.inj hr
        rw [hQ]; exact k_zret C hret nar1 hW d_M_isLetter_41
      · replace hr := iN c_3 hr
        refine lv_iload_n hx hb d_M_isLetter_18 rfl (lv_at hl 0 rfl) ?_
        refine lv_bipush (v := 102) hx hb d_M_isLetter_19 (by decide) ?_
        refine lv_icmp_eq (tgt := 36) hx hb d_M_isLetter_21 (by decide) (fun c_4 => ?_) (fun c_4 => ?_)
        · replace hr := ip c_4 hr
          refine lv_iconst (v := 1) hx hb d_M_isLetter_36 (by decide) ?_
          refine lv_goto (tgt := 41) hx hb d_M_isLetter_37 (by decide) ?_
          obtain rfl := Option.some.inj hr
          rw [hQ]; exact k_zret C hret nar1 hW d_M_isLetter_41
        · replace hr := iN c_4 hr
          refine lv_iload_n hx hb d_M_isLetter_24 rfl (lv_at hl 0 rfl) ?_
          refine lv_bipush (v := 115) hx hb d_M_isLetter_25 (by decide) ?_
          refine lv_icmp_eq (tgt := 36) hx hb d_M_isLetter_27 (by decide) (fun c_5 => ?_) (fun c_5 => ?_)
          · replace hr := ip c_5 hr
            refine lv_iconst (v := 1) hx hb d_M_isLetter_36 (by decide) ?_
            refine lv_goto (tgt := 41) hx hb d_M_isLetter_37 (by decide) ?_
            obtain rfl := Option.some.inj hr
            rw [hQ]; exact k_zret C hret nar1 hW d_M_isLetter_41
          · replace hr := iN c_5 hr
            refine lv_iload_n hx hb d_M_isLetter_30 rfl (lv_at hl 0 rfl) ?_
            refine lv_bipush (v := 112) hx hb d_M_isLetter_31 (by decide) ?_
            refine lv_icmp_ne (tgt := 40) hx hb d_M_isLetter_33 (by decide) (fun c_6 => ?_) (fun c_6 => ?_)
            · replace hr := iN c_6 hr
              refine lv_iconst (v := 0) hx hb d_M_isLetter_40 (by decide) ?_
              obtain rfl := Option.some.inj hr
              rw [hQ]; exact k_zret C hret nar0 hW d_M_isLetter_41
            · replace hr := ip c_6 hr
              refine lv_iconst (v := 1) hx hb d_M_isLetter_36 (by decide) ?_
              refine lv_goto (tgt := 41) hx hb d_M_isLetter_37 (by decide) ?_
              obtain rfl := Option.some.inj hr
              rw [hQ]; exact k_zret C hret nar1 hW d_M_isLetter_41
def w_M_readDigits (cI : ClassId) (a_r0 : Nat) (a_r0_letters : Nat) (v_r0_weights v_r0_things v_r0_kinds v_r0_figures v_r0_days v_r0_hampers v_r0_wants0 v_r0_left0 v_r0_done0 v_r0_thrown v_r0_refusals v_r0_statements v_r0_placeIn v_r0_letterOf v_r0_told v_r0_kept v_r0_imaged v_r0_hasImage v_r0_place0 v_r0_isTaking v_r0_keptIn v_r0_turns0 v_r0_turnOf v_r0_turned v_r0_order0 v_r0_likely0 v_r0_leftThen v_r0_row v_r0_rowMany v_r0_seed : Value) (r0_at : Int32) (r0_isBad : Int32) (r0_letterMany : Int32) (r0_letters : Nat → Int32) : va_W := [(a_r0, .inr (9, [v_r0_weights, v_r0_things, v_r0_kinds, v_r0_figures, v_r0_days, v_r0_hampers, v_r0_wants0, v_r0_left0, v_r0_done0, v_r0_thrown, v_r0_refusals, .ref a_r0_letters, .int r0_letterMany, .int r0_at, .int r0_isBad, v_r0_statements, v_r0_placeIn, v_r0_letterOf, v_r0_told, v_r0_kept, v_r0_imaged, v_r0_hasImage, v_r0_place0, v_r0_isTaking, v_r0_keptIn, v_r0_turns0, v_r0_turnOf, v_r0_turned, v_r0_order0, v_r0_likely0, v_r0_leftThen, v_r0_row, v_r0_rowMany, v_r0_seed])), (a_r0_letters, .inl (cI, 96, .inl r0_letters))]
def F_M_readDigits_J70_7 (r0_at_1 : Int32) (y3_1 : Int32) (s1_4 : Int32) (s0_7 : Int32) : Option (((Int32) × (Int32) × (Int32) × (Int32)) ⊕ ((Int32) × (Int32) × (Int32))) :=
  (if s1_4 = 0 then (some (.inl (s0_7, (y3_1 + 1), (r0_at_1 + 1), s1_4))) else (some (.inl (s0_7, (y3_1 + 1), (r0_at_1 + 0), s1_4))))
def F_M_readDigits_J39_4 (r0_letters : Nat → Int32) (r0_at_1 : Int32) (y2_1 : Int32) (y3_1 : Int32) (s1_4 : Int32) : Option (((Int32) × (Int32) × (Int32) × (Int32)) ⊕ ((Int32) × (Int32) × (Int32))) :=
  (ckz s1_4 (if s1_4 = 0 then (ck r0_at_1 96 (F_M_readDigits_J70_7 r0_at_1 y3_1 s1_4 ((((10 : Int32) * y2_1) + (r0_letters (Int32.toNatClampNeg r0_at_1))) - 48))) else (F_M_readDigits_J70_7 r0_at_1 y3_1 s1_4 0)))
def F_M_readDigits_J34_10 (r0_letters : Nat → Int32) (r0_at_1 : Int32) (y2_1 : Int32) (y3_1 : Int32) : Option (((Int32) × (Int32) × (Int32) × (Int32)) ⊕ ((Int32) × (Int32) × (Int32))) :=
  (F_M_readDigits_J39_4 r0_letters r0_at_1 y2_1 y3_1 1)
def F_M_readDigits_L4 (r0_letterMany : Int32) (r0_letters : Nat → Int32) (x1 : Int32) (y2_1 : Int32) (y3_1 : Int32) (r0_at_1 : Int32) (r0_isBad_1 : Int32) : Option (((Int32) × (Int32) × (Int32) × (Int32)) ⊕ ((Int32) × (Int32) × (Int32))) :=
  (if x1 ≤ y3_1 then (some (.inr (y2_1, r0_at_1, r0_isBad_1))) else (if r0_isBad_1 = 0 then ((F_M_here r0_at_1 r0_letterMany r0_letters).bind (fun q_11 => ((F_M_in (Int32.toInt64 q_11) (48 : Int64) (57 : Int64)).bind (fun q_12 => (if q_12 = 0 then (F_M_readDigits_J34_10 r0_letters r0_at_1 y2_1 y3_1) else (F_M_readDigits_J39_4 r0_letters r0_at_1 y2_1 y3_1 0)))))) else (F_M_readDigits_J34_10 r0_letters r0_at_1 y2_1 y3_1)))
def F_M_readDigits (r0_at : Int32) (r0_isBad : Int32) (r0_letterMany : Int32) (r0_letters : Nat → Int32) (x1 : Int32) : Option (Int32 × (Int32) × (Int32)) :=
  ((wh (fun (s : (Int32) × (Int32) × (Int32) × (Int32)) => F_M_readDigits_L4 r0_letterMany r0_letters x1 s.1 s.2.1 s.2.2.1 s.2.2.2) 400 ((0 : Int32), (0 : Int32), r0_at, r0_isBad)).bind (fun e_1 => (some (e_1.1, e_1.2.1, e_1.2.2))))
set_option maxHeartbeats 4000000 in
set_option maxRecDepth 100000 in
theorem C_M_readDigits (l : Launch) (D : va_G) (cI cS : ClassId) (a_r0 : Nat) (a_r0_letters : Nat) (v_r0_weights v_r0_things v_r0_kinds v_r0_figures v_r0_days v_r0_hampers v_r0_wants0 v_r0_left0 v_r0_done0 v_r0_thrown v_r0_refusals v_r0_statements v_r0_placeIn v_r0_letterOf v_r0_told v_r0_kept v_r0_imaged v_r0_hasImage v_r0_place0 v_r0_isTaking v_r0_keptIn v_r0_turns0 v_r0_turnOf v_r0_turned v_r0_order0 v_r0_likely0 v_r0_leftThen v_r0_row v_r0_rowMany v_r0_seed : Value) (r0_at : Int32) (r0_isBad : Int32) (r0_letterMany : Int32) (r0_letters : Nat → Int32) (x1 : Int32) (o : Int32 × (Int32) × (Int32)) (hr : F_M_readDigits r0_at r0_isBad r0_letterMany r0_letters x1 = some o) : ctI l y_M_readDigits (Cond.code y_M_readDigits b_M_readDigits 4 (some FieldType.int)) (rmd 1) D (kTy cI cS) [.ref a_r0, .int x1] (w_M_readDigits cI a_r0 a_r0_letters v_r0_weights v_r0_things v_r0_kinds v_r0_figures v_r0_days v_r0_hampers v_r0_wants0 v_r0_left0 v_r0_done0 v_r0_thrown v_r0_refusals v_r0_statements v_r0_placeIn v_r0_letterOf v_r0_told v_r0_kept v_r0_imaged v_r0_hasImage v_r0_place0 v_r0_isTaking v_r0_keptIn v_r0_turns0 v_r0_turnOf v_r0_turned v_r0_order0 v_r0_likely0 v_r0_leftThen v_r0_row v_r0_rowMany v_r0_seed r0_at r0_isBad r0_letterMany r0_letters) (w_M_readDigits cI a_r0 a_r0_letters v_r0_weights v_r0_things v_r0_kinds v_r0_figures v_r0_days v_r0_hampers v_r0_wants0 v_r0_left0 v_r0_done0 v_r0_thrown v_r0_refusals v_r0_statements v_r0_placeIn v_r0_letterOf v_r0_told v_r0_kept v_r0_imaged v_r0_hasImage v_r0_place0 v_r0_isTaking v_r0_keptIn v_r0_turns0 v_r0_turnOf v_r0_turned v_r0_order0 v_r0_likely0 v_r0_leftThen v_r0_row v_r0_rowMany v_r0_seed o.2.1 o.2.2 r0_letterMany r0_letters) o.1 := by
  unfold F_M_readDigits at hr
  refine ⟨rfl, fun sz => ct_of (w0 := (w_M_readDigits cI a_r0 a_r0_letters v_r0_weights v_r0_things v_r0_kinds v_r0_figures v_r0_days v_r0_hampers v_r0_wants0 v_r0_left0 v_r0_done0 v_r0_thrown v_r0_refusals v_r0_statements v_r0_placeIn v_r0_letterOf v_r0_told v_r0_kept v_r0_imaged v_r0_hasImage v_r0_place0 v_r0_isTaking v_r0_keptIn v_r0_turns0 v_r0_turnOf v_r0_turned v_r0_order0 v_r0_likely0 v_r0_leftThen v_r0_row v_r0_rowMany v_r0_seed r0_at r0_isBad r0_letterMany r0_letters)) (Qc := fun A => qI D (w_M_readDigits cI a_r0 a_r0_letters v_r0_weights v_r0_things v_r0_kinds v_r0_figures v_r0_days v_r0_hampers v_r0_wants0 v_r0_left0 v_r0_done0 v_r0_thrown v_r0_refusals v_r0_statements v_r0_placeIn v_r0_letterOf v_r0_told v_r0_kept v_r0_imaged v_r0_hasImage v_r0_place0 v_r0_isTaking v_r0_keptIn v_r0_turns0 v_r0_turnOf v_r0_turned v_r0_order0 v_r0_likely0 v_r0_leftThen v_r0_row v_r0_rowMany v_r0_seed o.2.1 o.2.2 r0_letterMany r0_letters) o.1 A) rfl (Nat.le_of_ble_eq_true rfl) ?_ sz⟩
  intro p e s m below meth c A hA C hret ls hl hW
  have C : cx p s m ([.ref a_r0, .int x1] : List Value).toArray meth c b_M_readDigits 4 R_M D (kTy cI cS) (Cond.code y_M_readDigits b_M_readDigits 4 (some FieldType.int)) := C
  obtain ⟨hx, hb, hml, hown, hts, hK, hlk, hN⟩ := id C
  have hl : lv_has ls 4 [(0, .ref a_r0), (1, .int x1)] := hl
  obtain ⟨Q, hQ⟩ : ∃ Q, Q = MQ below (qI D (w_M_readDigits cI a_r0 a_r0_letters v_r0_weights v_r0_things v_r0_kinds v_r0_figures v_r0_days v_r0_hampers v_r0_wants0 v_r0_left0 v_r0_done0 v_r0_thrown v_r0_refusals v_r0_statements v_r0_placeIn v_r0_letterOf v_r0_told v_r0_kept v_r0_imaged v_r0_hasImage v_r0_place0 v_r0_isTaking v_r0_keptIn v_r0_turns0 v_r0_turnOf v_r0_turned v_r0_order0 v_r0_likely0 v_r0_leftThen v_r0_row v_r0_rowMany v_r0_seed o.2.1 o.2.2 r0_letterMany r0_letters) o.1 A) ([.ref a_r0, .int x1] : List Value).toArray s 0 0 A := ⟨_, rfl⟩
  rw [← hQ]
  refine lv_iconst (v := 0) hx hb d_M_readDigits_0 (by decide) ?_
  refine lv_istore_n (lv' := [(2, .int 0), (0, .ref a_r0), (1, .int x1)]) hx hb d_M_readDigits_1 rfl hl (by decide) rfl (fun ls hl => ?_)
  refine lv_iconst (v := 0) hx hb d_M_readDigits_2 (by decide) ?_
  refine lv_istore_n (lv' := [(3, .int 0), (2, .int 0), (0, .ref a_r0), (1, .int x1)]) hx hb d_M_readDigits_3 rfl hl (by decide) rfl (fun ls hl => ?_)
  obtain ⟨ex_1, hw_1, hk_1⟩ := ob hr
  have hx_1 : ∀ (e_1 : (Int32) × (Int32) × (Int32)), e_1 = ex_1 → ∀ (H : Heap) (locs : List Loc) (ls : Array Slot), wd A s.heap D (w_M_readDigits cI a_r0 a_r0_letters v_r0_weights v_r0_things v_r0_kinds v_r0_figures v_r0_days v_r0_hampers v_r0_wants0 v_r0_left0 v_r0_done0 v_r0_thrown v_r0_refusals v_r0_statements v_r0_placeIn v_r0_letterOf v_r0_told v_r0_kept v_r0_imaged v_r0_hasImage v_r0_place0 v_r0_isTaking v_r0_keptIn v_r0_turns0 v_r0_turnOf v_r0_turned v_r0_order0 v_r0_likely0 v_r0_leftThen v_r0_row v_r0_rowMany v_r0_seed e_1.2.1 e_1.2.2 r0_letterMany r0_letters) H locs → lv_has ls 4 [(2, .int e_1.1)] → W p l e (rmd 1) s m ([.ref a_r0, .int x1] : List Value).toArray below meth c H locs 0 0 Q (F0 m 98 ls []) := by
    intro e_1 hE H locs ls hW hl
    subst hE; have hr := hk_1
    refine lv_iload_n hx hb d_M_readDigits_98 rfl (lv_at hl 0 rfl) ?_
    obtain rfl := Option.some.inj hr
    rw [hQ]; exact k_iret C hret hW d_M_readDigits_99
  have hl_1 : ∀ (k : Nat) (y2_1 : Int32) (y3_1 : Int32) (r0_at_1 : Int32) (r0_isBad_1 : Int32), wh (fun (s : (Int32) × (Int32) × (Int32) × (Int32)) => F_M_readDigits_L4 r0_letterMany r0_letters x1 s.1 s.2.1 s.2.2.1 s.2.2.2) k (y2_1, y3_1, r0_at_1, r0_isBad_1) = some ex_1 → ∀ (H : Heap) (locs : List Loc) (ls : Array Slot), wd A s.heap D (w_M_readDigits cI a_r0 a_r0_letters v_r0_weights v_r0_things v_r0_kinds v_r0_figures v_r0_days v_r0_hampers v_r0_wants0 v_r0_left0 v_r0_done0 v_r0_thrown v_r0_refusals v_r0_statements v_r0_placeIn v_r0_letterOf v_r0_told v_r0_kept v_r0_imaged v_r0_hasImage v_r0_place0 v_r0_isTaking v_r0_keptIn v_r0_turns0 v_r0_turnOf v_r0_turned v_r0_order0 v_r0_likely0 v_r0_leftThen v_r0_row v_r0_rowMany v_r0_seed r0_at_1 r0_isBad_1 r0_letterMany r0_letters) H locs → lv_has ls 4 [(0, .ref a_r0), (1, .int x1), (2, .int y2_1), (3, .int y3_1)] → W p l e (rmd 1) s m ([.ref a_r0, .int x1] : List Value).toArray below meth c H locs 0 0 Q (F0 m 4 ls []) := by
    intro k
    induction k with
    | zero => intro y2_1 y3_1 r0_at_1 r0_isBad_1 hw; exact absurd hw wh_0
    | succ k ih_1 =>
      intro y2_1 y3_1 r0_at_1 r0_isBad_1 hw H locs ls hW hl
      obtain ⟨z_1, hr, hz1_1, hz2_1⟩ := wh_s hw
      have hr : F_M_readDigits_L4 r0_letterMany r0_letters x1 y2_1 y3_1 r0_at_1 r0_isBad_1 = some z_1 := hr
      unfold F_M_readDigits_L4 at hr
      refine lv_iload_n hx hb d_M_readDigits_4 rfl (lv_at hl 3 rfl) ?_
      refine lv_iload_n hx hb d_M_readDigits_5 rfl (lv_at hl 1 rfl) ?_
      refine lv_icmp_ge (tgt := 98) hx hb d_M_readDigits_6 (by decide) (fun c_2 => ?_) (fun c_2 => ?_)
      · replace hr := ip c_2 hr
        exact hx_1 _ (hz2_1 _ (Option.some.inj hr).symm) _ _ _ hW (lv_sub hl [2] rfl)
      · replace hr := iN c_2 hr
        refine lv_aload_n hx hb d_M_readDigits_9 rfl (lv_at hl 0 rfl) ?_
        refine lv_aload_n hx hb d_M_readDigits_10 rfl (lv_at hl 0 rfl) ?_
        refine k_get i_M C hW 0 rfl rfl 14 (by decide) qf_M_117 rfl rfl d_M_readDigits_11 ?_
        have hJ_4 : ∀ (s1_4 : Int32), F_M_readDigits_J39_4 r0_letters r0_at_1 y2_1 y3_1 s1_4 = some z_1 → ∀ (H : Heap) (locs : List Loc) (ls : Array Slot), wd A s.heap D (w_M_readDigits cI a_r0 a_r0_letters v_r0_weights v_r0_things v_r0_kinds v_r0_figures v_r0_days v_r0_hampers v_r0_wants0 v_r0_left0 v_r0_done0 v_r0_thrown v_r0_refusals v_r0_statements v_r0_placeIn v_r0_letterOf v_r0_told v_r0_kept v_r0_imaged v_r0_hasImage v_r0_place0 v_r0_isTaking v_r0_keptIn v_r0_turns0 v_r0_turnOf v_r0_turned v_r0_order0 v_r0_likely0 v_r0_leftThen v_r0_row v_r0_rowMany v_r0_seed r0_at_1 r0_isBad_1 r0_letterMany r0_letters) H locs → lv_has ls 4 [(0, .ref a_r0), (1, .int x1), (2, .int y2_1), (3, .int y3_1)] → W p l e (rmd 1) s m ([.ref a_r0, .int x1] : List Value).toArray below meth c H locs 0 0 Q (F0 m 39 ls [.int s1_4, .ref a_r0]) := by
          intro s1_4 hr H locs ls hW hl
          unfold F_M_readDigits_J39_4 at hr
          obtain ⟨h_5, hf_5, hr⟩ := ckz_some hr
          refine k_put i_M t_M_ok n_M C hW 0 rfl rfl 14 (by decide) qf_M_117 rfl rfl (ty := .boolean) rfl h_5 hf_5 (Nat.le_of_ble_eq_true rfl) (ws' := (w_M_readDigits cI a_r0 a_r0_letters v_r0_weights v_r0_things v_r0_kinds v_r0_figures v_r0_days v_r0_hampers v_r0_wants0 v_r0_left0 v_r0_done0 v_r0_thrown v_r0_refusals v_r0_statements v_r0_placeIn v_r0_letterOf v_r0_told v_r0_kept v_r0_imaged v_r0_hasImage v_r0_place0 v_r0_isTaking v_r0_keptIn v_r0_turns0 v_r0_turnOf v_r0_turned v_r0_order0 v_r0_likely0 v_r0_leftThen v_r0_row v_r0_rowMany v_r0_seed r0_at_1 s1_4 r0_letterMany r0_letters)) rfl d_M_readDigits_39 (fun H locs hW => ?_)
          refine lv_aload_n hx hb d_M_readDigits_42 rfl (lv_at hl 0 rfl) ?_
          refine k_get i_M C hW 0 rfl rfl 14 (by decide) qf_M_117 rfl rfl d_M_readDigits_43 ?_
          have hJ_7 : ∀ (s0_7 : Int32), F_M_readDigits_J70_7 r0_at_1 y3_1 s1_4 s0_7 = some z_1 → ∀ (H : Heap) (locs : List Loc) (ls : Array Slot), wd A s.heap D (w_M_readDigits cI a_r0 a_r0_letters v_r0_weights v_r0_things v_r0_kinds v_r0_figures v_r0_days v_r0_hampers v_r0_wants0 v_r0_left0 v_r0_done0 v_r0_thrown v_r0_refusals v_r0_statements v_r0_placeIn v_r0_letterOf v_r0_told v_r0_kept v_r0_imaged v_r0_hasImage v_r0_place0 v_r0_isTaking v_r0_keptIn v_r0_turns0 v_r0_turnOf v_r0_turned v_r0_order0 v_r0_likely0 v_r0_leftThen v_r0_row v_r0_rowMany v_r0_seed r0_at_1 s1_4 r0_letterMany r0_letters) H locs → lv_has ls 4 [(0, .ref a_r0), (1, .int x1), (3, .int y3_1)] → W p l e (rmd 1) s m ([.ref a_r0, .int x1] : List Value).toArray below meth c H locs 0 0 Q (F0 m 70 ls [.int s0_7]) := by
            intro s0_7 hr H locs ls hW hl
            unfold F_M_readDigits_J70_7 at hr
            refine lv_istore_n (lv' := [(2, .int s0_7), (0, .ref a_r0), (1, .int x1), (3, .int y3_1)]) hx hb d_M_readDigits_70 rfl hl (by decide) rfl (fun ls hl => ?_)
            refine lv_aload_n hx hb d_M_readDigits_71 rfl (lv_at hl 1 rfl) ?_
            refine lv_dup hx hb d_M_readDigits_72 rfl ?_
            refine k_get i_M C hW 0 rfl rfl 13 (by decide) qf_M_114 rfl rfl d_M_readDigits_73 ?_
            refine lv_aload_n hx hb d_M_readDigits_76 rfl (lv_at hl 1 rfl) ?_
            refine k_get i_M C hW 0 rfl rfl 14 (by decide) qf_M_117 rfl rfl d_M_readDigits_77 ?_
            refine lv_if_eq (tgt := 87) hx hb d_M_readDigits_80 (by decide) (fun c_8 => ?_) (fun c_8 => ?_)
            · replace hr := ip c_8 hr
              refine lv_iconst (v := 1) hx hb d_M_readDigits_87 (by decide) ?_
              refine lv_iadd hx hb d_M_readDigits_88 ?_
              refine k_put i_M t_M_ok n_M C hW 0 rfl rfl 13 (by decide) qf_M_114 rfl rfl (ty := .int) rfl rfl rfl (Nat.le_of_ble_eq_true rfl) (ws' := (w_M_readDigits cI a_r0 a_r0_letters v_r0_weights v_r0_things v_r0_kinds v_r0_figures v_r0_days v_r0_hampers v_r0_wants0 v_r0_left0 v_r0_done0 v_r0_thrown v_r0_refusals v_r0_statements v_r0_placeIn v_r0_letterOf v_r0_told v_r0_kept v_r0_imaged v_r0_hasImage v_r0_place0 v_r0_isTaking v_r0_keptIn v_r0_turns0 v_r0_turnOf v_r0_turned v_r0_order0 v_r0_likely0 v_r0_leftThen v_r0_row v_r0_rowMany v_r0_seed (r0_at_1 + 1) s1_4 r0_letterMany r0_letters)) rfl d_M_readDigits_89 (fun H locs hW => ?_)
              refine lv_iinc (v := (y3_1 + 1)) (lv' := [(3, .int (y3_1 + 1)), (2, .int s0_7), (0, .ref a_r0), (1, .int x1)]) hx hb d_M_readDigits_92 hl (k := 3) rfl rfl (by decide) rfl (fun ls hl => ?_)
              refine lv_goto (tgt := 4) hx hb d_M_readDigits_95 (by decide) ?_
              exact ih_1 s0_7 (y3_1 + 1) (r0_at_1 + 1) s1_4 (hz1_1 _ (Option.some.inj hr).symm) _ _ _ hW (lv_sub hl [2, 3, 1, 0] rfl)
            · replace hr := iN c_8 hr
              refine lv_iconst (v := 0) hx hb d_M_readDigits_83 (by decide) ?_
              refine lv_goto (tgt := 88) hx hb d_M_readDigits_84 (by decide) ?_
              refine lv_iadd hx hb d_M_readDigits_88 ?_
              refine k_put i_M t_M_ok n_M C hW 0 rfl rfl 13 (by decide) qf_M_114 rfl rfl (ty := .int) rfl rfl rfl (Nat.le_of_ble_eq_true rfl) (ws' := (w_M_readDigits cI a_r0 a_r0_letters v_r0_weights v_r0_things v_r0_kinds v_r0_figures v_r0_days v_r0_hampers v_r0_wants0 v_r0_left0 v_r0_done0 v_r0_thrown v_r0_refusals v_r0_statements v_r0_placeIn v_r0_letterOf v_r0_told v_r0_kept v_r0_imaged v_r0_hasImage v_r0_place0 v_r0_isTaking v_r0_keptIn v_r0_turns0 v_r0_turnOf v_r0_turned v_r0_order0 v_r0_likely0 v_r0_leftThen v_r0_row v_r0_rowMany v_r0_seed (r0_at_1 + 0) s1_4 r0_letterMany r0_letters)) rfl d_M_readDigits_89 (fun H locs hW => ?_)
              refine lv_iinc (v := (y3_1 + 1)) (lv' := [(3, .int (y3_1 + 1)), (2, .int s0_7), (0, .ref a_r0), (1, .int x1)]) hx hb d_M_readDigits_92 hl (k := 3) rfl rfl (by decide) rfl (fun ls hl => ?_)
              refine lv_goto (tgt := 4) hx hb d_M_readDigits_95 (by decide) ?_
              exact ih_1 s0_7 (y3_1 + 1) (r0_at_1 + 0) s1_4 (hz1_1 _ (Option.some.inj hr).symm) _ _ _ hW (lv_sub hl [2, 3, 1, 0] rfl)
          refine lv_if_eq (tgt := 53) hx hb d_M_readDigits_46 (by decide) (fun c_6 => ?_) (fun c_6 => ?_)
          · replace hr := ip c_6 hr
            refine lv_bipush (v := 10) hx hb d_M_readDigits_53 (by decide) ?_
            refine lv_iload_n hx hb d_M_readDigits_55 rfl (lv_at hl 2 rfl) ?_
            refine lv_imul hx hb d_M_readDigits_56 ?_
            refine lv_aload_n hx hb d_M_readDigits_57 rfl (lv_at hl 0 rfl) ?_
            refine k_get i_M C hW 0 rfl rfl 11 (by decide) qf_M_31 rfl rfl d_M_readDigits_58 ?_
            refine lv_aload_n hx hb d_M_readDigits_61 rfl (lv_at hl 0 rfl) ?_
            refine k_get i_M C hW 0 rfl rfl 13 (by decide) qf_M_114 rfl rfl d_M_readDigits_62 ?_
            obtain ⟨h_9, hr⟩ := ck_some hr
            refine k_iald C hW 1 rfl h_9 d_M_readDigits_65 ?_
            refine lv_iadd hx hb d_M_readDigits_66 ?_
            refine lv_bipush (v := 48) hx hb d_M_readDigits_67 (by decide) ?_
            refine lv_isub hx hb d_M_readDigits_69 ?_
            exact hJ_7 ((((10 : Int32) * y2_1) + (r0_letters (Int32.toNatClampNeg r0_at_1))) - 48) hr _ _ _ hW (lv_sub hl [0, 1, 3] rfl)
          · replace hr := iN c_6 hr
            refine lv_iconst (v := 0) hx hb d_M_readDigits_49 (by decide) ?_
            refine lv_goto (tgt := 70) hx hb d_M_readDigits_50 (by decide) ?_
            exact hJ_7 0 hr _ _ _ hW (lv_sub hl [0, 1, 3] rfl)
        have hJ_10 : ∀ (_ : Unit), F_M_readDigits_J34_10 r0_letters r0_at_1 y2_1 y3_1 = some z_1 → ∀ (H : Heap) (locs : List Loc) (ls : Array Slot), wd A s.heap D (w_M_readDigits cI a_r0 a_r0_letters v_r0_weights v_r0_things v_r0_kinds v_r0_figures v_r0_days v_r0_hampers v_r0_wants0 v_r0_left0 v_r0_done0 v_r0_thrown v_r0_refusals v_r0_statements v_r0_placeIn v_r0_letterOf v_r0_told v_r0_kept v_r0_imaged v_r0_hasImage v_r0_place0 v_r0_isTaking v_r0_keptIn v_r0_turns0 v_r0_turnOf v_r0_turned v_r0_order0 v_r0_likely0 v_r0_leftThen v_r0_row v_r0_rowMany v_r0_seed r0_at_1 r0_isBad_1 r0_letterMany r0_letters) H locs → lv_has ls 4 [(0, .ref a_r0), (1, .int x1), (2, .int y2_1), (3, .int y3_1)] → W p l e (rmd 1) s m ([.ref a_r0, .int x1] : List Value).toArray below meth c H locs 0 0 Q (F0 m 34 ls [.ref a_r0]) := by
          intro _ hr H locs ls hW hl
          unfold F_M_readDigits_J34_10 at hr
          refine lv_iconst (v := 1) hx hb d_M_readDigits_34 (by decide) ?_
          refine lv_goto (tgt := 39) hx hb d_M_readDigits_35 (by decide) ?_
          exact hJ_4 1 hr _ _ _ hW (lv_sub hl [0, 1, 2, 3] rfl)
        refine lv_if_ne (tgt := 34) hx hb d_M_readDigits_14 (by decide) (fun c_3 => ?_) (fun c_3 => ?_)
        · replace hr := iN c_3 hr
          exact hJ_10 () hr _ _ _ hW (lv_sub hl [0, 1, 2, 3] rfl)
        · replace hr := ip c_3 hr
          refine lv_aload_n hx hb d_M_readDigits_17 rfl (lv_at hl 0 rfl) ?_
          obtain ⟨q_11, hc_11, hr⟩ := ob hr
          have ct_11 := C_M_here l D cI cS a_r0 a_r0_letters v_r0_weights v_r0_things v_r0_kinds v_r0_figures v_r0_days v_r0_hampers v_r0_wants0 v_r0_left0 v_r0_done0 v_r0_thrown v_r0_refusals (Value.int r0_isBad_1) v_r0_statements v_r0_placeIn v_r0_letterOf v_r0_told v_r0_kept v_r0_imaged v_r0_hasImage v_r0_place0 v_r0_isTaking v_r0_keptIn v_r0_turns0 v_r0_turnOf v_r0_turned v_r0_order0 v_r0_likely0 v_r0_leftThen v_r0_row v_r0_rowMany v_r0_seed r0_at_1 r0_letterMany r0_letters q_11 hc_11
          refine k_goIp hA hW [0, 1] rfl rfl (k_runV C hA hW mw_M_here mv_M_here (ct_11.2 _) [0, 1] rfl rfl 0 rfl rfl qm_M_121 ⟨Nat.le_of_ble_eq_true rfl, Nat.le_of_ble_eq_true rfl, Nat.zero_le _, Nat.zero_le _⟩ rfl rfl (Nat.le_of_ble_eq_true rfl) hl.1 d_M_readDigits_18) (fun H locs hW => ?_)
          refine lv_i2l hx hb d_M_readDigits_21 rfl ?_
          refine lv_ldc2 (v := 48) hx hb hown (hts _ (List.mem_cons_of_mem _ (qc_M_125))) d_M_readDigits_22 ?_
          refine lv_ldc2 (v := 57) hx hb hown (hts _ (List.mem_cons_of_mem _ (qc_M_127))) d_M_readDigits_25 ?_
          obtain ⟨q_12, hc_12, hr⟩ := ob hr
          have ct_12 := C_M_in l D cI cS (Int32.toInt64 q_11) (48 : Int64) (57 : Int64) q_12 hc_12
          refine k_goIp hA hW [] rfl rfl (k_runS C hA hW mw_M_in ms_M_in (ct_12.2 _) [] rfl rfl qm_M_74 ⟨Nat.le_of_ble_eq_true rfl, Nat.le_of_ble_eq_true rfl, Nat.zero_le _, Nat.zero_le _⟩ rfl rfl (Nat.le_of_ble_eq_true rfl) hl.1 d_M_readDigits_28) (fun H locs hW => ?_)
          refine lv_if_ne (tgt := 38) hx hb d_M_readDigits_31 (by decide) (fun c_13 => ?_) (fun c_13 => ?_)
          · replace hr := iN c_13 hr
            refine lv_iconst (v := 0) hx hb d_M_readDigits_38 (by decide) ?_
            exact hJ_4 0 hr _ _ _ hW (lv_sub hl [0, 1, 2, 3] rfl)
          · replace hr := ip c_13 hr
            exact hJ_10 () hr _ _ _ hW (lv_sub hl [0, 1, 2, 3] rfl)
  exact hl_1 _ 0 0 r0_at r0_isBad hw_1 _ _ _ hW (lv_sub hl [2, 3, 1, 0] rfl)
