def w_M_plan (cI : ClassId) (a_r0 : Nat) (a_r0_figures : Nat) (a_r0_hampers : Nat) (a_r0_kinds : Nat) (a_r0_left0 : Nat) (a_r0_wants0 : Nat) (a_r0_weights : Nat) (v_r0_done0 v_r0_refusals v_r0_letters v_r0_letterMany v_r0_at v_r0_isBad v_r0_statements v_r0_placeIn v_r0_letterOf v_r0_told v_r0_kept v_r0_imaged v_r0_hasImage v_r0_place0 v_r0_isTaking v_r0_keptIn v_r0_turns0 v_r0_turnOf v_r0_turned v_r0_order0 v_r0_likely0 v_r0_leftThen v_r0_row v_r0_rowMany v_r0_seed : Value) (r0_days : Int32) (r0_things : Int32) (r0_thrown : Int32) (r0_figures : Nat → Int32) (r0_hampers : Nat → Int32) (r0_kinds : Nat → Int32) (r0_left0 : Nat → Int32) (r0_wants0 : Nat → Int32) (r0_weights : Nat → Int32) : va_W := [(a_r0, .inr (9, [.ref a_r0_weights, .int r0_things, .ref a_r0_kinds, .ref a_r0_figures, .int r0_days, .ref a_r0_hampers, .ref a_r0_wants0, .ref a_r0_left0, v_r0_done0, .int r0_thrown, v_r0_refusals, v_r0_letters, v_r0_letterMany, v_r0_at, v_r0_isBad, v_r0_statements, v_r0_placeIn, v_r0_letterOf, v_r0_told, v_r0_kept, v_r0_imaged, v_r0_hasImage, v_r0_place0, v_r0_isTaking, v_r0_keptIn, v_r0_turns0, v_r0_turnOf, v_r0_turned, v_r0_order0, v_r0_likely0, v_r0_leftThen, v_r0_row, v_r0_rowMany, v_r0_seed])), (a_r0_figures, .inl (cI, 8, .inl r0_figures)), (a_r0_hampers, .inl (cI, 8, .inl r0_hampers)), (a_r0_kinds, .inl (cI, 8, .inl r0_kinds)), (a_r0_left0, .inl (cI, 4, .inl r0_left0)), (a_r0_wants0, .inl (cI, 4, .inl r0_wants0)), (a_r0_weights, .inl (cI, 6, .inl r0_weights))]
def F_M_plan_L20 (r0_left0 : Nat → Int32) (y2_1 : Int32) (y3_3 : Int32) (y4_3 : Int32) : Option (((Int32) × (Int32)) ⊕ ((Int32))) :=
  (if (4 : Int32) ≤ y4_3 then (some (.inr y3_3)) else ((F_M_hasBit y2_1 y4_3).bind (fun q_5 => (if q_5 = 0 then (some (.inl ((y3_3 + 0), (y4_3 + 1)))) else (ck y4_3 4 (some (.inl ((y3_3 + (r0_left0 (Int32.toNatClampNeg y4_3))), (y4_3 + 1)))))))))
def F_M_plan_L81 (r0_wants0 : Nat → Int32) (y2_1 : Int32) (q_10 : Int32) (y6_11 : Int32) (y7_11 : Int32) : Option (((Int32) × (Int32)) ⊕ ((Int32))) :=
  (if (4 : Int32) ≤ y7_11 then (some (.inr y6_11)) else (if y6_11 = 0 then (if q_10 < 0 then (some (.inl (0, (y7_11 + 1)))) else ((F_M_hasBit y2_1 y7_11).bind (fun q_15 => (if q_15 = 0 then (ck y7_11 4 ((F_M_hasBit (r0_wants0 (Int32.toNatClampNeg y7_11)) q_10).bind (fun q_18 => (if q_18 = 0 then (some (.inl (0, (y7_11 + 1)))) else (some (.inl (1, (y7_11 + 1)))))))) else (some (.inl (0, (y7_11 + 1)))))))) else (some (.inl (1, (y7_11 + 1))))))
def F_M_plan_L58 (r0_days : Int32) (r0_things : Int32) (r0_figures : Nat → Int32) (r0_hampers : Nat → Int32) (r0_kinds : Nat → Int32) (r0_wants0 : Nat → Int32) (r0_weights : Nat → Int32) (y2_1 : Int32) (y3_8 : Int32) (y4_8 : Int32) : Option (((Int32) × (Int32)) ⊕ ((Int32))) :=
  (if r0_days ≤ y4_8 then (some (.inr y3_8)) else ((F_M_likelyOn r0_things r0_figures r0_hampers r0_kinds r0_weights y4_8).bind (fun q_10 => ((wh (fun (s : (Int32) × (Int32)) => F_M_plan_L81 r0_wants0 y2_1 q_10 s.1 s.2) 400 ((0 : Int32), (0 : Int32))).bind (fun e_11 => (if e_11 = 0 then (some (.inl ((y3_8 + 0), (y4_8 + 1)))) else (some (.inl ((y3_8 + 1), (y4_8 + 1))))))))))
def F_M_plan_L9 (r0_days : Int32) (r0_things : Int32) (r0_figures : Nat → Int32) (r0_hampers : Nat → Int32) (r0_kinds : Nat → Int32) (r0_left0 : Nat → Int32) (r0_wants0 : Nat → Int32) (r0_weights : Nat → Int32) (y1_1 : Int32) (y2_1 : Int32) : Option (((Int32) × (Int32)) ⊕ ((Int32))) :=
  (if (16 : Int32) ≤ y2_1 then (some (.inr y1_1)) else ((wh (fun (s : (Int32) × (Int32)) => F_M_plan_L20 r0_left0 y2_1 s.1 s.2) 400 ((0 : Int32), (0 : Int32))).bind (fun e_3 => ((wh (fun (s : (Int32) × (Int32)) => F_M_plan_L58 r0_days r0_things r0_figures r0_hampers r0_kinds r0_wants0 r0_weights y2_1 s.1 s.2) 400 (e_3, (0 : Int32))).bind (fun e_8 => (if y1_1 < 0 then (some (.inl (e_8, (y2_1 + 1)))) else (if y1_1 ≤ e_8 then (some (.inl (y1_1, (y2_1 + 1)))) else (some (.inl (e_8, (y2_1 + 1)))))))))))
def F_M_plan (r0_days : Int32) (r0_things : Int32) (r0_figures : Nat → Int32) (r0_hampers : Nat → Int32) (r0_kinds : Nat → Int32) (r0_left0 : Nat → Int32) (r0_wants0 : Nat → Int32) (r0_weights : Nat → Int32) : Option (Int32 × (Int32)) :=
  ((wh (fun (s : (Int32) × (Int32)) => F_M_plan_L9 r0_days r0_things r0_figures r0_hampers r0_kinds r0_left0 r0_wants0 r0_weights s.1 s.2) 400 (((-1) : Int32), (0 : Int32))).bind (fun e_1 => (some (e_1, 0))))
set_option maxHeartbeats 4000000 in
set_option maxRecDepth 100000 in
theorem C_M_plan (l : Launch) (D : va_G) (cI cS : ClassId) (a_r0 : Nat) (a_r0_figures : Nat) (a_r0_hampers : Nat) (a_r0_kinds : Nat) (a_r0_left0 : Nat) (a_r0_wants0 : Nat) (a_r0_weights : Nat) (v_r0_done0 v_r0_refusals v_r0_letters v_r0_letterMany v_r0_at v_r0_isBad v_r0_statements v_r0_placeIn v_r0_letterOf v_r0_told v_r0_kept v_r0_imaged v_r0_hasImage v_r0_place0 v_r0_isTaking v_r0_keptIn v_r0_turns0 v_r0_turnOf v_r0_turned v_r0_order0 v_r0_likely0 v_r0_leftThen v_r0_row v_r0_rowMany v_r0_seed : Value) (r0_days : Int32) (r0_things : Int32) (r0_thrown : Int32) (r0_figures : Nat → Int32) (r0_hampers : Nat → Int32) (r0_kinds : Nat → Int32) (r0_left0 : Nat → Int32) (r0_wants0 : Nat → Int32) (r0_weights : Nat → Int32) (o : Int32 × (Int32)) (hr : F_M_plan r0_days r0_things r0_figures r0_hampers r0_kinds r0_left0 r0_wants0 r0_weights = some o) : ctI l y_M_plan (Cond.code y_M_plan b_M_plan 8 (some FieldType.int)) (rmd 4) D (kTy cI cS) [.ref a_r0] (w_M_plan cI a_r0 a_r0_figures a_r0_hampers a_r0_kinds a_r0_left0 a_r0_wants0 a_r0_weights v_r0_done0 v_r0_refusals v_r0_letters v_r0_letterMany v_r0_at v_r0_isBad v_r0_statements v_r0_placeIn v_r0_letterOf v_r0_told v_r0_kept v_r0_imaged v_r0_hasImage v_r0_place0 v_r0_isTaking v_r0_keptIn v_r0_turns0 v_r0_turnOf v_r0_turned v_r0_order0 v_r0_likely0 v_r0_leftThen v_r0_row v_r0_rowMany v_r0_seed r0_days r0_things r0_thrown r0_figures r0_hampers r0_kinds r0_left0 r0_wants0 r0_weights) (w_M_plan cI a_r0 a_r0_figures a_r0_hampers a_r0_kinds a_r0_left0 a_r0_wants0 a_r0_weights v_r0_done0 v_r0_refusals v_r0_letters v_r0_letterMany v_r0_at v_r0_isBad v_r0_statements v_r0_placeIn v_r0_letterOf v_r0_told v_r0_kept v_r0_imaged v_r0_hasImage v_r0_place0 v_r0_isTaking v_r0_keptIn v_r0_turns0 v_r0_turnOf v_r0_turned v_r0_order0 v_r0_likely0 v_r0_leftThen v_r0_row v_r0_rowMany v_r0_seed r0_days r0_things o.2 r0_figures r0_hampers r0_kinds r0_left0 r0_wants0 r0_weights) o.1 := by
  unfold F_M_plan at hr
  refine ⟨rfl, fun sz => ct_of (w0 := (w_M_plan cI a_r0 a_r0_figures a_r0_hampers a_r0_kinds a_r0_left0 a_r0_wants0 a_r0_weights v_r0_done0 v_r0_refusals v_r0_letters v_r0_letterMany v_r0_at v_r0_isBad v_r0_statements v_r0_placeIn v_r0_letterOf v_r0_told v_r0_kept v_r0_imaged v_r0_hasImage v_r0_place0 v_r0_isTaking v_r0_keptIn v_r0_turns0 v_r0_turnOf v_r0_turned v_r0_order0 v_r0_likely0 v_r0_leftThen v_r0_row v_r0_rowMany v_r0_seed r0_days r0_things r0_thrown r0_figures r0_hampers r0_kinds r0_left0 r0_wants0 r0_weights)) (Qc := fun A => qI D (w_M_plan cI a_r0 a_r0_figures a_r0_hampers a_r0_kinds a_r0_left0 a_r0_wants0 a_r0_weights v_r0_done0 v_r0_refusals v_r0_letters v_r0_letterMany v_r0_at v_r0_isBad v_r0_statements v_r0_placeIn v_r0_letterOf v_r0_told v_r0_kept v_r0_imaged v_r0_hasImage v_r0_place0 v_r0_isTaking v_r0_keptIn v_r0_turns0 v_r0_turnOf v_r0_turned v_r0_order0 v_r0_likely0 v_r0_leftThen v_r0_row v_r0_rowMany v_r0_seed r0_days r0_things o.2 r0_figures r0_hampers r0_kinds r0_left0 r0_wants0 r0_weights) o.1 A) rfl (Nat.le_of_ble_eq_true rfl) ?_ sz⟩
  intro p e s m below meth c A hA C hret ls hl hW
  have C : cx p s m ([.ref a_r0] : List Value).toArray meth c b_M_plan 8 R_M D (kTy cI cS) (Cond.code y_M_plan b_M_plan 8 (some FieldType.int)) := C
  obtain ⟨hx, hb, hml, hown, hts, hK, hlk, hN⟩ := id C
  have hl : lv_has ls 8 [(0, .ref a_r0)] := hl
  obtain ⟨Q, hQ⟩ : ∃ Q, Q = MQ below (qI D (w_M_plan cI a_r0 a_r0_figures a_r0_hampers a_r0_kinds a_r0_left0 a_r0_wants0 a_r0_weights v_r0_done0 v_r0_refusals v_r0_letters v_r0_letterMany v_r0_at v_r0_isBad v_r0_statements v_r0_placeIn v_r0_letterOf v_r0_told v_r0_kept v_r0_imaged v_r0_hasImage v_r0_place0 v_r0_isTaking v_r0_keptIn v_r0_turns0 v_r0_turnOf v_r0_turned v_r0_order0 v_r0_likely0 v_r0_leftThen v_r0_row v_r0_rowMany v_r0_seed r0_days r0_things o.2 r0_figures r0_hampers r0_kinds r0_left0 r0_wants0 r0_weights) o.1 A) ([.ref a_r0] : List Value).toArray s 0 0 A := ⟨_, rfl⟩
  rw [← hQ]
  refine lv_aload_n hx hb d_M_plan_0 rfl (lv_at hl 0 rfl) ?_
  refine lv_iconst (v := 0) hx hb d_M_plan_1 (by decide) ?_
  refine k_put i_M t_M_ok n_M C hW 0 rfl rfl 9 (by decide) qf_M_67 rfl rfl (ty := .int) rfl rfl rfl (Nat.le_of_ble_eq_true rfl) (ws' := (w_M_plan cI a_r0 a_r0_figures a_r0_hampers a_r0_kinds a_r0_left0 a_r0_wants0 a_r0_weights v_r0_done0 v_r0_refusals v_r0_letters v_r0_letterMany v_r0_at v_r0_isBad v_r0_statements v_r0_placeIn v_r0_letterOf v_r0_told v_r0_kept v_r0_imaged v_r0_hasImage v_r0_place0 v_r0_isTaking v_r0_keptIn v_r0_turns0 v_r0_turnOf v_r0_turned v_r0_order0 v_r0_likely0 v_r0_leftThen v_r0_row v_r0_rowMany v_r0_seed r0_days r0_things 0 r0_figures r0_hampers r0_kinds r0_left0 r0_wants0 r0_weights)) rfl d_M_plan_2 (fun H locs hW => ?_)
  refine lv_iconst (v := (-1)) hx hb d_M_plan_5 (by decide) ?_
  refine lv_istore_n (lv' := [(1, .int (-1)), (0, .ref a_r0)]) hx hb d_M_plan_6 rfl hl (by decide) rfl (fun ls hl => ?_)
  refine lv_iconst (v := 0) hx hb d_M_plan_7 (by decide) ?_
  refine lv_istore_n (lv' := [(2, .int 0), (1, .int (-1)), (0, .ref a_r0)]) hx hb d_M_plan_8 rfl hl (by decide) rfl (fun ls hl => ?_)
  obtain ⟨ex_1, hw_1, hk_1⟩ := ob hr
  have hx_1 : ∀ (e_1 : (Int32)), e_1 = ex_1 → ∀ (H : Heap) (locs : List Loc) (ls : Array Slot), wd A s.heap D (w_M_plan cI a_r0 a_r0_figures a_r0_hampers a_r0_kinds a_r0_left0 a_r0_wants0 a_r0_weights v_r0_done0 v_r0_refusals v_r0_letters v_r0_letterMany v_r0_at v_r0_isBad v_r0_statements v_r0_placeIn v_r0_letterOf v_r0_told v_r0_kept v_r0_imaged v_r0_hasImage v_r0_place0 v_r0_isTaking v_r0_keptIn v_r0_turns0 v_r0_turnOf v_r0_turned v_r0_order0 v_r0_likely0 v_r0_leftThen v_r0_row v_r0_rowMany v_r0_seed r0_days r0_things 0 r0_figures r0_hampers r0_kinds r0_left0 r0_wants0 r0_weights) H locs → lv_has ls 8 [(1, .int e_1)] → W p l e (rmd 4) s m ([.ref a_r0] : List Value).toArray below meth c H locs 0 0 Q (F0 m 174 ls []) := by
    intro e_1 hE H locs ls hW hl
    subst hE; have hr := hk_1
    refine lv_iload_n hx hb d_M_plan_174 rfl (lv_at hl 0 rfl) ?_
    obtain rfl := Option.some.inj hr
    rw [hQ]; exact k_iret C hret hW d_M_plan_175
  have hl_1 : ∀ (k : Nat) (y1_1 : Int32) (y2_1 : Int32), wh (fun (s : (Int32) × (Int32)) => F_M_plan_L9 r0_days r0_things r0_figures r0_hampers r0_kinds r0_left0 r0_wants0 r0_weights s.1 s.2) k (y1_1, y2_1) = some ex_1 → ∀ (H : Heap) (locs : List Loc) (ls : Array Slot), wd A s.heap D (w_M_plan cI a_r0 a_r0_figures a_r0_hampers a_r0_kinds a_r0_left0 a_r0_wants0 a_r0_weights v_r0_done0 v_r0_refusals v_r0_letters v_r0_letterMany v_r0_at v_r0_isBad v_r0_statements v_r0_placeIn v_r0_letterOf v_r0_told v_r0_kept v_r0_imaged v_r0_hasImage v_r0_place0 v_r0_isTaking v_r0_keptIn v_r0_turns0 v_r0_turnOf v_r0_turned v_r0_order0 v_r0_likely0 v_r0_leftThen v_r0_row v_r0_rowMany v_r0_seed r0_days r0_things 0 r0_figures r0_hampers r0_kinds r0_left0 r0_wants0 r0_weights) H locs → lv_has ls 8 [(0, .ref a_r0), (1, .int y1_1), (2, .int y2_1)] → W p l e (rmd 4) s m ([.ref a_r0] : List Value).toArray below meth c H locs 0 0 Q (F0 m 9 ls []) := by
    intro k
    induction k with
    | zero => intro y1_1 y2_1 hw; exact absurd hw wh_0
    | succ k ih_1 =>
      intro y1_1 y2_1 hw H locs ls hW hl
      obtain ⟨z_1, hr, hz1_1, hz2_1⟩ := wh_s hw
      have hr : F_M_plan_L9 r0_days r0_things r0_figures r0_hampers r0_kinds r0_left0 r0_wants0 r0_weights y1_1 y2_1 = some z_1 := hr
      unfold F_M_plan_L9 at hr
      refine lv_iload_n hx hb d_M_plan_9 rfl (lv_at hl 2 rfl) ?_
      refine lv_bipush (v := 16) hx hb d_M_plan_10 (by decide) ?_
      refine lv_icmp_ge (tgt := 174) hx hb d_M_plan_12 (by decide) (fun c_2 => ?_) (fun c_2 => ?_)
      · replace hr := ip c_2 hr
        exact hx_1 _ (hz2_1 _ (Option.some.inj hr).symm) _ _ _ hW (lv_sub hl [1] rfl)
      · replace hr := iN c_2 hr
        refine lv_iconst (v := 0) hx hb d_M_plan_15 (by decide) ?_
        refine lv_istore_n (lv' := [(3, .int 0), (0, .ref a_r0), (1, .int y1_1), (2, .int y2_1)]) hx hb d_M_plan_16 rfl hl (by decide) rfl (fun ls hl => ?_)
        refine lv_iconst (v := 0) hx hb d_M_plan_17 (by decide) ?_
        refine lv_istore (lv' := [(4, .int 0), (3, .int 0), (0, .ref a_r0), (1, .int y1_1), (2, .int y2_1)]) hx hb d_M_plan_18 hl (by decide) rfl (fun ls hl => ?_)
        obtain ⟨ex_3, hw_3, hk_3⟩ := ob hr
        have hx_3 : ∀ (e_3 : (Int32)), e_3 = ex_3 → ∀ (H : Heap) (locs : List Loc) (ls : Array Slot), wd A s.heap D (w_M_plan cI a_r0 a_r0_figures a_r0_hampers a_r0_kinds a_r0_left0 a_r0_wants0 a_r0_weights v_r0_done0 v_r0_refusals v_r0_letters v_r0_letterMany v_r0_at v_r0_isBad v_r0_statements v_r0_placeIn v_r0_letterOf v_r0_told v_r0_kept v_r0_imaged v_r0_hasImage v_r0_place0 v_r0_isTaking v_r0_keptIn v_r0_turns0 v_r0_turnOf v_r0_turned v_r0_order0 v_r0_likely0 v_r0_leftThen v_r0_row v_r0_rowMany v_r0_seed r0_days r0_things 0 r0_figures r0_hampers r0_kinds r0_left0 r0_wants0 r0_weights) H locs → lv_has ls 8 [(0, .ref a_r0), (1, .int y1_1), (2, .int y2_1), (3, .int e_3)] → W p l e (rmd 4) s m ([.ref a_r0] : List Value).toArray below meth c H locs 0 0 Q (F0 m 55 ls []) := by
          intro e_3 hE H locs ls hW hl
          subst hE; have hr := hk_3
          refine lv_iconst (v := 0) hx hb d_M_plan_55 (by decide) ?_
          refine lv_istore (lv' := [(4, .int 0), (0, .ref a_r0), (1, .int y1_1), (2, .int y2_1), (3, .int e_3)]) hx hb d_M_plan_56 hl (by decide) rfl (fun ls hl => ?_)
          obtain ⟨ex_8, hw_8, hk_8⟩ := ob hr
          have hx_8 : ∀ (e_8 : (Int32)), e_8 = ex_8 → ∀ (H : Heap) (locs : List Loc) (ls : Array Slot), wd A s.heap D (w_M_plan cI a_r0 a_r0_figures a_r0_hampers a_r0_kinds a_r0_left0 a_r0_wants0 a_r0_weights v_r0_done0 v_r0_refusals v_r0_letters v_r0_letterMany v_r0_at v_r0_isBad v_r0_statements v_r0_placeIn v_r0_letterOf v_r0_told v_r0_kept v_r0_imaged v_r0_hasImage v_r0_place0 v_r0_isTaking v_r0_keptIn v_r0_turns0 v_r0_turnOf v_r0_turned v_r0_order0 v_r0_likely0 v_r0_leftThen v_r0_row v_r0_rowMany v_r0_seed r0_days r0_things 0 r0_figures r0_hampers r0_kinds r0_left0 r0_wants0 r0_weights) H locs → lv_has ls 8 [(0, .ref a_r0), (1, .int y1_1), (2, .int y2_1), (3, .int e_8)] → W p l e (rmd 4) s m ([.ref a_r0] : List Value).toArray below meth c H locs 0 0 Q (F0 m 153 ls []) := by
            intro e_8 hE H locs ls hW hl
            subst hE; have hr := hk_8
            refine lv_iload_n hx hb d_M_plan_153 rfl (lv_at hl 1 rfl) ?_
            refine lv_if_lt (tgt := 162) hx hb d_M_plan_154 (by decide) (fun c_21 => ?_) (fun c_21 => ?_)
            · replace hr := ip c_21 hr
              refine lv_iload_n hx hb d_M_plan_162 rfl (lv_at hl 3 rfl) ?_
              refine lv_goto (tgt := 167) hx hb d_M_plan_163 (by decide) ?_
              refine lv_istore_n (lv' := [(1, .int e_8), (0, .ref a_r0), (2, .int y2_1), (3, .int e_8)]) hx hb d_M_plan_167 rfl hl (by decide) rfl (fun ls hl => ?_)
              refine lv_iinc (v := (y2_1 + 1)) (lv' := [(2, .int (y2_1 + 1)), (1, .int e_8), (0, .ref a_r0), (3, .int e_8)]) hx hb d_M_plan_168 hl (k := 2) rfl rfl (by decide) rfl (fun ls hl => ?_)
              refine lv_goto (tgt := 9) hx hb d_M_plan_171 (by decide) ?_
              exact ih_1 e_8 (y2_1 + 1) (hz1_1 _ (Option.some.inj hr).symm) _ _ _ hW (lv_sub hl [2, 1, 0] rfl)
            · replace hr := iN c_21 hr
              refine lv_iload_n hx hb d_M_plan_157 rfl (lv_at hl 3 rfl) ?_
              refine lv_iload_n hx hb d_M_plan_158 rfl (lv_at hl 1 rfl) ?_
              refine lv_icmp_ge (tgt := 166) hx hb d_M_plan_159 (by decide) (fun c_22 => ?_) (fun c_22 => ?_)
              · replace hr := ip c_22 hr
                refine lv_iload_n hx hb d_M_plan_166 rfl (lv_at hl 1 rfl) ?_
                refine lv_istore_n (lv' := [(1, .int y1_1), (0, .ref a_r0), (2, .int y2_1), (3, .int e_8)]) hx hb d_M_plan_167 rfl hl (by decide) rfl (fun ls hl => ?_)
                refine lv_iinc (v := (y2_1 + 1)) (lv' := [(2, .int (y2_1 + 1)), (1, .int y1_1), (0, .ref a_r0), (3, .int e_8)]) hx hb d_M_plan_168 hl (k := 2) rfl rfl (by decide) rfl (fun ls hl => ?_)
                refine lv_goto (tgt := 9) hx hb d_M_plan_171 (by decide) ?_
                exact ih_1 y1_1 (y2_1 + 1) (hz1_1 _ (Option.some.inj hr).symm) _ _ _ hW (lv_sub hl [2, 1, 0] rfl)
              · replace hr := iN c_22 hr
                refine lv_iload_n hx hb d_M_plan_162 rfl (lv_at hl 3 rfl) ?_
                refine lv_goto (tgt := 167) hx hb d_M_plan_163 (by decide) ?_
                refine lv_istore_n (lv' := [(1, .int e_8), (0, .ref a_r0), (2, .int y2_1), (3, .int e_8)]) hx hb d_M_plan_167 rfl hl (by decide) rfl (fun ls hl => ?_)
                refine lv_iinc (v := (y2_1 + 1)) (lv' := [(2, .int (y2_1 + 1)), (1, .int e_8), (0, .ref a_r0), (3, .int e_8)]) hx hb d_M_plan_168 hl (k := 2) rfl rfl (by decide) rfl (fun ls hl => ?_)
                refine lv_goto (tgt := 9) hx hb d_M_plan_171 (by decide) ?_
                exact ih_1 e_8 (y2_1 + 1) (hz1_1 _ (Option.some.inj hr).symm) _ _ _ hW (lv_sub hl [2, 1, 0] rfl)
          have hl_8 : ∀ (k : Nat) (y3_8 : Int32) (y4_8 : Int32), wh (fun (s : (Int32) × (Int32)) => F_M_plan_L58 r0_days r0_things r0_figures r0_hampers r0_kinds r0_wants0 r0_weights y2_1 s.1 s.2) k (y3_8, y4_8) = some ex_8 → ∀ (H : Heap) (locs : List Loc) (ls : Array Slot), wd A s.heap D (w_M_plan cI a_r0 a_r0_figures a_r0_hampers a_r0_kinds a_r0_left0 a_r0_wants0 a_r0_weights v_r0_done0 v_r0_refusals v_r0_letters v_r0_letterMany v_r0_at v_r0_isBad v_r0_statements v_r0_placeIn v_r0_letterOf v_r0_told v_r0_kept v_r0_imaged v_r0_hasImage v_r0_place0 v_r0_isTaking v_r0_keptIn v_r0_turns0 v_r0_turnOf v_r0_turned v_r0_order0 v_r0_likely0 v_r0_leftThen v_r0_row v_r0_rowMany v_r0_seed r0_days r0_things 0 r0_figures r0_hampers r0_kinds r0_left0 r0_wants0 r0_weights) H locs → lv_has ls 8 [(0, .ref a_r0), (1, .int y1_1), (2, .int y2_1), (3, .int y3_8), (4, .int y4_8)] → W p l e (rmd 4) s m ([.ref a_r0] : List Value).toArray below meth c H locs 0 0 Q (F0 m 58 ls []) := by
            intro k
            induction k with
            | zero => intro y3_8 y4_8 hw; exact absurd hw wh_0
            | succ k ih_8 =>
              intro y3_8 y4_8 hw H locs ls hW hl
              obtain ⟨z_8, hr, hz1_8, hz2_8⟩ := wh_s hw
              have hr : F_M_plan_L58 r0_days r0_things r0_figures r0_hampers r0_kinds r0_wants0 r0_weights y2_1 y3_8 y4_8 = some z_8 := hr
              unfold F_M_plan_L58 at hr
              refine lv_iload hx hb d_M_plan_58 (lv_at hl 4 rfl) ?_
              refine lv_aload_n hx hb d_M_plan_60 rfl (lv_at hl 0 rfl) ?_
              refine k_get i_M C hW 0 rfl rfl 4 (by decide) qf_M_78 rfl rfl d_M_plan_61 ?_
              refine lv_icmp_ge (tgt := 153) hx hb d_M_plan_64 (by decide) (fun c_9 => ?_) (fun c_9 => ?_)
              · replace hr := ip c_9 hr
                exact hx_8 _ (hz2_8 _ (Option.some.inj hr).symm) _ _ _ hW (lv_sub hl [0, 1, 2, 3] rfl)
              · replace hr := iN c_9 hr
                refine lv_aload_n hx hb d_M_plan_67 rfl (lv_at hl 0 rfl) ?_
                refine lv_iload hx hb d_M_plan_68 (lv_at hl 4 rfl) ?_
                obtain ⟨q_10, hc_10, hr⟩ := ob hr
                have ct_10 := C_M_likelyOn l D cI cS a_r0 a_r0_figures a_r0_hampers a_r0_kinds a_r0_weights (Value.int r0_days) (Value.ref a_r0_wants0) (Value.ref a_r0_left0) v_r0_done0 (Value.int 0) v_r0_refusals v_r0_letters v_r0_letterMany v_r0_at v_r0_isBad v_r0_statements v_r0_placeIn v_r0_letterOf v_r0_told v_r0_kept v_r0_imaged v_r0_hasImage v_r0_place0 v_r0_isTaking v_r0_keptIn v_r0_turns0 v_r0_turnOf v_r0_turned v_r0_order0 v_r0_likely0 v_r0_leftThen v_r0_row v_r0_rowMany v_r0_seed r0_things r0_figures r0_hampers r0_kinds r0_weights y4_8 q_10 hc_10
                refine k_goIp hA hW [0, 1, 2, 3, 6] rfl rfl (k_runV C hA hW mw_M_likelyOn mv_M_likelyOn (ct_10.2 _) [0, 1, 2, 3, 6] rfl rfl 0 rfl rfl qm_M_153 ⟨Nat.le_of_ble_eq_true rfl, Nat.le_of_ble_eq_true rfl, Nat.zero_le _, Nat.zero_le _⟩ rfl rfl (Nat.le_of_ble_eq_true rfl) hl.1 d_M_plan_70) (fun H locs hW => ?_)
                refine lv_istore (lv' := [(5, .int q_10), (0, .ref a_r0), (1, .int y1_1), (2, .int y2_1), (3, .int y3_8), (4, .int y4_8)]) hx hb d_M_plan_73 hl (by decide) rfl (fun ls hl => ?_)
                refine lv_iconst (v := 0) hx hb d_M_plan_75 (by decide) ?_
                refine lv_istore (lv' := [(6, .int 0), (5, .int q_10), (0, .ref a_r0), (1, .int y1_1), (2, .int y2_1), (3, .int y3_8), (4, .int y4_8)]) hx hb d_M_plan_76 hl (by decide) rfl (fun ls hl => ?_)
                refine lv_iconst (v := 0) hx hb d_M_plan_78 (by decide) ?_
                refine lv_istore (lv' := [(7, .int 0), (6, .int 0), (5, .int q_10), (0, .ref a_r0), (1, .int y1_1), (2, .int y2_1), (3, .int y3_8), (4, .int y4_8)]) hx hb d_M_plan_79 hl (by decide) rfl (fun ls hl => ?_)
                obtain ⟨ex_11, hw_11, hk_11⟩ := ob hr
                have hx_11 : ∀ (e_11 : (Int32)), e_11 = ex_11 → ∀ (H : Heap) (locs : List Loc) (ls : Array Slot), wd A s.heap D (w_M_plan cI a_r0 a_r0_figures a_r0_hampers a_r0_kinds a_r0_left0 a_r0_wants0 a_r0_weights v_r0_done0 v_r0_refusals v_r0_letters v_r0_letterMany v_r0_at v_r0_isBad v_r0_statements v_r0_placeIn v_r0_letterOf v_r0_told v_r0_kept v_r0_imaged v_r0_hasImage v_r0_place0 v_r0_isTaking v_r0_keptIn v_r0_turns0 v_r0_turnOf v_r0_turned v_r0_order0 v_r0_likely0 v_r0_leftThen v_r0_row v_r0_rowMany v_r0_seed r0_days r0_things 0 r0_figures r0_hampers r0_kinds r0_left0 r0_wants0 r0_weights) H locs → lv_has ls 8 [(0, .ref a_r0), (1, .int y1_1), (2, .int y2_1), (3, .int y3_8), (4, .int y4_8), (6, .int e_11)] → W p l e (rmd 4) s m ([.ref a_r0] : List Value).toArray below meth c H locs 0 0 Q (F0 m 134 ls []) := by
                  intro e_11 hE H locs ls hW hl
                  subst hE; have hr := hk_11
                  refine lv_iload_n hx hb d_M_plan_134 rfl (lv_at hl 3 rfl) ?_
                  refine lv_iload hx hb d_M_plan_135 (lv_at hl 5 rfl) ?_
                  refine lv_if_eq (tgt := 144) hx hb d_M_plan_137 (by decide) (fun c_20 => ?_) (fun c_20 => ?_)
                  · replace hr := ip c_20 hr
                    refine lv_iconst (v := 0) hx hb d_M_plan_144 (by decide) ?_
                    refine lv_iadd hx hb d_M_plan_145 ?_
                    refine lv_istore_n (lv' := [(3, .int (y3_8 + 0)), (0, .ref a_r0), (1, .int y1_1), (2, .int y2_1), (4, .int y4_8), (6, .int e_11)]) hx hb d_M_plan_146 rfl hl (by decide) rfl (fun ls hl => ?_)
                    refine lv_iinc (v := (y4_8 + 1)) (lv' := [(4, .int (y4_8 + 1)), (3, .int (y3_8 + 0)), (0, .ref a_r0), (1, .int y1_1), (2, .int y2_1), (6, .int e_11)]) hx hb d_M_plan_147 hl (k := 4) rfl rfl (by decide) rfl (fun ls hl => ?_)
                    refine lv_goto (tgt := 58) hx hb d_M_plan_150 (by decide) ?_
                    exact ih_8 (y3_8 + 0) (y4_8 + 1) (hz1_8 _ (Option.some.inj hr).symm) _ _ _ hW (lv_sub hl [2, 3, 4, 1, 0] rfl)
                  · replace hr := iN c_20 hr
                    refine lv_iconst (v := 1) hx hb d_M_plan_140 (by decide) ?_
                    refine lv_goto (tgt := 145) hx hb d_M_plan_141 (by decide) ?_
                    refine lv_iadd hx hb d_M_plan_145 ?_
                    refine lv_istore_n (lv' := [(3, .int (y3_8 + 1)), (0, .ref a_r0), (1, .int y1_1), (2, .int y2_1), (4, .int y4_8), (6, .int e_11)]) hx hb d_M_plan_146 rfl hl (by decide) rfl (fun ls hl => ?_)
                    refine lv_iinc (v := (y4_8 + 1)) (lv' := [(4, .int (y4_8 + 1)), (3, .int (y3_8 + 1)), (0, .ref a_r0), (1, .int y1_1), (2, .int y2_1), (6, .int e_11)]) hx hb d_M_plan_147 hl (k := 4) rfl rfl (by decide) rfl (fun ls hl => ?_)
                    refine lv_goto (tgt := 58) hx hb d_M_plan_150 (by decide) ?_
                    exact ih_8 (y3_8 + 1) (y4_8 + 1) (hz1_8 _ (Option.some.inj hr).symm) _ _ _ hW (lv_sub hl [2, 3, 4, 1, 0] rfl)
                have hl_11 : ∀ (k : Nat) (y6_11 : Int32) (y7_11 : Int32), wh (fun (s : (Int32) × (Int32)) => F_M_plan_L81 r0_wants0 y2_1 q_10 s.1 s.2) k (y6_11, y7_11) = some ex_11 → ∀ (H : Heap) (locs : List Loc) (ls : Array Slot), wd A s.heap D (w_M_plan cI a_r0 a_r0_figures a_r0_hampers a_r0_kinds a_r0_left0 a_r0_wants0 a_r0_weights v_r0_done0 v_r0_refusals v_r0_letters v_r0_letterMany v_r0_at v_r0_isBad v_r0_statements v_r0_placeIn v_r0_letterOf v_r0_told v_r0_kept v_r0_imaged v_r0_hasImage v_r0_place0 v_r0_isTaking v_r0_keptIn v_r0_turns0 v_r0_turnOf v_r0_turned v_r0_order0 v_r0_likely0 v_r0_leftThen v_r0_row v_r0_rowMany v_r0_seed r0_days r0_things 0 r0_figures r0_hampers r0_kinds r0_left0 r0_wants0 r0_weights) H locs → lv_has ls 8 [(5, .int q_10), (0, .ref a_r0), (1, .int y1_1), (2, .int y2_1), (3, .int y3_8), (4, .int y4_8), (6, .int y6_11), (7, .int y7_11)] → W p l e (rmd 4) s m ([.ref a_r0] : List Value).toArray below meth c H locs 0 0 Q (F0 m 81 ls []) := by
                  intro k
                  induction k with
                  | zero => intro y6_11 y7_11 hw; exact absurd hw wh_0
                  | succ k ih_11 =>
                    intro y6_11 y7_11 hw H locs ls hW hl
                    obtain ⟨z_11, hr, hz1_11, hz2_11⟩ := wh_s hw
                    have hr : F_M_plan_L81 r0_wants0 y2_1 q_10 y6_11 y7_11 = some z_11 := hr
                    unfold F_M_plan_L81 at hr
                    refine lv_iload hx hb d_M_plan_81 (lv_at hl 7 rfl) ?_
                    refine lv_iconst (v := 4) hx hb d_M_plan_83 (by decide) ?_
                    refine lv_icmp_ge (tgt := 134) hx hb d_M_plan_84 (by decide) (fun c_12 => ?_) (fun c_12 => ?_)
                    · replace hr := ip c_12 hr
                      exact hx_11 _ (hz2_11 _ (Option.some.inj hr).symm) _ _ _ hW (lv_sub hl [1, 2, 3, 4, 5, 6] rfl)
                    · replace hr := iN c_12 hr
                      refine lv_iload hx hb d_M_plan_87 (lv_at hl 6 rfl) ?_
                      refine lv_if_ne (tgt := 121) hx hb d_M_plan_89 (by decide) (fun c_13 => ?_) (fun c_13 => ?_)
                      · replace hr := iN c_13 hr
                        refine lv_iconst (v := 1) hx hb d_M_plan_121 (by decide) ?_
                        refine lv_goto (tgt := 126) hx hb d_M_plan_122 (by decide) ?_
                        refine lv_istore (lv' := [(6, .int 1), (5, .int q_10), (0, .ref a_r0), (1, .int y1_1), (2, .int y2_1), (3, .int y3_8), (4, .int y4_8), (7, .int y7_11)]) hx hb d_M_plan_126 hl (by decide) rfl (fun ls hl => ?_)
                        refine lv_iinc (v := (y7_11 + 1)) (lv' := [(7, .int (y7_11 + 1)), (6, .int 1), (5, .int q_10), (0, .ref a_r0), (1, .int y1_1), (2, .int y2_1), (3, .int y3_8), (4, .int y4_8)]) hx hb d_M_plan_128 hl (k := 7) rfl rfl (by decide) rfl (fun ls hl => ?_)
                        refine lv_goto (tgt := 81) hx hb d_M_plan_131 (by decide) ?_
                        exact ih_11 1 (y7_11 + 1) (hz1_11 _ (Option.some.inj hr).symm) _ _ _ hW (lv_sub hl [2, 3, 4, 5, 6, 7, 1, 0] rfl)
                      · replace hr := ip c_13 hr
                        refine lv_iload hx hb d_M_plan_92 (lv_at hl 0 rfl) ?_
                        refine lv_if_lt (tgt := 125) hx hb d_M_plan_94 (by decide) (fun c_14 => ?_) (fun c_14 => ?_)
                        · replace hr := ip c_14 hr
                          refine lv_iconst (v := 0) hx hb d_M_plan_125 (by decide) ?_
                          refine lv_istore (lv' := [(6, .int 0), (5, .int q_10), (0, .ref a_r0), (1, .int y1_1), (2, .int y2_1), (3, .int y3_8), (4, .int y4_8), (7, .int y7_11)]) hx hb d_M_plan_126 hl (by decide) rfl (fun ls hl => ?_)
                          refine lv_iinc (v := (y7_11 + 1)) (lv' := [(7, .int (y7_11 + 1)), (6, .int 0), (5, .int q_10), (0, .ref a_r0), (1, .int y1_1), (2, .int y2_1), (3, .int y3_8), (4, .int y4_8)]) hx hb d_M_plan_128 hl (k := 7) rfl rfl (by decide) rfl (fun ls hl => ?_)
                          refine lv_goto (tgt := 81) hx hb d_M_plan_131 (by decide) ?_
                          exact ih_11 0 (y7_11 + 1) (hz1_11 _ (Option.some.inj hr).symm) _ _ _ hW (lv_sub hl [2, 3, 4, 5, 6, 7, 1, 0] rfl)
                        · replace hr := iN c_14 hr
                          refine lv_iload_n hx hb d_M_plan_97 rfl (lv_at hl 3 rfl) ?_
                          refine lv_iload hx hb d_M_plan_98 (lv_at hl 7 rfl) ?_
                          obtain ⟨q_15, hc_15, hr⟩ := ob hr
                          have ct_15 := C_M_hasBit l D cI cS y2_1 y7_11 q_15 hc_15
                          refine k_goIp hA hW [] rfl rfl (k_runS C hA hW mw_M_hasBit ms_M_hasBit (ct_15.2 _) [] rfl rfl qm_M_85 ⟨Nat.le_of_ble_eq_true rfl, Nat.le_of_ble_eq_true rfl, Nat.zero_le _, Nat.zero_le _⟩ rfl rfl (Nat.le_of_ble_eq_true rfl) hl.1 d_M_plan_100) (fun H locs hW => ?_)
                          refine lv_if_ne (tgt := 125) hx hb d_M_plan_103 (by decide) (fun c_16 => ?_) (fun c_16 => ?_)
                          · replace hr := iN c_16 hr
                            refine lv_iconst (v := 0) hx hb d_M_plan_125 (by decide) ?_
                            refine lv_istore (lv' := [(6, .int 0), (5, .int q_10), (0, .ref a_r0), (1, .int y1_1), (2, .int y2_1), (3, .int y3_8), (4, .int y4_8), (7, .int y7_11)]) hx hb d_M_plan_126 hl (by decide) rfl (fun ls hl => ?_)
                            refine lv_iinc (v := (y7_11 + 1)) (lv' := [(7, .int (y7_11 + 1)), (6, .int 0), (5, .int q_10), (0, .ref a_r0), (1, .int y1_1), (2, .int y2_1), (3, .int y3_8), (4, .int y4_8)]) hx hb d_M_plan_128 hl (k := 7) rfl rfl (by decide) rfl (fun ls hl => ?_)
                            refine lv_goto (tgt := 81) hx hb d_M_plan_131 (by decide) ?_
                            exact ih_11 0 (y7_11 + 1) (hz1_11 _ (Option.some.inj hr).symm) _ _ _ hW (lv_sub hl [2, 3, 4, 5, 6, 7, 1, 0] rfl)
                          · replace hr := ip c_16 hr
                            refine lv_aload_n hx hb d_M_plan_106 rfl (lv_at hl 1 rfl) ?_
                            refine k_get i_M C hW 0 rfl rfl 6 (by decide) qf_M_22 rfl rfl d_M_plan_107 ?_
                            refine lv_iload hx hb d_M_plan_110 (lv_at hl 7 rfl) ?_
                            obtain ⟨h_17, hr⟩ := ck_some hr
                            refine k_iald C hW 5 rfl h_17 d_M_plan_112 ?_
                            refine lv_iload hx hb d_M_plan_113 (lv_at hl 0 rfl) ?_
                            obtain ⟨q_18, hc_18, hr⟩ := ob hr
                            have ct_18 := C_M_hasBit l D cI cS (r0_wants0 (Int32.toNatClampNeg y7_11)) q_10 q_18 hc_18
                            refine k_goIp hA hW [] rfl rfl (k_runS C hA hW mw_M_hasBit ms_M_hasBit (ct_18.2 _) [] rfl rfl qm_M_85 ⟨Nat.le_of_ble_eq_true rfl, Nat.le_of_ble_eq_true rfl, Nat.zero_le _, Nat.zero_le _⟩ rfl rfl (Nat.le_of_ble_eq_true rfl) hl.1 d_M_plan_115) (fun H locs hW => ?_)
                            refine lv_if_eq (tgt := 125) hx hb d_M_plan_118 (by decide) (fun c_19 => ?_) (fun c_19 => ?_)
                            · replace hr := ip c_19 hr
                              refine lv_iconst (v := 0) hx hb d_M_plan_125 (by decide) ?_
                              refine lv_istore (lv' := [(6, .int 0), (5, .int q_10), (0, .ref a_r0), (1, .int y1_1), (2, .int y2_1), (3, .int y3_8), (4, .int y4_8), (7, .int y7_11)]) hx hb d_M_plan_126 hl (by decide) rfl (fun ls hl => ?_)
                              refine lv_iinc (v := (y7_11 + 1)) (lv' := [(7, .int (y7_11 + 1)), (6, .int 0), (5, .int q_10), (0, .ref a_r0), (1, .int y1_1), (2, .int y2_1), (3, .int y3_8), (4, .int y4_8)]) hx hb d_M_plan_128 hl (k := 7) rfl rfl (by decide) rfl (fun ls hl => ?_)
                              refine lv_goto (tgt := 81) hx hb d_M_plan_131 (by decide) ?_
                              exact ih_11 0 (y7_11 + 1) (hz1_11 _ (Option.some.inj hr).symm) _ _ _ hW (lv_sub hl [2, 3, 4, 5, 6, 7, 1, 0] rfl)
                            · replace hr := iN c_19 hr
                              refine lv_iconst (v := 1) hx hb d_M_plan_121 (by decide) ?_
                              refine lv_goto (tgt := 126) hx hb d_M_plan_122 (by decide) ?_
                              refine lv_istore (lv' := [(6, .int 1), (5, .int q_10), (0, .ref a_r0), (1, .int y1_1), (2, .int y2_1), (3, .int y3_8), (4, .int y4_8), (7, .int y7_11)]) hx hb d_M_plan_126 hl (by decide) rfl (fun ls hl => ?_)
                              refine lv_iinc (v := (y7_11 + 1)) (lv' := [(7, .int (y7_11 + 1)), (6, .int 1), (5, .int q_10), (0, .ref a_r0), (1, .int y1_1), (2, .int y2_1), (3, .int y3_8), (4, .int y4_8)]) hx hb d_M_plan_128 hl (k := 7) rfl rfl (by decide) rfl (fun ls hl => ?_)
                              refine lv_goto (tgt := 81) hx hb d_M_plan_131 (by decide) ?_
                              exact ih_11 1 (y7_11 + 1) (hz1_11 _ (Option.some.inj hr).symm) _ _ _ hW (lv_sub hl [2, 3, 4, 5, 6, 7, 1, 0] rfl)
                exact hl_11 _ 0 0 hw_11 _ _ _ hW (lv_sub hl [2, 3, 4, 5, 6, 7, 1, 0] rfl)
          exact hl_8 _ e_3 0 hw_8 _ _ _ hW (lv_sub hl [1, 2, 3, 4, 0] rfl)
        have hl_3 : ∀ (k : Nat) (y3_3 : Int32) (y4_3 : Int32), wh (fun (s : (Int32) × (Int32)) => F_M_plan_L20 r0_left0 y2_1 s.1 s.2) k (y3_3, y4_3) = some ex_3 → ∀ (H : Heap) (locs : List Loc) (ls : Array Slot), wd A s.heap D (w_M_plan cI a_r0 a_r0_figures a_r0_hampers a_r0_kinds a_r0_left0 a_r0_wants0 a_r0_weights v_r0_done0 v_r0_refusals v_r0_letters v_r0_letterMany v_r0_at v_r0_isBad v_r0_statements v_r0_placeIn v_r0_letterOf v_r0_told v_r0_kept v_r0_imaged v_r0_hasImage v_r0_place0 v_r0_isTaking v_r0_keptIn v_r0_turns0 v_r0_turnOf v_r0_turned v_r0_order0 v_r0_likely0 v_r0_leftThen v_r0_row v_r0_rowMany v_r0_seed r0_days r0_things 0 r0_figures r0_hampers r0_kinds r0_left0 r0_wants0 r0_weights) H locs → lv_has ls 8 [(0, .ref a_r0), (1, .int y1_1), (2, .int y2_1), (3, .int y3_3), (4, .int y4_3)] → W p l e (rmd 4) s m ([.ref a_r0] : List Value).toArray below meth c H locs 0 0 Q (F0 m 20 ls []) := by
          intro k
          induction k with
          | zero => intro y3_3 y4_3 hw; exact absurd hw wh_0
          | succ k ih_3 =>
            intro y3_3 y4_3 hw H locs ls hW hl
            obtain ⟨z_3, hr, hz1_3, hz2_3⟩ := wh_s hw
            have hr : F_M_plan_L20 r0_left0 y2_1 y3_3 y4_3 = some z_3 := hr
            unfold F_M_plan_L20 at hr
            refine lv_iload hx hb d_M_plan_20 (lv_at hl 4 rfl) ?_
            refine lv_iconst (v := 4) hx hb d_M_plan_22 (by decide) ?_
            refine lv_icmp_ge (tgt := 55) hx hb d_M_plan_23 (by decide) (fun c_4 => ?_) (fun c_4 => ?_)
            · replace hr := ip c_4 hr
              exact hx_3 _ (hz2_3 _ (Option.some.inj hr).symm) _ _ _ hW (lv_sub hl [0, 1, 2, 3] rfl)
            · replace hr := iN c_4 hr
              refine lv_iload_n hx hb d_M_plan_26 rfl (lv_at hl 3 rfl) ?_
              refine lv_iload_n hx hb d_M_plan_27 rfl (lv_at hl 2 rfl) ?_
              refine lv_iload hx hb d_M_plan_28 (lv_at hl 4 rfl) ?_
              obtain ⟨q_5, hc_5, hr⟩ := ob hr
              have ct_5 := C_M_hasBit l D cI cS y2_1 y4_3 q_5 hc_5
              refine k_goIp hA hW [] rfl rfl (k_runS C hA hW mw_M_hasBit ms_M_hasBit (ct_5.2 _) [] rfl rfl qm_M_85 ⟨Nat.le_of_ble_eq_true rfl, Nat.le_of_ble_eq_true rfl, Nat.zero_le _, Nat.zero_le _⟩ rfl rfl (Nat.le_of_ble_eq_true rfl) hl.1 d_M_plan_30) (fun H locs hW => ?_)
              refine lv_if_eq (tgt := 46) hx hb d_M_plan_33 (by decide) (fun c_6 => ?_) (fun c_6 => ?_)
              · replace hr := ip c_6 hr
                refine lv_iconst (v := 0) hx hb d_M_plan_46 (by decide) ?_
                refine lv_iadd hx hb d_M_plan_47 ?_
                refine lv_istore_n (lv' := [(3, .int (y3_3 + 0)), (0, .ref a_r0), (1, .int y1_1), (2, .int y2_1), (4, .int y4_3)]) hx hb d_M_plan_48 rfl hl (by decide) rfl (fun ls hl => ?_)
                refine lv_iinc (v := (y4_3 + 1)) (lv' := [(4, .int (y4_3 + 1)), (3, .int (y3_3 + 0)), (0, .ref a_r0), (1, .int y1_1), (2, .int y2_1)]) hx hb d_M_plan_49 hl (k := 4) rfl rfl (by decide) rfl (fun ls hl => ?_)
                refine lv_goto (tgt := 20) hx hb d_M_plan_52 (by decide) ?_
                exact ih_3 (y3_3 + 0) (y4_3 + 1) (hz1_3 _ (Option.some.inj hr).symm) _ _ _ hW (lv_sub hl [2, 3, 4, 1, 0] rfl)
              · replace hr := iN c_6 hr
                refine lv_aload_n hx hb d_M_plan_36 rfl (lv_at hl 0 rfl) ?_
                refine k_get i_M C hW 0 rfl rfl 7 (by decide) qf_M_25 rfl rfl d_M_plan_37 ?_
                refine lv_iload hx hb d_M_plan_40 (lv_at hl 4 rfl) ?_
                obtain ⟨h_7, hr⟩ := ck_some hr
                refine k_iald C hW 4 rfl h_7 d_M_plan_42 ?_
                refine lv_goto (tgt := 47) hx hb d_M_plan_43 (by decide) ?_
                refine lv_iadd hx hb d_M_plan_47 ?_
                refine lv_istore_n (lv' := [(3, .int (y3_3 + (r0_left0 (Int32.toNatClampNeg y4_3)))), (0, .ref a_r0), (1, .int y1_1), (2, .int y2_1), (4, .int y4_3)]) hx hb d_M_plan_48 rfl hl (by decide) rfl (fun ls hl => ?_)
                refine lv_iinc (v := (y4_3 + 1)) (lv' := [(4, .int (y4_3 + 1)), (3, .int (y3_3 + (r0_left0 (Int32.toNatClampNeg y4_3)))), (0, .ref a_r0), (1, .int y1_1), (2, .int y2_1)]) hx hb d_M_plan_49 hl (k := 4) rfl rfl (by decide) rfl (fun ls hl => ?_)
                refine lv_goto (tgt := 20) hx hb d_M_plan_52 (by decide) ?_
                exact ih_3 (y3_3 + (r0_left0 (Int32.toNatClampNeg y4_3))) (y4_3 + 1) (hz1_3 _ (Option.some.inj hr).symm) _ _ _ hW (lv_sub hl [2, 3, 4, 1, 0] rfl)
        exact hl_3 _ 0 0 hw_3 _ _ _ hW (lv_sub hl [2, 3, 4, 1, 0] rfl)
  exact hl_1 _ (-1) 0 hw_1 _ _ _ hW (lv_sub hl [2, 1, 0] rfl)
def w_M_restore (cI : ClassId) (a_r0 : Nat) (a_r0_figures : Nat) (a_r0_hampers : Nat) (a_r0_imaged : Nat) (a_r0_kinds : Nat) (a_r0_left0 : Nat) (a_r0_refusals : Nat) (a_r0_wants0 : Nat) (a_r0_weights : Nat) (v_r0_letters v_r0_letterMany v_r0_at v_r0_isBad v_r0_statements v_r0_placeIn v_r0_letterOf v_r0_told v_r0_kept v_r0_turns0 v_r0_turnOf v_r0_order0 v_r0_likely0 v_r0_leftThen v_r0_row v_r0_rowMany v_r0_seed : Value) (kv : Int32 → Value) (r0_days : Int32) (r0_done0 : Int32) (r0_hasImage : Int32) (r0_isTaking : Int32) (r0_keptIn : Int32) (r0_place0 : Int32) (r0_things : Int32) (r0_thrown : Int32) (r0_turned : Int32) (r0_figures : Nat → Int32) (r0_hampers : Nat → Int32) (r0_imaged : Nat → Int32) (r0_kinds : Nat → Int32) (r0_left0 : Nat → Int32) (r0_refusals : Nat → Int32) (r0_wants0 : Nat → Int32) (r0_weights : Nat → Int32) : va_W := [(a_r0, .inr (9, [.ref a_r0_weights, .int r0_things, .ref a_r0_kinds, .ref a_r0_figures, .int r0_days, .ref a_r0_hampers, .ref a_r0_wants0, .ref a_r0_left0, .int r0_done0, .int r0_thrown, .ref a_r0_refusals, v_r0_letters, v_r0_letterMany, v_r0_at, v_r0_isBad, v_r0_statements, v_r0_placeIn, v_r0_letterOf, v_r0_told, v_r0_kept, .ref a_r0_imaged, .int r0_hasImage, .int r0_place0, .int r0_isTaking, (kv r0_keptIn), v_r0_turns0, v_r0_turnOf, .int r0_turned, v_r0_order0, v_r0_likely0, v_r0_leftThen, v_r0_row, v_r0_rowMany, v_r0_seed])), (a_r0_figures, .inl (cI, 8, .inl r0_figures)), (a_r0_hampers, .inl (cI, 8, .inl r0_hampers)), (a_r0_imaged, .inl (cI, 41, .inl r0_imaged)), (a_r0_kinds, .inl (cI, 8, .inl r0_kinds)), (a_r0_left0, .inl (cI, 4, .inl r0_left0)), (a_r0_refusals, .inl (cI, 7, .inl r0_refusals)), (a_r0_wants0, .inl (cI, 4, .inl r0_wants0)), (a_r0_weights, .inl (cI, 6, .inl r0_weights))]
def F_M_restore (r0_days : Int32) (r0_done0 : Int32) (r0_hasImage : Int32) (r0_isTaking : Int32) (r0_keptIn : Int32) (r0_place0 : Int32) (r0_things : Int32) (r0_turned : Int32) (r0_figures : Nat → Int32) (r0_hampers : Nat → Int32) (r0_imaged : Nat → Int32) (r0_kinds : Nat → Int32) (r0_left0 : Nat → Int32) (r0_refusals : Nat → Int32) (r0_wants0 : Nat → Int32) (r0_weights : Nat → Int32) : Option (Int32 × (Int32) × (Int32) × (Int32) × (Int32) × (Int32) × (Int32) × (Int32) × (Int32) × (Nat → Int32) × (Nat → Int32) × (Nat → Int32) × (Nat → Int32) × (Nat → Int32) × (Nat → Int32) × (Nat → Int32) × (Nat → Int32)) :=
  (if r0_hasImage = 0 then ((F_M_refuse r0_refusals ((-3) : Int32)).bind (fun q_3 => (some (q_3.1, r0_days, r0_done0, r0_isTaking, r0_keptIn, r0_place0, r0_things, 0, r0_turned, r0_figures, r0_hampers, r0_imaged, r0_kinds, r0_left0, q_3.2, r0_wants0, r0_weights)))) else ((F_M_carryAll_imaged r0_days r0_done0 r0_things r0_figures r0_hampers r0_imaged r0_kinds r0_left0 r0_wants0 r0_weights (0 : Int32)).bind (fun q_2 => (some (q_2.2.1, q_2.1, q_2.2.1, q_2.2.2.1, 2, q_2.2.2.2.1, q_2.2.2.2.2.1, 0, 0, q_2.2.2.2.2.2.1, q_2.2.2.2.2.2.2.1, q_2.2.2.2.2.2.2.2.1, q_2.2.2.2.2.2.2.2.2.1, q_2.2.2.2.2.2.2.2.2.2.1, r0_refusals, q_2.2.2.2.2.2.2.2.2.2.2.1, q_2.2.2.2.2.2.2.2.2.2.2.2)))))
set_option maxHeartbeats 4000000 in
set_option maxRecDepth 100000 in
theorem C_M_restore (l : Launch) (D : va_G) (cI cS : ClassId) (a_r0 : Nat) (a_r0_figures : Nat) (a_r0_hampers : Nat) (a_r0_imaged : Nat) (a_r0_kinds : Nat) (a_r0_left0 : Nat) (a_r0_refusals : Nat) (a_r0_wants0 : Nat) (a_r0_weights : Nat) (v_r0_letters v_r0_letterMany v_r0_at v_r0_isBad v_r0_statements v_r0_placeIn v_r0_letterOf v_r0_told v_r0_kept v_r0_turns0 v_r0_turnOf v_r0_order0 v_r0_likely0 v_r0_leftThen v_r0_row v_r0_rowMany v_r0_seed : Value) (kv : Int32 → Value) (hkv_imaged : kv 2 = .ref a_r0_imaged) (r0_days : Int32) (r0_done0 : Int32) (r0_hasImage : Int32) (r0_isTaking : Int32) (r0_keptIn : Int32) (r0_place0 : Int32) (r0_things : Int32) (r0_thrown : Int32) (r0_turned : Int32) (r0_figures : Nat → Int32) (r0_hampers : Nat → Int32) (r0_imaged : Nat → Int32) (r0_kinds : Nat → Int32) (r0_left0 : Nat → Int32) (r0_refusals : Nat → Int32) (r0_wants0 : Nat → Int32) (r0_weights : Nat → Int32) (o : Int32 × (Int32) × (Int32) × (Int32) × (Int32) × (Int32) × (Int32) × (Int32) × (Int32) × (Nat → Int32) × (Nat → Int32) × (Nat → Int32) × (Nat → Int32) × (Nat → Int32) × (Nat → Int32) × (Nat → Int32) × (Nat → Int32)) (hr : F_M_restore r0_days r0_done0 r0_hasImage r0_isTaking r0_keptIn r0_place0 r0_things r0_turned r0_figures r0_hampers r0_imaged r0_kinds r0_left0 r0_refusals r0_wants0 r0_weights = some o) : ctI l y_M_restore (Cond.code y_M_restore b_M_restore 1 (some FieldType.int)) (rmd 2) D (kTy cI cS) [.ref a_r0] (w_M_restore cI a_r0 a_r0_figures a_r0_hampers a_r0_imaged a_r0_kinds a_r0_left0 a_r0_refusals a_r0_wants0 a_r0_weights v_r0_letters v_r0_letterMany v_r0_at v_r0_isBad v_r0_statements v_r0_placeIn v_r0_letterOf v_r0_told v_r0_kept v_r0_turns0 v_r0_turnOf v_r0_order0 v_r0_likely0 v_r0_leftThen v_r0_row v_r0_rowMany v_r0_seed kv r0_days r0_done0 r0_hasImage r0_isTaking r0_keptIn r0_place0 r0_things r0_thrown r0_turned r0_figures r0_hampers r0_imaged r0_kinds r0_left0 r0_refusals r0_wants0 r0_weights) (w_M_restore cI a_r0 a_r0_figures a_r0_hampers a_r0_imaged a_r0_kinds a_r0_left0 a_r0_refusals a_r0_wants0 a_r0_weights v_r0_letters v_r0_letterMany v_r0_at v_r0_isBad v_r0_statements v_r0_placeIn v_r0_letterOf v_r0_told v_r0_kept v_r0_turns0 v_r0_turnOf v_r0_order0 v_r0_likely0 v_r0_leftThen v_r0_row v_r0_rowMany v_r0_seed kv o.2.1 o.2.2.1 r0_hasImage o.2.2.2.1 o.2.2.2.2.1 o.2.2.2.2.2.1 o.2.2.2.2.2.2.1 o.2.2.2.2.2.2.2.1 o.2.2.2.2.2.2.2.2.1 o.2.2.2.2.2.2.2.2.2.1 o.2.2.2.2.2.2.2.2.2.2.1 o.2.2.2.2.2.2.2.2.2.2.2.1 o.2.2.2.2.2.2.2.2.2.2.2.2.1 o.2.2.2.2.2.2.2.2.2.2.2.2.2.1 o.2.2.2.2.2.2.2.2.2.2.2.2.2.2.1 o.2.2.2.2.2.2.2.2.2.2.2.2.2.2.2.1 o.2.2.2.2.2.2.2.2.2.2.2.2.2.2.2.2) o.1 := by
  unfold F_M_restore at hr
  refine ⟨rfl, fun sz => ct_of (w0 := (w_M_restore cI a_r0 a_r0_figures a_r0_hampers a_r0_imaged a_r0_kinds a_r0_left0 a_r0_refusals a_r0_wants0 a_r0_weights v_r0_letters v_r0_letterMany v_r0_at v_r0_isBad v_r0_statements v_r0_placeIn v_r0_letterOf v_r0_told v_r0_kept v_r0_turns0 v_r0_turnOf v_r0_order0 v_r0_likely0 v_r0_leftThen v_r0_row v_r0_rowMany v_r0_seed kv r0_days r0_done0 r0_hasImage r0_isTaking r0_keptIn r0_place0 r0_things r0_thrown r0_turned r0_figures r0_hampers r0_imaged r0_kinds r0_left0 r0_refusals r0_wants0 r0_weights)) (Qc := fun A => qI D (w_M_restore cI a_r0 a_r0_figures a_r0_hampers a_r0_imaged a_r0_kinds a_r0_left0 a_r0_refusals a_r0_wants0 a_r0_weights v_r0_letters v_r0_letterMany v_r0_at v_r0_isBad v_r0_statements v_r0_placeIn v_r0_letterOf v_r0_told v_r0_kept v_r0_turns0 v_r0_turnOf v_r0_order0 v_r0_likely0 v_r0_leftThen v_r0_row v_r0_rowMany v_r0_seed kv o.2.1 o.2.2.1 r0_hasImage o.2.2.2.1 o.2.2.2.2.1 o.2.2.2.2.2.1 o.2.2.2.2.2.2.1 o.2.2.2.2.2.2.2.1 o.2.2.2.2.2.2.2.2.1 o.2.2.2.2.2.2.2.2.2.1 o.2.2.2.2.2.2.2.2.2.2.1 o.2.2.2.2.2.2.2.2.2.2.2.1 o.2.2.2.2.2.2.2.2.2.2.2.2.1 o.2.2.2.2.2.2.2.2.2.2.2.2.2.1 o.2.2.2.2.2.2.2.2.2.2.2.2.2.2.1 o.2.2.2.2.2.2.2.2.2.2.2.2.2.2.2.1 o.2.2.2.2.2.2.2.2.2.2.2.2.2.2.2.2) o.1 A) rfl (Nat.le_of_ble_eq_true rfl) ?_ sz⟩
  intro p e s m below meth c A hA C hret ls hl hW
  have C : cx p s m ([.ref a_r0] : List Value).toArray meth c b_M_restore 1 R_M D (kTy cI cS) (Cond.code y_M_restore b_M_restore 1 (some FieldType.int)) := C
  obtain ⟨hx, hb, hml, hown, hts, hK, hlk, hN⟩ := id C
  have hl : lv_has ls 1 [(0, .ref a_r0)] := hl
  obtain ⟨Q, hQ⟩ : ∃ Q, Q = MQ below (qI D (w_M_restore cI a_r0 a_r0_figures a_r0_hampers a_r0_imaged a_r0_kinds a_r0_left0 a_r0_refusals a_r0_wants0 a_r0_weights v_r0_letters v_r0_letterMany v_r0_at v_r0_isBad v_r0_statements v_r0_placeIn v_r0_letterOf v_r0_told v_r0_kept v_r0_turns0 v_r0_turnOf v_r0_order0 v_r0_likely0 v_r0_leftThen v_r0_row v_r0_rowMany v_r0_seed kv o.2.1 o.2.2.1 r0_hasImage o.2.2.2.1 o.2.2.2.2.1 o.2.2.2.2.2.1 o.2.2.2.2.2.2.1 o.2.2.2.2.2.2.2.1 o.2.2.2.2.2.2.2.2.1 o.2.2.2.2.2.2.2.2.2.1 o.2.2.2.2.2.2.2.2.2.2.1 o.2.2.2.2.2.2.2.2.2.2.2.1 o.2.2.2.2.2.2.2.2.2.2.2.2.1 o.2.2.2.2.2.2.2.2.2.2.2.2.2.1 o.2.2.2.2.2.2.2.2.2.2.2.2.2.2.1 o.2.2.2.2.2.2.2.2.2.2.2.2.2.2.2.1 o.2.2.2.2.2.2.2.2.2.2.2.2.2.2.2.2) o.1 A) ([.ref a_r0] : List Value).toArray s 0 0 A := ⟨_, rfl⟩
  rw [← hQ]
  refine lv_aload_n hx hb d_M_restore_0 rfl (lv_at hl 0 rfl) ?_
  refine lv_iconst (v := 0) hx hb d_M_restore_1 (by decide) ?_
  refine k_put i_M t_M_ok n_M C hW 0 rfl rfl 9 (by decide) qf_M_67 rfl rfl (ty := .int) rfl rfl rfl (Nat.le_of_ble_eq_true rfl) (ws' := (w_M_restore cI a_r0 a_r0_figures a_r0_hampers a_r0_imaged a_r0_kinds a_r0_left0 a_r0_refusals a_r0_wants0 a_r0_weights v_r0_letters v_r0_letterMany v_r0_at v_r0_isBad v_r0_statements v_r0_placeIn v_r0_letterOf v_r0_told v_r0_kept v_r0_turns0 v_r0_turnOf v_r0_order0 v_r0_likely0 v_r0_leftThen v_r0_row v_r0_rowMany v_r0_seed kv r0_days r0_done0 r0_hasImage r0_isTaking r0_keptIn r0_place0 r0_things 0 r0_turned r0_figures r0_hampers r0_imaged r0_kinds r0_left0 r0_refusals r0_wants0 r0_weights)) rfl d_M_restore_2 (fun H locs hW => ?_)
  refine lv_aload_n hx hb d_M_restore_5 rfl (lv_at hl 0 rfl) ?_
  refine k_get i_M C hW 0 rfl rfl 21 (by decide) qf_M_193 rfl rfl d_M_restore_6 ?_
  refine lv_if_ne (tgt := 19) hx hb d_M_restore_9 (by decide) (fun c_1 => ?_) (fun c_1 => ?_)
  · replace hr := iN c_1 hr
    refine lv_aload_n hx hb d_M_restore_19 rfl (lv_at hl 0 rfl) ?_
    refine lv_aload_n hx hb d_M_restore_20 rfl (lv_at hl 0 rfl) ?_
    refine k_get i_M C hW 0 rfl rfl 20 (by decide) qf_M_46 rfl rfl d_M_restore_21 ?_
    refine lv_iconst (v := 0) hx hb d_M_restore_24 (by decide) ?_
    obtain ⟨q_2, hc_2, hr⟩ := ob hr
    have ct_2 := C_M_carryAll_imaged l D cI cS a_r0 a_r0_figures a_r0_hampers a_r0_imaged a_r0_kinds a_r0_left0 a_r0_wants0 a_r0_weights (Value.int 0) (Value.ref a_r0_refusals) v_r0_letters v_r0_letterMany v_r0_at v_r0_isBad v_r0_statements v_r0_placeIn v_r0_letterOf v_r0_told v_r0_kept (Value.int r0_hasImage) (kv r0_keptIn) v_r0_turns0 v_r0_turnOf (Value.int r0_turned) v_r0_order0 v_r0_likely0 v_r0_leftThen v_r0_row v_r0_rowMany v_r0_seed (kv 2) hkv_imaged r0_days r0_done0 r0_isTaking r0_place0 r0_things r0_figures r0_hampers r0_imaged r0_kinds r0_left0 r0_wants0 r0_weights 0 q_2 hc_2
    refine k_goV hA hW [0, 1, 2, 3, 4, 5, 7, 8] rfl ct_2.1 (ws' := (w_M_restore cI a_r0 a_r0_figures a_r0_hampers a_r0_imaged a_r0_kinds a_r0_left0 a_r0_refusals a_r0_wants0 a_r0_weights v_r0_letters v_r0_letterMany v_r0_at v_r0_isBad v_r0_statements v_r0_placeIn v_r0_letterOf v_r0_told v_r0_kept v_r0_turns0 v_r0_turnOf v_r0_order0 v_r0_likely0 v_r0_leftThen v_r0_row v_r0_rowMany v_r0_seed kv q_2.1 q_2.2.1 r0_hasImage q_2.2.2.1 2 q_2.2.2.2.1 q_2.2.2.2.2.1 0 r0_turned q_2.2.2.2.2.2.1 q_2.2.2.2.2.2.2.1 q_2.2.2.2.2.2.2.2.1 q_2.2.2.2.2.2.2.2.2.1 q_2.2.2.2.2.2.2.2.2.2.1 r0_refusals q_2.2.2.2.2.2.2.2.2.2.2.1 q_2.2.2.2.2.2.2.2.2.2.2.2)) rfl (k_runV C hA hW mw_M_carryAll mv_M_carryAll (ct_2.2 _) [0, 1, 2, 3, 4, 5, 7, 8] rfl rfl 0 rfl rfl qm_M_189 ⟨Nat.le_of_ble_eq_true rfl, Nat.le_of_ble_eq_true rfl, Nat.zero_le _, Nat.zero_le _⟩ rfl rfl (Nat.le_of_ble_eq_true rfl) hl.1 d_M_restore_25) (fun H locs hW => ?_)
    refine lv_aload_n hx hb d_M_restore_28 rfl (lv_at hl 0 rfl) ?_
    refine lv_iconst (v := 0) hx hb d_M_restore_29 (by decide) ?_
    refine k_put i_M t_M_ok n_M C hW 0 rfl rfl 27 (by decide) qf_M_174 rfl rfl (ty := .int) rfl rfl rfl (Nat.le_of_ble_eq_true rfl) (ws' := (w_M_restore cI a_r0 a_r0_figures a_r0_hampers a_r0_imaged a_r0_kinds a_r0_left0 a_r0_refusals a_r0_wants0 a_r0_weights v_r0_letters v_r0_letterMany v_r0_at v_r0_isBad v_r0_statements v_r0_placeIn v_r0_letterOf v_r0_told v_r0_kept v_r0_turns0 v_r0_turnOf v_r0_order0 v_r0_likely0 v_r0_leftThen v_r0_row v_r0_rowMany v_r0_seed kv q_2.1 q_2.2.1 r0_hasImage q_2.2.2.1 2 q_2.2.2.2.1 q_2.2.2.2.2.1 0 0 q_2.2.2.2.2.2.1 q_2.2.2.2.2.2.2.1 q_2.2.2.2.2.2.2.2.1 q_2.2.2.2.2.2.2.2.2.1 q_2.2.2.2.2.2.2.2.2.2.1 r0_refusals q_2.2.2.2.2.2.2.2.2.2.2.1 q_2.2.2.2.2.2.2.2.2.2.2.2)) rfl d_M_restore_30 (fun H locs hW => ?_)
    refine lv_aload_n hx hb d_M_restore_33 rfl (lv_at hl 0 rfl) ?_
    refine k_get i_M C hW 0 rfl rfl 8 (by decide) qf_M_105 rfl rfl d_M_restore_34 ?_
    obtain rfl := Option.some.inj hr
    rw [hQ]; exact k_iret C hret hW d_M_restore_37
  · replace hr := ip c_1 hr
    refine lv_aload_n hx hb d_M_restore_12 rfl (lv_at hl 0 rfl) ?_
    refine lv_bipush (v := (-3)) hx hb d_M_restore_13 (by decide) ?_
    obtain ⟨q_3, hc_3, hr⟩ := ob hr
    have ct_3 := C_M_refuse l D cI cS a_r0 a_r0_refusals (Value.ref a_r0_weights) (Value.int r0_things) (Value.ref a_r0_kinds) (Value.ref a_r0_figures) (Value.int r0_days) (Value.ref a_r0_hampers) (Value.ref a_r0_wants0) (Value.ref a_r0_left0) (Value.int r0_done0) (Value.int 0) v_r0_letters v_r0_letterMany v_r0_at v_r0_isBad v_r0_statements v_r0_placeIn v_r0_letterOf v_r0_told v_r0_kept (Value.ref a_r0_imaged) (Value.int r0_hasImage) (Value.int r0_place0) (Value.int r0_isTaking) (kv r0_keptIn) v_r0_turns0 v_r0_turnOf (Value.int r0_turned) v_r0_order0 v_r0_likely0 v_r0_leftThen v_r0_row v_r0_rowMany v_r0_seed r0_refusals (-3) q_3 hc_3
    refine k_goI hA hW [0, 6] rfl ct_3.1 (ws' := (w_M_restore cI a_r0 a_r0_figures a_r0_hampers a_r0_imaged a_r0_kinds a_r0_left0 a_r0_refusals a_r0_wants0 a_r0_weights v_r0_letters v_r0_letterMany v_r0_at v_r0_isBad v_r0_statements v_r0_placeIn v_r0_letterOf v_r0_told v_r0_kept v_r0_turns0 v_r0_turnOf v_r0_order0 v_r0_likely0 v_r0_leftThen v_r0_row v_r0_rowMany v_r0_seed kv r0_days r0_done0 r0_hasImage r0_isTaking r0_keptIn r0_place0 r0_things 0 r0_turned r0_figures r0_hampers r0_imaged r0_kinds r0_left0 q_3.2 r0_wants0 r0_weights)) rfl (k_runV C hA hW mw_M_refuse mv_M_refuse (ct_3.2 _) [0, 6] rfl rfl 0 rfl rfl qm_M_108 ⟨Nat.le_of_ble_eq_true rfl, Nat.le_of_ble_eq_true rfl, Nat.zero_le _, Nat.zero_le _⟩ rfl rfl (Nat.le_of_ble_eq_true rfl) hl.1 d_M_restore_15) (fun H locs hW => ?_)
    obtain rfl := Option.some.inj hr
    rw [hQ]; exact k_iret C hret hW d_M_restore_18
def w_M_rope (cI : ClassId) (a_r0 : Nat) (a_r0_hampers : Nat) (a_r0_kinds : Nat) (v_r0_weights v_r0_figures v_r0_wants0 v_r0_left0 v_r0_done0 v_r0_refusals v_r0_letters v_r0_letterMany v_r0_at v_r0_isBad v_r0_statements v_r0_placeIn v_r0_letterOf v_r0_told v_r0_kept v_r0_imaged v_r0_hasImage v_r0_place0 v_r0_isTaking v_r0_keptIn v_r0_turns0 v_r0_turnOf v_r0_turned v_r0_order0 v_r0_likely0 v_r0_leftThen v_r0_row v_r0_rowMany v_r0_seed : Value) (r0_days : Int32) (r0_things : Int32) (r0_thrown : Int32) (r0_hampers : Nat → Int32) (r0_kinds : Nat → Int32) : va_W := [(a_r0, .inr (9, [v_r0_weights, .int r0_things, .ref a_r0_kinds, v_r0_figures, .int r0_days, .ref a_r0_hampers, v_r0_wants0, v_r0_left0, v_r0_done0, .int r0_thrown, v_r0_refusals, v_r0_letters, v_r0_letterMany, v_r0_at, v_r0_isBad, v_r0_statements, v_r0_placeIn, v_r0_letterOf, v_r0_told, v_r0_kept, v_r0_imaged, v_r0_hasImage, v_r0_place0, v_r0_isTaking, v_r0_keptIn, v_r0_turns0, v_r0_turnOf, v_r0_turned, v_r0_order0, v_r0_likely0, v_r0_leftThen, v_r0_row, v_r0_rowMany, v_r0_seed])), (a_r0_hampers, .inl (cI, 8, .inl r0_hampers)), (a_r0_kinds, .inl (cI, 8, .inl r0_kinds))]
def F_M_rope_L17 (r0_things : Int32) (r0_hampers : Nat → Int32) (r0_kinds : Nat → Int32) (y1_1 : Int32) (y2_3 : Int32) : Option (((Int32)) ⊕ (((Unit) ⊕ (Int32 × (Int32))))) :=
  (if r0_things ≤ y2_3 then (some (.inr (.inl ()))) else (ck y1_1 8 ((F_M_hasBit (r0_hampers (Int32.toNatClampNeg y1_1)) y2_3).bind (fun q_6 => (if q_6 = 0 then (some (.inl (y2_3 + 1))) else (ck y2_3 8 (if (r0_kinds (Int32.toNatClampNeg y2_3)) = 3 then (some (.inr (.inr (y1_1, 0)))) else (some (.inl (y2_3 + 1))))))))))
def F_M_rope_L7 (r0_days : Int32) (r0_things : Int32) (r0_hampers : Nat → Int32) (r0_kinds : Nat → Int32) (y1_1 : Int32) : Option (((Int32)) ⊕ (((Unit) ⊕ (Int32 × (Int32))))) :=
  (if r0_days ≤ y1_1 then (some (.inr (.inl ()))) else ((wh (fun (s : (Int32)) => F_M_rope_L17 r0_things r0_hampers r0_kinds y1_1 s) 400 (0 : Int32)).bind (sx (fun e_3 => (some (.inl (y1_1 + 1)))) (fun o => some (.inr (.inr o))))))
def F_M_rope (r0_days : Int32) (r0_things : Int32) (r0_hampers : Nat → Int32) (r0_kinds : Nat → Int32) : Option (Int32 × (Int32)) :=
  ((wh (fun (s : (Int32)) => F_M_rope_L7 r0_days r0_things r0_hampers r0_kinds s) 400 (0 : Int32)).bind (sx (fun e_1 => (some ((-9), 0))) (fun o => some o)))
set_option maxHeartbeats 4000000 in
set_option maxRecDepth 100000 in
theorem C_M_rope (l : Launch) (D : va_G) (cI cS : ClassId) (a_r0 : Nat) (a_r0_hampers : Nat) (a_r0_kinds : Nat) (v_r0_weights v_r0_figures v_r0_wants0 v_r0_left0 v_r0_done0 v_r0_refusals v_r0_letters v_r0_letterMany v_r0_at v_r0_isBad v_r0_statements v_r0_placeIn v_r0_letterOf v_r0_told v_r0_kept v_r0_imaged v_r0_hasImage v_r0_place0 v_r0_isTaking v_r0_keptIn v_r0_turns0 v_r0_turnOf v_r0_turned v_r0_order0 v_r0_likely0 v_r0_leftThen v_r0_row v_r0_rowMany v_r0_seed : Value) (r0_days : Int32) (r0_things : Int32) (r0_thrown : Int32) (r0_hampers : Nat → Int32) (r0_kinds : Nat → Int32) (o : Int32 × (Int32)) (hr : F_M_rope r0_days r0_things r0_hampers r0_kinds = some o) : ctI l y_M_rope (Cond.code y_M_rope b_M_rope 3 (some FieldType.int)) (rmd 1) D (kTy cI cS) [.ref a_r0] (w_M_rope cI a_r0 a_r0_hampers a_r0_kinds v_r0_weights v_r0_figures v_r0_wants0 v_r0_left0 v_r0_done0 v_r0_refusals v_r0_letters v_r0_letterMany v_r0_at v_r0_isBad v_r0_statements v_r0_placeIn v_r0_letterOf v_r0_told v_r0_kept v_r0_imaged v_r0_hasImage v_r0_place0 v_r0_isTaking v_r0_keptIn v_r0_turns0 v_r0_turnOf v_r0_turned v_r0_order0 v_r0_likely0 v_r0_leftThen v_r0_row v_r0_rowMany v_r0_seed r0_days r0_things r0_thrown r0_hampers r0_kinds) (w_M_rope cI a_r0 a_r0_hampers a_r0_kinds v_r0_weights v_r0_figures v_r0_wants0 v_r0_left0 v_r0_done0 v_r0_refusals v_r0_letters v_r0_letterMany v_r0_at v_r0_isBad v_r0_statements v_r0_placeIn v_r0_letterOf v_r0_told v_r0_kept v_r0_imaged v_r0_hasImage v_r0_place0 v_r0_isTaking v_r0_keptIn v_r0_turns0 v_r0_turnOf v_r0_turned v_r0_order0 v_r0_likely0 v_r0_leftThen v_r0_row v_r0_rowMany v_r0_seed r0_days r0_things o.2 r0_hampers r0_kinds) o.1 := by
  unfold F_M_rope at hr
  refine ⟨rfl, fun sz => ct_of (w0 := (w_M_rope cI a_r0 a_r0_hampers a_r0_kinds v_r0_weights v_r0_figures v_r0_wants0 v_r0_left0 v_r0_done0 v_r0_refusals v_r0_letters v_r0_letterMany v_r0_at v_r0_isBad v_r0_statements v_r0_placeIn v_r0_letterOf v_r0_told v_r0_kept v_r0_imaged v_r0_hasImage v_r0_place0 v_r0_isTaking v_r0_keptIn v_r0_turns0 v_r0_turnOf v_r0_turned v_r0_order0 v_r0_likely0 v_r0_leftThen v_r0_row v_r0_rowMany v_r0_seed r0_days r0_things r0_thrown r0_hampers r0_kinds)) (Qc := fun A => qI D (w_M_rope cI a_r0 a_r0_hampers a_r0_kinds v_r0_weights v_r0_figures v_r0_wants0 v_r0_left0 v_r0_done0 v_r0_refusals v_r0_letters v_r0_letterMany v_r0_at v_r0_isBad v_r0_statements v_r0_placeIn v_r0_letterOf v_r0_told v_r0_kept v_r0_imaged v_r0_hasImage v_r0_place0 v_r0_isTaking v_r0_keptIn v_r0_turns0 v_r0_turnOf v_r0_turned v_r0_order0 v_r0_likely0 v_r0_leftThen v_r0_row v_r0_rowMany v_r0_seed r0_days r0_things o.2 r0_hampers r0_kinds) o.1 A) rfl (Nat.le_of_ble_eq_true rfl) ?_ sz⟩
  intro p e s m below meth c A hA C hret ls hl hW
  have C : cx p s m ([.ref a_r0] : List Value).toArray meth c b_M_rope 3 R_M D (kTy cI cS) (Cond.code y_M_rope b_M_rope 3 (some FieldType.int)) := C
  obtain ⟨hx, hb, hml, hown, hts, hK, hlk, hN⟩ := id C
  have hl : lv_has ls 3 [(0, .ref a_r0)] := hl
  obtain ⟨Q, hQ⟩ : ∃ Q, Q = MQ below (qI D (w_M_rope cI a_r0 a_r0_hampers a_r0_kinds v_r0_weights v_r0_figures v_r0_wants0 v_r0_left0 v_r0_done0 v_r0_refusals v_r0_letters v_r0_letterMany v_r0_at v_r0_isBad v_r0_statements v_r0_placeIn v_r0_letterOf v_r0_told v_r0_kept v_r0_imaged v_r0_hasImage v_r0_place0 v_r0_isTaking v_r0_keptIn v_r0_turns0 v_r0_turnOf v_r0_turned v_r0_order0 v_r0_likely0 v_r0_leftThen v_r0_row v_r0_rowMany v_r0_seed r0_days r0_things o.2 r0_hampers r0_kinds) o.1 A) ([.ref a_r0] : List Value).toArray s 0 0 A := ⟨_, rfl⟩
  rw [← hQ]
  refine lv_aload_n hx hb d_M_rope_0 rfl (lv_at hl 0 rfl) ?_
  refine lv_iconst (v := 0) hx hb d_M_rope_1 (by decide) ?_
  refine k_put i_M t_M_ok n_M C hW 0 rfl rfl 9 (by decide) qf_M_67 rfl rfl (ty := .int) rfl rfl rfl (Nat.le_of_ble_eq_true rfl) (ws' := (w_M_rope cI a_r0 a_r0_hampers a_r0_kinds v_r0_weights v_r0_figures v_r0_wants0 v_r0_left0 v_r0_done0 v_r0_refusals v_r0_letters v_r0_letterMany v_r0_at v_r0_isBad v_r0_statements v_r0_placeIn v_r0_letterOf v_r0_told v_r0_kept v_r0_imaged v_r0_hasImage v_r0_place0 v_r0_isTaking v_r0_keptIn v_r0_turns0 v_r0_turnOf v_r0_turned v_r0_order0 v_r0_likely0 v_r0_leftThen v_r0_row v_r0_rowMany v_r0_seed r0_days r0_things 0 r0_hampers r0_kinds)) rfl d_M_rope_2 (fun H locs hW => ?_)
  refine lv_iconst (v := 0) hx hb d_M_rope_5 (by decide) ?_
  refine lv_istore_n (lv' := [(1, .int 0), (0, .ref a_r0)]) hx hb d_M_rope_6 rfl hl (by decide) rfl (fun ls hl => ?_)
  obtain ⟨ex_1, hw_1, hk_1⟩ := ob hr
  have hx_1 : ∀ (e_1 : Unit), Sum.inl e_1 = ex_1 → ∀ (H : Heap) (locs : List Loc) (ls : Array Slot), wd A s.heap D (w_M_rope cI a_r0 a_r0_hampers a_r0_kinds v_r0_weights v_r0_figures v_r0_wants0 v_r0_left0 v_r0_done0 v_r0_refusals v_r0_letters v_r0_letterMany v_r0_at v_r0_isBad v_r0_statements v_r0_placeIn v_r0_letterOf v_r0_told v_r0_kept v_r0_imaged v_r0_hasImage v_r0_place0 v_r0_isTaking v_r0_keptIn v_r0_turns0 v_r0_turnOf v_r0_turned v_r0_order0 v_r0_likely0 v_r0_leftThen v_r0_row v_r0_rowMany v_r0_seed r0_days r0_things 0 r0_hampers r0_kinds) H locs → lv_has ls 3 [] → W p l e (rmd 1) s m ([.ref a_r0] : List Value).toArray below meth c H locs 0 0 Q (F0 m 62 ls []) := by
    intro e_1 hE H locs ls hW hl
    have hr := sx_l hE.symm hk_1
    refine lv_bipush (v := (-9)) hx hb d_M_rope_62 (by decide) ?_
    obtain rfl := Option.some.inj hr
    rw [hQ]; exact k_iret C hret hW d_M_rope_64
  have hl_1 : ∀ (k : Nat) (y1_1 : Int32), wh (fun (s : (Int32)) => F_M_rope_L7 r0_days r0_things r0_hampers r0_kinds s) k y1_1 = some ex_1 → ∀ (H : Heap) (locs : List Loc) (ls : Array Slot), wd A s.heap D (w_M_rope cI a_r0 a_r0_hampers a_r0_kinds v_r0_weights v_r0_figures v_r0_wants0 v_r0_left0 v_r0_done0 v_r0_refusals v_r0_letters v_r0_letterMany v_r0_at v_r0_isBad v_r0_statements v_r0_placeIn v_r0_letterOf v_r0_told v_r0_kept v_r0_imaged v_r0_hasImage v_r0_place0 v_r0_isTaking v_r0_keptIn v_r0_turns0 v_r0_turnOf v_r0_turned v_r0_order0 v_r0_likely0 v_r0_leftThen v_r0_row v_r0_rowMany v_r0_seed r0_days r0_things 0 r0_hampers r0_kinds) H locs → lv_has ls 3 [(0, .ref a_r0), (1, .int y1_1)] → W p l e (rmd 1) s m ([.ref a_r0] : List Value).toArray below meth c H locs 0 0 Q (F0 m 7 ls []) := by
    intro k
    induction k with
    | zero => intro y1_1 hw; exact absurd hw wh_0
    | succ k ih_1 =>
      intro y1_1 hw H locs ls hW hl
      obtain ⟨z_1, hr, hz1_1, hz2_1⟩ := wh_s hw
      have hr : F_M_rope_L7 r0_days r0_things r0_hampers r0_kinds y1_1 = some z_1 := hr
      unfold F_M_rope_L7 at hr
      refine lv_iload_n hx hb d_M_rope_7 rfl (lv_at hl 1 rfl) ?_
      refine lv_aload_n hx hb d_M_rope_8 rfl (lv_at hl 0 rfl) ?_
      refine k_get i_M C hW 0 rfl rfl 4 (by decide) qf_M_78 rfl rfl d_M_rope_9 ?_
      refine lv_icmp_ge (tgt := 62) hx hb d_M_rope_12 (by decide) (fun c_2 => ?_) (fun c_2 => ?_)
      · replace hr := ip c_2 hr
        exact hx_1 _ (hz2_1 _ (Option.some.inj hr).symm) _ _ _ hW (lv_sub hl [] rfl)
      · replace hr := iN c_2 hr
        refine lv_iconst (v := 0) hx hb d_M_rope_15 (by decide) ?_
        refine lv_istore_n (lv' := [(2, .int 0), (0, .ref a_r0), (1, .int y1_1)]) hx hb d_M_rope_16 rfl hl (by decide) rfl (fun ls hl => ?_)
        obtain ⟨ex_3, hw_3, hk_3⟩ := ob hr
        have hx_3 : ∀ (e_3 : Unit), Sum.inl e_3 = ex_3 → ∀ (H : Heap) (locs : List Loc) (ls : Array Slot), wd A s.heap D (w_M_rope cI a_r0 a_r0_hampers a_r0_kinds v_r0_weights v_r0_figures v_r0_wants0 v_r0_left0 v_r0_done0 v_r0_refusals v_r0_letters v_r0_letterMany v_r0_at v_r0_isBad v_r0_statements v_r0_placeIn v_r0_letterOf v_r0_told v_r0_kept v_r0_imaged v_r0_hasImage v_r0_place0 v_r0_isTaking v_r0_keptIn v_r0_turns0 v_r0_turnOf v_r0_turned v_r0_order0 v_r0_likely0 v_r0_leftThen v_r0_row v_r0_rowMany v_r0_seed r0_days r0_things 0 r0_hampers r0_kinds) H locs → lv_has ls 3 [(0, .ref a_r0), (1, .int y1_1)] → W p l e (rmd 1) s m ([.ref a_r0] : List Value).toArray below meth c H locs 0 0 Q (F0 m 56 ls []) := by
          intro e_3 hE H locs ls hW hl
          have hr := sx_l hE.symm hk_3
          refine lv_iinc (v := (y1_1 + 1)) (lv' := [(1, .int (y1_1 + 1)), (0, .ref a_r0)]) hx hb d_M_rope_56 hl (k := 1) rfl rfl (by decide) rfl (fun ls hl => ?_)
          refine lv_goto (tgt := 7) hx hb d_M_rope_59 (by decide) ?_
          exact ih_1 (y1_1 + 1) (hz1_1 _ (Option.some.inj hr).symm) _ _ _ hW (lv_sub hl [1, 0] rfl)
        have hl_3 : ∀ (k : Nat) (y2_3 : Int32), wh (fun (s : (Int32)) => F_M_rope_L17 r0_things r0_hampers r0_kinds y1_1 s) k y2_3 = some ex_3 → ∀ (H : Heap) (locs : List Loc) (ls : Array Slot), wd A s.heap D (w_M_rope cI a_r0 a_r0_hampers a_r0_kinds v_r0_weights v_r0_figures v_r0_wants0 v_r0_left0 v_r0_done0 v_r0_refusals v_r0_letters v_r0_letterMany v_r0_at v_r0_isBad v_r0_statements v_r0_placeIn v_r0_letterOf v_r0_told v_r0_kept v_r0_imaged v_r0_hasImage v_r0_place0 v_r0_isTaking v_r0_keptIn v_r0_turns0 v_r0_turnOf v_r0_turned v_r0_order0 v_r0_likely0 v_r0_leftThen v_r0_row v_r0_rowMany v_r0_seed r0_days r0_things 0 r0_hampers r0_kinds) H locs → lv_has ls 3 [(0, .ref a_r0), (1, .int y1_1), (2, .int y2_3)] → W p l e (rmd 1) s m ([.ref a_r0] : List Value).toArray below meth c H locs 0 0 Q (F0 m 17 ls []) := by
          intro k
          induction k with
          | zero => intro y2_3 hw; exact absurd hw wh_0
          | succ k ih_3 =>
            intro y2_3 hw H locs ls hW hl
            obtain ⟨z_3, hr, hz1_3, hz2_3⟩ := wh_s hw
            have hr : F_M_rope_L17 r0_things r0_hampers r0_kinds y1_1 y2_3 = some z_3 := hr
            unfold F_M_rope_L17 at hr
            refine lv_iload_n hx hb d_M_rope_17 rfl (lv_at hl 2 rfl) ?_
            refine lv_aload_n hx hb d_M_rope_18 rfl (lv_at hl 0 rfl) ?_
            refine k_get i_M C hW 0 rfl rfl 1 (by decide) qf_M_71 rfl rfl d_M_rope_19 ?_
            refine lv_icmp_ge (tgt := 56) hx hb d_M_rope_22 (by decide) (fun c_4 => ?_) (fun c_4 => ?_)
            · replace hr := ip c_4 hr
              exact hx_3 _ (hz2_3 _ (Option.some.inj hr).symm) _ _ _ hW (lv_sub hl [0, 1] rfl)
            · replace hr := iN c_4 hr
              refine lv_aload_n hx hb d_M_rope_25 rfl (lv_at hl 0 rfl) ?_
              refine k_get i_M C hW 0 rfl rfl 5 (by decide) qf_M_19 rfl rfl d_M_rope_26 ?_
              refine lv_iload_n hx hb d_M_rope_29 rfl (lv_at hl 1 rfl) ?_
              obtain ⟨h_5, hr⟩ := ck_some hr
              refine k_iald C hW 1 rfl h_5 d_M_rope_30 ?_
              refine lv_iload_n hx hb d_M_rope_31 rfl (lv_at hl 2 rfl) ?_
              obtain ⟨q_6, hc_6, hr⟩ := ob hr
              have ct_6 := C_M_hasBit l D cI cS (r0_hampers (Int32.toNatClampNeg y1_1)) y2_3 q_6 hc_6
              refine k_goIp hA hW [] rfl rfl (k_runS C hA hW mw_M_hasBit ms_M_hasBit (ct_6.2 _) [] rfl rfl qm_M_85 ⟨Nat.le_of_ble_eq_true rfl, Nat.le_of_ble_eq_true rfl, Nat.zero_le _, Nat.zero_le _⟩ rfl rfl (Nat.le_of_ble_eq_true rfl) hl.1 d_M_rope_32) (fun H locs hW => ?_)
              refine lv_if_eq (tgt := 50) hx hb d_M_rope_35 (by decide) (fun c_7 => ?_) (fun c_7 => ?_)
              · replace hr := ip c_7 hr
                refine lv_iinc (v := (y2_3 + 1)) (lv' := [(2, .int (y2_3 + 1)), (0, .ref a_r0), (1, .int y1_1)]) hx hb d_M_rope_50 hl (k := 2) rfl rfl (by decide) rfl (fun ls hl => ?_)
                refine lv_goto (tgt := 17) hx hb d_M_rope_53 (by decide) ?_
                exact ih_3 (y2_3 + 1) (hz1_3 _ (Option.some.inj hr).symm) _ _ _ hW (lv_sub hl [1, 2, 0] rfl)
              · replace hr := iN c_7 hr
                refine lv_aload_n hx hb d_M_rope_38 rfl (lv_at hl 0 rfl) ?_
                refine k_get i_M C hW 0 rfl rfl 2 (by decide) qf_M_13 rfl rfl d_M_rope_39 ?_
                refine lv_iload_n hx hb d_M_rope_42 rfl (lv_at hl 2 rfl) ?_
                obtain ⟨h_8, hr⟩ := ck_some hr
                refine k_iald C hW 2 rfl h_8 d_M_rope_43 ?_
                refine lv_iconst (v := 3) hx hb d_M_rope_44 (by decide) ?_
                refine lv_icmp_ne (tgt := 50) hx hb d_M_rope_45 (by decide) (fun c_9 => ?_) (fun c_9 => ?_)
                · replace hr := iN c_9 hr
                  refine lv_iinc (v := (y2_3 + 1)) (lv' := [(2, .int (y2_3 + 1)), (0, .ref a_r0), (1, .int y1_1)]) hx hb d_M_rope_50 hl (k := 2) rfl rfl (by decide) rfl (fun ls hl => ?_)
                  refine lv_goto (tgt := 17) hx hb d_M_rope_53 (by decide) ?_
                  exact ih_3 (y2_3 + 1) (hz1_3 _ (Option.some.inj hr).symm) _ _ _ hW (lv_sub hl [1, 2, 0] rfl)
                · replace hr := ip c_9 hr
                  refine lv_iload_n hx hb d_M_rope_48 rfl (lv_at hl 1 rfl) ?_
                  have hr := sx_r (hz2_3 _ (Option.some.inj hr).symm).symm hk_3
                  have hr := sx_r (hz2_1 _ (Option.some.inj hr).symm).symm hk_1
                  obtain rfl := Option.some.inj hr
                  rw [hQ]; exact k_iret C hret hW d_M_rope_49
        exact hl_3 _ 0 hw_3 _ _ _ hW (lv_sub hl [1, 2, 0] rfl)
  exact hl_1 _ 0 hw_1 _ _ _ hW (lv_sub hl [1, 0] rfl)
def w_M_row (cI : ClassId) (a_r0 : Nat) (a_r0_refusals : Nat) (a_r0_row : Nat) (v_r0_weights v_r0_things v_r0_kinds v_r0_figures v_r0_days v_r0_hampers v_r0_wants0 v_r0_left0 v_r0_done0 v_r0_letters v_r0_letterMany v_r0_at v_r0_isBad v_r0_statements v_r0_placeIn v_r0_letterOf v_r0_told v_r0_kept v_r0_imaged v_r0_hasImage v_r0_place0 v_r0_isTaking v_r0_keptIn v_r0_turns0 v_r0_turnOf v_r0_turned v_r0_order0 v_r0_likely0 v_r0_leftThen v_r0_seed : Value) (r0_rowMany : Int32) (r0_thrown : Int32) (r0_refusals : Nat → Int32) (r0_row : Nat → Int32) : va_W := [(a_r0, .inr (9, [v_r0_weights, v_r0_things, v_r0_kinds, v_r0_figures, v_r0_days, v_r0_hampers, v_r0_wants0, v_r0_left0, v_r0_done0, .int r0_thrown, .ref a_r0_refusals, v_r0_letters, v_r0_letterMany, v_r0_at, v_r0_isBad, v_r0_statements, v_r0_placeIn, v_r0_letterOf, v_r0_told, v_r0_kept, v_r0_imaged, v_r0_hasImage, v_r0_place0, v_r0_isTaking, v_r0_keptIn, v_r0_turns0, v_r0_turnOf, v_r0_turned, v_r0_order0, v_r0_likely0, v_r0_leftThen, .ref a_r0_row, .int r0_rowMany, v_r0_seed])), (a_r0_refusals, .inl (cI, 7, .inl r0_refusals)), (a_r0_row, .inl (cI, 12, .inl r0_row))]
def F_M_row_J31_3 (r0_rowMany : Int32) (r0_refusals : Nat → Int32) (r0_row : Nat → Int32) : Option (Int32 × (Int32) × (Int32) × (Nat → Int32) × (Nat → Int32)) :=
  ((F_M_refuse r0_refusals ((-6) : Int32)).bind (fun q_4 => (some (q_4.1, r0_rowMany, 0, q_4.2, r0_row))))
def F_M_row (r0_rowMany : Int32) (r0_refusals : Nat → Int32) (r0_row : Nat → Int32) (x1 : Int32) : Option (Int32 × (Int32) × (Int32) × (Nat → Int32) × (Nat → Int32)) :=
  (if (0 : Int32) ≤ x1 then (if (99 : Int32) < x1 then (F_M_row_J31_3 r0_rowMany r0_refusals r0_row) else (if r0_rowMany = 12 then (F_M_row_J31_3 r0_rowMany r0_refusals r0_row) else (ck r0_rowMany 12 (some ((r0_rowMany + 1), (r0_rowMany + 1), 0, r0_refusals, (upd r0_row (Int32.toNatClampNeg r0_rowMany) x1)))))) else ((F_M_refuse r0_refusals ((-4) : Int32)).bind (fun q_7 => (some (q_7.1, r0_rowMany, 0, q_7.2, r0_row)))))
set_option maxHeartbeats 4000000 in
set_option maxRecDepth 100000 in
theorem C_M_row (l : Launch) (D : va_G) (cI cS : ClassId) (a_r0 : Nat) (a_r0_refusals : Nat) (a_r0_row : Nat) (v_r0_weights v_r0_things v_r0_kinds v_r0_figures v_r0_days v_r0_hampers v_r0_wants0 v_r0_left0 v_r0_done0 v_r0_letters v_r0_letterMany v_r0_at v_r0_isBad v_r0_statements v_r0_placeIn v_r0_letterOf v_r0_told v_r0_kept v_r0_imaged v_r0_hasImage v_r0_place0 v_r0_isTaking v_r0_keptIn v_r0_turns0 v_r0_turnOf v_r0_turned v_r0_order0 v_r0_likely0 v_r0_leftThen v_r0_seed : Value) (r0_rowMany : Int32) (r0_thrown : Int32) (r0_refusals : Nat → Int32) (r0_row : Nat → Int32) (x1 : Int32) (o : Int32 × (Int32) × (Int32) × (Nat → Int32) × (Nat → Int32)) (hr : F_M_row r0_rowMany r0_refusals r0_row x1 = some o) : ctI l y_M_row (Cond.code y_M_row b_M_row 2 (some FieldType.int)) (rmd 1) D (kTy cI cS) [.ref a_r0, .int x1] (w_M_row cI a_r0 a_r0_refusals a_r0_row v_r0_weights v_r0_things v_r0_kinds v_r0_figures v_r0_days v_r0_hampers v_r0_wants0 v_r0_left0 v_r0_done0 v_r0_letters v_r0_letterMany v_r0_at v_r0_isBad v_r0_statements v_r0_placeIn v_r0_letterOf v_r0_told v_r0_kept v_r0_imaged v_r0_hasImage v_r0_place0 v_r0_isTaking v_r0_keptIn v_r0_turns0 v_r0_turnOf v_r0_turned v_r0_order0 v_r0_likely0 v_r0_leftThen v_r0_seed r0_rowMany r0_thrown r0_refusals r0_row) (w_M_row cI a_r0 a_r0_refusals a_r0_row v_r0_weights v_r0_things v_r0_kinds v_r0_figures v_r0_days v_r0_hampers v_r0_wants0 v_r0_left0 v_r0_done0 v_r0_letters v_r0_letterMany v_r0_at v_r0_isBad v_r0_statements v_r0_placeIn v_r0_letterOf v_r0_told v_r0_kept v_r0_imaged v_r0_hasImage v_r0_place0 v_r0_isTaking v_r0_keptIn v_r0_turns0 v_r0_turnOf v_r0_turned v_r0_order0 v_r0_likely0 v_r0_leftThen v_r0_seed o.2.1 o.2.2.1 o.2.2.2.1 o.2.2.2.2) o.1 := by
  unfold F_M_row at hr
  refine ⟨rfl, fun sz => ct_of (w0 := (w_M_row cI a_r0 a_r0_refusals a_r0_row v_r0_weights v_r0_things v_r0_kinds v_r0_figures v_r0_days v_r0_hampers v_r0_wants0 v_r0_left0 v_r0_done0 v_r0_letters v_r0_letterMany v_r0_at v_r0_isBad v_r0_statements v_r0_placeIn v_r0_letterOf v_r0_told v_r0_kept v_r0_imaged v_r0_hasImage v_r0_place0 v_r0_isTaking v_r0_keptIn v_r0_turns0 v_r0_turnOf v_r0_turned v_r0_order0 v_r0_likely0 v_r0_leftThen v_r0_seed r0_rowMany r0_thrown r0_refusals r0_row)) (Qc := fun A => qI D (w_M_row cI a_r0 a_r0_refusals a_r0_row v_r0_weights v_r0_things v_r0_kinds v_r0_figures v_r0_days v_r0_hampers v_r0_wants0 v_r0_left0 v_r0_done0 v_r0_letters v_r0_letterMany v_r0_at v_r0_isBad v_r0_statements v_r0_placeIn v_r0_letterOf v_r0_told v_r0_kept v_r0_imaged v_r0_hasImage v_r0_place0 v_r0_isTaking v_r0_keptIn v_r0_turns0 v_r0_turnOf v_r0_turned v_r0_order0 v_r0_likely0 v_r0_leftThen v_r0_seed o.2.1 o.2.2.1 o.2.2.2.1 o.2.2.2.2) o.1 A) rfl (Nat.le_of_ble_eq_true rfl) ?_ sz⟩
  intro p e s m below meth c A hA C hret ls hl hW
  have C : cx p s m ([.ref a_r0, .int x1] : List Value).toArray meth c b_M_row 2 R_M D (kTy cI cS) (Cond.code y_M_row b_M_row 2 (some FieldType.int)) := C
  obtain ⟨hx, hb, hml, hown, hts, hK, hlk, hN⟩ := id C
  have hl : lv_has ls 2 [(0, .ref a_r0), (1, .int x1)] := hl
  obtain ⟨Q, hQ⟩ : ∃ Q, Q = MQ below (qI D (w_M_row cI a_r0 a_r0_refusals a_r0_row v_r0_weights v_r0_things v_r0_kinds v_r0_figures v_r0_days v_r0_hampers v_r0_wants0 v_r0_left0 v_r0_done0 v_r0_letters v_r0_letterMany v_r0_at v_r0_isBad v_r0_statements v_r0_placeIn v_r0_letterOf v_r0_told v_r0_kept v_r0_imaged v_r0_hasImage v_r0_place0 v_r0_isTaking v_r0_keptIn v_r0_turns0 v_r0_turnOf v_r0_turned v_r0_order0 v_r0_likely0 v_r0_leftThen v_r0_seed o.2.1 o.2.2.1 o.2.2.2.1 o.2.2.2.2) o.1 A) ([.ref a_r0, .int x1] : List Value).toArray s 0 0 A := ⟨_, rfl⟩
  rw [← hQ]
  refine lv_aload_n hx hb d_M_row_0 rfl (lv_at hl 0 rfl) ?_
  refine lv_iconst (v := 0) hx hb d_M_row_1 (by decide) ?_
  refine k_put i_M t_M_ok n_M C hW 0 rfl rfl 9 (by decide) qf_M_67 rfl rfl (ty := .int) rfl rfl rfl (Nat.le_of_ble_eq_true rfl) (ws' := (w_M_row cI a_r0 a_r0_refusals a_r0_row v_r0_weights v_r0_things v_r0_kinds v_r0_figures v_r0_days v_r0_hampers v_r0_wants0 v_r0_left0 v_r0_done0 v_r0_letters v_r0_letterMany v_r0_at v_r0_isBad v_r0_statements v_r0_placeIn v_r0_letterOf v_r0_told v_r0_kept v_r0_imaged v_r0_hasImage v_r0_place0 v_r0_isTaking v_r0_keptIn v_r0_turns0 v_r0_turnOf v_r0_turned v_r0_order0 v_r0_likely0 v_r0_leftThen v_r0_seed r0_rowMany 0 r0_refusals r0_row)) rfl d_M_row_2 (fun H locs hW => ?_)
  refine lv_iload_n hx hb d_M_row_5 rfl (lv_at hl 1 rfl) ?_
  refine lv_if_ge (tgt := 16) hx hb d_M_row_6 (by decide) (fun c_1 => ?_) (fun c_1 => ?_)
  · replace hr := ip c_1 hr
    refine lv_iload_n hx hb d_M_row_16 rfl (lv_at hl 1 rfl) ?_
    refine lv_bipush (v := 99) hx hb d_M_row_17 (by decide) ?_
    have hJ_3 : ∀ (_ : Unit), F_M_row_J31_3 r0_rowMany r0_refusals r0_row = some o → ∀ (H : Heap) (locs : List Loc) (ls : Array Slot), wd A s.heap D (w_M_row cI a_r0 a_r0_refusals a_r0_row v_r0_weights v_r0_things v_r0_kinds v_r0_figures v_r0_days v_r0_hampers v_r0_wants0 v_r0_left0 v_r0_done0 v_r0_letters v_r0_letterMany v_r0_at v_r0_isBad v_r0_statements v_r0_placeIn v_r0_letterOf v_r0_told v_r0_kept v_r0_imaged v_r0_hasImage v_r0_place0 v_r0_isTaking v_r0_keptIn v_r0_turns0 v_r0_turnOf v_r0_turned v_r0_order0 v_r0_likely0 v_r0_leftThen v_r0_seed r0_rowMany 0 r0_refusals r0_row) H locs → lv_has ls 2 [(0, .ref a_r0)] → W p l e (rmd 1) s m ([.ref a_r0, .int x1] : List Value).toArray below meth c H locs 0 0 Q (F0 m 31 ls []) := by
      intro _ hr H locs ls hW hl
      unfold F_M_row_J31_3 at hr
      refine lv_aload_n hx hb d_M_row_31 rfl (lv_at hl 0 rfl) ?_
      refine lv_bipush (v := (-6)) hx hb d_M_row_32 (by decide) ?_
      obtain ⟨q_4, hc_4, hr⟩ := ob hr
      have ct_4 := C_M_refuse l D cI cS a_r0 a_r0_refusals v_r0_weights v_r0_things v_r0_kinds v_r0_figures v_r0_days v_r0_hampers v_r0_wants0 v_r0_left0 v_r0_done0 (Value.int 0) v_r0_letters v_r0_letterMany v_r0_at v_r0_isBad v_r0_statements v_r0_placeIn v_r0_letterOf v_r0_told v_r0_kept v_r0_imaged v_r0_hasImage v_r0_place0 v_r0_isTaking v_r0_keptIn v_r0_turns0 v_r0_turnOf v_r0_turned v_r0_order0 v_r0_likely0 v_r0_leftThen (Value.ref a_r0_row) (Value.int r0_rowMany) v_r0_seed r0_refusals (-6) q_4 hc_4
      refine k_goI hA hW [0, 1] rfl ct_4.1 (ws' := (w_M_row cI a_r0 a_r0_refusals a_r0_row v_r0_weights v_r0_things v_r0_kinds v_r0_figures v_r0_days v_r0_hampers v_r0_wants0 v_r0_left0 v_r0_done0 v_r0_letters v_r0_letterMany v_r0_at v_r0_isBad v_r0_statements v_r0_placeIn v_r0_letterOf v_r0_told v_r0_kept v_r0_imaged v_r0_hasImage v_r0_place0 v_r0_isTaking v_r0_keptIn v_r0_turns0 v_r0_turnOf v_r0_turned v_r0_order0 v_r0_likely0 v_r0_leftThen v_r0_seed r0_rowMany 0 q_4.2 r0_row)) rfl (k_runV C hA hW mw_M_refuse mv_M_refuse (ct_4.2 _) [0, 1] rfl rfl 0 rfl rfl qm_M_108 ⟨Nat.le_of_ble_eq_true rfl, Nat.le_of_ble_eq_true rfl, Nat.zero_le _, Nat.zero_le _⟩ rfl rfl (Nat.le_of_ble_eq_true rfl) hl.1 d_M_row_34) (fun H locs hW => ?_)
      obtain rfl := Option.some.inj hr
      rw [hQ]; exact k_iret C hret hW d_M_row_37
    refine lv_icmp_gt (tgt := 31) hx hb d_M_row_19 (by decide) (fun c_2 => ?_) (fun c_2 => ?_)
    · replace hr := ip c_2 hr
      exact hJ_3 () hr _ _ _ hW (lv_sub hl [0] rfl)
    · replace hr := iN c_2 hr
      refine lv_aload_n hx hb d_M_row_22 rfl (lv_at hl 0 rfl) ?_
      refine k_get i_M C hW 0 rfl rfl 32 (by decide) qf_M_252 rfl rfl d_M_row_23 ?_
      refine lv_bipush (v := 12) hx hb d_M_row_26 (by decide) ?_
      refine lv_icmp_ne (tgt := 38) hx hb d_M_row_28 (by decide) (fun c_5 => ?_) (fun c_5 => ?_)
      · replace hr := iN c_5 hr
        refine lv_aload_n hx hb d_M_row_38 rfl (lv_at hl 0 rfl) ?_
        refine k_get i_M C hW 0 rfl rfl 31 (by decide) qf_M_64 rfl rfl d_M_row_39 ?_
        refine lv_aload_n hx hb d_M_row_42 rfl (lv_at hl 0 rfl) ?_
        refine k_get i_M C hW 0 rfl rfl 32 (by decide) qf_M_252 rfl rfl d_M_row_43 ?_
        refine lv_iload_n hx hb d_M_row_46 rfl (lv_at hl 1 rfl) ?_
        obtain ⟨h_6, hr⟩ := ck_some hr
        refine k_iast C hW 2 rfl h_6 (ws' := (w_M_row cI a_r0 a_r0_refusals a_r0_row v_r0_weights v_r0_things v_r0_kinds v_r0_figures v_r0_days v_r0_hampers v_r0_wants0 v_r0_left0 v_r0_done0 v_r0_letters v_r0_letterMany v_r0_at v_r0_isBad v_r0_statements v_r0_placeIn v_r0_letterOf v_r0_told v_r0_kept v_r0_imaged v_r0_hasImage v_r0_place0 v_r0_isTaking v_r0_keptIn v_r0_turns0 v_r0_turnOf v_r0_turned v_r0_order0 v_r0_likely0 v_r0_leftThen v_r0_seed r0_rowMany 0 r0_refusals (upd r0_row (Int32.toNatClampNeg r0_rowMany) x1))) rfl d_M_row_47 (fun H locs hW => ?_)
        refine lv_aload_n hx hb d_M_row_48 rfl (lv_at hl 0 rfl) ?_
        refine lv_dup hx hb d_M_row_49 rfl ?_
        refine k_get i_M C hW 0 rfl rfl 32 (by decide) qf_M_252 rfl rfl d_M_row_50 ?_
        refine lv_iconst (v := 1) hx hb d_M_row_53 (by decide) ?_
        refine lv_iadd hx hb d_M_row_54 ?_
        refine k_put i_M t_M_ok n_M C hW 0 rfl rfl 32 (by decide) qf_M_252 rfl rfl (ty := .int) rfl rfl rfl (Nat.le_of_ble_eq_true rfl) (ws' := (w_M_row cI a_r0 a_r0_refusals a_r0_row v_r0_weights v_r0_things v_r0_kinds v_r0_figures v_r0_days v_r0_hampers v_r0_wants0 v_r0_left0 v_r0_done0 v_r0_letters v_r0_letterMany v_r0_at v_r0_isBad v_r0_statements v_r0_placeIn v_r0_letterOf v_r0_told v_r0_kept v_r0_imaged v_r0_hasImage v_r0_place0 v_r0_isTaking v_r0_keptIn v_r0_turns0 v_r0_turnOf v_r0_turned v_r0_order0 v_r0_likely0 v_r0_leftThen v_r0_seed (r0_rowMany + 1) 0 r0_refusals (upd r0_row (Int32.toNatClampNeg r0_rowMany) x1))) rfl d_M_row_55 (fun H locs hW => ?_)
        refine lv_aload_n hx hb d_M_row_58 rfl (lv_at hl 0 rfl) ?_
        refine k_get i_M C hW 0 rfl rfl 32 (by decide) qf_M_252 rfl rfl d_M_row_59 ?_
        obtain rfl := Option.some.inj hr
        rw [hQ]; exact k_iret C hret hW d_M_row_62
      · replace hr := ip c_5 hr
        exact hJ_3 () hr _ _ _ hW (lv_sub hl [0] rfl)
  · replace hr := iN c_1 hr
    refine lv_aload_n hx hb d_M_row_9 rfl (lv_at hl 0 rfl) ?_
    refine lv_bipush (v := (-4)) hx hb d_M_row_10 (by decide) ?_
    obtain ⟨q_7, hc_7, hr⟩ := ob hr
    have ct_7 := C_M_refuse l D cI cS a_r0 a_r0_refusals v_r0_weights v_r0_things v_r0_kinds v_r0_figures v_r0_days v_r0_hampers v_r0_wants0 v_r0_left0 v_r0_done0 (Value.int 0) v_r0_letters v_r0_letterMany v_r0_at v_r0_isBad v_r0_statements v_r0_placeIn v_r0_letterOf v_r0_told v_r0_kept v_r0_imaged v_r0_hasImage v_r0_place0 v_r0_isTaking v_r0_keptIn v_r0_turns0 v_r0_turnOf v_r0_turned v_r0_order0 v_r0_likely0 v_r0_leftThen (Value.ref a_r0_row) (Value.int r0_rowMany) v_r0_seed r0_refusals (-4) q_7 hc_7
    refine k_goI hA hW [0, 1] rfl ct_7.1 (ws' := (w_M_row cI a_r0 a_r0_refusals a_r0_row v_r0_weights v_r0_things v_r0_kinds v_r0_figures v_r0_days v_r0_hampers v_r0_wants0 v_r0_left0 v_r0_done0 v_r0_letters v_r0_letterMany v_r0_at v_r0_isBad v_r0_statements v_r0_placeIn v_r0_letterOf v_r0_told v_r0_kept v_r0_imaged v_r0_hasImage v_r0_place0 v_r0_isTaking v_r0_keptIn v_r0_turns0 v_r0_turnOf v_r0_turned v_r0_order0 v_r0_likely0 v_r0_leftThen v_r0_seed r0_rowMany 0 q_7.2 r0_row)) rfl (k_runV C hA hW mw_M_refuse mv_M_refuse (ct_7.2 _) [0, 1] rfl rfl 0 rfl rfl qm_M_108 ⟨Nat.le_of_ble_eq_true rfl, Nat.le_of_ble_eq_true rfl, Nat.zero_le _, Nat.zero_le _⟩ rfl rfl (Nat.le_of_ble_eq_true rfl) hl.1 d_M_row_12) (fun H locs hW => ?_)
    obtain rfl := Option.some.inj hr
    rw [hQ]; exact k_iret C hret hW d_M_row_15
def w_M_smallest (cI : ClassId) (a_r0 : Nat) (a_r0_figures : Nat) (a_r0_kinds : Nat) (a_r0_refusals : Nat) (v_r0_weights v_r0_days v_r0_hampers v_r0_wants0 v_r0_left0 v_r0_done0 v_r0_letters v_r0_letterMany v_r0_at v_r0_isBad v_r0_statements v_r0_placeIn v_r0_letterOf v_r0_told v_r0_kept v_r0_imaged v_r0_hasImage v_r0_place0 v_r0_isTaking v_r0_keptIn v_r0_turns0 v_r0_turnOf v_r0_turned v_r0_order0 v_r0_likely0 v_r0_leftThen v_r0_row v_r0_rowMany v_r0_seed : Value) (r0_things : Int32) (r0_thrown : Int32) (r0_figures : Nat → Int32) (r0_kinds : Nat → Int32) (r0_refusals : Nat → Int32) : va_W := [(a_r0, .inr (9, [v_r0_weights, .int r0_things, .ref a_r0_kinds, .ref a_r0_figures, v_r0_days, v_r0_hampers, v_r0_wants0, v_r0_left0, v_r0_done0, .int r0_thrown, .ref a_r0_refusals, v_r0_letters, v_r0_letterMany, v_r0_at, v_r0_isBad, v_r0_statements, v_r0_placeIn, v_r0_letterOf, v_r0_told, v_r0_kept, v_r0_imaged, v_r0_hasImage, v_r0_place0, v_r0_isTaking, v_r0_keptIn, v_r0_turns0, v_r0_turnOf, v_r0_turned, v_r0_order0, v_r0_likely0, v_r0_leftThen, v_r0_row, v_r0_rowMany, v_r0_seed])), (a_r0_figures, .inl (cI, 8, .inl r0_figures)), (a_r0_kinds, .inl (cI, 8, .inl r0_kinds)), (a_r0_refusals, .inl (cI, 7, .inl r0_refusals))]
def F_M_smallest_J62_6 (r0_things : Int32) (r0_figures : Nat → Int32) (r0_kinds : Nat → Int32) (y2_3 : Int32) (y3_3 : Int32) (x1 : Int32) (s0_6 : Int32) : Option (((Int32) × (Int32)) ⊕ ((Int32))) :=
  (if s0_6 = 0 then (some (.inl (y2_3, (y3_3 + 1)))) else ((F_M_couldBe r0_things r0_figures r0_kinds y3_3).bind (fun q_8 => (if q_8 = x1 then (some (.inl (y3_3, (y3_3 + 1)))) else (some (.inl (y2_3, (y3_3 + 1))))))))
def F_M_smallest_J57_10 (r0_things : Int32) (r0_figures : Nat → Int32) (r0_kinds : Nat → Int32) (y2_3 : Int32) (y3_3 : Int32) (x1 : Int32) : Option (((Int32) × (Int32)) ⊕ ((Int32))) :=
  (F_M_smallest_J62_6 r0_things r0_figures r0_kinds y2_3 y3_3 x1 1)
def F_M_smallest_L32 (r0_things : Int32) (r0_figures : Nat → Int32) (r0_kinds : Nat → Int32) (x1 : Int32) (y2_3 : Int32) (y3_3 : Int32) : Option (((Int32) × (Int32)) ⊕ ((Int32))) :=
  (if ((1 : Int32) <<< ((r0_things : Int32) &&& 31)) ≤ y3_3 then (some (.inr y2_3)) else (if y2_3 < 0 then (F_M_smallest_J57_10 r0_things r0_figures r0_kinds y2_3 y3_3 x1) else ((F_M_onesOf y3_3).bind (fun q_11 => ((F_M_onesOf y2_3).bind (fun q_12 => (if q_12 ≤ q_11 then (F_M_smallest_J62_6 r0_things r0_figures r0_kinds y2_3 y3_3 x1 0) else (F_M_smallest_J57_10 r0_things r0_figures r0_kinds y2_3 y3_3 x1))))))))
def F_M_smallest (r0_things : Int32) (r0_figures : Nat → Int32) (r0_kinds : Nat → Int32) (r0_refusals : Nat → Int32) (x1 : Int32) : Option (Int32 × (Int32) × (Nat → Int32)) :=
  ((F_M_wrongNumber x1 (1 : Int32) (63 : Int32)).bind (fun q_1 => (if (0 : Int32) ≤ q_1 then ((wh (fun (s : (Int32) × (Int32)) => F_M_smallest_L32 r0_things r0_figures r0_kinds x1 s.1 s.2) 400 (((-9) : Int32), (0 : Int32))).bind (fun e_3 => (some (e_3, 0, r0_refusals)))) else ((F_M_wrongNumber x1 (1 : Int32) (63 : Int32)).bind (fun q_14 => ((F_M_refuse r0_refusals q_14).bind (fun q_15 => (some (q_15.1, 0, q_15.2)))))))))
set_option maxHeartbeats 4000000 in
set_option maxRecDepth 100000 in
theorem C_M_smallest (l : Launch) (D : va_G) (cI cS : ClassId) (a_r0 : Nat) (a_r0_figures : Nat) (a_r0_kinds : Nat) (a_r0_refusals : Nat) (v_r0_weights v_r0_days v_r0_hampers v_r0_wants0 v_r0_left0 v_r0_done0 v_r0_letters v_r0_letterMany v_r0_at v_r0_isBad v_r0_statements v_r0_placeIn v_r0_letterOf v_r0_told v_r0_kept v_r0_imaged v_r0_hasImage v_r0_place0 v_r0_isTaking v_r0_keptIn v_r0_turns0 v_r0_turnOf v_r0_turned v_r0_order0 v_r0_likely0 v_r0_leftThen v_r0_row v_r0_rowMany v_r0_seed : Value) (r0_things : Int32) (r0_thrown : Int32) (r0_figures : Nat → Int32) (r0_kinds : Nat → Int32) (r0_refusals : Nat → Int32) (x1 : Int32) (o : Int32 × (Int32) × (Nat → Int32)) (hr : F_M_smallest r0_things r0_figures r0_kinds r0_refusals x1 = some o) : ctI l y_M_smallest (Cond.code y_M_smallest b_M_smallest 5 (some FieldType.int)) (rmd 3) D (kTy cI cS) [.ref a_r0, .int x1] (w_M_smallest cI a_r0 a_r0_figures a_r0_kinds a_r0_refusals v_r0_weights v_r0_days v_r0_hampers v_r0_wants0 v_r0_left0 v_r0_done0 v_r0_letters v_r0_letterMany v_r0_at v_r0_isBad v_r0_statements v_r0_placeIn v_r0_letterOf v_r0_told v_r0_kept v_r0_imaged v_r0_hasImage v_r0_place0 v_r0_isTaking v_r0_keptIn v_r0_turns0 v_r0_turnOf v_r0_turned v_r0_order0 v_r0_likely0 v_r0_leftThen v_r0_row v_r0_rowMany v_r0_seed r0_things r0_thrown r0_figures r0_kinds r0_refusals) (w_M_smallest cI a_r0 a_r0_figures a_r0_kinds a_r0_refusals v_r0_weights v_r0_days v_r0_hampers v_r0_wants0 v_r0_left0 v_r0_done0 v_r0_letters v_r0_letterMany v_r0_at v_r0_isBad v_r0_statements v_r0_placeIn v_r0_letterOf v_r0_told v_r0_kept v_r0_imaged v_r0_hasImage v_r0_place0 v_r0_isTaking v_r0_keptIn v_r0_turns0 v_r0_turnOf v_r0_turned v_r0_order0 v_r0_likely0 v_r0_leftThen v_r0_row v_r0_rowMany v_r0_seed r0_things o.2.1 r0_figures r0_kinds o.2.2) o.1 := by
  unfold F_M_smallest at hr
  refine ⟨rfl, fun sz => ct_of (w0 := (w_M_smallest cI a_r0 a_r0_figures a_r0_kinds a_r0_refusals v_r0_weights v_r0_days v_r0_hampers v_r0_wants0 v_r0_left0 v_r0_done0 v_r0_letters v_r0_letterMany v_r0_at v_r0_isBad v_r0_statements v_r0_placeIn v_r0_letterOf v_r0_told v_r0_kept v_r0_imaged v_r0_hasImage v_r0_place0 v_r0_isTaking v_r0_keptIn v_r0_turns0 v_r0_turnOf v_r0_turned v_r0_order0 v_r0_likely0 v_r0_leftThen v_r0_row v_r0_rowMany v_r0_seed r0_things r0_thrown r0_figures r0_kinds r0_refusals)) (Qc := fun A => qI D (w_M_smallest cI a_r0 a_r0_figures a_r0_kinds a_r0_refusals v_r0_weights v_r0_days v_r0_hampers v_r0_wants0 v_r0_left0 v_r0_done0 v_r0_letters v_r0_letterMany v_r0_at v_r0_isBad v_r0_statements v_r0_placeIn v_r0_letterOf v_r0_told v_r0_kept v_r0_imaged v_r0_hasImage v_r0_place0 v_r0_isTaking v_r0_keptIn v_r0_turns0 v_r0_turnOf v_r0_turned v_r0_order0 v_r0_likely0 v_r0_leftThen v_r0_row v_r0_rowMany v_r0_seed r0_things o.2.1 r0_figures r0_kinds o.2.2) o.1 A) rfl (Nat.le_of_ble_eq_true rfl) ?_ sz⟩
  intro p e s m below meth c A hA C hret ls hl hW
  have C : cx p s m ([.ref a_r0, .int x1] : List Value).toArray meth c b_M_smallest 5 R_M D (kTy cI cS) (Cond.code y_M_smallest b_M_smallest 5 (some FieldType.int)) := C
  obtain ⟨hx, hb, hml, hown, hts, hK, hlk, hN⟩ := id C
  have hl : lv_has ls 5 [(0, .ref a_r0), (1, .int x1)] := hl
  obtain ⟨Q, hQ⟩ : ∃ Q, Q = MQ below (qI D (w_M_smallest cI a_r0 a_r0_figures a_r0_kinds a_r0_refusals v_r0_weights v_r0_days v_r0_hampers v_r0_wants0 v_r0_left0 v_r0_done0 v_r0_letters v_r0_letterMany v_r0_at v_r0_isBad v_r0_statements v_r0_placeIn v_r0_letterOf v_r0_told v_r0_kept v_r0_imaged v_r0_hasImage v_r0_place0 v_r0_isTaking v_r0_keptIn v_r0_turns0 v_r0_turnOf v_r0_turned v_r0_order0 v_r0_likely0 v_r0_leftThen v_r0_row v_r0_rowMany v_r0_seed r0_things o.2.1 r0_figures r0_kinds o.2.2) o.1 A) ([.ref a_r0, .int x1] : List Value).toArray s 0 0 A := ⟨_, rfl⟩
  rw [← hQ]
  refine lv_aload_n hx hb d_M_smallest_0 rfl (lv_at hl 0 rfl) ?_
  refine lv_iconst (v := 0) hx hb d_M_smallest_1 (by decide) ?_
  refine k_put i_M t_M_ok n_M C hW 0 rfl rfl 9 (by decide) qf_M_67 rfl rfl (ty := .int) rfl rfl rfl (Nat.le_of_ble_eq_true rfl) (ws' := (w_M_smallest cI a_r0 a_r0_figures a_r0_kinds a_r0_refusals v_r0_weights v_r0_days v_r0_hampers v_r0_wants0 v_r0_left0 v_r0_done0 v_r0_letters v_r0_letterMany v_r0_at v_r0_isBad v_r0_statements v_r0_placeIn v_r0_letterOf v_r0_told v_r0_kept v_r0_imaged v_r0_hasImage v_r0_place0 v_r0_isTaking v_r0_keptIn v_r0_turns0 v_r0_turnOf v_r0_turned v_r0_order0 v_r0_likely0 v_r0_leftThen v_r0_row v_r0_rowMany v_r0_seed r0_things 0 r0_figures r0_kinds r0_refusals)) rfl d_M_smallest_2 (fun H locs hW => ?_)
  refine lv_iload_n hx hb d_M_smallest_5 rfl (lv_at hl 1 rfl) ?_
  refine lv_iconst (v := 1) hx hb d_M_smallest_6 (by decide) ?_
  refine lv_bipush (v := 63) hx hb d_M_smallest_7 (by decide) ?_
  obtain ⟨q_1, hc_1, hr⟩ := ob hr
  have ct_1 := C_M_wrongNumber l D cI cS x1 1 63 q_1 hc_1
  refine k_goIp hA hW [] rfl rfl (k_runS C hA hW mw_M_wrongNumber ms_M_wrongNumber (ct_1.2 _) [] rfl rfl qm_M_208 ⟨Nat.le_of_ble_eq_true rfl, Nat.le_of_ble_eq_true rfl, Nat.zero_le _, Nat.zero_le _⟩ rfl rfl (Nat.le_of_ble_eq_true rfl) hl.1 d_M_smallest_9) (fun H locs hW => ?_)
  refine lv_if_ge (tgt := 27) hx hb d_M_smallest_12 (by decide) (fun c_2 => ?_) (fun c_2 => ?_)
  · replace hr := ip c_2 hr
    refine lv_bipush (v := (-9)) hx hb d_M_smallest_27 (by decide) ?_
    refine lv_istore_n (lv' := [(2, .int (-9)), (0, .ref a_r0), (1, .int x1)]) hx hb d_M_smallest_29 rfl hl (by decide) rfl (fun ls hl => ?_)
    refine lv_iconst (v := 0) hx hb d_M_smallest_30 (by decide) ?_
    refine lv_istore_n (lv' := [(3, .int 0), (2, .int (-9)), (0, .ref a_r0), (1, .int x1)]) hx hb d_M_smallest_31 rfl hl (by decide) rfl (fun ls hl => ?_)
    obtain ⟨ex_3, hw_3, hk_3⟩ := ob hr
    have hx_3 : ∀ (e_3 : (Int32)), e_3 = ex_3 → ∀ (H : Heap) (locs : List Loc) (ls : Array Slot), wd A s.heap D (w_M_smallest cI a_r0 a_r0_figures a_r0_kinds a_r0_refusals v_r0_weights v_r0_days v_r0_hampers v_r0_wants0 v_r0_left0 v_r0_done0 v_r0_letters v_r0_letterMany v_r0_at v_r0_isBad v_r0_statements v_r0_placeIn v_r0_letterOf v_r0_told v_r0_kept v_r0_imaged v_r0_hasImage v_r0_place0 v_r0_isTaking v_r0_keptIn v_r0_turns0 v_r0_turnOf v_r0_turned v_r0_order0 v_r0_likely0 v_r0_leftThen v_r0_row v_r0_rowMany v_r0_seed r0_things 0 r0_figures r0_kinds r0_refusals) H locs → lv_has ls 5 [(2, .int e_3)] → W p l e (rmd 3) s m ([.ref a_r0, .int x1] : List Value).toArray below meth c H locs 0 0 Q (F0 m 90 ls []) := by
      intro e_3 hE H locs ls hW hl
      subst hE; have hr := hk_3
      refine lv_iload_n hx hb d_M_smallest_90 rfl (lv_at hl 0 rfl) ?_
      obtain rfl := Option.some.inj hr
      rw [hQ]; exact k_iret C hret hW d_M_smallest_91
    have hl_3 : ∀ (k : Nat) (y2_3 : Int32) (y3_3 : Int32), wh (fun (s : (Int32) × (Int32)) => F_M_smallest_L32 r0_things r0_figures r0_kinds x1 s.1 s.2) k (y2_3, y3_3) = some ex_3 → ∀ (H : Heap) (locs : List Loc) (ls : Array Slot), wd A s.heap D (w_M_smallest cI a_r0 a_r0_figures a_r0_kinds a_r0_refusals v_r0_weights v_r0_days v_r0_hampers v_r0_wants0 v_r0_left0 v_r0_done0 v_r0_letters v_r0_letterMany v_r0_at v_r0_isBad v_r0_statements v_r0_placeIn v_r0_letterOf v_r0_told v_r0_kept v_r0_imaged v_r0_hasImage v_r0_place0 v_r0_isTaking v_r0_keptIn v_r0_turns0 v_r0_turnOf v_r0_turned v_r0_order0 v_r0_likely0 v_r0_leftThen v_r0_row v_r0_rowMany v_r0_seed r0_things 0 r0_figures r0_kinds r0_refusals) H locs → lv_has ls 5 [(0, .ref a_r0), (1, .int x1), (2, .int y2_3), (3, .int y3_3)] → W p l e (rmd 3) s m ([.ref a_r0, .int x1] : List Value).toArray below meth c H locs 0 0 Q (F0 m 32 ls []) := by
      intro k
      induction k with
      | zero => intro y2_3 y3_3 hw; exact absurd hw wh_0
      | succ k ih_3 =>
        intro y2_3 y3_3 hw H locs ls hW hl
        obtain ⟨z_3, hr, hz1_3, hz2_3⟩ := wh_s hw
        have hr : F_M_smallest_L32 r0_things r0_figures r0_kinds x1 y2_3 y3_3 = some z_3 := hr
        unfold F_M_smallest_L32 at hr
        refine lv_iload_n hx hb d_M_smallest_32 rfl (lv_at hl 3 rfl) ?_
        refine lv_iconst (v := 1) hx hb d_M_smallest_33 (by decide) ?_
        refine lv_aload_n hx hb d_M_smallest_34 rfl (lv_at hl 0 rfl) ?_
        refine k_get i_M C hW 0 rfl rfl 1 (by decide) qf_M_71 rfl rfl d_M_smallest_35 ?_
        refine lv_ishl hx hb d_M_smallest_38 ?_
        refine lv_icmp_ge (tgt := 90) hx hb d_M_smallest_39 (by decide) (fun c_4 => ?_) (fun c_4 => ?_)
        · replace hr := ip c_4 hr
          exact hx_3 _ (hz2_3 _ (Option.some.inj hr).symm) _ _ _ hW (lv_sub hl [2] rfl)
        · replace hr := iN c_4 hr
          refine lv_iload_n hx hb d_M_smallest_42 rfl (lv_at hl 2 rfl) ?_
          have hJ_6 : ∀ (s0_6 : Int32), F_M_smallest_J62_6 r0_things r0_figures r0_kinds y2_3 y3_3 x1 s0_6 = some z_3 → ∀ (H : Heap) (locs : List Loc) (ls : Array Slot), wd A s.heap D (w_M_smallest cI a_r0 a_r0_figures a_r0_kinds a_r0_refusals v_r0_weights v_r0_days v_r0_hampers v_r0_wants0 v_r0_left0 v_r0_done0 v_r0_letters v_r0_letterMany v_r0_at v_r0_isBad v_r0_statements v_r0_placeIn v_r0_letterOf v_r0_told v_r0_kept v_r0_imaged v_r0_hasImage v_r0_place0 v_r0_isTaking v_r0_keptIn v_r0_turns0 v_r0_turnOf v_r0_turned v_r0_order0 v_r0_likely0 v_r0_leftThen v_r0_row v_r0_rowMany v_r0_seed r0_things 0 r0_figures r0_kinds r0_refusals) H locs → lv_has ls 5 [(0, .ref a_r0), (1, .int x1), (2, .int y2_3), (3, .int y3_3)] → W p l e (rmd 3) s m ([.ref a_r0, .int x1] : List Value).toArray below meth c H locs 0 0 Q (F0 m 62 ls [.int s0_6]) := by
            intro s0_6 hr H locs ls hW hl
            unfold F_M_smallest_J62_6 at hr
            refine lv_istore (lv' := [(4, .int s0_6), (0, .ref a_r0), (1, .int x1), (2, .int y2_3), (3, .int y3_3)]) hx hb d_M_smallest_62 hl (by decide) rfl (fun ls hl => ?_)
            refine lv_iload hx hb d_M_smallest_64 (lv_at hl 0 rfl) ?_
            refine lv_if_eq (tgt := 82) hx hb d_M_smallest_66 (by decide) (fun c_7 => ?_) (fun c_7 => ?_)
            · replace hr := ip c_7 hr
              refine lv_iload_n hx hb d_M_smallest_82 rfl (lv_at hl 3 rfl) ?_
              refine lv_istore_n (lv' := [(2, .int y2_3), (4, .int s0_6), (0, .ref a_r0), (1, .int x1), (3, .int y3_3)]) hx hb d_M_smallest_83 rfl hl (by decide) rfl (fun ls hl => ?_)
              refine lv_iinc (v := (y3_3 + 1)) (lv' := [(3, .int (y3_3 + 1)), (2, .int y2_3), (4, .int s0_6), (0, .ref a_r0), (1, .int x1)]) hx hb d_M_smallest_84 hl (k := 4) rfl rfl (by decide) rfl (fun ls hl => ?_)
              refine lv_goto (tgt := 32) hx hb d_M_smallest_87 (by decide) ?_
              exact ih_3 y2_3 (y3_3 + 1) (hz1_3 _ (Option.some.inj hr).symm) _ _ _ hW (lv_sub hl [3, 4, 1, 0] rfl)
            · replace hr := iN c_7 hr
              refine lv_aload_n hx hb d_M_smallest_69 rfl (lv_at hl 1 rfl) ?_
              refine lv_iload_n hx hb d_M_smallest_70 rfl (lv_at hl 4 rfl) ?_
              obtain ⟨q_8, hc_8, hr⟩ := ob hr
              have ct_8 := C_M_couldBe l D cI cS a_r0 a_r0_figures a_r0_kinds v_r0_weights v_r0_days v_r0_hampers v_r0_wants0 v_r0_left0 v_r0_done0 (Value.int 0) (Value.ref a_r0_refusals) v_r0_letters v_r0_letterMany v_r0_at v_r0_isBad v_r0_statements v_r0_placeIn v_r0_letterOf v_r0_told v_r0_kept v_r0_imaged v_r0_hasImage v_r0_place0 v_r0_isTaking v_r0_keptIn v_r0_turns0 v_r0_turnOf v_r0_turned v_r0_order0 v_r0_likely0 v_r0_leftThen v_r0_row v_r0_rowMany v_r0_seed r0_things r0_figures r0_kinds y3_3 q_8 hc_8
              refine k_goIp hA hW [0, 1, 2] rfl rfl (k_runV C hA hW mw_M_couldBe mv_M_couldBe (ct_8.2 _) [0, 1, 2] rfl rfl 0 rfl rfl qm_M_99 ⟨Nat.le_of_ble_eq_true rfl, Nat.le_of_ble_eq_true rfl, Nat.zero_le _, Nat.zero_le _⟩ rfl rfl (Nat.le_of_ble_eq_true rfl) hl.1 d_M_smallest_71) (fun H locs hW => ?_)
              refine lv_iload_n hx hb d_M_smallest_74 rfl (lv_at hl 2 rfl) ?_
              refine lv_icmp_ne (tgt := 82) hx hb d_M_smallest_75 (by decide) (fun c_9 => ?_) (fun c_9 => ?_)
              · replace hr := iN c_9 hr
                refine lv_iload_n hx hb d_M_smallest_82 rfl (lv_at hl 3 rfl) ?_
                refine lv_istore_n (lv' := [(2, .int y2_3), (4, .int s0_6), (0, .ref a_r0), (1, .int x1), (3, .int y3_3)]) hx hb d_M_smallest_83 rfl hl (by decide) rfl (fun ls hl => ?_)
                refine lv_iinc (v := (y3_3 + 1)) (lv' := [(3, .int (y3_3 + 1)), (2, .int y2_3), (4, .int s0_6), (0, .ref a_r0), (1, .int x1)]) hx hb d_M_smallest_84 hl (k := 4) rfl rfl (by decide) rfl (fun ls hl => ?_)
                refine lv_goto (tgt := 32) hx hb d_M_smallest_87 (by decide) ?_
                exact ih_3 y2_3 (y3_3 + 1) (hz1_3 _ (Option.some.inj hr).symm) _ _ _ hW (lv_sub hl [3, 4, 1, 0] rfl)
              · replace hr := ip c_9 hr
                refine lv_iload_n hx hb d_M_smallest_78 rfl (lv_at hl 4 rfl) ?_
                refine lv_goto (tgt := 83) hx hb d_M_smallest_79 (by decide) ?_
                refine lv_istore_n (lv' := [(2, .int y3_3), (4, .int s0_6), (0, .ref a_r0), (1, .int x1), (3, .int y3_3)]) hx hb d_M_smallest_83 rfl hl (by decide) rfl (fun ls hl => ?_)
                refine lv_iinc (v := (y3_3 + 1)) (lv' := [(3, .int (y3_3 + 1)), (2, .int y3_3), (4, .int s0_6), (0, .ref a_r0), (1, .int x1)]) hx hb d_M_smallest_84 hl (k := 4) rfl rfl (by decide) rfl (fun ls hl => ?_)
                refine lv_goto (tgt := 32) hx hb d_M_smallest_87 (by decide) ?_
                exact ih_3 y3_3 (y3_3 + 1) (hz1_3 _ (Option.some.inj hr).symm) _ _ _ hW (lv_sub hl [3, 4, 1, 0] rfl)
          have hJ_10 : ∀ (_ : Unit), F_M_smallest_J57_10 r0_things r0_figures r0_kinds y2_3 y3_3 x1 = some z_3 → ∀ (H : Heap) (locs : List Loc) (ls : Array Slot), wd A s.heap D (w_M_smallest cI a_r0 a_r0_figures a_r0_kinds a_r0_refusals v_r0_weights v_r0_days v_r0_hampers v_r0_wants0 v_r0_left0 v_r0_done0 v_r0_letters v_r0_letterMany v_r0_at v_r0_isBad v_r0_statements v_r0_placeIn v_r0_letterOf v_r0_told v_r0_kept v_r0_imaged v_r0_hasImage v_r0_place0 v_r0_isTaking v_r0_keptIn v_r0_turns0 v_r0_turnOf v_r0_turned v_r0_order0 v_r0_likely0 v_r0_leftThen v_r0_row v_r0_rowMany v_r0_seed r0_things 0 r0_figures r0_kinds r0_refusals) H locs → lv_has ls 5 [(0, .ref a_r0), (1, .int x1), (2, .int y2_3), (3, .int y3_3)] → W p l e (rmd 3) s m ([.ref a_r0, .int x1] : List Value).toArray below meth c H locs 0 0 Q (F0 m 57 ls []) := by
            intro _ hr H locs ls hW hl
            unfold F_M_smallest_J57_10 at hr
            refine lv_iconst (v := 1) hx hb d_M_smallest_57 (by decide) ?_
            refine lv_goto (tgt := 62) hx hb d_M_smallest_58 (by decide) ?_
            exact hJ_6 1 hr _ _ _ hW (lv_sub hl [0, 1, 2, 3] rfl)
          refine lv_if_lt (tgt := 57) hx hb d_M_smallest_43 (by decide) (fun c_5 => ?_) (fun c_5 => ?_)
          · replace hr := ip c_5 hr
            exact hJ_10 () hr _ _ _ hW (lv_sub hl [0, 1, 2, 3] rfl)
          · replace hr := iN c_5 hr
            refine lv_iload_n hx hb d_M_smallest_46 rfl (lv_at hl 3 rfl) ?_
            obtain ⟨q_11, hc_11, hr⟩ := ob hr
            have ct_11 := C_M_onesOf l D cI cS y3_3 q_11 hc_11
            refine k_goIp hA hW [] rfl rfl (k_runS C hA hW mw_M_onesOf ms_M_onesOf (ct_11.2 _) [] rfl rfl qm_M_231 ⟨Nat.le_of_ble_eq_true rfl, Nat.le_of_ble_eq_true rfl, Nat.zero_le _, Nat.zero_le _⟩ rfl rfl (Nat.le_of_ble_eq_true rfl) hl.1 d_M_smallest_47) (fun H locs hW => ?_)
            refine lv_iload_n hx hb d_M_smallest_50 rfl (lv_at hl 2 rfl) ?_
            obtain ⟨q_12, hc_12, hr⟩ := ob hr
            have ct_12 := C_M_onesOf l D cI cS y2_3 q_12 hc_12
            refine k_goIp hA hW [] rfl rfl (k_runS C hA hW mw_M_onesOf ms_M_onesOf (ct_12.2 _) [] rfl rfl qm_M_231 ⟨Nat.le_of_ble_eq_true rfl, Nat.le_of_ble_eq_true rfl, Nat.zero_le _, Nat.zero_le _⟩ rfl rfl (Nat.le_of_ble_eq_true rfl) hl.1 d_M_smallest_51) (fun H locs hW => ?_)
            refine lv_icmp_ge (tgt := 61) hx hb d_M_smallest_54 (by decide) (fun c_13 => ?_) (fun c_13 => ?_)
            · replace hr := ip c_13 hr
              refine lv_iconst (v := 0) hx hb d_M_smallest_61 (by decide) ?_
              exact hJ_6 0 hr _ _ _ hW (lv_sub hl [0, 1, 2, 3] rfl)
            · replace hr := iN c_13 hr
              exact hJ_10 () hr _ _ _ hW (lv_sub hl [0, 1, 2, 3] rfl)
    exact hl_3 _ (-9) 0 hw_3 _ _ _ hW (lv_sub hl [2, 3, 1, 0] rfl)
  · replace hr := iN c_2 hr
    refine lv_aload_n hx hb d_M_smallest_15 rfl (lv_at hl 0 rfl) ?_
    refine lv_iload_n hx hb d_M_smallest_16 rfl (lv_at hl 1 rfl) ?_
    refine lv_iconst (v := 1) hx hb d_M_smallest_17 (by decide) ?_
    refine lv_bipush (v := 63) hx hb d_M_smallest_18 (by decide) ?_
    obtain ⟨q_14, hc_14, hr⟩ := ob hr
    have ct_14 := C_M_wrongNumber l D cI cS x1 1 63 q_14 hc_14
    refine k_goIp hA hW [] rfl rfl (k_runS C hA hW mw_M_wrongNumber ms_M_wrongNumber (ct_14.2 _) [] rfl rfl qm_M_208 ⟨Nat.le_of_ble_eq_true rfl, Nat.le_of_ble_eq_true rfl, Nat.zero_le _, Nat.zero_le _⟩ rfl rfl (Nat.le_of_ble_eq_true rfl) hl.1 d_M_smallest_20) (fun H locs hW => ?_)
    obtain ⟨q_15, hc_15, hr⟩ := ob hr
    have ct_15 := C_M_refuse l D cI cS a_r0 a_r0_refusals v_r0_weights (Value.int r0_things) (Value.ref a_r0_kinds) (Value.ref a_r0_figures) v_r0_days v_r0_hampers v_r0_wants0 v_r0_left0 v_r0_done0 (Value.int 0) v_r0_letters v_r0_letterMany v_r0_at v_r0_isBad v_r0_statements v_r0_placeIn v_r0_letterOf v_r0_told v_r0_kept v_r0_imaged v_r0_hasImage v_r0_place0 v_r0_isTaking v_r0_keptIn v_r0_turns0 v_r0_turnOf v_r0_turned v_r0_order0 v_r0_likely0 v_r0_leftThen v_r0_row v_r0_rowMany v_r0_seed r0_refusals q_14 q_15 hc_15
    refine k_goI hA hW [0, 3] rfl ct_15.1 (ws' := (w_M_smallest cI a_r0 a_r0_figures a_r0_kinds a_r0_refusals v_r0_weights v_r0_days v_r0_hampers v_r0_wants0 v_r0_left0 v_r0_done0 v_r0_letters v_r0_letterMany v_r0_at v_r0_isBad v_r0_statements v_r0_placeIn v_r0_letterOf v_r0_told v_r0_kept v_r0_imaged v_r0_hasImage v_r0_place0 v_r0_isTaking v_r0_keptIn v_r0_turns0 v_r0_turnOf v_r0_turned v_r0_order0 v_r0_likely0 v_r0_leftThen v_r0_row v_r0_rowMany v_r0_seed r0_things 0 r0_figures r0_kinds q_15.2)) rfl (k_runV C hA hW mw_M_refuse mv_M_refuse (ct_15.2 _) [0, 3] rfl rfl 0 rfl rfl qm_M_108 ⟨Nat.le_of_ble_eq_true rfl, Nat.le_of_ble_eq_true rfl, Nat.zero_le _, Nat.zero_le _⟩ rfl rfl (Nat.le_of_ble_eq_true rfl) hl.1 d_M_smallest_23) (fun H locs hW => ?_)
    obtain rfl := Option.some.inj hr
    rw [hQ]; exact k_iret C hret hW d_M_smallest_26
def w_M_spare (cI : ClassId) (a_r0 : Nat) (a_r0_figures : Nat) (a_r0_hampers : Nat) (a_r0_kept : Nat) (a_r0_kinds : Nat) (a_r0_left0 : Nat) (a_r0_wants0 : Nat) (a_r0_weights : Nat) (v_r0_refusals v_r0_letters v_r0_letterMany v_r0_at v_r0_isBad v_r0_statements v_r0_placeIn v_r0_letterOf v_r0_told v_r0_imaged v_r0_hasImage v_r0_turns0 v_r0_turnOf v_r0_turned v_r0_order0 v_r0_likely0 v_r0_leftThen v_r0_row v_r0_rowMany v_r0_seed : Value) (kv : Int32 → Value) (r0_days : Int32) (r0_done0 : Int32) (r0_isTaking : Int32) (r0_keptIn : Int32) (r0_place0 : Int32) (r0_things : Int32) (r0_thrown : Int32) (r0_figures : Nat → Int32) (r0_hampers : Nat → Int32) (r0_kept : Nat → Int32) (r0_kinds : Nat → Int32) (r0_left0 : Nat → Int32) (r0_wants0 : Nat → Int32) (r0_weights : Nat → Int32) : va_W := [(a_r0, .inr (9, [.ref a_r0_weights, .int r0_things, .ref a_r0_kinds, .ref a_r0_figures, .int r0_days, .ref a_r0_hampers, .ref a_r0_wants0, .ref a_r0_left0, .int r0_done0, .int r0_thrown, v_r0_refusals, v_r0_letters, v_r0_letterMany, v_r0_at, v_r0_isBad, v_r0_statements, v_r0_placeIn, v_r0_letterOf, v_r0_told, .ref a_r0_kept, v_r0_imaged, v_r0_hasImage, .int r0_place0, .int r0_isTaking, (kv r0_keptIn), v_r0_turns0, v_r0_turnOf, v_r0_turned, v_r0_order0, v_r0_likely0, v_r0_leftThen, v_r0_row, v_r0_rowMany, v_r0_seed])), (a_r0_figures, .inl (cI, 8, .inl r0_figures)), (a_r0_hampers, .inl (cI, 8, .inl r0_hampers)), (a_r0_kept, .inl (cI, 41, .inl r0_kept)), (a_r0_kinds, .inl (cI, 8, .inl r0_kinds)), (a_r0_left0, .inl (cI, 4, .inl r0_left0)), (a_r0_wants0, .inl (cI, 4, .inl r0_wants0)), (a_r0_weights, .inl (cI, 6, .inl r0_weights))]
def F_M_spare_L16 (q_1 : Int32 × (Int32) × (Int32) × (Int32) × (Int32) × (Int32) × (Int32) × (Nat → Int32) × (Nat → Int32) × (Nat → Int32) × (Nat → Int32) × (Nat → Int32) × (Nat → Int32) × (Nat → Int32)) (y2_2 : Int32) (y3_2 : Int32) (r0_days_2 : Int32) (r0_done0_2 : Int32) (r0_isTaking_2 : Int32) (r0_keptIn_2 : Int32) (r0_place0_2 : Int32) (r0_things_2 : Int32) (r0_figures_2 : Nat → Int32) (r0_hampers_2 : Nat → Int32) (r0_kept_2 : Nat → Int32) (r0_kinds_2 : Nat → Int32) (r0_left0_2 : Nat → Int32) (r0_wants0_2 : Nat → Int32) (r0_weights_2 : Nat → Int32) : Option (((Int32) × (Int32) × (Int32) × (Int32) × (Int32) × (Int32) × (Int32) × (Int32) × (Nat → Int32) × (Nat → Int32) × (Nat → Int32) × (Nat → Int32) × (Nat → Int32) × (Nat → Int32) × (Nat → Int32)) ⊕ ((Int32) × (Int32) × (Int32) × (Int32) × (Int32) × (Int32) × (Int32) × (Nat → Int32) × (Nat → Int32) × (Nat → Int32) × (Nat → Int32) × (Nat → Int32) × (Nat → Int32) × (Nat → Int32))) :=
  (if r0_days_2 ≤ y3_2 then (some (.inr (y2_2, r0_days_2, r0_done0_2, r0_isTaking_2, r0_keptIn_2, r0_place0_2, r0_things_2, r0_figures_2, r0_hampers_2, r0_kept_2, r0_kinds_2, r0_left0_2, r0_wants0_2, r0_weights_2))) else ((F_M_gotWithout r0_days_2 r0_done0_2 r0_things_2 r0_figures_2 r0_hampers_2 r0_kept_2 r0_kinds_2 r0_left0_2 r0_wants0_2 r0_weights_2 y3_2).bind (fun q_4 => (if q_4.1 = q_1.1 then (some (.inl ((y2_2 ||| ((1 : Int32) <<< ((y3_2 : Int32) &&& 31))), (y3_2 + 1), q_4.2.1, q_4.2.2.1, q_4.2.2.2.1, q_4.2.2.2.2.1, q_4.2.2.2.2.2.1, q_4.2.2.2.2.2.2.1, q_4.2.2.2.2.2.2.2.1, q_4.2.2.2.2.2.2.2.2.1, q_4.2.2.2.2.2.2.2.2.2.1, q_4.2.2.2.2.2.2.2.2.2.2.1, q_4.2.2.2.2.2.2.2.2.2.2.2.1, q_4.2.2.2.2.2.2.2.2.2.2.2.2.1, q_4.2.2.2.2.2.2.2.2.2.2.2.2.2))) else (some (.inl ((y2_2 ||| 0), (y3_2 + 1), q_4.2.1, q_4.2.2.1, q_4.2.2.2.1, q_4.2.2.2.2.1, q_4.2.2.2.2.2.1, q_4.2.2.2.2.2.2.1, q_4.2.2.2.2.2.2.2.1, q_4.2.2.2.2.2.2.2.2.1, q_4.2.2.2.2.2.2.2.2.2.1, q_4.2.2.2.2.2.2.2.2.2.2.1, q_4.2.2.2.2.2.2.2.2.2.2.2.1, q_4.2.2.2.2.2.2.2.2.2.2.2.2.1, q_4.2.2.2.2.2.2.2.2.2.2.2.2.2)))))))
def F_M_spare (r0_days : Int32) (r0_done0 : Int32) (r0_things : Int32) (r0_figures : Nat → Int32) (r0_hampers : Nat → Int32) (r0_kept : Nat → Int32) (r0_kinds : Nat → Int32) (r0_left0 : Nat → Int32) (r0_wants0 : Nat → Int32) (r0_weights : Nat → Int32) : Option (Int32 × (Int32) × (Int32) × (Int32) × (Int32) × (Int32) × (Int32) × (Int32) × (Nat → Int32) × (Nat → Int32) × (Nat → Int32) × (Nat → Int32) × (Nat → Int32) × (Nat → Int32) × (Nat → Int32)) :=
  ((F_M_gotWithout r0_days r0_done0 r0_things r0_figures r0_hampers r0_kept r0_kinds r0_left0 r0_wants0 r0_weights ((-9) : Int32)).bind (fun q_1 => ((wh (fun (s : (Int32) × (Int32) × (Int32) × (Int32) × (Int32) × (Int32) × (Int32) × (Int32) × (Nat → Int32) × (Nat → Int32) × (Nat → Int32) × (Nat → Int32) × (Nat → Int32) × (Nat → Int32) × (Nat → Int32)) => F_M_spare_L16 q_1 s.1 s.2.1 s.2.2.1 s.2.2.2.1 s.2.2.2.2.1 s.2.2.2.2.2.1 s.2.2.2.2.2.2.1 s.2.2.2.2.2.2.2.1 s.2.2.2.2.2.2.2.2.1 s.2.2.2.2.2.2.2.2.2.1 s.2.2.2.2.2.2.2.2.2.2.1 s.2.2.2.2.2.2.2.2.2.2.2.1 s.2.2.2.2.2.2.2.2.2.2.2.2.1 s.2.2.2.2.2.2.2.2.2.2.2.2.2.1 s.2.2.2.2.2.2.2.2.2.2.2.2.2.2) 400 ((0 : Int32), (0 : Int32), q_1.2.1, q_1.2.2.1, q_1.2.2.2.1, q_1.2.2.2.2.1, q_1.2.2.2.2.2.1, q_1.2.2.2.2.2.2.1, q_1.2.2.2.2.2.2.2.1, q_1.2.2.2.2.2.2.2.2.1, q_1.2.2.2.2.2.2.2.2.2.1, q_1.2.2.2.2.2.2.2.2.2.2.1, q_1.2.2.2.2.2.2.2.2.2.2.2.1, q_1.2.2.2.2.2.2.2.2.2.2.2.2.1, q_1.2.2.2.2.2.2.2.2.2.2.2.2.2)).bind (fun e_2 => (some (e_2.1, e_2.2.1, e_2.2.2.1, e_2.2.2.2.1, e_2.2.2.2.2.1, e_2.2.2.2.2.2.1, e_2.2.2.2.2.2.2.1, 0, e_2.2.2.2.2.2.2.2.1, e_2.2.2.2.2.2.2.2.2.1, e_2.2.2.2.2.2.2.2.2.2.1, e_2.2.2.2.2.2.2.2.2.2.2.1, e_2.2.2.2.2.2.2.2.2.2.2.2.1, e_2.2.2.2.2.2.2.2.2.2.2.2.2.1, e_2.2.2.2.2.2.2.2.2.2.2.2.2.2))))))
set_option maxHeartbeats 4000000 in
set_option maxRecDepth 100000 in
theorem C_M_spare (l : Launch) (D : va_G) (cI cS : ClassId) (a_r0 : Nat) (a_r0_figures : Nat) (a_r0_hampers : Nat) (a_r0_kept : Nat) (a_r0_kinds : Nat) (a_r0_left0 : Nat) (a_r0_wants0 : Nat) (a_r0_weights : Nat) (v_r0_refusals v_r0_letters v_r0_letterMany v_r0_at v_r0_isBad v_r0_statements v_r0_placeIn v_r0_letterOf v_r0_told v_r0_imaged v_r0_hasImage v_r0_turns0 v_r0_turnOf v_r0_turned v_r0_order0 v_r0_likely0 v_r0_leftThen v_r0_row v_r0_rowMany v_r0_seed : Value) (kv : Int32 → Value) (hkv_kept : kv 1 = .ref a_r0_kept) (r0_days : Int32) (r0_done0 : Int32) (r0_isTaking : Int32) (r0_keptIn : Int32) (r0_place0 : Int32) (r0_things : Int32) (r0_thrown : Int32) (r0_figures : Nat → Int32) (r0_hampers : Nat → Int32) (r0_kept : Nat → Int32) (r0_kinds : Nat → Int32) (r0_left0 : Nat → Int32) (r0_wants0 : Nat → Int32) (r0_weights : Nat → Int32) (o : Int32 × (Int32) × (Int32) × (Int32) × (Int32) × (Int32) × (Int32) × (Int32) × (Nat → Int32) × (Nat → Int32) × (Nat → Int32) × (Nat → Int32) × (Nat → Int32) × (Nat → Int32) × (Nat → Int32)) (hr : F_M_spare r0_days r0_done0 r0_things r0_figures r0_hampers r0_kept r0_kinds r0_left0 r0_wants0 r0_weights = some o) : ctI l y_M_spare (Cond.code y_M_spare b_M_spare 4 (some FieldType.int)) (rmd 5) D (kTy cI cS) [.ref a_r0] (w_M_spare cI a_r0 a_r0_figures a_r0_hampers a_r0_kept a_r0_kinds a_r0_left0 a_r0_wants0 a_r0_weights v_r0_refusals v_r0_letters v_r0_letterMany v_r0_at v_r0_isBad v_r0_statements v_r0_placeIn v_r0_letterOf v_r0_told v_r0_imaged v_r0_hasImage v_r0_turns0 v_r0_turnOf v_r0_turned v_r0_order0 v_r0_likely0 v_r0_leftThen v_r0_row v_r0_rowMany v_r0_seed kv r0_days r0_done0 r0_isTaking r0_keptIn r0_place0 r0_things r0_thrown r0_figures r0_hampers r0_kept r0_kinds r0_left0 r0_wants0 r0_weights) (w_M_spare cI a_r0 a_r0_figures a_r0_hampers a_r0_kept a_r0_kinds a_r0_left0 a_r0_wants0 a_r0_weights v_r0_refusals v_r0_letters v_r0_letterMany v_r0_at v_r0_isBad v_r0_statements v_r0_placeIn v_r0_letterOf v_r0_told v_r0_imaged v_r0_hasImage v_r0_turns0 v_r0_turnOf v_r0_turned v_r0_order0 v_r0_likely0 v_r0_leftThen v_r0_row v_r0_rowMany v_r0_seed kv o.2.1 o.2.2.1 o.2.2.2.1 o.2.2.2.2.1 o.2.2.2.2.2.1 o.2.2.2.2.2.2.1 o.2.2.2.2.2.2.2.1 o.2.2.2.2.2.2.2.2.1 o.2.2.2.2.2.2.2.2.2.1 o.2.2.2.2.2.2.2.2.2.2.1 o.2.2.2.2.2.2.2.2.2.2.2.1 o.2.2.2.2.2.2.2.2.2.2.2.2.1 o.2.2.2.2.2.2.2.2.2.2.2.2.2.1 o.2.2.2.2.2.2.2.2.2.2.2.2.2.2) o.1 := by
  unfold F_M_spare at hr
  refine ⟨rfl, fun sz => ct_of (w0 := (w_M_spare cI a_r0 a_r0_figures a_r0_hampers a_r0_kept a_r0_kinds a_r0_left0 a_r0_wants0 a_r0_weights v_r0_refusals v_r0_letters v_r0_letterMany v_r0_at v_r0_isBad v_r0_statements v_r0_placeIn v_r0_letterOf v_r0_told v_r0_imaged v_r0_hasImage v_r0_turns0 v_r0_turnOf v_r0_turned v_r0_order0 v_r0_likely0 v_r0_leftThen v_r0_row v_r0_rowMany v_r0_seed kv r0_days r0_done0 r0_isTaking r0_keptIn r0_place0 r0_things r0_thrown r0_figures r0_hampers r0_kept r0_kinds r0_left0 r0_wants0 r0_weights)) (Qc := fun A => qI D (w_M_spare cI a_r0 a_r0_figures a_r0_hampers a_r0_kept a_r0_kinds a_r0_left0 a_r0_wants0 a_r0_weights v_r0_refusals v_r0_letters v_r0_letterMany v_r0_at v_r0_isBad v_r0_statements v_r0_placeIn v_r0_letterOf v_r0_told v_r0_imaged v_r0_hasImage v_r0_turns0 v_r0_turnOf v_r0_turned v_r0_order0 v_r0_likely0 v_r0_leftThen v_r0_row v_r0_rowMany v_r0_seed kv o.2.1 o.2.2.1 o.2.2.2.1 o.2.2.2.2.1 o.2.2.2.2.2.1 o.2.2.2.2.2.2.1 o.2.2.2.2.2.2.2.1 o.2.2.2.2.2.2.2.2.1 o.2.2.2.2.2.2.2.2.2.1 o.2.2.2.2.2.2.2.2.2.2.1 o.2.2.2.2.2.2.2.2.2.2.2.1 o.2.2.2.2.2.2.2.2.2.2.2.2.1 o.2.2.2.2.2.2.2.2.2.2.2.2.2.1 o.2.2.2.2.2.2.2.2.2.2.2.2.2.2) o.1 A) rfl (Nat.le_of_ble_eq_true rfl) ?_ sz⟩
  intro p e s m below meth c A hA C hret ls hl hW
  have C : cx p s m ([.ref a_r0] : List Value).toArray meth c b_M_spare 4 R_M D (kTy cI cS) (Cond.code y_M_spare b_M_spare 4 (some FieldType.int)) := C
  obtain ⟨hx, hb, hml, hown, hts, hK, hlk, hN⟩ := id C
  have hl : lv_has ls 4 [(0, .ref a_r0)] := hl
  obtain ⟨Q, hQ⟩ : ∃ Q, Q = MQ below (qI D (w_M_spare cI a_r0 a_r0_figures a_r0_hampers a_r0_kept a_r0_kinds a_r0_left0 a_r0_wants0 a_r0_weights v_r0_refusals v_r0_letters v_r0_letterMany v_r0_at v_r0_isBad v_r0_statements v_r0_placeIn v_r0_letterOf v_r0_told v_r0_imaged v_r0_hasImage v_r0_turns0 v_r0_turnOf v_r0_turned v_r0_order0 v_r0_likely0 v_r0_leftThen v_r0_row v_r0_rowMany v_r0_seed kv o.2.1 o.2.2.1 o.2.2.2.1 o.2.2.2.2.1 o.2.2.2.2.2.1 o.2.2.2.2.2.2.1 o.2.2.2.2.2.2.2.1 o.2.2.2.2.2.2.2.2.1 o.2.2.2.2.2.2.2.2.2.1 o.2.2.2.2.2.2.2.2.2.2.1 o.2.2.2.2.2.2.2.2.2.2.2.1 o.2.2.2.2.2.2.2.2.2.2.2.2.1 o.2.2.2.2.2.2.2.2.2.2.2.2.2.1 o.2.2.2.2.2.2.2.2.2.2.2.2.2.2) o.1 A) ([.ref a_r0] : List Value).toArray s 0 0 A := ⟨_, rfl⟩
  rw [← hQ]
  refine lv_aload_n hx hb d_M_spare_0 rfl (lv_at hl 0 rfl) ?_
  refine lv_iconst (v := 0) hx hb d_M_spare_1 (by decide) ?_
  refine k_put i_M t_M_ok n_M C hW 0 rfl rfl 9 (by decide) qf_M_67 rfl rfl (ty := .int) rfl rfl rfl (Nat.le_of_ble_eq_true rfl) (ws' := (w_M_spare cI a_r0 a_r0_figures a_r0_hampers a_r0_kept a_r0_kinds a_r0_left0 a_r0_wants0 a_r0_weights v_r0_refusals v_r0_letters v_r0_letterMany v_r0_at v_r0_isBad v_r0_statements v_r0_placeIn v_r0_letterOf v_r0_told v_r0_imaged v_r0_hasImage v_r0_turns0 v_r0_turnOf v_r0_turned v_r0_order0 v_r0_likely0 v_r0_leftThen v_r0_row v_r0_rowMany v_r0_seed kv r0_days r0_done0 r0_isTaking r0_keptIn r0_place0 r0_things 0 r0_figures r0_hampers r0_kept r0_kinds r0_left0 r0_wants0 r0_weights)) rfl d_M_spare_2 (fun H locs hW => ?_)
  refine lv_aload_n hx hb d_M_spare_5 rfl (lv_at hl 0 rfl) ?_
  refine lv_bipush (v := (-9)) hx hb d_M_spare_6 (by decide) ?_
  obtain ⟨q_1, hc_1, hr⟩ := ob hr
  have ct_1 := C_M_gotWithout l D cI cS a_r0 a_r0_figures a_r0_hampers a_r0_kept a_r0_kinds a_r0_left0 a_r0_wants0 a_r0_weights (Value.int 0) v_r0_refusals v_r0_letters v_r0_letterMany v_r0_at v_r0_isBad v_r0_statements v_r0_placeIn v_r0_letterOf v_r0_told v_r0_imaged v_r0_hasImage v_r0_turns0 v_r0_turnOf v_r0_turned v_r0_order0 v_r0_likely0 v_r0_leftThen v_r0_row v_r0_rowMany v_r0_seed kv hkv_kept r0_days r0_done0 r0_isTaking r0_keptIn r0_place0 r0_things r0_figures r0_hampers r0_kept r0_kinds r0_left0 r0_wants0 r0_weights (-9) q_1 hc_1
  refine k_goI hA hW [0, 1, 2, 3, 4, 5, 6, 7] rfl ct_1.1 (ws' := (w_M_spare cI a_r0 a_r0_figures a_r0_hampers a_r0_kept a_r0_kinds a_r0_left0 a_r0_wants0 a_r0_weights v_r0_refusals v_r0_letters v_r0_letterMany v_r0_at v_r0_isBad v_r0_statements v_r0_placeIn v_r0_letterOf v_r0_told v_r0_imaged v_r0_hasImage v_r0_turns0 v_r0_turnOf v_r0_turned v_r0_order0 v_r0_likely0 v_r0_leftThen v_r0_row v_r0_rowMany v_r0_seed kv q_1.2.1 q_1.2.2.1 q_1.2.2.2.1 q_1.2.2.2.2.1 q_1.2.2.2.2.2.1 q_1.2.2.2.2.2.2.1 0 q_1.2.2.2.2.2.2.2.1 q_1.2.2.2.2.2.2.2.2.1 q_1.2.2.2.2.2.2.2.2.2.1 q_1.2.2.2.2.2.2.2.2.2.2.1 q_1.2.2.2.2.2.2.2.2.2.2.2.1 q_1.2.2.2.2.2.2.2.2.2.2.2.2.1 q_1.2.2.2.2.2.2.2.2.2.2.2.2.2)) rfl (k_runV C hA hW mw_M_gotWithout mv_M_gotWithout (ct_1.2 _) [0, 1, 2, 3, 4, 5, 6, 7] rfl rfl 0 rfl rfl qm_M_237 ⟨Nat.le_of_ble_eq_true rfl, Nat.le_of_ble_eq_true rfl, Nat.zero_le _, Nat.zero_le _⟩ rfl rfl (Nat.le_of_ble_eq_true rfl) hl.1 d_M_spare_8) (fun H locs hW => ?_)
  refine lv_istore_n (lv' := [(1, .int q_1.1), (0, .ref a_r0)]) hx hb d_M_spare_11 rfl hl (by decide) rfl (fun ls hl => ?_)
  refine lv_iconst (v := 0) hx hb d_M_spare_12 (by decide) ?_
  refine lv_istore_n (lv' := [(2, .int 0), (1, .int q_1.1), (0, .ref a_r0)]) hx hb d_M_spare_13 rfl hl (by decide) rfl (fun ls hl => ?_)
  refine lv_iconst (v := 0) hx hb d_M_spare_14 (by decide) ?_
  refine lv_istore_n (lv' := [(3, .int 0), (2, .int 0), (1, .int q_1.1), (0, .ref a_r0)]) hx hb d_M_spare_15 rfl hl (by decide) rfl (fun ls hl => ?_)
  obtain ⟨ex_2, hw_2, hk_2⟩ := ob hr
  have hx_2 : ∀ (e_2 : (Int32) × (Int32) × (Int32) × (Int32) × (Int32) × (Int32) × (Int32) × (Nat → Int32) × (Nat → Int32) × (Nat → Int32) × (Nat → Int32) × (Nat → Int32) × (Nat → Int32) × (Nat → Int32)), e_2 = ex_2 → ∀ (H : Heap) (locs : List Loc) (ls : Array Slot), wd A s.heap D (w_M_spare cI a_r0 a_r0_figures a_r0_hampers a_r0_kept a_r0_kinds a_r0_left0 a_r0_wants0 a_r0_weights v_r0_refusals v_r0_letters v_r0_letterMany v_r0_at v_r0_isBad v_r0_statements v_r0_placeIn v_r0_letterOf v_r0_told v_r0_imaged v_r0_hasImage v_r0_turns0 v_r0_turnOf v_r0_turned v_r0_order0 v_r0_likely0 v_r0_leftThen v_r0_row v_r0_rowMany v_r0_seed kv e_2.2.1 e_2.2.2.1 e_2.2.2.2.1 e_2.2.2.2.2.1 e_2.2.2.2.2.2.1 e_2.2.2.2.2.2.2.1 0 e_2.2.2.2.2.2.2.2.1 e_2.2.2.2.2.2.2.2.2.1 e_2.2.2.2.2.2.2.2.2.2.1 e_2.2.2.2.2.2.2.2.2.2.2.1 e_2.2.2.2.2.2.2.2.2.2.2.2.1 e_2.2.2.2.2.2.2.2.2.2.2.2.2.1 e_2.2.2.2.2.2.2.2.2.2.2.2.2.2) H locs → lv_has ls 4 [(2, .int e_2.1)] → W p l e (rmd 5) s m ([.ref a_r0] : List Value).toArray below meth c H locs 0 0 Q (F0 m 49 ls []) := by
    intro e_2 hE H locs ls hW hl
    subst hE; have hr := hk_2
    refine lv_iload_n hx hb d_M_spare_49 rfl (lv_at hl 0 rfl) ?_
    obtain rfl := Option.some.inj hr
    rw [hQ]; exact k_iret C hret hW d_M_spare_50
  have hl_2 : ∀ (k : Nat) (y2_2 : Int32) (y3_2 : Int32) (r0_days_2 : Int32) (r0_done0_2 : Int32) (r0_isTaking_2 : Int32) (r0_keptIn_2 : Int32) (r0_place0_2 : Int32) (r0_things_2 : Int32) (r0_figures_2 : Nat → Int32) (r0_hampers_2 : Nat → Int32) (r0_kept_2 : Nat → Int32) (r0_kinds_2 : Nat → Int32) (r0_left0_2 : Nat → Int32) (r0_wants0_2 : Nat → Int32) (r0_weights_2 : Nat → Int32), wh (fun (s : (Int32) × (Int32) × (Int32) × (Int32) × (Int32) × (Int32) × (Int32) × (Int32) × (Nat → Int32) × (Nat → Int32) × (Nat → Int32) × (Nat → Int32) × (Nat → Int32) × (Nat → Int32) × (Nat → Int32)) => F_M_spare_L16 q_1 s.1 s.2.1 s.2.2.1 s.2.2.2.1 s.2.2.2.2.1 s.2.2.2.2.2.1 s.2.2.2.2.2.2.1 s.2.2.2.2.2.2.2.1 s.2.2.2.2.2.2.2.2.1 s.2.2.2.2.2.2.2.2.2.1 s.2.2.2.2.2.2.2.2.2.2.1 s.2.2.2.2.2.2.2.2.2.2.2.1 s.2.2.2.2.2.2.2.2.2.2.2.2.1 s.2.2.2.2.2.2.2.2.2.2.2.2.2.1 s.2.2.2.2.2.2.2.2.2.2.2.2.2.2) k (y2_2, y3_2, r0_days_2, r0_done0_2, r0_isTaking_2, r0_keptIn_2, r0_place0_2, r0_things_2, r0_figures_2, r0_hampers_2, r0_kept_2, r0_kinds_2, r0_left0_2, r0_wants0_2, r0_weights_2) = some ex_2 → ∀ (H : Heap) (locs : List Loc) (ls : Array Slot), wd A s.heap D (w_M_spare cI a_r0 a_r0_figures a_r0_hampers a_r0_kept a_r0_kinds a_r0_left0 a_r0_wants0 a_r0_weights v_r0_refusals v_r0_letters v_r0_letterMany v_r0_at v_r0_isBad v_r0_statements v_r0_placeIn v_r0_letterOf v_r0_told v_r0_imaged v_r0_hasImage v_r0_turns0 v_r0_turnOf v_r0_turned v_r0_order0 v_r0_likely0 v_r0_leftThen v_r0_row v_r0_rowMany v_r0_seed kv r0_days_2 r0_done0_2 r0_isTaking_2 r0_keptIn_2 r0_place0_2 r0_things_2 0 r0_figures_2 r0_hampers_2 r0_kept_2 r0_kinds_2 r0_left0_2 r0_wants0_2 r0_weights_2) H locs → lv_has ls 4 [(1, .int q_1.1), (0, .ref a_r0), (2, .int y2_2), (3, .int y3_2)] → W p l e (rmd 5) s m ([.ref a_r0] : List Value).toArray below meth c H locs 0 0 Q (F0 m 16 ls []) := by
    intro k
    induction k with
    | zero => intro y2_2 y3_2 r0_days_2 r0_done0_2 r0_isTaking_2 r0_keptIn_2 r0_place0_2 r0_things_2 r0_figures_2 r0_hampers_2 r0_kept_2 r0_kinds_2 r0_left0_2 r0_wants0_2 r0_weights_2 hw; exact absurd hw wh_0
    | succ k ih_2 =>
      intro y2_2 y3_2 r0_days_2 r0_done0_2 r0_isTaking_2 r0_keptIn_2 r0_place0_2 r0_things_2 r0_figures_2 r0_hampers_2 r0_kept_2 r0_kinds_2 r0_left0_2 r0_wants0_2 r0_weights_2 hw H locs ls hW hl
      obtain ⟨z_2, hr, hz1_2, hz2_2⟩ := wh_s hw
      have hr : F_M_spare_L16 q_1 y2_2 y3_2 r0_days_2 r0_done0_2 r0_isTaking_2 r0_keptIn_2 r0_place0_2 r0_things_2 r0_figures_2 r0_hampers_2 r0_kept_2 r0_kinds_2 r0_left0_2 r0_wants0_2 r0_weights_2 = some z_2 := hr
      unfold F_M_spare_L16 at hr
      refine lv_iload_n hx hb d_M_spare_16 rfl (lv_at hl 3 rfl) ?_
      refine lv_aload_n hx hb d_M_spare_17 rfl (lv_at hl 1 rfl) ?_
      refine k_get i_M C hW 0 rfl rfl 4 (by decide) qf_M_78 rfl rfl d_M_spare_18 ?_
      refine lv_icmp_ge (tgt := 49) hx hb d_M_spare_21 (by decide) (fun c_3 => ?_) (fun c_3 => ?_)
      · replace hr := ip c_3 hr
        exact hx_2 _ (hz2_2 _ (Option.some.inj hr).symm) _ _ _ hW (lv_sub hl [2] rfl)
      · replace hr := iN c_3 hr
        refine lv_iload_n hx hb d_M_spare_24 rfl (lv_at hl 2 rfl) ?_
        refine lv_aload_n hx hb d_M_spare_25 rfl (lv_at hl 1 rfl) ?_
        refine lv_iload_n hx hb d_M_spare_26 rfl (lv_at hl 3 rfl) ?_
        obtain ⟨q_4, hc_4, hr⟩ := ob hr
        have ct_4 := C_M_gotWithout l D cI cS a_r0 a_r0_figures a_r0_hampers a_r0_kept a_r0_kinds a_r0_left0 a_r0_wants0 a_r0_weights (Value.int 0) v_r0_refusals v_r0_letters v_r0_letterMany v_r0_at v_r0_isBad v_r0_statements v_r0_placeIn v_r0_letterOf v_r0_told v_r0_imaged v_r0_hasImage v_r0_turns0 v_r0_turnOf v_r0_turned v_r0_order0 v_r0_likely0 v_r0_leftThen v_r0_row v_r0_rowMany v_r0_seed kv hkv_kept r0_days_2 r0_done0_2 r0_isTaking_2 r0_keptIn_2 r0_place0_2 r0_things_2 r0_figures_2 r0_hampers_2 r0_kept_2 r0_kinds_2 r0_left0_2 r0_wants0_2 r0_weights_2 y3_2 q_4 hc_4
        refine k_goI hA hW [0, 1, 2, 3, 4, 5, 6, 7] rfl ct_4.1 (ws' := (w_M_spare cI a_r0 a_r0_figures a_r0_hampers a_r0_kept a_r0_kinds a_r0_left0 a_r0_wants0 a_r0_weights v_r0_refusals v_r0_letters v_r0_letterMany v_r0_at v_r0_isBad v_r0_statements v_r0_placeIn v_r0_letterOf v_r0_told v_r0_imaged v_r0_hasImage v_r0_turns0 v_r0_turnOf v_r0_turned v_r0_order0 v_r0_likely0 v_r0_leftThen v_r0_row v_r0_rowMany v_r0_seed kv q_4.2.1 q_4.2.2.1 q_4.2.2.2.1 q_4.2.2.2.2.1 q_4.2.2.2.2.2.1 q_4.2.2.2.2.2.2.1 0 q_4.2.2.2.2.2.2.2.1 q_4.2.2.2.2.2.2.2.2.1 q_4.2.2.2.2.2.2.2.2.2.1 q_4.2.2.2.2.2.2.2.2.2.2.1 q_4.2.2.2.2.2.2.2.2.2.2.2.1 q_4.2.2.2.2.2.2.2.2.2.2.2.2.1 q_4.2.2.2.2.2.2.2.2.2.2.2.2.2)) rfl (k_runV C hA hW mw_M_gotWithout mv_M_gotWithout (ct_4.2 _) [0, 1, 2, 3, 4, 5, 6, 7] rfl rfl 0 rfl rfl qm_M_237 ⟨Nat.le_of_ble_eq_true rfl, Nat.le_of_ble_eq_true rfl, Nat.zero_le _, Nat.zero_le _⟩ rfl rfl (Nat.le_of_ble_eq_true rfl) hl.1 d_M_spare_27) (fun H locs hW => ?_)
        refine lv_iload_n hx hb d_M_spare_30 rfl (lv_at hl 0 rfl) ?_
        refine lv_icmp_ne (tgt := 40) hx hb d_M_spare_31 (by decide) (fun c_5 => ?_) (fun c_5 => ?_)
        · replace hr := iN c_5 hr
          refine lv_iconst (v := 0) hx hb d_M_spare_40 (by decide) ?_
          refine lv_ior hx hb d_M_spare_41 ?_
          refine lv_istore_n (lv' := [(2, .int (y2_2 ||| 0)), (1, .int q_1.1), (0, .ref a_r0), (3, .int y3_2)]) hx hb d_M_spare_42 rfl hl (by decide) rfl (fun ls hl => ?_)
          refine lv_iinc (v := (y3_2 + 1)) (lv' := [(3, .int (y3_2 + 1)), (2, .int (y2_2 ||| 0)), (1, .int q_1.1), (0, .ref a_r0)]) hx hb d_M_spare_43 hl (k := 3) rfl rfl (by decide) rfl (fun ls hl => ?_)
          refine lv_goto (tgt := 16) hx hb d_M_spare_46 (by decide) ?_
          exact ih_2 (y2_2 ||| 0) (y3_2 + 1) q_4.2.1 q_4.2.2.1 q_4.2.2.2.1 q_4.2.2.2.2.1 q_4.2.2.2.2.2.1 q_4.2.2.2.2.2.2.1 q_4.2.2.2.2.2.2.2.1 q_4.2.2.2.2.2.2.2.2.1 q_4.2.2.2.2.2.2.2.2.2.1 q_4.2.2.2.2.2.2.2.2.2.2.1 q_4.2.2.2.2.2.2.2.2.2.2.2.1 q_4.2.2.2.2.2.2.2.2.2.2.2.2.1 q_4.2.2.2.2.2.2.2.2.2.2.2.2.2 (hz1_2 _ (Option.some.inj hr).symm) _ _ _ hW (lv_sub hl [2, 3, 1, 0] rfl)
        · replace hr := ip c_5 hr
          refine lv_iconst (v := 1) hx hb d_M_spare_34 (by decide) ?_
          refine lv_iload_n hx hb d_M_spare_35 rfl (lv_at hl 3 rfl) ?_
          refine lv_ishl hx hb d_M_spare_36 ?_
          refine lv_goto (tgt := 41) hx hb d_M_spare_37 (by decide) ?_
          refine lv_ior hx hb d_M_spare_41 ?_
          refine lv_istore_n (lv' := [(2, .int (y2_2 ||| ((1 : Int32) <<< ((y3_2 : Int32) &&& 31)))), (1, .int q_1.1), (0, .ref a_r0), (3, .int y3_2)]) hx hb d_M_spare_42 rfl hl (by decide) rfl (fun ls hl => ?_)
          refine lv_iinc (v := (y3_2 + 1)) (lv' := [(3, .int (y3_2 + 1)), (2, .int (y2_2 ||| ((1 : Int32) <<< ((y3_2 : Int32) &&& 31)))), (1, .int q_1.1), (0, .ref a_r0)]) hx hb d_M_spare_43 hl (k := 3) rfl rfl (by decide) rfl (fun ls hl => ?_)
          refine lv_goto (tgt := 16) hx hb d_M_spare_46 (by decide) ?_
          exact ih_2 (y2_2 ||| ((1 : Int32) <<< ((y3_2 : Int32) &&& 31))) (y3_2 + 1) q_4.2.1 q_4.2.2.1 q_4.2.2.2.1 q_4.2.2.2.2.1 q_4.2.2.2.2.2.1 q_4.2.2.2.2.2.2.1 q_4.2.2.2.2.2.2.2.1 q_4.2.2.2.2.2.2.2.2.1 q_4.2.2.2.2.2.2.2.2.2.1 q_4.2.2.2.2.2.2.2.2.2.2.1 q_4.2.2.2.2.2.2.2.2.2.2.2.1 q_4.2.2.2.2.2.2.2.2.2.2.2.2.1 q_4.2.2.2.2.2.2.2.2.2.2.2.2.2 (hz1_2 _ (Option.some.inj hr).symm) _ _ _ hW (lv_sub hl [2, 3, 1, 0] rfl)
  exact hl_2 _ 0 0 q_1.2.1 q_1.2.2.1 q_1.2.2.2.1 q_1.2.2.2.2.1 q_1.2.2.2.2.2.1 q_1.2.2.2.2.2.2.1 q_1.2.2.2.2.2.2.2.1 q_1.2.2.2.2.2.2.2.2.1 q_1.2.2.2.2.2.2.2.2.2.1 q_1.2.2.2.2.2.2.2.2.2.2.1 q_1.2.2.2.2.2.2.2.2.2.2.2.1 q_1.2.2.2.2.2.2.2.2.2.2.2.2.1 q_1.2.2.2.2.2.2.2.2.2.2.2.2.2 hw_2 _ _ _ hW (lv_sub hl [2, 3, 1, 0] rfl)
def w_M_spends (cI : ClassId) (a_r0 : Nat) (a_r0_figures : Nat) (a_r0_hampers : Nat) (a_r0_kinds : Nat) (a_r0_left0 : Nat) (a_r0_refusals : Nat) (a_r0_turnOf : Nat) (a_r0_turns0 : Nat) (a_r0_wants0 : Nat) (a_r0_weights : Nat) (v_r0_letters v_r0_letterMany v_r0_at v_r0_isBad v_r0_statements v_r0_placeIn v_r0_letterOf v_r0_told v_r0_kept v_r0_imaged v_r0_hasImage v_r0_order0 v_r0_likely0 v_r0_leftThen v_r0_row v_r0_rowMany v_r0_seed : Value) (kv : Int32 → Value) (r0_days : Int32) (r0_done0 : Int32) (r0_isTaking : Int32) (r0_keptIn : Int32) (r0_place0 : Int32) (r0_things : Int32) (r0_thrown : Int32) (r0_turned : Int32) (r0_figures : Nat → Int32) (r0_hampers : Nat → Int32) (r0_kinds : Nat → Int32) (r0_left0 : Nat → Int32) (r0_refusals : Nat → Int32) (r0_turnOf : Nat → Int32) (r0_turns0 : Nat → Int32) (r0_wants0 : Nat → Int32) (r0_weights : Nat → Int32) : va_W := [(a_r0, .inr (9, [.ref a_r0_weights, .int r0_things, .ref a_r0_kinds, .ref a_r0_figures, .int r0_days, .ref a_r0_hampers, .ref a_r0_wants0, .ref a_r0_left0, .int r0_done0, .int r0_thrown, .ref a_r0_refusals, v_r0_letters, v_r0_letterMany, v_r0_at, v_r0_isBad, v_r0_statements, v_r0_placeIn, v_r0_letterOf, v_r0_told, v_r0_kept, v_r0_imaged, v_r0_hasImage, .int r0_place0, .int r0_isTaking, (kv r0_keptIn), .ref a_r0_turns0, .ref a_r0_turnOf, .int r0_turned, v_r0_order0, v_r0_likely0, v_r0_leftThen, v_r0_row, v_r0_rowMany, v_r0_seed])), (a_r0_figures, .inl (cI, 8, .inl r0_figures)), (a_r0_hampers, .inl (cI, 8, .inl r0_hampers)), (a_r0_kinds, .inl (cI, 8, .inl r0_kinds)), (a_r0_left0, .inl (cI, 4, .inl r0_left0)), (a_r0_refusals, .inl (cI, 7, .inl r0_refusals)), (a_r0_turnOf, .inl (cI, 41, .inl r0_turnOf)), (a_r0_turns0, .inl (cI, 328, .inl r0_turns0)), (a_r0_wants0, .inl (cI, 4, .inl r0_wants0)), (a_r0_weights, .inl (cI, 6, .inl r0_weights))]
def F_M_spends_J31_3 (r0_days : Int32) (r0_done0 : Int32) (r0_isTaking : Int32) (r0_keptIn : Int32) (r0_place0 : Int32) (r0_things : Int32) (r0_turned : Int32) (r0_figures : Nat → Int32) (r0_hampers : Nat → Int32) (r0_kinds : Nat → Int32) (r0_left0 : Nat → Int32) (r0_refusals : Nat → Int32) (r0_turnOf : Nat → Int32) (r0_turns0 : Nat → Int32) (r0_wants0 : Nat → Int32) (r0_weights : Nat → Int32) : Option (Int32 × (Int32) × (Int32) × (Int32) × (Int32) × (Int32) × (Int32) × (Int32) × (Int32) × (Nat → Int32) × (Nat → Int32) × (Nat → Int32) × (Nat → Int32) × (Nat → Int32) × (Nat → Int32) × (Nat → Int32) × (Nat → Int32) × (Nat → Int32)) :=
  ((F_M_refuse r0_refusals ((-1) : Int32)).bind (fun q_4 => (some (q_4.1, r0_days, r0_done0, r0_isTaking, r0_keptIn, r0_place0, r0_things, 0, r0_turned, r0_figures, r0_hampers, r0_kinds, r0_left0, q_4.2, r0_turnOf, r0_turns0, r0_wants0, r0_weights))))
def F_M_spends_J37_6 (r0_days : Int32) (r0_done0 : Int32) (r0_things : Int32) (r0_turned : Int32) (r0_figures : Nat → Int32) (r0_hampers : Nat → Int32) (r0_kinds : Nat → Int32) (r0_left0 : Nat → Int32) (r0_refusals : Nat → Int32) (r0_turnOf : Nat → Int32) (r0_turns0 : Nat → Int32) (r0_wants0 : Nat → Int32) (r0_weights : Nat → Int32) (x1 : Int32) (x2 : Int32) : Option (Int32 × (Int32) × (Int32) × (Int32) × (Int32) × (Int32) × (Int32) × (Int32) × (Int32) × (Nat → Int32) × (Nat → Int32) × (Nat → Int32) × (Nat → Int32) × (Nat → Int32) × (Nat → Int32) × (Nat → Int32) × (Nat → Int32) × (Nat → Int32)) :=
  ((F_M_keepTurn r0_days r0_done0 r0_things r0_turned r0_figures r0_hampers r0_kinds r0_left0 r0_turnOf r0_turns0 r0_wants0 r0_weights).bind (fun q_7 => (if x2 = 9 then ((F_M_likelyOn q_7.2.2.2.2.2.1 q_7.2.2.2.2.2.2.2.1 q_7.2.2.2.2.2.2.2.2.1 q_7.2.2.2.2.2.2.2.2.2.1 q_7.2.2.2.2.2.2.2.2.2.2.2.2.2.2 x1).bind (fun q_10 => ((F_M_spendWith q_7.2.1 q_7.2.2.2.2.2.2.2.2.2.2.1 q_7.2.2.2.2.2.2.2.2.2.2.2.2.2.1 q_10).bind (fun q_11 => (some (q_11.1, q_7.1, q_11.2.1, q_7.2.2.1, q_7.2.2.2.1, q_7.2.2.2.2.1, q_7.2.2.2.2.2.1, 0, q_7.2.2.2.2.2.2.1, q_7.2.2.2.2.2.2.2.1, q_7.2.2.2.2.2.2.2.2.1, q_7.2.2.2.2.2.2.2.2.2.1, q_11.2.2, r0_refusals, q_7.2.2.2.2.2.2.2.2.2.2.2.1, q_7.2.2.2.2.2.2.2.2.2.2.2.2.1, q_7.2.2.2.2.2.2.2.2.2.2.2.2.2.1, q_7.2.2.2.2.2.2.2.2.2.2.2.2.2.2)))))) else ((F_M_spendWith q_7.2.1 q_7.2.2.2.2.2.2.2.2.2.2.1 q_7.2.2.2.2.2.2.2.2.2.2.2.2.2.1 x2).bind (fun q_9 => (some (q_9.1, q_7.1, q_9.2.1, q_7.2.2.1, q_7.2.2.2.1, q_7.2.2.2.2.1, q_7.2.2.2.2.2.1, 0, q_7.2.2.2.2.2.2.1, q_7.2.2.2.2.2.2.2.1, q_7.2.2.2.2.2.2.2.2.1, q_7.2.2.2.2.2.2.2.2.2.1, q_9.2.2, r0_refusals, q_7.2.2.2.2.2.2.2.2.2.2.2.1, q_7.2.2.2.2.2.2.2.2.2.2.2.2.1, q_7.2.2.2.2.2.2.2.2.2.2.2.2.2.1, q_7.2.2.2.2.2.2.2.2.2.2.2.2.2.2)))))))
def F_M_spends (r0_days : Int32) (r0_done0 : Int32) (r0_isTaking : Int32) (r0_keptIn : Int32) (r0_place0 : Int32) (r0_things : Int32) (r0_turned : Int32) (r0_figures : Nat → Int32) (r0_hampers : Nat → Int32) (r0_kinds : Nat → Int32) (r0_left0 : Nat → Int32) (r0_refusals : Nat → Int32) (r0_turnOf : Nat → Int32) (r0_turns0 : Nat → Int32) (r0_wants0 : Nat → Int32) (r0_weights : Nat → Int32) (x1 : Int32) (x2 : Int32) : Option (Int32 × (Int32) × (Int32) × (Int32) × (Int32) × (Int32) × (Int32) × (Int32) × (Int32) × (Nat → Int32) × (Nat → Int32) × (Nat → Int32) × (Nat → Int32) × (Nat → Int32) × (Nat → Int32) × (Nat → Int32) × (Nat → Int32) × (Nat → Int32)) :=
  ((F_M_isDay r0_days x1).bind (fun q_1 => (if q_1 = 0 then (F_M_spends_J31_3 r0_days r0_done0 r0_isTaking r0_keptIn r0_place0 r0_things r0_turned r0_figures r0_hampers r0_kinds r0_left0 r0_refusals r0_turnOf r0_turns0 r0_wants0 r0_weights) else (if x2 = 9 then (F_M_spends_J37_6 r0_days r0_done0 r0_things r0_turned r0_figures r0_hampers r0_kinds r0_left0 r0_refusals r0_turnOf r0_turns0 r0_wants0 r0_weights x1 x2) else ((F_M_in (Int32.toInt64 x2) (0 : Int64) (5 : Int64)).bind (fun q_12 => (if q_12 = 0 then (F_M_spends_J31_3 r0_days r0_done0 r0_isTaking r0_keptIn r0_place0 r0_things r0_turned r0_figures r0_hampers r0_kinds r0_left0 r0_refusals r0_turnOf r0_turns0 r0_wants0 r0_weights) else (F_M_spends_J37_6 r0_days r0_done0 r0_things r0_turned r0_figures r0_hampers r0_kinds r0_left0 r0_refusals r0_turnOf r0_turns0 r0_wants0 r0_weights x1 x2))))))))
set_option maxHeartbeats 4000000 in
set_option maxRecDepth 100000 in
theorem C_M_spends (l : Launch) (D : va_G) (cI cS : ClassId) (a_r0 : Nat) (a_r0_figures : Nat) (a_r0_hampers : Nat) (a_r0_kinds : Nat) (a_r0_left0 : Nat) (a_r0_refusals : Nat) (a_r0_turnOf : Nat) (a_r0_turns0 : Nat) (a_r0_wants0 : Nat) (a_r0_weights : Nat) (v_r0_letters v_r0_letterMany v_r0_at v_r0_isBad v_r0_statements v_r0_placeIn v_r0_letterOf v_r0_told v_r0_kept v_r0_imaged v_r0_hasImage v_r0_order0 v_r0_likely0 v_r0_leftThen v_r0_row v_r0_rowMany v_r0_seed : Value) (kv : Int32 → Value) (hkv_turnOf : kv 3 = .ref a_r0_turnOf) (r0_days : Int32) (r0_done0 : Int32) (r0_isTaking : Int32) (r0_keptIn : Int32) (r0_place0 : Int32) (r0_things : Int32) (r0_thrown : Int32) (r0_turned : Int32) (r0_figures : Nat → Int32) (r0_hampers : Nat → Int32) (r0_kinds : Nat → Int32) (r0_left0 : Nat → Int32) (r0_refusals : Nat → Int32) (r0_turnOf : Nat → Int32) (r0_turns0 : Nat → Int32) (r0_wants0 : Nat → Int32) (r0_weights : Nat → Int32) (x1 : Int32) (x2 : Int32) (o : Int32 × (Int32) × (Int32) × (Int32) × (Int32) × (Int32) × (Int32) × (Int32) × (Int32) × (Nat → Int32) × (Nat → Int32) × (Nat → Int32) × (Nat → Int32) × (Nat → Int32) × (Nat → Int32) × (Nat → Int32) × (Nat → Int32) × (Nat → Int32)) (hr : F_M_spends r0_days r0_done0 r0_isTaking r0_keptIn r0_place0 r0_things r0_turned r0_figures r0_hampers r0_kinds r0_left0 r0_refusals r0_turnOf r0_turns0 r0_wants0 r0_weights x1 x2 = some o) : ctI l y_M_spends (Cond.code y_M_spends b_M_spends 3 (some FieldType.int)) (rmd 4) D (kTy cI cS) [.ref a_r0, .int x1, .int x2] (w_M_spends cI a_r0 a_r0_figures a_r0_hampers a_r0_kinds a_r0_left0 a_r0_refusals a_r0_turnOf a_r0_turns0 a_r0_wants0 a_r0_weights v_r0_letters v_r0_letterMany v_r0_at v_r0_isBad v_r0_statements v_r0_placeIn v_r0_letterOf v_r0_told v_r0_kept v_r0_imaged v_r0_hasImage v_r0_order0 v_r0_likely0 v_r0_leftThen v_r0_row v_r0_rowMany v_r0_seed kv r0_days r0_done0 r0_isTaking r0_keptIn r0_place0 r0_things r0_thrown r0_turned r0_figures r0_hampers r0_kinds r0_left0 r0_refusals r0_turnOf r0_turns0 r0_wants0 r0_weights) (w_M_spends cI a_r0 a_r0_figures a_r0_hampers a_r0_kinds a_r0_left0 a_r0_refusals a_r0_turnOf a_r0_turns0 a_r0_wants0 a_r0_weights v_r0_letters v_r0_letterMany v_r0_at v_r0_isBad v_r0_statements v_r0_placeIn v_r0_letterOf v_r0_told v_r0_kept v_r0_imaged v_r0_hasImage v_r0_order0 v_r0_likely0 v_r0_leftThen v_r0_row v_r0_rowMany v_r0_seed kv o.2.1 o.2.2.1 o.2.2.2.1 o.2.2.2.2.1 o.2.2.2.2.2.1 o.2.2.2.2.2.2.1 o.2.2.2.2.2.2.2.1 o.2.2.2.2.2.2.2.2.1 o.2.2.2.2.2.2.2.2.2.1 o.2.2.2.2.2.2.2.2.2.2.1 o.2.2.2.2.2.2.2.2.2.2.2.1 o.2.2.2.2.2.2.2.2.2.2.2.2.1 o.2.2.2.2.2.2.2.2.2.2.2.2.2.1 o.2.2.2.2.2.2.2.2.2.2.2.2.2.2.1 o.2.2.2.2.2.2.2.2.2.2.2.2.2.2.2.1 o.2.2.2.2.2.2.2.2.2.2.2.2.2.2.2.2.1 o.2.2.2.2.2.2.2.2.2.2.2.2.2.2.2.2.2) o.1 := by
  unfold F_M_spends at hr
  refine ⟨rfl, fun sz => ct_of (w0 := (w_M_spends cI a_r0 a_r0_figures a_r0_hampers a_r0_kinds a_r0_left0 a_r0_refusals a_r0_turnOf a_r0_turns0 a_r0_wants0 a_r0_weights v_r0_letters v_r0_letterMany v_r0_at v_r0_isBad v_r0_statements v_r0_placeIn v_r0_letterOf v_r0_told v_r0_kept v_r0_imaged v_r0_hasImage v_r0_order0 v_r0_likely0 v_r0_leftThen v_r0_row v_r0_rowMany v_r0_seed kv r0_days r0_done0 r0_isTaking r0_keptIn r0_place0 r0_things r0_thrown r0_turned r0_figures r0_hampers r0_kinds r0_left0 r0_refusals r0_turnOf r0_turns0 r0_wants0 r0_weights)) (Qc := fun A => qI D (w_M_spends cI a_r0 a_r0_figures a_r0_hampers a_r0_kinds a_r0_left0 a_r0_refusals a_r0_turnOf a_r0_turns0 a_r0_wants0 a_r0_weights v_r0_letters v_r0_letterMany v_r0_at v_r0_isBad v_r0_statements v_r0_placeIn v_r0_letterOf v_r0_told v_r0_kept v_r0_imaged v_r0_hasImage v_r0_order0 v_r0_likely0 v_r0_leftThen v_r0_row v_r0_rowMany v_r0_seed kv o.2.1 o.2.2.1 o.2.2.2.1 o.2.2.2.2.1 o.2.2.2.2.2.1 o.2.2.2.2.2.2.1 o.2.2.2.2.2.2.2.1 o.2.2.2.2.2.2.2.2.1 o.2.2.2.2.2.2.2.2.2.1 o.2.2.2.2.2.2.2.2.2.2.1 o.2.2.2.2.2.2.2.2.2.2.2.1 o.2.2.2.2.2.2.2.2.2.2.2.2.1 o.2.2.2.2.2.2.2.2.2.2.2.2.2.1 o.2.2.2.2.2.2.2.2.2.2.2.2.2.2.1 o.2.2.2.2.2.2.2.2.2.2.2.2.2.2.2.1 o.2.2.2.2.2.2.2.2.2.2.2.2.2.2.2.2.1 o.2.2.2.2.2.2.2.2.2.2.2.2.2.2.2.2.2) o.1 A) rfl (Nat.le_of_ble_eq_true rfl) ?_ sz⟩
  intro p e s m below meth c A hA C hret ls hl hW
  have C : cx p s m ([.ref a_r0, .int x1, .int x2] : List Value).toArray meth c b_M_spends 3 R_M D (kTy cI cS) (Cond.code y_M_spends b_M_spends 3 (some FieldType.int)) := C
  obtain ⟨hx, hb, hml, hown, hts, hK, hlk, hN⟩ := id C
  have hl : lv_has ls 3 [(0, .ref a_r0), (1, .int x1), (2, .int x2)] := hl
  obtain ⟨Q, hQ⟩ : ∃ Q, Q = MQ below (qI D (w_M_spends cI a_r0 a_r0_figures a_r0_hampers a_r0_kinds a_r0_left0 a_r0_refusals a_r0_turnOf a_r0_turns0 a_r0_wants0 a_r0_weights v_r0_letters v_r0_letterMany v_r0_at v_r0_isBad v_r0_statements v_r0_placeIn v_r0_letterOf v_r0_told v_r0_kept v_r0_imaged v_r0_hasImage v_r0_order0 v_r0_likely0 v_r0_leftThen v_r0_row v_r0_rowMany v_r0_seed kv o.2.1 o.2.2.1 o.2.2.2.1 o.2.2.2.2.1 o.2.2.2.2.2.1 o.2.2.2.2.2.2.1 o.2.2.2.2.2.2.2.1 o.2.2.2.2.2.2.2.2.1 o.2.2.2.2.2.2.2.2.2.1 o.2.2.2.2.2.2.2.2.2.2.1 o.2.2.2.2.2.2.2.2.2.2.2.1 o.2.2.2.2.2.2.2.2.2.2.2.2.1 o.2.2.2.2.2.2.2.2.2.2.2.2.2.1 o.2.2.2.2.2.2.2.2.2.2.2.2.2.2.1 o.2.2.2.2.2.2.2.2.2.2.2.2.2.2.2.1 o.2.2.2.2.2.2.2.2.2.2.2.2.2.2.2.2.1 o.2.2.2.2.2.2.2.2.2.2.2.2.2.2.2.2.2) o.1 A) ([.ref a_r0, .int x1, .int x2] : List Value).toArray s 0 0 A := ⟨_, rfl⟩
  rw [← hQ]
  refine lv_aload_n hx hb d_M_spends_0 rfl (lv_at hl 0 rfl) ?_
  refine lv_iconst (v := 0) hx hb d_M_spends_1 (by decide) ?_
  refine k_put i_M t_M_ok n_M C hW 0 rfl rfl 9 (by decide) qf_M_67 rfl rfl (ty := .int) rfl rfl rfl (Nat.le_of_ble_eq_true rfl) (ws' := (w_M_spends cI a_r0 a_r0_figures a_r0_hampers a_r0_kinds a_r0_left0 a_r0_refusals a_r0_turnOf a_r0_turns0 a_r0_wants0 a_r0_weights v_r0_letters v_r0_letterMany v_r0_at v_r0_isBad v_r0_statements v_r0_placeIn v_r0_letterOf v_r0_told v_r0_kept v_r0_imaged v_r0_hasImage v_r0_order0 v_r0_likely0 v_r0_leftThen v_r0_row v_r0_rowMany v_r0_seed kv r0_days r0_done0 r0_isTaking r0_keptIn r0_place0 r0_things 0 r0_turned r0_figures r0_hampers r0_kinds r0_left0 r0_refusals r0_turnOf r0_turns0 r0_wants0 r0_weights)) rfl d_M_spends_2 (fun H locs hW => ?_)
  refine lv_aload_n hx hb d_M_spends_5 rfl (lv_at hl 0 rfl) ?_
  refine lv_iload_n hx hb d_M_spends_6 rfl (lv_at hl 1 rfl) ?_
  obtain ⟨q_1, hc_1, hr⟩ := ob hr
  have ct_1 := C_M_isDay l D cI cS a_r0 (Value.ref a_r0_weights) (Value.int r0_things) (Value.ref a_r0_kinds) (Value.ref a_r0_figures) (Value.ref a_r0_hampers) (Value.ref a_r0_wants0) (Value.ref a_r0_left0) (Value.int r0_done0) (Value.int 0) (Value.ref a_r0_refusals) v_r0_letters v_r0_letterMany v_r0_at v_r0_isBad v_r0_statements v_r0_placeIn v_r0_letterOf v_r0_told v_r0_kept v_r0_imaged v_r0_hasImage (Value.int r0_place0) (Value.int r0_isTaking) (kv r0_keptIn) (Value.ref a_r0_turns0) (Value.ref a_r0_turnOf) (Value.int r0_turned) v_r0_order0 v_r0_likely0 v_r0_leftThen v_r0_row v_r0_rowMany v_r0_seed r0_days x1 q_1 hc_1
  refine k_goIp hA hW [0] rfl rfl (k_runV C hA hW mw_M_isDay mv_M_isDay (ct_1.2 _) [0] rfl rfl 0 rfl rfl qm_M_150 ⟨Nat.le_of_ble_eq_true rfl, Nat.le_of_ble_eq_true rfl, Nat.zero_le _, Nat.zero_le _⟩ rfl rfl (Nat.le_of_ble_eq_true rfl) hl.1 d_M_spends_7) (fun H locs hW => ?_)
  have hJ_3 : ∀ (_ : Unit), F_M_spends_J31_3 r0_days r0_done0 r0_isTaking r0_keptIn r0_place0 r0_things r0_turned r0_figures r0_hampers r0_kinds r0_left0 r0_refusals r0_turnOf r0_turns0 r0_wants0 r0_weights = some o → ∀ (H : Heap) (locs : List Loc) (ls : Array Slot), wd A s.heap D (w_M_spends cI a_r0 a_r0_figures a_r0_hampers a_r0_kinds a_r0_left0 a_r0_refusals a_r0_turnOf a_r0_turns0 a_r0_wants0 a_r0_weights v_r0_letters v_r0_letterMany v_r0_at v_r0_isBad v_r0_statements v_r0_placeIn v_r0_letterOf v_r0_told v_r0_kept v_r0_imaged v_r0_hasImage v_r0_order0 v_r0_likely0 v_r0_leftThen v_r0_row v_r0_rowMany v_r0_seed kv r0_days r0_done0 r0_isTaking r0_keptIn r0_place0 r0_things 0 r0_turned r0_figures r0_hampers r0_kinds r0_left0 r0_refusals r0_turnOf r0_turns0 r0_wants0 r0_weights) H locs → lv_has ls 3 [(0, .ref a_r0)] → W p l e (rmd 4) s m ([.ref a_r0, .int x1, .int x2] : List Value).toArray below meth c H locs 0 0 Q (F0 m 31 ls []) := by
    intro _ hr H locs ls hW hl
    unfold F_M_spends_J31_3 at hr
    refine lv_aload_n hx hb d_M_spends_31 rfl (lv_at hl 0 rfl) ?_
    refine lv_iconst (v := (-1)) hx hb d_M_spends_32 (by decide) ?_
    obtain ⟨q_4, hc_4, hr⟩ := ob hr
    have ct_4 := C_M_refuse l D cI cS a_r0 a_r0_refusals (Value.ref a_r0_weights) (Value.int r0_things) (Value.ref a_r0_kinds) (Value.ref a_r0_figures) (Value.int r0_days) (Value.ref a_r0_hampers) (Value.ref a_r0_wants0) (Value.ref a_r0_left0) (Value.int r0_done0) (Value.int 0) v_r0_letters v_r0_letterMany v_r0_at v_r0_isBad v_r0_statements v_r0_placeIn v_r0_letterOf v_r0_told v_r0_kept v_r0_imaged v_r0_hasImage (Value.int r0_place0) (Value.int r0_isTaking) (kv r0_keptIn) (Value.ref a_r0_turns0) (Value.ref a_r0_turnOf) (Value.int r0_turned) v_r0_order0 v_r0_likely0 v_r0_leftThen v_r0_row v_r0_rowMany v_r0_seed r0_refusals (-1) q_4 hc_4
    refine k_goI hA hW [0, 5] rfl ct_4.1 (ws' := (w_M_spends cI a_r0 a_r0_figures a_r0_hampers a_r0_kinds a_r0_left0 a_r0_refusals a_r0_turnOf a_r0_turns0 a_r0_wants0 a_r0_weights v_r0_letters v_r0_letterMany v_r0_at v_r0_isBad v_r0_statements v_r0_placeIn v_r0_letterOf v_r0_told v_r0_kept v_r0_imaged v_r0_hasImage v_r0_order0 v_r0_likely0 v_r0_leftThen v_r0_row v_r0_rowMany v_r0_seed kv r0_days r0_done0 r0_isTaking r0_keptIn r0_place0 r0_things 0 r0_turned r0_figures r0_hampers r0_kinds r0_left0 q_4.2 r0_turnOf r0_turns0 r0_wants0 r0_weights)) rfl (k_runV C hA hW mw_M_refuse mv_M_refuse (ct_4.2 _) [0, 5] rfl rfl 0 rfl rfl qm_M_108 ⟨Nat.le_of_ble_eq_true rfl, Nat.le_of_ble_eq_true rfl, Nat.zero_le _, Nat.zero_le _⟩ rfl rfl (Nat.le_of_ble_eq_true rfl) hl.1 d_M_spends_33) (fun H locs hW => ?_)
    obtain rfl := Option.some.inj hr
    rw [hQ]; exact k_iret C hret hW d_M_spends_36
  refine lv_if_eq (tgt := 31) hx hb d_M_spends_10 (by decide) (fun c_2 => ?_) (fun c_2 => ?_)
  · replace hr := ip c_2 hr
    exact hJ_3 () hr _ _ _ hW (lv_sub hl [0] rfl)
  · replace hr := iN c_2 hr
    refine lv_iload_n hx hb d_M_spends_13 rfl (lv_at hl 2 rfl) ?_
    refine lv_bipush (v := 9) hx hb d_M_spends_14 (by decide) ?_
    have hJ_6 : ∀ (_ : Unit), F_M_spends_J37_6 r0_days r0_done0 r0_things r0_turned r0_figures r0_hampers r0_kinds r0_left0 r0_refusals r0_turnOf r0_turns0 r0_wants0 r0_weights x1 x2 = some o → ∀ (H : Heap) (locs : List Loc) (ls : Array Slot), wd A s.heap D (w_M_spends cI a_r0 a_r0_figures a_r0_hampers a_r0_kinds a_r0_left0 a_r0_refusals a_r0_turnOf a_r0_turns0 a_r0_wants0 a_r0_weights v_r0_letters v_r0_letterMany v_r0_at v_r0_isBad v_r0_statements v_r0_placeIn v_r0_letterOf v_r0_told v_r0_kept v_r0_imaged v_r0_hasImage v_r0_order0 v_r0_likely0 v_r0_leftThen v_r0_row v_r0_rowMany v_r0_seed kv r0_days r0_done0 r0_isTaking r0_keptIn r0_place0 r0_things 0 r0_turned r0_figures r0_hampers r0_kinds r0_left0 r0_refusals r0_turnOf r0_turns0 r0_wants0 r0_weights) H locs → lv_has ls 3 [(0, .ref a_r0), (1, .int x1), (2, .int x2)] → W p l e (rmd 4) s m ([.ref a_r0, .int x1, .int x2] : List Value).toArray below meth c H locs 0 0 Q (F0 m 37 ls []) := by
      intro _ hr H locs ls hW hl
      unfold F_M_spends_J37_6 at hr
      refine lv_aload_n hx hb d_M_spends_37 rfl (lv_at hl 0 rfl) ?_
      obtain ⟨q_7, hc_7, hr⟩ := ob hr
      have ct_7 := C_M_keepTurn l D cI cS a_r0 a_r0_figures a_r0_hampers a_r0_kinds a_r0_left0 a_r0_turnOf a_r0_turns0 a_r0_wants0 a_r0_weights (Value.int 0) (Value.ref a_r0_refusals) v_r0_letters v_r0_letterMany v_r0_at v_r0_isBad v_r0_statements v_r0_placeIn v_r0_letterOf v_r0_told v_r0_kept v_r0_imaged v_r0_hasImage v_r0_order0 v_r0_likely0 v_r0_leftThen v_r0_row v_r0_rowMany v_r0_seed kv hkv_turnOf r0_days r0_done0 r0_isTaking r0_keptIn r0_place0 r0_things r0_turned r0_figures r0_hampers r0_kinds r0_left0 r0_turnOf r0_turns0 r0_wants0 r0_weights q_7 hc_7
      refine k_goV hA hW [0, 1, 2, 3, 4, 6, 7, 8, 9] rfl ct_7.1 (ws' := (w_M_spends cI a_r0 a_r0_figures a_r0_hampers a_r0_kinds a_r0_left0 a_r0_refusals a_r0_turnOf a_r0_turns0 a_r0_wants0 a_r0_weights v_r0_letters v_r0_letterMany v_r0_at v_r0_isBad v_r0_statements v_r0_placeIn v_r0_letterOf v_r0_told v_r0_kept v_r0_imaged v_r0_hasImage v_r0_order0 v_r0_likely0 v_r0_leftThen v_r0_row v_r0_rowMany v_r0_seed kv q_7.1 q_7.2.1 q_7.2.2.1 q_7.2.2.2.1 q_7.2.2.2.2.1 q_7.2.2.2.2.2.1 0 q_7.2.2.2.2.2.2.1 q_7.2.2.2.2.2.2.2.1 q_7.2.2.2.2.2.2.2.2.1 q_7.2.2.2.2.2.2.2.2.2.1 q_7.2.2.2.2.2.2.2.2.2.2.1 r0_refusals q_7.2.2.2.2.2.2.2.2.2.2.2.1 q_7.2.2.2.2.2.2.2.2.2.2.2.2.1 q_7.2.2.2.2.2.2.2.2.2.2.2.2.2.1 q_7.2.2.2.2.2.2.2.2.2.2.2.2.2.2)) rfl (k_runV C hA hW mw_M_keepTurn mv_M_keepTurn (ct_7.2 _) [0, 1, 2, 3, 4, 6, 7, 8, 9] rfl rfl 0 rfl rfl qm_M_212 ⟨Nat.le_of_ble_eq_true rfl, Nat.le_of_ble_eq_true rfl, Nat.zero_le _, Nat.zero_le _⟩ rfl rfl (Nat.le_of_ble_eq_true rfl) hl.1 d_M_spends_38) (fun H locs hW => ?_)
      refine lv_aload_n hx hb d_M_spends_41 rfl (lv_at hl 0 rfl) ?_
      refine lv_iload_n hx hb d_M_spends_42 rfl (lv_at hl 2 rfl) ?_
      refine lv_bipush (v := 9) hx hb d_M_spends_43 (by decide) ?_
      refine lv_icmp_ne (tgt := 56) hx hb d_M_spends_45 (by decide) (fun c_8 => ?_) (fun c_8 => ?_)
      · replace hr := iN c_8 hr
        refine lv_iload_n hx hb d_M_spends_56 rfl (lv_at hl 2 rfl) ?_
        obtain ⟨q_9, hc_9, hr⟩ := ob hr
        have ct_9 := C_M_spendWith l D cI cS a_r0 a_r0_left0 a_r0_wants0 (Value.ref a_r0_weights) (Value.int q_7.2.2.2.2.2.1) (Value.ref a_r0_kinds) (Value.ref a_r0_figures) (Value.int q_7.1) (Value.ref a_r0_hampers) (Value.int 0) (Value.ref a_r0_refusals) v_r0_letters v_r0_letterMany v_r0_at v_r0_isBad v_r0_statements v_r0_placeIn v_r0_letterOf v_r0_told v_r0_kept v_r0_imaged v_r0_hasImage (Value.int q_7.2.2.2.2.1) (Value.int q_7.2.2.1) (kv q_7.2.2.2.1) (Value.ref a_r0_turns0) (Value.ref a_r0_turnOf) (Value.int q_7.2.2.2.2.2.2.1) v_r0_order0 v_r0_likely0 v_r0_leftThen v_r0_row v_r0_rowMany v_r0_seed q_7.2.1 q_7.2.2.2.2.2.2.2.2.2.2.1 q_7.2.2.2.2.2.2.2.2.2.2.2.2.2.1 x2 q_9 hc_9
        refine k_goI hA hW [0, 4, 8] rfl ct_9.1 (ws' := (w_M_spends cI a_r0 a_r0_figures a_r0_hampers a_r0_kinds a_r0_left0 a_r0_refusals a_r0_turnOf a_r0_turns0 a_r0_wants0 a_r0_weights v_r0_letters v_r0_letterMany v_r0_at v_r0_isBad v_r0_statements v_r0_placeIn v_r0_letterOf v_r0_told v_r0_kept v_r0_imaged v_r0_hasImage v_r0_order0 v_r0_likely0 v_r0_leftThen v_r0_row v_r0_rowMany v_r0_seed kv q_7.1 q_9.2.1 q_7.2.2.1 q_7.2.2.2.1 q_7.2.2.2.2.1 q_7.2.2.2.2.2.1 0 q_7.2.2.2.2.2.2.1 q_7.2.2.2.2.2.2.2.1 q_7.2.2.2.2.2.2.2.2.1 q_7.2.2.2.2.2.2.2.2.2.1 q_9.2.2 r0_refusals q_7.2.2.2.2.2.2.2.2.2.2.2.1 q_7.2.2.2.2.2.2.2.2.2.2.2.2.1 q_7.2.2.2.2.2.2.2.2.2.2.2.2.2.1 q_7.2.2.2.2.2.2.2.2.2.2.2.2.2.2)) rfl (k_runV C hA hW mw_M_spendWith mv_M_spendWith (ct_9.2 _) [0, 4, 8] rfl rfl 0 rfl rfl qm_M_156 ⟨Nat.le_of_ble_eq_true rfl, Nat.le_of_ble_eq_true rfl, Nat.zero_le _, Nat.zero_le _⟩ rfl rfl (Nat.le_of_ble_eq_true rfl) hl.1 d_M_spends_57) (fun H locs hW => ?_)
        obtain rfl := Option.some.inj hr
        rw [hQ]; exact k_iret C hret hW d_M_spends_60
      · replace hr := ip c_8 hr
        refine lv_aload_n hx hb d_M_spends_48 rfl (lv_at hl 0 rfl) ?_
        refine lv_iload_n hx hb d_M_spends_49 rfl (lv_at hl 1 rfl) ?_
        obtain ⟨q_10, hc_10, hr⟩ := ob hr
        have ct_10 := C_M_likelyOn l D cI cS a_r0 a_r0_figures a_r0_hampers a_r0_kinds a_r0_weights (Value.int q_7.1) (Value.ref a_r0_wants0) (Value.ref a_r0_left0) (Value.int q_7.2.1) (Value.int 0) (Value.ref a_r0_refusals) v_r0_letters v_r0_letterMany v_r0_at v_r0_isBad v_r0_statements v_r0_placeIn v_r0_letterOf v_r0_told v_r0_kept v_r0_imaged v_r0_hasImage (Value.int q_7.2.2.2.2.1) (Value.int q_7.2.2.1) (kv q_7.2.2.2.1) (Value.ref a_r0_turns0) (Value.ref a_r0_turnOf) (Value.int q_7.2.2.2.2.2.2.1) v_r0_order0 v_r0_likely0 v_r0_leftThen v_r0_row v_r0_rowMany v_r0_seed q_7.2.2.2.2.2.1 q_7.2.2.2.2.2.2.2.1 q_7.2.2.2.2.2.2.2.2.1 q_7.2.2.2.2.2.2.2.2.2.1 q_7.2.2.2.2.2.2.2.2.2.2.2.2.2.2 x1 q_10 hc_10
        refine k_goIp hA hW [0, 1, 2, 3, 9] rfl rfl (k_runV C hA hW mw_M_likelyOn mv_M_likelyOn (ct_10.2 _) [0, 1, 2, 3, 9] rfl rfl 0 rfl rfl qm_M_153 ⟨Nat.le_of_ble_eq_true rfl, Nat.le_of_ble_eq_true rfl, Nat.zero_le _, Nat.zero_le _⟩ rfl rfl (Nat.le_of_ble_eq_true rfl) hl.1 d_M_spends_50) (fun H locs hW => ?_)
        refine lv_goto (tgt := 57) hx hb d_M_spends_53 (by decide) ?_
        obtain ⟨q_11, hc_11, hr⟩ := ob hr
        have ct_11 := C_M_spendWith l D cI cS a_r0 a_r0_left0 a_r0_wants0 (Value.ref a_r0_weights) (Value.int q_7.2.2.2.2.2.1) (Value.ref a_r0_kinds) (Value.ref a_r0_figures) (Value.int q_7.1) (Value.ref a_r0_hampers) (Value.int 0) (Value.ref a_r0_refusals) v_r0_letters v_r0_letterMany v_r0_at v_r0_isBad v_r0_statements v_r0_placeIn v_r0_letterOf v_r0_told v_r0_kept v_r0_imaged v_r0_hasImage (Value.int q_7.2.2.2.2.1) (Value.int q_7.2.2.1) (kv q_7.2.2.2.1) (Value.ref a_r0_turns0) (Value.ref a_r0_turnOf) (Value.int q_7.2.2.2.2.2.2.1) v_r0_order0 v_r0_likely0 v_r0_leftThen v_r0_row v_r0_rowMany v_r0_seed q_7.2.1 q_7.2.2.2.2.2.2.2.2.2.2.1 q_7.2.2.2.2.2.2.2.2.2.2.2.2.2.1 q_10 q_11 hc_11
        refine k_goI hA hW [0, 4, 8] rfl ct_11.1 (ws' := (w_M_spends cI a_r0 a_r0_figures a_r0_hampers a_r0_kinds a_r0_left0 a_r0_refusals a_r0_turnOf a_r0_turns0 a_r0_wants0 a_r0_weights v_r0_letters v_r0_letterMany v_r0_at v_r0_isBad v_r0_statements v_r0_placeIn v_r0_letterOf v_r0_told v_r0_kept v_r0_imaged v_r0_hasImage v_r0_order0 v_r0_likely0 v_r0_leftThen v_r0_row v_r0_rowMany v_r0_seed kv q_7.1 q_11.2.1 q_7.2.2.1 q_7.2.2.2.1 q_7.2.2.2.2.1 q_7.2.2.2.2.2.1 0 q_7.2.2.2.2.2.2.1 q_7.2.2.2.2.2.2.2.1 q_7.2.2.2.2.2.2.2.2.1 q_7.2.2.2.2.2.2.2.2.2.1 q_11.2.2 r0_refusals q_7.2.2.2.2.2.2.2.2.2.2.2.1 q_7.2.2.2.2.2.2.2.2.2.2.2.2.1 q_7.2.2.2.2.2.2.2.2.2.2.2.2.2.1 q_7.2.2.2.2.2.2.2.2.2.2.2.2.2.2)) rfl (k_runV C hA hW mw_M_spendWith mv_M_spendWith (ct_11.2 _) [0, 4, 8] rfl rfl 0 rfl rfl qm_M_156 ⟨Nat.le_of_ble_eq_true rfl, Nat.le_of_ble_eq_true rfl, Nat.zero_le _, Nat.zero_le _⟩ rfl rfl (Nat.le_of_ble_eq_true rfl) hl.1 d_M_spends_57) (fun H locs hW => ?_)
        obtain rfl := Option.some.inj hr
        rw [hQ]; exact k_iret C hret hW d_M_spends_60
    refine lv_icmp_eq (tgt := 37) hx hb d_M_spends_16 (by decide) (fun c_5 => ?_) (fun c_5 => ?_)
    · replace hr := ip c_5 hr
      exact hJ_6 () hr _ _ _ hW (lv_sub hl [0, 1, 2] rfl)
    · replace hr := iN c_5 hr
      refine lv_iload_n hx hb d_M_spends_19 rfl (lv_at hl 2 rfl) ?_
      refine lv_i2l hx hb d_M_spends_20 rfl ?_
      refine lv_lconst (v := 0) hx hb d_M_spends_21 (by decide) ?_
      refine lv_ldc2 (v := 5) hx hb hown (hts _ (List.mem_cons_of_mem _ (qc_M_206))) d_M_spends_22 ?_
      obtain ⟨q_12, hc_12, hr⟩ := ob hr
      have ct_12 := C_M_in l D cI cS (Int32.toInt64 x2) 0 (5 : Int64) q_12 hc_12
      refine k_goIp hA hW [] rfl rfl (k_runS C hA hW mw_M_in ms_M_in (ct_12.2 _) [] rfl rfl qm_M_74 ⟨Nat.le_of_ble_eq_true rfl, Nat.le_of_ble_eq_true rfl, Nat.zero_le _, Nat.zero_le _⟩ rfl rfl (Nat.le_of_ble_eq_true rfl) hl.1 d_M_spends_25) (fun H locs hW => ?_)
      refine lv_if_ne (tgt := 37) hx hb d_M_spends_28 (by decide) (fun c_13 => ?_) (fun c_13 => ?_)
      · replace hr := iN c_13 hr
        exact hJ_6 () hr _ _ _ hW (lv_sub hl [0, 1, 2] rfl)
      · replace hr := ip c_13 hr
        exact hJ_3 () hr _ _ _ hW (lv_sub hl [0] rfl)
def w_M_sure (cI : ClassId) (a_r0 : Nat) (a_r0_figures : Nat) (a_r0_hampers : Nat) (a_r0_kinds : Nat) (a_r0_refusals : Nat) (v_r0_weights v_r0_wants0 v_r0_left0 v_r0_done0 v_r0_letters v_r0_letterMany v_r0_at v_r0_isBad v_r0_statements v_r0_placeIn v_r0_letterOf v_r0_told v_r0_kept v_r0_imaged v_r0_hasImage v_r0_place0 v_r0_isTaking v_r0_keptIn v_r0_turns0 v_r0_turnOf v_r0_turned v_r0_order0 v_r0_likely0 v_r0_leftThen v_r0_row v_r0_rowMany v_r0_seed : Value) (r0_days : Int32) (r0_things : Int32) (r0_thrown : Int32) (r0_figures : Nat → Int32) (r0_hampers : Nat → Int32) (r0_kinds : Nat → Int32) (r0_refusals : Nat → Int32) : va_W := [(a_r0, .inr (9, [v_r0_weights, .int r0_things, .ref a_r0_kinds, .ref a_r0_figures, .int r0_days, .ref a_r0_hampers, v_r0_wants0, v_r0_left0, v_r0_done0, .int r0_thrown, .ref a_r0_refusals, v_r0_letters, v_r0_letterMany, v_r0_at, v_r0_isBad, v_r0_statements, v_r0_placeIn, v_r0_letterOf, v_r0_told, v_r0_kept, v_r0_imaged, v_r0_hasImage, v_r0_place0, v_r0_isTaking, v_r0_keptIn, v_r0_turns0, v_r0_turnOf, v_r0_turned, v_r0_order0, v_r0_likely0, v_r0_leftThen, v_r0_row, v_r0_rowMany, v_r0_seed])), (a_r0_figures, .inl (cI, 8, .inl r0_figures)), (a_r0_hampers, .inl (cI, 8, .inl r0_hampers)), (a_r0_kinds, .inl (cI, 8, .inl r0_kinds)), (a_r0_refusals, .inl (cI, 7, .inl r0_refusals))]
def F_M_sure_L26 (r0_days : Int32) (r0_things : Int32) (r0_figures : Nat → Int32) (r0_hampers : Nat → Int32) (r0_kinds : Nat → Int32) (x1 : Int32) (y2_3 : Int32) (y3_3 : Int32) : Option (((Int32) × (Int32)) ⊕ ((Int32))) :=
  (if r0_days ≤ y3_3 then (some (.inr y2_3)) else (ck y3_3 8 ((F_M_couldBe r0_things r0_figures r0_kinds (r0_hampers (Int32.toNatClampNeg y3_3))).bind (fun q_6 => ((F_M_onesOf q_6).bind (fun q_7 => (if q_7 = ((1 : Int32) - x1) then (some (.inl ((y2_3 ||| ((1 : Int32) <<< ((y3_3 : Int32) &&& 31))), (y3_3 + 1)))) else (some (.inl ((y2_3 ||| 0), (y3_3 + 1)))))))))))
def F_M_sure (r0_days : Int32) (r0_things : Int32) (r0_figures : Nat → Int32) (r0_hampers : Nat → Int32) (r0_kinds : Nat → Int32) (r0_refusals : Nat → Int32) (x1 : Int32) : Option (Int32 × (Int32) × (Nat → Int32)) :=
  ((F_M_in (Int32.toInt64 x1) (0 : Int64) (1 : Int64)).bind (fun q_1 => (if q_1 = 0 then ((F_M_refuse r0_refusals ((-2) : Int32)).bind (fun q_9 => (some (q_9.1, 0, q_9.2)))) else ((wh (fun (s : (Int32) × (Int32)) => F_M_sure_L26 r0_days r0_things r0_figures r0_hampers r0_kinds x1 s.1 s.2) 400 ((0 : Int32), (0 : Int32))).bind (fun e_3 => (some (e_3, 0, r0_refusals)))))))
set_option maxHeartbeats 4000000 in
set_option maxRecDepth 100000 in
theorem C_M_sure (l : Launch) (D : va_G) (cI cS : ClassId) (a_r0 : Nat) (a_r0_figures : Nat) (a_r0_hampers : Nat) (a_r0_kinds : Nat) (a_r0_refusals : Nat) (v_r0_weights v_r0_wants0 v_r0_left0 v_r0_done0 v_r0_letters v_r0_letterMany v_r0_at v_r0_isBad v_r0_statements v_r0_placeIn v_r0_letterOf v_r0_told v_r0_kept v_r0_imaged v_r0_hasImage v_r0_place0 v_r0_isTaking v_r0_keptIn v_r0_turns0 v_r0_turnOf v_r0_turned v_r0_order0 v_r0_likely0 v_r0_leftThen v_r0_row v_r0_rowMany v_r0_seed : Value) (r0_days : Int32) (r0_things : Int32) (r0_thrown : Int32) (r0_figures : Nat → Int32) (r0_hampers : Nat → Int32) (r0_kinds : Nat → Int32) (r0_refusals : Nat → Int32) (x1 : Int32) (o : Int32 × (Int32) × (Nat → Int32)) (hr : F_M_sure r0_days r0_things r0_figures r0_hampers r0_kinds r0_refusals x1 = some o) : ctI l y_M_sure (Cond.code y_M_sure b_M_sure 4 (some FieldType.int)) (rmd 3) D (kTy cI cS) [.ref a_r0, .int x1] (w_M_sure cI a_r0 a_r0_figures a_r0_hampers a_r0_kinds a_r0_refusals v_r0_weights v_r0_wants0 v_r0_left0 v_r0_done0 v_r0_letters v_r0_letterMany v_r0_at v_r0_isBad v_r0_statements v_r0_placeIn v_r0_letterOf v_r0_told v_r0_kept v_r0_imaged v_r0_hasImage v_r0_place0 v_r0_isTaking v_r0_keptIn v_r0_turns0 v_r0_turnOf v_r0_turned v_r0_order0 v_r0_likely0 v_r0_leftThen v_r0_row v_r0_rowMany v_r0_seed r0_days r0_things r0_thrown r0_figures r0_hampers r0_kinds r0_refusals) (w_M_sure cI a_r0 a_r0_figures a_r0_hampers a_r0_kinds a_r0_refusals v_r0_weights v_r0_wants0 v_r0_left0 v_r0_done0 v_r0_letters v_r0_letterMany v_r0_at v_r0_isBad v_r0_statements v_r0_placeIn v_r0_letterOf v_r0_told v_r0_kept v_r0_imaged v_r0_hasImage v_r0_place0 v_r0_isTaking v_r0_keptIn v_r0_turns0 v_r0_turnOf v_r0_turned v_r0_order0 v_r0_likely0 v_r0_leftThen v_r0_row v_r0_rowMany v_r0_seed r0_days r0_things o.2.1 r0_figures r0_hampers r0_kinds o.2.2) o.1 := by
  unfold F_M_sure at hr
  refine ⟨rfl, fun sz => ct_of (w0 := (w_M_sure cI a_r0 a_r0_figures a_r0_hampers a_r0_kinds a_r0_refusals v_r0_weights v_r0_wants0 v_r0_left0 v_r0_done0 v_r0_letters v_r0_letterMany v_r0_at v_r0_isBad v_r0_statements v_r0_placeIn v_r0_letterOf v_r0_told v_r0_kept v_r0_imaged v_r0_hasImage v_r0_place0 v_r0_isTaking v_r0_keptIn v_r0_turns0 v_r0_turnOf v_r0_turned v_r0_order0 v_r0_likely0 v_r0_leftThen v_r0_row v_r0_rowMany v_r0_seed r0_days r0_things r0_thrown r0_figures r0_hampers r0_kinds r0_refusals)) (Qc := fun A => qI D (w_M_sure cI a_r0 a_r0_figures a_r0_hampers a_r0_kinds a_r0_refusals v_r0_weights v_r0_wants0 v_r0_left0 v_r0_done0 v_r0_letters v_r0_letterMany v_r0_at v_r0_isBad v_r0_statements v_r0_placeIn v_r0_letterOf v_r0_told v_r0_kept v_r0_imaged v_r0_hasImage v_r0_place0 v_r0_isTaking v_r0_keptIn v_r0_turns0 v_r0_turnOf v_r0_turned v_r0_order0 v_r0_likely0 v_r0_leftThen v_r0_row v_r0_rowMany v_r0_seed r0_days r0_things o.2.1 r0_figures r0_hampers r0_kinds o.2.2) o.1 A) rfl (Nat.le_of_ble_eq_true rfl) ?_ sz⟩
  intro p e s m below meth c A hA C hret ls hl hW
  have C : cx p s m ([.ref a_r0, .int x1] : List Value).toArray meth c b_M_sure 4 R_M D (kTy cI cS) (Cond.code y_M_sure b_M_sure 4 (some FieldType.int)) := C
  obtain ⟨hx, hb, hml, hown, hts, hK, hlk, hN⟩ := id C
  have hl : lv_has ls 4 [(0, .ref a_r0), (1, .int x1)] := hl
  obtain ⟨Q, hQ⟩ : ∃ Q, Q = MQ below (qI D (w_M_sure cI a_r0 a_r0_figures a_r0_hampers a_r0_kinds a_r0_refusals v_r0_weights v_r0_wants0 v_r0_left0 v_r0_done0 v_r0_letters v_r0_letterMany v_r0_at v_r0_isBad v_r0_statements v_r0_placeIn v_r0_letterOf v_r0_told v_r0_kept v_r0_imaged v_r0_hasImage v_r0_place0 v_r0_isTaking v_r0_keptIn v_r0_turns0 v_r0_turnOf v_r0_turned v_r0_order0 v_r0_likely0 v_r0_leftThen v_r0_row v_r0_rowMany v_r0_seed r0_days r0_things o.2.1 r0_figures r0_hampers r0_kinds o.2.2) o.1 A) ([.ref a_r0, .int x1] : List Value).toArray s 0 0 A := ⟨_, rfl⟩
  rw [← hQ]
  refine lv_aload_n hx hb d_M_sure_0 rfl (lv_at hl 0 rfl) ?_
  refine lv_iconst (v := 0) hx hb d_M_sure_1 (by decide) ?_
  refine k_put i_M t_M_ok n_M C hW 0 rfl rfl 9 (by decide) qf_M_67 rfl rfl (ty := .int) rfl rfl rfl (Nat.le_of_ble_eq_true rfl) (ws' := (w_M_sure cI a_r0 a_r0_figures a_r0_hampers a_r0_kinds a_r0_refusals v_r0_weights v_r0_wants0 v_r0_left0 v_r0_done0 v_r0_letters v_r0_letterMany v_r0_at v_r0_isBad v_r0_statements v_r0_placeIn v_r0_letterOf v_r0_told v_r0_kept v_r0_imaged v_r0_hasImage v_r0_place0 v_r0_isTaking v_r0_keptIn v_r0_turns0 v_r0_turnOf v_r0_turned v_r0_order0 v_r0_likely0 v_r0_leftThen v_r0_row v_r0_rowMany v_r0_seed r0_days r0_things 0 r0_figures r0_hampers r0_kinds r0_refusals)) rfl d_M_sure_2 (fun H locs hW => ?_)
  refine lv_iload_n hx hb d_M_sure_5 rfl (lv_at hl 1 rfl) ?_
  refine lv_i2l hx hb d_M_sure_6 rfl ?_
  refine lv_lconst (v := 0) hx hb d_M_sure_7 (by decide) ?_
  refine lv_lconst (v := 1) hx hb d_M_sure_8 (by decide) ?_
  obtain ⟨q_1, hc_1, hr⟩ := ob hr
  have ct_1 := C_M_in l D cI cS (Int32.toInt64 x1) 0 1 q_1 hc_1
  refine k_goIp hA hW [] rfl rfl (k_runS C hA hW mw_M_in ms_M_in (ct_1.2 _) [] rfl rfl qm_M_74 ⟨Nat.le_of_ble_eq_true rfl, Nat.le_of_ble_eq_true rfl, Nat.zero_le _, Nat.zero_le _⟩ rfl rfl (Nat.le_of_ble_eq_true rfl) hl.1 d_M_sure_9) (fun H locs hW => ?_)
  refine lv_if_ne (tgt := 22) hx hb d_M_sure_12 (by decide) (fun c_2 => ?_) (fun c_2 => ?_)
  · replace hr := iN c_2 hr
    refine lv_iconst (v := 0) hx hb d_M_sure_22 (by decide) ?_
    refine lv_istore_n (lv' := [(2, .int 0), (0, .ref a_r0), (1, .int x1)]) hx hb d_M_sure_23 rfl hl (by decide) rfl (fun ls hl => ?_)
    refine lv_iconst (v := 0) hx hb d_M_sure_24 (by decide) ?_
    refine lv_istore_n (lv' := [(3, .int 0), (2, .int 0), (0, .ref a_r0), (1, .int x1)]) hx hb d_M_sure_25 rfl hl (by decide) rfl (fun ls hl => ?_)
    obtain ⟨ex_3, hw_3, hk_3⟩ := ob hr
    have hx_3 : ∀ (e_3 : (Int32)), e_3 = ex_3 → ∀ (H : Heap) (locs : List Loc) (ls : Array Slot), wd A s.heap D (w_M_sure cI a_r0 a_r0_figures a_r0_hampers a_r0_kinds a_r0_refusals v_r0_weights v_r0_wants0 v_r0_left0 v_r0_done0 v_r0_letters v_r0_letterMany v_r0_at v_r0_isBad v_r0_statements v_r0_placeIn v_r0_letterOf v_r0_told v_r0_kept v_r0_imaged v_r0_hasImage v_r0_place0 v_r0_isTaking v_r0_keptIn v_r0_turns0 v_r0_turnOf v_r0_turned v_r0_order0 v_r0_likely0 v_r0_leftThen v_r0_row v_r0_rowMany v_r0_seed r0_days r0_things 0 r0_figures r0_hampers r0_kinds r0_refusals) H locs → lv_has ls 4 [(2, .int e_3)] → W p l e (rmd 3) s m ([.ref a_r0, .int x1] : List Value).toArray below meth c H locs 0 0 Q (F0 m 69 ls []) := by
      intro e_3 hE H locs ls hW hl
      subst hE; have hr := hk_3
      refine lv_iload_n hx hb d_M_sure_69 rfl (lv_at hl 0 rfl) ?_
      obtain rfl := Option.some.inj hr
      rw [hQ]; exact k_iret C hret hW d_M_sure_70
    have hl_3 : ∀ (k : Nat) (y2_3 : Int32) (y3_3 : Int32), wh (fun (s : (Int32) × (Int32)) => F_M_sure_L26 r0_days r0_things r0_figures r0_hampers r0_kinds x1 s.1 s.2) k (y2_3, y3_3) = some ex_3 → ∀ (H : Heap) (locs : List Loc) (ls : Array Slot), wd A s.heap D (w_M_sure cI a_r0 a_r0_figures a_r0_hampers a_r0_kinds a_r0_refusals v_r0_weights v_r0_wants0 v_r0_left0 v_r0_done0 v_r0_letters v_r0_letterMany v_r0_at v_r0_isBad v_r0_statements v_r0_placeIn v_r0_letterOf v_r0_told v_r0_kept v_r0_imaged v_r0_hasImage v_r0_place0 v_r0_isTaking v_r0_keptIn v_r0_turns0 v_r0_turnOf v_r0_turned v_r0_order0 v_r0_likely0 v_r0_leftThen v_r0_row v_r0_rowMany v_r0_seed r0_days r0_things 0 r0_figures r0_hampers r0_kinds r0_refusals) H locs → lv_has ls 4 [(0, .ref a_r0), (1, .int x1), (2, .int y2_3), (3, .int y3_3)] → W p l e (rmd 3) s m ([.ref a_r0, .int x1] : List Value).toArray below meth c H locs 0 0 Q (F0 m 26 ls []) := by
      intro k
      induction k with
      | zero => intro y2_3 y3_3 hw; exact absurd hw wh_0
      | succ k ih_3 =>
        intro y2_3 y3_3 hw H locs ls hW hl
        obtain ⟨z_3, hr, hz1_3, hz2_3⟩ := wh_s hw
        have hr : F_M_sure_L26 r0_days r0_things r0_figures r0_hampers r0_kinds x1 y2_3 y3_3 = some z_3 := hr
        unfold F_M_sure_L26 at hr
        refine lv_iload_n hx hb d_M_sure_26 rfl (lv_at hl 3 rfl) ?_
        refine lv_aload_n hx hb d_M_sure_27 rfl (lv_at hl 0 rfl) ?_
        refine k_get i_M C hW 0 rfl rfl 4 (by decide) qf_M_78 rfl rfl d_M_sure_28 ?_
        refine lv_icmp_ge (tgt := 69) hx hb d_M_sure_31 (by decide) (fun c_4 => ?_) (fun c_4 => ?_)
        · replace hr := ip c_4 hr
          exact hx_3 _ (hz2_3 _ (Option.some.inj hr).symm) _ _ _ hW (lv_sub hl [2] rfl)
        · replace hr := iN c_4 hr
          refine lv_iload_n hx hb d_M_sure_34 rfl (lv_at hl 2 rfl) ?_
          refine lv_aload_n hx hb d_M_sure_35 rfl (lv_at hl 0 rfl) ?_
          refine lv_aload_n hx hb d_M_sure_36 rfl (lv_at hl 0 rfl) ?_
          refine k_get i_M C hW 0 rfl rfl 5 (by decide) qf_M_19 rfl rfl d_M_sure_37 ?_
          refine lv_iload_n hx hb d_M_sure_40 rfl (lv_at hl 3 rfl) ?_
          obtain ⟨h_5, hr⟩ := ck_some hr
          refine k_iald C hW 2 rfl h_5 d_M_sure_41 ?_
          obtain ⟨q_6, hc_6, hr⟩ := ob hr
          have ct_6 := C_M_couldBe l D cI cS a_r0 a_r0_figures a_r0_kinds v_r0_weights (Value.int r0_days) (Value.ref a_r0_hampers) v_r0_wants0 v_r0_left0 v_r0_done0 (Value.int 0) (Value.ref a_r0_refusals) v_r0_letters v_r0_letterMany v_r0_at v_r0_isBad v_r0_statements v_r0_placeIn v_r0_letterOf v_r0_told v_r0_kept v_r0_imaged v_r0_hasImage v_r0_place0 v_r0_isTaking v_r0_keptIn v_r0_turns0 v_r0_turnOf v_r0_turned v_r0_order0 v_r0_likely0 v_r0_leftThen v_r0_row v_r0_rowMany v_r0_seed r0_things r0_figures r0_kinds (r0_hampers (Int32.toNatClampNeg y3_3)) q_6 hc_6
          refine k_goIp hA hW [0, 1, 3] rfl rfl (k_runV C hA hW mw_M_couldBe mv_M_couldBe (ct_6.2 _) [0, 1, 3] rfl rfl 0 rfl rfl qm_M_99 ⟨Nat.le_of_ble_eq_true rfl, Nat.le_of_ble_eq_true rfl, Nat.zero_le _, Nat.zero_le _⟩ rfl rfl (Nat.le_of_ble_eq_true rfl) hl.1 d_M_sure_42) (fun H locs hW => ?_)
          obtain ⟨q_7, hc_7, hr⟩ := ob hr
          have ct_7 := C_M_onesOf l D cI cS q_6 q_7 hc_7
          refine k_goIp hA hW [] rfl rfl (k_runS C hA hW mw_M_onesOf ms_M_onesOf (ct_7.2 _) [] rfl rfl qm_M_231 ⟨Nat.le_of_ble_eq_true rfl, Nat.le_of_ble_eq_true rfl, Nat.zero_le _, Nat.zero_le _⟩ rfl rfl (Nat.le_of_ble_eq_true rfl) hl.1 d_M_sure_45) (fun H locs hW => ?_)
          refine lv_iconst (v := 1) hx hb d_M_sure_48 (by decide) ?_
          refine lv_iload_n hx hb d_M_sure_49 rfl (lv_at hl 1 rfl) ?_
          refine lv_isub hx hb d_M_sure_50 ?_
          refine lv_icmp_ne (tgt := 60) hx hb d_M_sure_51 (by decide) (fun c_8 => ?_) (fun c_8 => ?_)
          · replace hr := iN c_8 hr
            refine lv_iconst (v := 0) hx hb d_M_sure_60 (by decide) ?_
            refine lv_ior hx hb d_M_sure_61 ?_
            refine lv_istore_n (lv' := [(2, .int (y2_3 ||| 0)), (0, .ref a_r0), (1, .int x1), (3, .int y3_3)]) hx hb d_M_sure_62 rfl hl (by decide) rfl (fun ls hl => ?_)
            refine lv_iinc (v := (y3_3 + 1)) (lv' := [(3, .int (y3_3 + 1)), (2, .int (y2_3 ||| 0)), (0, .ref a_r0), (1, .int x1)]) hx hb d_M_sure_63 hl (k := 3) rfl rfl (by decide) rfl (fun ls hl => ?_)
            refine lv_goto (tgt := 26) hx hb d_M_sure_66 (by decide) ?_
            exact ih_3 (y2_3 ||| 0) (y3_3 + 1) (hz1_3 _ (Option.some.inj hr).symm) _ _ _ hW (lv_sub hl [2, 3, 1, 0] rfl)
          · replace hr := ip c_8 hr
            refine lv_iconst (v := 1) hx hb d_M_sure_54 (by decide) ?_
            refine lv_iload_n hx hb d_M_sure_55 rfl (lv_at hl 3 rfl) ?_
            refine lv_ishl hx hb d_M_sure_56 ?_
            refine lv_goto (tgt := 61) hx hb d_M_sure_57 (by decide) ?_
            refine lv_ior hx hb d_M_sure_61 ?_
            refine lv_istore_n (lv' := [(2, .int (y2_3 ||| ((1 : Int32) <<< ((y3_3 : Int32) &&& 31)))), (0, .ref a_r0), (1, .int x1), (3, .int y3_3)]) hx hb d_M_sure_62 rfl hl (by decide) rfl (fun ls hl => ?_)
            refine lv_iinc (v := (y3_3 + 1)) (lv' := [(3, .int (y3_3 + 1)), (2, .int (y2_3 ||| ((1 : Int32) <<< ((y3_3 : Int32) &&& 31)))), (0, .ref a_r0), (1, .int x1)]) hx hb d_M_sure_63 hl (k := 3) rfl rfl (by decide) rfl (fun ls hl => ?_)
            refine lv_goto (tgt := 26) hx hb d_M_sure_66 (by decide) ?_
            exact ih_3 (y2_3 ||| ((1 : Int32) <<< ((y3_3 : Int32) &&& 31))) (y3_3 + 1) (hz1_3 _ (Option.some.inj hr).symm) _ _ _ hW (lv_sub hl [2, 3, 1, 0] rfl)
    exact hl_3 _ 0 0 hw_3 _ _ _ hW (lv_sub hl [2, 3, 1, 0] rfl)
  · replace hr := ip c_2 hr
    refine lv_aload_n hx hb d_M_sure_15 rfl (lv_at hl 0 rfl) ?_
    refine lv_bipush (v := (-2)) hx hb d_M_sure_16 (by decide) ?_
    obtain ⟨q_9, hc_9, hr⟩ := ob hr
    have ct_9 := C_M_refuse l D cI cS a_r0 a_r0_refusals v_r0_weights (Value.int r0_things) (Value.ref a_r0_kinds) (Value.ref a_r0_figures) (Value.int r0_days) (Value.ref a_r0_hampers) v_r0_wants0 v_r0_left0 v_r0_done0 (Value.int 0) v_r0_letters v_r0_letterMany v_r0_at v_r0_isBad v_r0_statements v_r0_placeIn v_r0_letterOf v_r0_told v_r0_kept v_r0_imaged v_r0_hasImage v_r0_place0 v_r0_isTaking v_r0_keptIn v_r0_turns0 v_r0_turnOf v_r0_turned v_r0_order0 v_r0_likely0 v_r0_leftThen v_r0_row v_r0_rowMany v_r0_seed r0_refusals (-2) q_9 hc_9
    refine k_goI hA hW [0, 4] rfl ct_9.1 (ws' := (w_M_sure cI a_r0 a_r0_figures a_r0_hampers a_r0_kinds a_r0_refusals v_r0_weights v_r0_wants0 v_r0_left0 v_r0_done0 v_r0_letters v_r0_letterMany v_r0_at v_r0_isBad v_r0_statements v_r0_placeIn v_r0_letterOf v_r0_told v_r0_kept v_r0_imaged v_r0_hasImage v_r0_place0 v_r0_isTaking v_r0_keptIn v_r0_turns0 v_r0_turnOf v_r0_turned v_r0_order0 v_r0_likely0 v_r0_leftThen v_r0_row v_r0_rowMany v_r0_seed r0_days r0_things 0 r0_figures r0_hampers r0_kinds q_9.2)) rfl (k_runV C hA hW mw_M_refuse mv_M_refuse (ct_9.2 _) [0, 4] rfl rfl 0 rfl rfl qm_M_108 ⟨Nat.le_of_ble_eq_true rfl, Nat.le_of_ble_eq_true rfl, Nat.zero_le _, Nat.zero_le _⟩ rfl rfl (Nat.le_of_ble_eq_true rfl) hl.1 d_M_sure_18) (fun H locs hW => ?_)
    obtain rfl := Option.some.inj hr
    rw [hQ]; exact k_iret C hret hW d_M_sure_21
def w_M_swap (cI : ClassId) (a_r0 : Nat) (a_r0_figures : Nat) (a_r0_hampers : Nat) (a_r0_kinds : Nat) (a_r0_weights : Nat) (v_r0_wants0 v_r0_left0 v_r0_done0 v_r0_refusals v_r0_letters v_r0_letterMany v_r0_at v_r0_isBad v_r0_statements v_r0_placeIn v_r0_letterOf v_r0_told v_r0_kept v_r0_imaged v_r0_hasImage v_r0_place0 v_r0_isTaking v_r0_keptIn v_r0_turns0 v_r0_turnOf v_r0_turned v_r0_order0 v_r0_likely0 v_r0_leftThen v_r0_row v_r0_rowMany v_r0_seed : Value) (r0_days : Int32) (r0_things : Int32) (r0_thrown : Int32) (r0_figures : Nat → Int32) (r0_hampers : Nat → Int32) (r0_kinds : Nat → Int32) (r0_weights : Nat → Int32) : va_W := [(a_r0, .inr (9, [.ref a_r0_weights, .int r0_things, .ref a_r0_kinds, .ref a_r0_figures, .int r0_days, .ref a_r0_hampers, v_r0_wants0, v_r0_left0, v_r0_done0, .int r0_thrown, v_r0_refusals, v_r0_letters, v_r0_letterMany, v_r0_at, v_r0_isBad, v_r0_statements, v_r0_placeIn, v_r0_letterOf, v_r0_told, v_r0_kept, v_r0_imaged, v_r0_hasImage, v_r0_place0, v_r0_isTaking, v_r0_keptIn, v_r0_turns0, v_r0_turnOf, v_r0_turned, v_r0_order0, v_r0_likely0, v_r0_leftThen, v_r0_row, v_r0_rowMany, v_r0_seed])), (a_r0_figures, .inl (cI, 8, .inl r0_figures)), (a_r0_hampers, .inl (cI, 8, .inl r0_hampers)), (a_r0_kinds, .inl (cI, 8, .inl r0_kinds)), (a_r0_weights, .inl (cI, 6, .inl r0_weights))]
def F_M_swap_L35 (r0_days : Int32) (r0_things : Int32) (r0_figures : Nat → Int32) (r0_kinds : Nat → Int32) (r0_weights : Nat → Int32) (q_1 : Int32) (y2_2 : Int32) (y3_4 : Int32) (y4_6 : Int32) (r0_hampers_6 : Nat → Int32) : Option (((Int32) × (Nat → Int32)) ⊕ ((((Nat → Int32)) ⊕ (Int32 × (Int32) × (Nat → Int32))))) :=
  (if (64 : Int32) ≤ y4_6 then (some (.inr (.inl r0_hampers_6))) else (ck y2_2 8 (ck y3_4 8 ((F_M_hasBit ((r0_hampers_6 (Int32.toNatClampNeg y2_2)) &&& ((r0_hampers_6 (Int32.toNatClampNeg y3_4)) ^^^ (-1))) (y4_6 / (8 : Int32))).bind (fun q_10 => (if q_10 = 0 then (some (.inl ((y4_6 + 1), r0_hampers_6))) else ((F_M_hasBit ((r0_hampers_6 (Int32.toNatClampNeg y3_4)) &&& ((r0_hampers_6 (Int32.toNatClampNeg y2_2)) ^^^ (-1))) (y4_6 - y4_6 / (8 : Int32) * (8 : Int32))).bind (fun q_12 => (if q_12 = 0 then (some (.inl ((y4_6 + 1), r0_hampers_6))) else (ck y2_2 8 (ck y3_4 8 ((F_M_likelyDays r0_days r0_things r0_figures (upd (upd r0_hampers_6 (Int32.toNatClampNeg y2_2) ((r0_hampers_6 (Int32.toNatClampNeg y2_2)) ^^^ (((1 : Int32) <<< (((y4_6 / (8 : Int32)) : Int32) &&& 31)) ||| ((1 : Int32) <<< (((y4_6 - y4_6 / (8 : Int32) * (8 : Int32)) : Int32) &&& 31))))) (Int32.toNatClampNeg y3_4) ((r0_hampers_6 (Int32.toNatClampNeg y3_4)) ^^^ (((1 : Int32) <<< (((y4_6 / (8 : Int32)) : Int32) &&& 31)) ||| ((1 : Int32) <<< (((y4_6 - y4_6 / (8 : Int32) * (8 : Int32)) : Int32) &&& 31))))) r0_kinds r0_weights).bind (fun q_16 => (ck y2_2 8 (ck y3_4 8 (if q_16 ≤ q_1 then (some (.inl ((y4_6 + 1), (upd (upd (upd (upd r0_hampers_6 (Int32.toNatClampNeg y2_2) ((r0_hampers_6 (Int32.toNatClampNeg y2_2)) ^^^ (((1 : Int32) <<< (((y4_6 / (8 : Int32)) : Int32) &&& 31)) ||| ((1 : Int32) <<< (((y4_6 - y4_6 / (8 : Int32) * (8 : Int32)) : Int32) &&& 31))))) (Int32.toNatClampNeg y3_4) ((r0_hampers_6 (Int32.toNatClampNeg y3_4)) ^^^ (((1 : Int32) <<< (((y4_6 / (8 : Int32)) : Int32) &&& 31)) ||| ((1 : Int32) <<< (((y4_6 - y4_6 / (8 : Int32) * (8 : Int32)) : Int32) &&& 31))))) (Int32.toNatClampNeg y2_2) (r0_hampers_6 (Int32.toNatClampNeg y2_2))) (Int32.toNatClampNeg y3_4) (r0_hampers_6 (Int32.toNatClampNeg y3_4)))))) else (some (.inr (.inr ((((((1000 : Int32) * y2_2) + ((100 : Int32) * y3_4)) + ((10 : Int32) * (y4_6 / (8 : Int32)))) + (y4_6 - y4_6 / (8 : Int32) * (8 : Int32))), 0, (upd (upd (upd (upd r0_hampers_6 (Int32.toNatClampNeg y2_2) ((r0_hampers_6 (Int32.toNatClampNeg y2_2)) ^^^ (((1 : Int32) <<< (((y4_6 / (8 : Int32)) : Int32) &&& 31)) ||| ((1 : Int32) <<< (((y4_6 - y4_6 / (8 : Int32) * (8 : Int32)) : Int32) &&& 31))))) (Int32.toNatClampNeg y3_4) ((r0_hampers_6 (Int32.toNatClampNeg y3_4)) ^^^ (((1 : Int32) <<< (((y4_6 / (8 : Int32)) : Int32) &&& 31)) ||| ((1 : Int32) <<< (((y4_6 - y4_6 / (8 : Int32) * (8 : Int32)) : Int32) &&& 31))))) (Int32.toNatClampNeg y2_2) (r0_hampers_6 (Int32.toNatClampNeg y2_2))) (Int32.toNatClampNeg y3_4) (r0_hampers_6 (Int32.toNatClampNeg y3_4)))))))))))))))))))))))
def F_M_swap_L24 (r0_days : Int32) (r0_things : Int32) (r0_figures : Nat → Int32) (r0_kinds : Nat → Int32) (r0_weights : Nat → Int32) (q_1 : Int32) (y2_2 : Int32) (y3_4 : Int32) (r0_hampers_4 : Nat → Int32) : Option (((Int32) × (Nat → Int32)) ⊕ ((((Nat → Int32)) ⊕ (Int32 × (Int32) × (Nat → Int32))))) :=
  (if r0_days ≤ y3_4 then (some (.inr (.inl r0_hampers_4))) else ((wh (fun (s : (Int32) × (Nat → Int32)) => F_M_swap_L35 r0_days r0_things r0_figures r0_kinds r0_weights q_1 y2_2 y3_4 s.1 s.2) 400 ((0 : Int32), r0_hampers_4)).bind (sx (fun e_6 => (some (.inl ((y3_4 + 1), e_6)))) (fun o => some (.inr (.inr o))))))
def F_M_swap_L12 (r0_days : Int32) (r0_things : Int32) (r0_figures : Nat → Int32) (r0_kinds : Nat → Int32) (r0_weights : Nat → Int32) (q_1 : Int32) (y2_2 : Int32) (r0_hampers_2 : Nat → Int32) : Option (((Int32) × (Nat → Int32)) ⊕ ((((Nat → Int32)) ⊕ (Int32 × (Int32) × (Nat → Int32))))) :=
  (if r0_days ≤ y2_2 then (some (.inr (.inl r0_hampers_2))) else ((wh (fun (s : (Int32) × (Nat → Int32)) => F_M_swap_L24 r0_days r0_things r0_figures r0_kinds r0_weights q_1 y2_2 s.1 s.2) 400 ((y2_2 + 1), r0_hampers_2)).bind (sx (fun e_4 => (some (.inl ((y2_2 + 1), e_4)))) (fun o => some (.inr (.inr o))))))
def F_M_swap (r0_days : Int32) (r0_things : Int32) (r0_figures : Nat → Int32) (r0_hampers : Nat → Int32) (r0_kinds : Nat → Int32) (r0_weights : Nat → Int32) : Option (Int32 × (Int32) × (Nat → Int32)) :=
  ((F_M_likelyDays r0_days r0_things r0_figures r0_hampers r0_kinds r0_weights).bind (fun q_1 => ((wh (fun (s : (Int32) × (Nat → Int32)) => F_M_swap_L12 r0_days r0_things r0_figures r0_kinds r0_weights q_1 s.1 s.2) 400 ((0 : Int32), r0_hampers)).bind (sx (fun e_2 => (some ((-9), 0, e_2))) (fun o => some o)))))
set_option maxHeartbeats 4000000 in
set_option maxRecDepth 100000 in
theorem C_M_swap (l : Launch) (D : va_G) (cI cS : ClassId) (a_r0 : Nat) (a_r0_figures : Nat) (a_r0_hampers : Nat) (a_r0_kinds : Nat) (a_r0_weights : Nat) (v_r0_wants0 v_r0_left0 v_r0_done0 v_r0_refusals v_r0_letters v_r0_letterMany v_r0_at v_r0_isBad v_r0_statements v_r0_placeIn v_r0_letterOf v_r0_told v_r0_kept v_r0_imaged v_r0_hasImage v_r0_place0 v_r0_isTaking v_r0_keptIn v_r0_turns0 v_r0_turnOf v_r0_turned v_r0_order0 v_r0_likely0 v_r0_leftThen v_r0_row v_r0_rowMany v_r0_seed : Value) (r0_days : Int32) (r0_things : Int32) (r0_thrown : Int32) (r0_figures : Nat → Int32) (r0_hampers : Nat → Int32) (r0_kinds : Nat → Int32) (r0_weights : Nat → Int32) (o : Int32 × (Int32) × (Nat → Int32)) (hr : F_M_swap r0_days r0_things r0_figures r0_hampers r0_kinds r0_weights = some o) : ctI l y_M_swap (Cond.code y_M_swap b_M_swap 10 (some FieldType.int)) (rmd 5) D (kTy cI cS) [.ref a_r0] (w_M_swap cI a_r0 a_r0_figures a_r0_hampers a_r0_kinds a_r0_weights v_r0_wants0 v_r0_left0 v_r0_done0 v_r0_refusals v_r0_letters v_r0_letterMany v_r0_at v_r0_isBad v_r0_statements v_r0_placeIn v_r0_letterOf v_r0_told v_r0_kept v_r0_imaged v_r0_hasImage v_r0_place0 v_r0_isTaking v_r0_keptIn v_r0_turns0 v_r0_turnOf v_r0_turned v_r0_order0 v_r0_likely0 v_r0_leftThen v_r0_row v_r0_rowMany v_r0_seed r0_days r0_things r0_thrown r0_figures r0_hampers r0_kinds r0_weights) (w_M_swap cI a_r0 a_r0_figures a_r0_hampers a_r0_kinds a_r0_weights v_r0_wants0 v_r0_left0 v_r0_done0 v_r0_refusals v_r0_letters v_r0_letterMany v_r0_at v_r0_isBad v_r0_statements v_r0_placeIn v_r0_letterOf v_r0_told v_r0_kept v_r0_imaged v_r0_hasImage v_r0_place0 v_r0_isTaking v_r0_keptIn v_r0_turns0 v_r0_turnOf v_r0_turned v_r0_order0 v_r0_likely0 v_r0_leftThen v_r0_row v_r0_rowMany v_r0_seed r0_days r0_things o.2.1 r0_figures o.2.2 r0_kinds r0_weights) o.1 := by
  unfold F_M_swap at hr
  refine ⟨rfl, fun sz => ct_of (w0 := (w_M_swap cI a_r0 a_r0_figures a_r0_hampers a_r0_kinds a_r0_weights v_r0_wants0 v_r0_left0 v_r0_done0 v_r0_refusals v_r0_letters v_r0_letterMany v_r0_at v_r0_isBad v_r0_statements v_r0_placeIn v_r0_letterOf v_r0_told v_r0_kept v_r0_imaged v_r0_hasImage v_r0_place0 v_r0_isTaking v_r0_keptIn v_r0_turns0 v_r0_turnOf v_r0_turned v_r0_order0 v_r0_likely0 v_r0_leftThen v_r0_row v_r0_rowMany v_r0_seed r0_days r0_things r0_thrown r0_figures r0_hampers r0_kinds r0_weights)) (Qc := fun A => qI D (w_M_swap cI a_r0 a_r0_figures a_r0_hampers a_r0_kinds a_r0_weights v_r0_wants0 v_r0_left0 v_r0_done0 v_r0_refusals v_r0_letters v_r0_letterMany v_r0_at v_r0_isBad v_r0_statements v_r0_placeIn v_r0_letterOf v_r0_told v_r0_kept v_r0_imaged v_r0_hasImage v_r0_place0 v_r0_isTaking v_r0_keptIn v_r0_turns0 v_r0_turnOf v_r0_turned v_r0_order0 v_r0_likely0 v_r0_leftThen v_r0_row v_r0_rowMany v_r0_seed r0_days r0_things o.2.1 r0_figures o.2.2 r0_kinds r0_weights) o.1 A) rfl (Nat.le_of_ble_eq_true rfl) ?_ sz⟩
  intro p e s m below meth c A hA C hret ls hl hW
  have C : cx p s m ([.ref a_r0] : List Value).toArray meth c b_M_swap 10 R_M D (kTy cI cS) (Cond.code y_M_swap b_M_swap 10 (some FieldType.int)) := C
  obtain ⟨hx, hb, hml, hown, hts, hK, hlk, hN⟩ := id C
  have hl : lv_has ls 10 [(0, .ref a_r0)] := hl
  obtain ⟨Q, hQ⟩ : ∃ Q, Q = MQ below (qI D (w_M_swap cI a_r0 a_r0_figures a_r0_hampers a_r0_kinds a_r0_weights v_r0_wants0 v_r0_left0 v_r0_done0 v_r0_refusals v_r0_letters v_r0_letterMany v_r0_at v_r0_isBad v_r0_statements v_r0_placeIn v_r0_letterOf v_r0_told v_r0_kept v_r0_imaged v_r0_hasImage v_r0_place0 v_r0_isTaking v_r0_keptIn v_r0_turns0 v_r0_turnOf v_r0_turned v_r0_order0 v_r0_likely0 v_r0_leftThen v_r0_row v_r0_rowMany v_r0_seed r0_days r0_things o.2.1 r0_figures o.2.2 r0_kinds r0_weights) o.1 A) ([.ref a_r0] : List Value).toArray s 0 0 A := ⟨_, rfl⟩
  rw [← hQ]
  refine lv_aload_n hx hb d_M_swap_0 rfl (lv_at hl 0 rfl) ?_
  refine lv_iconst (v := 0) hx hb d_M_swap_1 (by decide) ?_
  refine k_put i_M t_M_ok n_M C hW 0 rfl rfl 9 (by decide) qf_M_67 rfl rfl (ty := .int) rfl rfl rfl (Nat.le_of_ble_eq_true rfl) (ws' := (w_M_swap cI a_r0 a_r0_figures a_r0_hampers a_r0_kinds a_r0_weights v_r0_wants0 v_r0_left0 v_r0_done0 v_r0_refusals v_r0_letters v_r0_letterMany v_r0_at v_r0_isBad v_r0_statements v_r0_placeIn v_r0_letterOf v_r0_told v_r0_kept v_r0_imaged v_r0_hasImage v_r0_place0 v_r0_isTaking v_r0_keptIn v_r0_turns0 v_r0_turnOf v_r0_turned v_r0_order0 v_r0_likely0 v_r0_leftThen v_r0_row v_r0_rowMany v_r0_seed r0_days r0_things 0 r0_figures r0_hampers r0_kinds r0_weights)) rfl d_M_swap_2 (fun H locs hW => ?_)
  refine lv_aload_n hx hb d_M_swap_5 rfl (lv_at hl 0 rfl) ?_
  obtain ⟨q_1, hc_1, hr⟩ := ob hr
  have ct_1 := C_M_likelyDays l D cI cS a_r0 a_r0_figures a_r0_hampers a_r0_kinds a_r0_weights v_r0_wants0 v_r0_left0 v_r0_done0 (Value.int 0) v_r0_refusals v_r0_letters v_r0_letterMany v_r0_at v_r0_isBad v_r0_statements v_r0_placeIn v_r0_letterOf v_r0_told v_r0_kept v_r0_imaged v_r0_hasImage v_r0_place0 v_r0_isTaking v_r0_keptIn v_r0_turns0 v_r0_turnOf v_r0_turned v_r0_order0 v_r0_likely0 v_r0_leftThen v_r0_row v_r0_rowMany v_r0_seed r0_days r0_things r0_figures r0_hampers r0_kinds r0_weights q_1 hc_1
  refine k_goIp hA hW [0, 1, 2, 3, 4] rfl rfl (k_runV C hA hW mw_M_likelyDays mv_M_likelyDays (ct_1.2 _) [0, 1, 2, 3, 4] rfl rfl 0 rfl rfl qm_M_262 ⟨Nat.le_of_ble_eq_true rfl, Nat.le_of_ble_eq_true rfl, Nat.zero_le _, Nat.zero_le _⟩ rfl rfl (Nat.le_of_ble_eq_true rfl) hl.1 d_M_swap_6) (fun H locs hW => ?_)
  refine lv_istore_n (lv' := [(1, .int q_1), (0, .ref a_r0)]) hx hb d_M_swap_9 rfl hl (by decide) rfl (fun ls hl => ?_)
  refine lv_iconst (v := 0) hx hb d_M_swap_10 (by decide) ?_
  refine lv_istore_n (lv' := [(2, .int 0), (1, .int q_1), (0, .ref a_r0)]) hx hb d_M_swap_11 rfl hl (by decide) rfl (fun ls hl => ?_)
  obtain ⟨ex_2, hw_2, hk_2⟩ := ob hr
  have hx_2 : ∀ (e_2 : (Nat → Int32)), Sum.inl e_2 = ex_2 → ∀ (H : Heap) (locs : List Loc) (ls : Array Slot), wd A s.heap D (w_M_swap cI a_r0 a_r0_figures a_r0_hampers a_r0_kinds a_r0_weights v_r0_wants0 v_r0_left0 v_r0_done0 v_r0_refusals v_r0_letters v_r0_letterMany v_r0_at v_r0_isBad v_r0_statements v_r0_placeIn v_r0_letterOf v_r0_told v_r0_kept v_r0_imaged v_r0_hasImage v_r0_place0 v_r0_isTaking v_r0_keptIn v_r0_turns0 v_r0_turnOf v_r0_turned v_r0_order0 v_r0_likely0 v_r0_leftThen v_r0_row v_r0_rowMany v_r0_seed r0_days r0_things 0 r0_figures e_2 r0_kinds r0_weights) H locs → lv_has ls 10 [] → W p l e (rmd 5) s m ([.ref a_r0] : List Value).toArray below meth c H locs 0 0 Q (F0 m 204 ls []) := by
    intro e_2 hE H locs ls hW hl
    have hr := sx_l hE.symm hk_2
    refine lv_bipush (v := (-9)) hx hb d_M_swap_204 (by decide) ?_
    obtain rfl := Option.some.inj hr
    rw [hQ]; exact k_iret C hret hW d_M_swap_206
  have hl_2 : ∀ (k : Nat) (y2_2 : Int32) (r0_hampers_2 : Nat → Int32), wh (fun (s : (Int32) × (Nat → Int32)) => F_M_swap_L12 r0_days r0_things r0_figures r0_kinds r0_weights q_1 s.1 s.2) k (y2_2, r0_hampers_2) = some ex_2 → ∀ (H : Heap) (locs : List Loc) (ls : Array Slot), wd A s.heap D (w_M_swap cI a_r0 a_r0_figures a_r0_hampers a_r0_kinds a_r0_weights v_r0_wants0 v_r0_left0 v_r0_done0 v_r0_refusals v_r0_letters v_r0_letterMany v_r0_at v_r0_isBad v_r0_statements v_r0_placeIn v_r0_letterOf v_r0_told v_r0_kept v_r0_imaged v_r0_hasImage v_r0_place0 v_r0_isTaking v_r0_keptIn v_r0_turns0 v_r0_turnOf v_r0_turned v_r0_order0 v_r0_likely0 v_r0_leftThen v_r0_row v_r0_rowMany v_r0_seed r0_days r0_things 0 r0_figures r0_hampers_2 r0_kinds r0_weights) H locs → lv_has ls 10 [(1, .int q_1), (0, .ref a_r0), (2, .int y2_2)] → W p l e (rmd 5) s m ([.ref a_r0] : List Value).toArray below meth c H locs 0 0 Q (F0 m 12 ls []) := by
    intro k
    induction k with
    | zero => intro y2_2 r0_hampers_2 hw; exact absurd hw wh_0
    | succ k ih_2 =>
      intro y2_2 r0_hampers_2 hw H locs ls hW hl
      obtain ⟨z_2, hr, hz1_2, hz2_2⟩ := wh_s hw
      have hr : F_M_swap_L12 r0_days r0_things r0_figures r0_kinds r0_weights q_1 y2_2 r0_hampers_2 = some z_2 := hr
      unfold F_M_swap_L12 at hr
      refine lv_iload_n hx hb d_M_swap_12 rfl (lv_at hl 2 rfl) ?_
      refine lv_aload_n hx hb d_M_swap_13 rfl (lv_at hl 1 rfl) ?_
      refine k_get i_M C hW 0 rfl rfl 4 (by decide) qf_M_78 rfl rfl d_M_swap_14 ?_
      refine lv_icmp_ge (tgt := 204) hx hb d_M_swap_17 (by decide) (fun c_3 => ?_) (fun c_3 => ?_)
      · replace hr := ip c_3 hr
        exact hx_2 _ (hz2_2 _ (Option.some.inj hr).symm) _ _ _ hW (lv_sub hl [] rfl)
      · replace hr := iN c_3 hr
        refine lv_iload_n hx hb d_M_swap_20 rfl (lv_at hl 2 rfl) ?_
        refine lv_iconst (v := 1) hx hb d_M_swap_21 (by decide) ?_
        refine lv_iadd hx hb d_M_swap_22 ?_
        refine lv_istore_n (lv' := [(3, .int (y2_2 + 1)), (1, .int q_1), (0, .ref a_r0), (2, .int y2_2)]) hx hb d_M_swap_23 rfl hl (by decide) rfl (fun ls hl => ?_)
        obtain ⟨ex_4, hw_4, hk_4⟩ := ob hr
        have hx_4 : ∀ (e_4 : (Nat → Int32)), Sum.inl e_4 = ex_4 → ∀ (H : Heap) (locs : List Loc) (ls : Array Slot), wd A s.heap D (w_M_swap cI a_r0 a_r0_figures a_r0_hampers a_r0_kinds a_r0_weights v_r0_wants0 v_r0_left0 v_r0_done0 v_r0_refusals v_r0_letters v_r0_letterMany v_r0_at v_r0_isBad v_r0_statements v_r0_placeIn v_r0_letterOf v_r0_told v_r0_kept v_r0_imaged v_r0_hasImage v_r0_place0 v_r0_isTaking v_r0_keptIn v_r0_turns0 v_r0_turnOf v_r0_turned v_r0_order0 v_r0_likely0 v_r0_leftThen v_r0_row v_r0_rowMany v_r0_seed r0_days r0_things 0 r0_figures e_4 r0_kinds r0_weights) H locs → lv_has ls 10 [(1, .int q_1), (0, .ref a_r0), (2, .int y2_2)] → W p l e (rmd 5) s m ([.ref a_r0] : List Value).toArray below meth c H locs 0 0 Q (F0 m 198 ls []) := by
          intro e_4 hE H locs ls hW hl
          have hr := sx_l hE.symm hk_4
          refine lv_iinc (v := (y2_2 + 1)) (lv' := [(2, .int (y2_2 + 1)), (1, .int q_1), (0, .ref a_r0)]) hx hb d_M_swap_198 hl (k := 2) rfl rfl (by decide) rfl (fun ls hl => ?_)
          refine lv_goto (tgt := 12) hx hb d_M_swap_201 (by decide) ?_
          exact ih_2 (y2_2 + 1) e_4 (hz1_2 _ (Option.some.inj hr).symm) _ _ _ hW (lv_sub hl [1, 2, 0] rfl)
        have hl_4 : ∀ (k : Nat) (y3_4 : Int32) (r0_hampers_4 : Nat → Int32), wh (fun (s : (Int32) × (Nat → Int32)) => F_M_swap_L24 r0_days r0_things r0_figures r0_kinds r0_weights q_1 y2_2 s.1 s.2) k (y3_4, r0_hampers_4) = some ex_4 → ∀ (H : Heap) (locs : List Loc) (ls : Array Slot), wd A s.heap D (w_M_swap cI a_r0 a_r0_figures a_r0_hampers a_r0_kinds a_r0_weights v_r0_wants0 v_r0_left0 v_r0_done0 v_r0_refusals v_r0_letters v_r0_letterMany v_r0_at v_r0_isBad v_r0_statements v_r0_placeIn v_r0_letterOf v_r0_told v_r0_kept v_r0_imaged v_r0_hasImage v_r0_place0 v_r0_isTaking v_r0_keptIn v_r0_turns0 v_r0_turnOf v_r0_turned v_r0_order0 v_r0_likely0 v_r0_leftThen v_r0_row v_r0_rowMany v_r0_seed r0_days r0_things 0 r0_figures r0_hampers_4 r0_kinds r0_weights) H locs → lv_has ls 10 [(1, .int q_1), (0, .ref a_r0), (2, .int y2_2), (3, .int y3_4)] → W p l e (rmd 5) s m ([.ref a_r0] : List Value).toArray below meth c H locs 0 0 Q (F0 m 24 ls []) := by
          intro k
          induction k with
          | zero => intro y3_4 r0_hampers_4 hw; exact absurd hw wh_0
          | succ k ih_4 =>
            intro y3_4 r0_hampers_4 hw H locs ls hW hl
            obtain ⟨z_4, hr, hz1_4, hz2_4⟩ := wh_s hw
            have hr : F_M_swap_L24 r0_days r0_things r0_figures r0_kinds r0_weights q_1 y2_2 y3_4 r0_hampers_4 = some z_4 := hr
            unfold F_M_swap_L24 at hr
            refine lv_iload_n hx hb d_M_swap_24 rfl (lv_at hl 3 rfl) ?_
            refine lv_aload_n hx hb d_M_swap_25 rfl (lv_at hl 1 rfl) ?_
            refine k_get i_M C hW 0 rfl rfl 4 (by decide) qf_M_78 rfl rfl d_M_swap_26 ?_
            refine lv_icmp_ge (tgt := 198) hx hb d_M_swap_29 (by decide) (fun c_5 => ?_) (fun c_5 => ?_)
            · replace hr := ip c_5 hr
              exact hx_4 _ (hz2_4 _ (Option.some.inj hr).symm) _ _ _ hW (lv_sub hl [0, 1, 2] rfl)
            · replace hr := iN c_5 hr
              refine lv_iconst (v := 0) hx hb d_M_swap_32 (by decide) ?_
              refine lv_istore (lv' := [(4, .int 0), (1, .int q_1), (0, .ref a_r0), (2, .int y2_2), (3, .int y3_4)]) hx hb d_M_swap_33 hl (by decide) rfl (fun ls hl => ?_)
              obtain ⟨ex_6, hw_6, hk_6⟩ := ob hr
              have hx_6 : ∀ (e_6 : (Nat → Int32)), Sum.inl e_6 = ex_6 → ∀ (H : Heap) (locs : List Loc) (ls : Array Slot), wd A s.heap D (w_M_swap cI a_r0 a_r0_figures a_r0_hampers a_r0_kinds a_r0_weights v_r0_wants0 v_r0_left0 v_r0_done0 v_r0_refusals v_r0_letters v_r0_letterMany v_r0_at v_r0_isBad v_r0_statements v_r0_placeIn v_r0_letterOf v_r0_told v_r0_kept v_r0_imaged v_r0_hasImage v_r0_place0 v_r0_isTaking v_r0_keptIn v_r0_turns0 v_r0_turnOf v_r0_turned v_r0_order0 v_r0_likely0 v_r0_leftThen v_r0_row v_r0_rowMany v_r0_seed r0_days r0_things 0 r0_figures e_6 r0_kinds r0_weights) H locs → lv_has ls 10 [(1, .int q_1), (0, .ref a_r0), (2, .int y2_2), (3, .int y3_4)] → W p l e (rmd 5) s m ([.ref a_r0] : List Value).toArray below meth c H locs 0 0 Q (F0 m 192 ls []) := by
                intro e_6 hE H locs ls hW hl
                have hr := sx_l hE.symm hk_6
                refine lv_iinc (v := (y3_4 + 1)) (lv' := [(3, .int (y3_4 + 1)), (1, .int q_1), (0, .ref a_r0), (2, .int y2_2)]) hx hb d_M_swap_192 hl (k := 3) rfl rfl (by decide) rfl (fun ls hl => ?_)
                refine lv_goto (tgt := 24) hx hb d_M_swap_195 (by decide) ?_
                exact ih_4 (y3_4 + 1) e_6 (hz1_4 _ (Option.some.inj hr).symm) _ _ _ hW (lv_sub hl [1, 2, 3, 0] rfl)
              have hl_6 : ∀ (k : Nat) (y4_6 : Int32) (r0_hampers_6 : Nat → Int32), wh (fun (s : (Int32) × (Nat → Int32)) => F_M_swap_L35 r0_days r0_things r0_figures r0_kinds r0_weights q_1 y2_2 y3_4 s.1 s.2) k (y4_6, r0_hampers_6) = some ex_6 → ∀ (H : Heap) (locs : List Loc) (ls : Array Slot), wd A s.heap D (w_M_swap cI a_r0 a_r0_figures a_r0_hampers a_r0_kinds a_r0_weights v_r0_wants0 v_r0_left0 v_r0_done0 v_r0_refusals v_r0_letters v_r0_letterMany v_r0_at v_r0_isBad v_r0_statements v_r0_placeIn v_r0_letterOf v_r0_told v_r0_kept v_r0_imaged v_r0_hasImage v_r0_place0 v_r0_isTaking v_r0_keptIn v_r0_turns0 v_r0_turnOf v_r0_turned v_r0_order0 v_r0_likely0 v_r0_leftThen v_r0_row v_r0_rowMany v_r0_seed r0_days r0_things 0 r0_figures r0_hampers_6 r0_kinds r0_weights) H locs → lv_has ls 10 [(1, .int q_1), (0, .ref a_r0), (2, .int y2_2), (3, .int y3_4), (4, .int y4_6)] → W p l e (rmd 5) s m ([.ref a_r0] : List Value).toArray below meth c H locs 0 0 Q (F0 m 35 ls []) := by
                intro k
                induction k with
                | zero => intro y4_6 r0_hampers_6 hw; exact absurd hw wh_0
                | succ k ih_6 =>
                  intro y4_6 r0_hampers_6 hw H locs ls hW hl
                  obtain ⟨z_6, hr, hz1_6, hz2_6⟩ := wh_s hw
                  have hr : F_M_swap_L35 r0_days r0_things r0_figures r0_kinds r0_weights q_1 y2_2 y3_4 y4_6 r0_hampers_6 = some z_6 := hr
                  unfold F_M_swap_L35 at hr
                  refine lv_iload hx hb d_M_swap_35 (lv_at hl 4 rfl) ?_
                  refine lv_bipush (v := 64) hx hb d_M_swap_37 (by decide) ?_
                  refine lv_icmp_ge (tgt := 192) hx hb d_M_swap_39 (by decide) (fun c_7 => ?_) (fun c_7 => ?_)
                  · replace hr := ip c_7 hr
                    exact hx_6 _ (hz2_6 _ (Option.some.inj hr).symm) _ _ _ hW (lv_sub hl [0, 1, 2, 3] rfl)
                  · replace hr := iN c_7 hr
                    refine lv_iload hx hb d_M_swap_42 (lv_at hl 4 rfl) ?_
                    refine lv_bipush (v := 8) hx hb d_M_swap_44 (by decide) ?_
                    refine lv_idiv hx hb d_M_swap_46 (by decide) ?_
                    refine lv_istore (lv' := [(5, .int (y4_6 / (8 : Int32))), (1, .int q_1), (0, .ref a_r0), (2, .int y2_2), (3, .int y3_4), (4, .int y4_6)]) hx hb d_M_swap_47 hl (by decide) rfl (fun ls hl => ?_)
                    refine lv_iload hx hb d_M_swap_49 (lv_at hl 5 rfl) ?_
                    refine lv_bipush (v := 8) hx hb d_M_swap_51 (by decide) ?_
                    refine lv_irem hx hb d_M_swap_53 (by decide) ?_
                    refine lv_istore (lv' := [(6, .int (y4_6 - y4_6 / (8 : Int32) * (8 : Int32))), (5, .int (y4_6 / (8 : Int32))), (1, .int q_1), (0, .ref a_r0), (2, .int y2_2), (3, .int y3_4), (4, .int y4_6)]) hx hb d_M_swap_54 hl (by decide) rfl (fun ls hl => ?_)
                    refine lv_aload_n hx hb d_M_swap_56 rfl (lv_at hl 3 rfl) ?_
                    refine k_get i_M C hW 0 rfl rfl 5 (by decide) qf_M_19 rfl rfl d_M_swap_57 ?_
                    refine lv_iload_n hx hb d_M_swap_60 rfl (lv_at hl 4 rfl) ?_
                    obtain ⟨h_8, hr⟩ := ck_some hr
                    refine k_iald C hW 2 rfl h_8 d_M_swap_61 ?_
                    refine lv_istore (lv' := [(7, .int (r0_hampers_6 (Int32.toNatClampNeg y2_2))), (6, .int (y4_6 - y4_6 / (8 : Int32) * (8 : Int32))), (5, .int (y4_6 / (8 : Int32))), (1, .int q_1), (0, .ref a_r0), (2, .int y2_2), (3, .int y3_4), (4, .int y4_6)]) hx hb d_M_swap_62 hl (by decide) rfl (fun ls hl => ?_)
                    refine lv_aload_n hx hb d_M_swap_64 rfl (lv_at hl 4 rfl) ?_
                    refine k_get i_M C hW 0 rfl rfl 5 (by decide) qf_M_19 rfl rfl d_M_swap_65 ?_
                    refine lv_iload_n hx hb d_M_swap_68 rfl (lv_at hl 6 rfl) ?_
                    obtain ⟨h_9, hr⟩ := ck_some hr
                    refine k_iald C hW 2 rfl h_9 d_M_swap_69 ?_
                    refine lv_istore (lv' := [(8, .int (r0_hampers_6 (Int32.toNatClampNeg y3_4))), (7, .int (r0_hampers_6 (Int32.toNatClampNeg y2_2))), (6, .int (y4_6 - y4_6 / (8 : Int32) * (8 : Int32))), (5, .int (y4_6 / (8 : Int32))), (1, .int q_1), (0, .ref a_r0), (2, .int y2_2), (3, .int y3_4), (4, .int y4_6)]) hx hb d_M_swap_70 hl (by decide) rfl (fun ls hl => ?_)
                    refine lv_iload hx hb d_M_swap_72 (lv_at hl 1 rfl) ?_
                    refine lv_iload hx hb d_M_swap_74 (lv_at hl 0 rfl) ?_
                    refine lv_iconst (v := (-1)) hx hb d_M_swap_76 (by decide) ?_
                    refine lv_ixor hx hb d_M_swap_77 ?_
                    refine lv_iand hx hb d_M_swap_78 ?_
                    refine lv_iload hx hb d_M_swap_79 (lv_at hl 3 rfl) ?_
                    obtain ⟨q_10, hc_10, hr⟩ := ob hr
                    have ct_10 := C_M_hasBit l D cI cS ((r0_hampers_6 (Int32.toNatClampNeg y2_2)) &&& ((r0_hampers_6 (Int32.toNatClampNeg y3_4)) ^^^ (-1))) (y4_6 / (8 : Int32)) q_10 hc_10
                    refine k_goIp hA hW [] rfl rfl (k_runS C hA hW mw_M_hasBit ms_M_hasBit (ct_10.2 _) [] rfl rfl qm_M_85 ⟨Nat.le_of_ble_eq_true rfl, Nat.le_of_ble_eq_true rfl, Nat.zero_le _, Nat.zero_le _⟩ rfl rfl (Nat.le_of_ble_eq_true rfl) hl.1 d_M_swap_81) (fun H locs hW => ?_)
                    refine lv_if_eq (tgt := 186) hx hb d_M_swap_84 (by decide) (fun c_11 => ?_) (fun c_11 => ?_)
                    · replace hr := ip c_11 hr
                      refine lv_iinc (v := (y4_6 + 1)) (lv' := [(4, .int (y4_6 + 1)), (8, .int (r0_hampers_6 (Int32.toNatClampNeg y3_4))), (7, .int (r0_hampers_6 (Int32.toNatClampNeg y2_2))), (6, .int (y4_6 - y4_6 / (8 : Int32) * (8 : Int32))), (5, .int (y4_6 / (8 : Int32))), (1, .int q_1), (0, .ref a_r0), (2, .int y2_2), (3, .int y3_4)]) hx hb d_M_swap_186 hl (k := 8) rfl rfl (by decide) rfl (fun ls hl => ?_)
                      refine lv_goto (tgt := 35) hx hb d_M_swap_189 (by decide) ?_
                      exact ih_6 (y4_6 + 1) r0_hampers_6 (hz1_6 _ (Option.some.inj hr).symm) _ _ _ hW (lv_sub hl [5, 6, 7, 8, 0] rfl)
                    · replace hr := iN c_11 hr
                      refine lv_iload hx hb d_M_swap_87 (lv_at hl 0 rfl) ?_
                      refine lv_iload hx hb d_M_swap_89 (lv_at hl 1 rfl) ?_
                      refine lv_iconst (v := (-1)) hx hb d_M_swap_91 (by decide) ?_
                      refine lv_ixor hx hb d_M_swap_92 ?_
                      refine lv_iand hx hb d_M_swap_93 ?_
                      refine lv_iload hx hb d_M_swap_94 (lv_at hl 2 rfl) ?_
                      obtain ⟨q_12, hc_12, hr⟩ := ob hr
                      have ct_12 := C_M_hasBit l D cI cS ((r0_hampers_6 (Int32.toNatClampNeg y3_4)) &&& ((r0_hampers_6 (Int32.toNatClampNeg y2_2)) ^^^ (-1))) (y4_6 - y4_6 / (8 : Int32) * (8 : Int32)) q_12 hc_12
                      refine k_goIp hA hW [] rfl rfl (k_runS C hA hW mw_M_hasBit ms_M_hasBit (ct_12.2 _) [] rfl rfl qm_M_85 ⟨Nat.le_of_ble_eq_true rfl, Nat.le_of_ble_eq_true rfl, Nat.zero_le _, Nat.zero_le _⟩ rfl rfl (Nat.le_of_ble_eq_true rfl) hl.1 d_M_swap_96) (fun H locs hW => ?_)
                      refine lv_if_eq (tgt := 186) hx hb d_M_swap_99 (by decide) (fun c_13 => ?_) (fun c_13 => ?_)
                      · replace hr := ip c_13 hr
                        refine lv_iinc (v := (y4_6 + 1)) (lv' := [(4, .int (y4_6 + 1)), (8, .int (r0_hampers_6 (Int32.toNatClampNeg y3_4))), (7, .int (r0_hampers_6 (Int32.toNatClampNeg y2_2))), (6, .int (y4_6 - y4_6 / (8 : Int32) * (8 : Int32))), (5, .int (y4_6 / (8 : Int32))), (1, .int q_1), (0, .ref a_r0), (2, .int y2_2), (3, .int y3_4)]) hx hb d_M_swap_186 hl (k := 8) rfl rfl (by decide) rfl (fun ls hl => ?_)
                        refine lv_goto (tgt := 35) hx hb d_M_swap_189 (by decide) ?_
                        exact ih_6 (y4_6 + 1) r0_hampers_6 (hz1_6 _ (Option.some.inj hr).symm) _ _ _ hW (lv_sub hl [5, 6, 7, 8, 0] rfl)
                      · replace hr := iN c_13 hr
                        refine lv_aload_n hx hb d_M_swap_102 rfl (lv_at hl 5 rfl) ?_
                        refine k_get i_M C hW 0 rfl rfl 5 (by decide) qf_M_19 rfl rfl d_M_swap_103 ?_
                        refine lv_iload_n hx hb d_M_swap_106 rfl (lv_at hl 6 rfl) ?_
                        refine lv_iload hx hb d_M_swap_107 (lv_at hl 1 rfl) ?_
                        refine lv_iconst (v := 1) hx hb d_M_swap_109 (by decide) ?_
                        refine lv_iload hx hb d_M_swap_110 (lv_at hl 3 rfl) ?_
                        refine lv_ishl hx hb d_M_swap_112 ?_
                        refine lv_iconst (v := 1) hx hb d_M_swap_113 (by decide) ?_
                        refine lv_iload hx hb d_M_swap_114 (lv_at hl 2 rfl) ?_
                        refine lv_ishl hx hb d_M_swap_116 ?_
                        refine lv_ior hx hb d_M_swap_117 ?_
                        refine lv_ixor hx hb d_M_swap_118 ?_
                        obtain ⟨h_14, hr⟩ := ck_some hr
                        refine k_iast C hW 2 rfl h_14 (ws' := (w_M_swap cI a_r0 a_r0_figures a_r0_hampers a_r0_kinds a_r0_weights v_r0_wants0 v_r0_left0 v_r0_done0 v_r0_refusals v_r0_letters v_r0_letterMany v_r0_at v_r0_isBad v_r0_statements v_r0_placeIn v_r0_letterOf v_r0_told v_r0_kept v_r0_imaged v_r0_hasImage v_r0_place0 v_r0_isTaking v_r0_keptIn v_r0_turns0 v_r0_turnOf v_r0_turned v_r0_order0 v_r0_likely0 v_r0_leftThen v_r0_row v_r0_rowMany v_r0_seed r0_days r0_things 0 r0_figures (upd r0_hampers_6 (Int32.toNatClampNeg y2_2) ((r0_hampers_6 (Int32.toNatClampNeg y2_2)) ^^^ (((1 : Int32) <<< (((y4_6 / (8 : Int32)) : Int32) &&& 31)) ||| ((1 : Int32) <<< (((y4_6 - y4_6 / (8 : Int32) * (8 : Int32)) : Int32) &&& 31))))) r0_kinds r0_weights)) rfl d_M_swap_119 (fun H locs hW => ?_)
                        refine lv_aload_n hx hb d_M_swap_120 rfl (lv_at hl 5 rfl) ?_
                        refine k_get i_M C hW 0 rfl rfl 5 (by decide) qf_M_19 rfl rfl d_M_swap_121 ?_
                        refine lv_iload_n hx hb d_M_swap_124 rfl (lv_at hl 7 rfl) ?_
                        refine lv_iload hx hb d_M_swap_125 (lv_at hl 0 rfl) ?_
                        refine lv_iconst (v := 1) hx hb d_M_swap_127 (by decide) ?_
                        refine lv_iload hx hb d_M_swap_128 (lv_at hl 3 rfl) ?_
                        refine lv_ishl hx hb d_M_swap_130 ?_
                        refine lv_iconst (v := 1) hx hb d_M_swap_131 (by decide) ?_
                        refine lv_iload hx hb d_M_swap_132 (lv_at hl 2 rfl) ?_
                        refine lv_ishl hx hb d_M_swap_134 ?_
                        refine lv_ior hx hb d_M_swap_135 ?_
                        refine lv_ixor hx hb d_M_swap_136 ?_
                        obtain ⟨h_15, hr⟩ := ck_some hr
                        refine k_iast C hW 2 rfl h_15 (ws' := (w_M_swap cI a_r0 a_r0_figures a_r0_hampers a_r0_kinds a_r0_weights v_r0_wants0 v_r0_left0 v_r0_done0 v_r0_refusals v_r0_letters v_r0_letterMany v_r0_at v_r0_isBad v_r0_statements v_r0_placeIn v_r0_letterOf v_r0_told v_r0_kept v_r0_imaged v_r0_hasImage v_r0_place0 v_r0_isTaking v_r0_keptIn v_r0_turns0 v_r0_turnOf v_r0_turned v_r0_order0 v_r0_likely0 v_r0_leftThen v_r0_row v_r0_rowMany v_r0_seed r0_days r0_things 0 r0_figures (upd (upd r0_hampers_6 (Int32.toNatClampNeg y2_2) ((r0_hampers_6 (Int32.toNatClampNeg y2_2)) ^^^ (((1 : Int32) <<< (((y4_6 / (8 : Int32)) : Int32) &&& 31)) ||| ((1 : Int32) <<< (((y4_6 - y4_6 / (8 : Int32) * (8 : Int32)) : Int32) &&& 31))))) (Int32.toNatClampNeg y3_4) ((r0_hampers_6 (Int32.toNatClampNeg y3_4)) ^^^ (((1 : Int32) <<< (((y4_6 / (8 : Int32)) : Int32) &&& 31)) ||| ((1 : Int32) <<< (((y4_6 - y4_6 / (8 : Int32) * (8 : Int32)) : Int32) &&& 31))))) r0_kinds r0_weights)) rfl d_M_swap_137 (fun H locs hW => ?_)
                        refine lv_aload_n hx hb d_M_swap_138 rfl (lv_at hl 5 rfl) ?_
                        obtain ⟨q_16, hc_16, hr⟩ := ob hr
                        have ct_16 := C_M_likelyDays l D cI cS a_r0 a_r0_figures a_r0_hampers a_r0_kinds a_r0_weights v_r0_wants0 v_r0_left0 v_r0_done0 (Value.int 0) v_r0_refusals v_r0_letters v_r0_letterMany v_r0_at v_r0_isBad v_r0_statements v_r0_placeIn v_r0_letterOf v_r0_told v_r0_kept v_r0_imaged v_r0_hasImage v_r0_place0 v_r0_isTaking v_r0_keptIn v_r0_turns0 v_r0_turnOf v_r0_turned v_r0_order0 v_r0_likely0 v_r0_leftThen v_r0_row v_r0_rowMany v_r0_seed r0_days r0_things r0_figures (upd (upd r0_hampers_6 (Int32.toNatClampNeg y2_2) ((r0_hampers_6 (Int32.toNatClampNeg y2_2)) ^^^ (((1 : Int32) <<< (((y4_6 / (8 : Int32)) : Int32) &&& 31)) ||| ((1 : Int32) <<< (((y4_6 - y4_6 / (8 : Int32) * (8 : Int32)) : Int32) &&& 31))))) (Int32.toNatClampNeg y3_4) ((r0_hampers_6 (Int32.toNatClampNeg y3_4)) ^^^ (((1 : Int32) <<< (((y4_6 / (8 : Int32)) : Int32) &&& 31)) ||| ((1 : Int32) <<< (((y4_6 - y4_6 / (8 : Int32) * (8 : Int32)) : Int32) &&& 31))))) r0_kinds r0_weights q_16 hc_16
                        refine k_goIp hA hW [0, 1, 2, 3, 4] rfl rfl (k_runV C hA hW mw_M_likelyDays mv_M_likelyDays (ct_16.2 _) [0, 1, 2, 3, 4] rfl rfl 0 rfl rfl qm_M_262 ⟨Nat.le_of_ble_eq_true rfl, Nat.le_of_ble_eq_true rfl, Nat.zero_le _, Nat.zero_le _⟩ rfl rfl (Nat.le_of_ble_eq_true rfl) hl.1 d_M_swap_139) (fun H locs hW => ?_)
                        refine lv_istore (lv' := [(9, .int q_16), (8, .int (r0_hampers_6 (Int32.toNatClampNeg y3_4))), (7, .int (r0_hampers_6 (Int32.toNatClampNeg y2_2))), (6, .int (y4_6 - y4_6 / (8 : Int32) * (8 : Int32))), (5, .int (y4_6 / (8 : Int32))), (1, .int q_1), (0, .ref a_r0), (2, .int y2_2), (3, .int y3_4), (4, .int y4_6)]) hx hb d_M_swap_142 hl (by decide) rfl (fun ls hl => ?_)
                        refine lv_aload_n hx hb d_M_swap_144 rfl (lv_at hl 6 rfl) ?_
                        refine k_get i_M C hW 0 rfl rfl 5 (by decide) qf_M_19 rfl rfl d_M_swap_145 ?_
                        refine lv_iload_n hx hb d_M_swap_148 rfl (lv_at hl 7 rfl) ?_
                        refine lv_iload hx hb d_M_swap_149 (lv_at hl 2 rfl) ?_
                        obtain ⟨h_17, hr⟩ := ck_some hr
                        refine k_iast C hW 2 rfl h_17 (ws' := (w_M_swap cI a_r0 a_r0_figures a_r0_hampers a_r0_kinds a_r0_weights v_r0_wants0 v_r0_left0 v_r0_done0 v_r0_refusals v_r0_letters v_r0_letterMany v_r0_at v_r0_isBad v_r0_statements v_r0_placeIn v_r0_letterOf v_r0_told v_r0_kept v_r0_imaged v_r0_hasImage v_r0_place0 v_r0_isTaking v_r0_keptIn v_r0_turns0 v_r0_turnOf v_r0_turned v_r0_order0 v_r0_likely0 v_r0_leftThen v_r0_row v_r0_rowMany v_r0_seed r0_days r0_things 0 r0_figures (upd (upd (upd r0_hampers_6 (Int32.toNatClampNeg y2_2) ((r0_hampers_6 (Int32.toNatClampNeg y2_2)) ^^^ (((1 : Int32) <<< (((y4_6 / (8 : Int32)) : Int32) &&& 31)) ||| ((1 : Int32) <<< (((y4_6 - y4_6 / (8 : Int32) * (8 : Int32)) : Int32) &&& 31))))) (Int32.toNatClampNeg y3_4) ((r0_hampers_6 (Int32.toNatClampNeg y3_4)) ^^^ (((1 : Int32) <<< (((y4_6 / (8 : Int32)) : Int32) &&& 31)) ||| ((1 : Int32) <<< (((y4_6 - y4_6 / (8 : Int32) * (8 : Int32)) : Int32) &&& 31))))) (Int32.toNatClampNeg y2_2) (r0_hampers_6 (Int32.toNatClampNeg y2_2))) r0_kinds r0_weights)) rfl d_M_swap_151 (fun H locs hW => ?_)
                        refine lv_aload_n hx hb d_M_swap_152 rfl (lv_at hl 6 rfl) ?_
                        refine k_get i_M C hW 0 rfl rfl 5 (by decide) qf_M_19 rfl rfl d_M_swap_153 ?_
                        refine lv_iload_n hx hb d_M_swap_156 rfl (lv_at hl 8 rfl) ?_
                        refine lv_iload hx hb d_M_swap_157 (lv_at hl 1 rfl) ?_
                        obtain ⟨h_18, hr⟩ := ck_some hr
                        refine k_iast C hW 2 rfl h_18 (ws' := (w_M_swap cI a_r0 a_r0_figures a_r0_hampers a_r0_kinds a_r0_weights v_r0_wants0 v_r0_left0 v_r0_done0 v_r0_refusals v_r0_letters v_r0_letterMany v_r0_at v_r0_isBad v_r0_statements v_r0_placeIn v_r0_letterOf v_r0_told v_r0_kept v_r0_imaged v_r0_hasImage v_r0_place0 v_r0_isTaking v_r0_keptIn v_r0_turns0 v_r0_turnOf v_r0_turned v_r0_order0 v_r0_likely0 v_r0_leftThen v_r0_row v_r0_rowMany v_r0_seed r0_days r0_things 0 r0_figures (upd (upd (upd (upd r0_hampers_6 (Int32.toNatClampNeg y2_2) ((r0_hampers_6 (Int32.toNatClampNeg y2_2)) ^^^ (((1 : Int32) <<< (((y4_6 / (8 : Int32)) : Int32) &&& 31)) ||| ((1 : Int32) <<< (((y4_6 - y4_6 / (8 : Int32) * (8 : Int32)) : Int32) &&& 31))))) (Int32.toNatClampNeg y3_4) ((r0_hampers_6 (Int32.toNatClampNeg y3_4)) ^^^ (((1 : Int32) <<< (((y4_6 / (8 : Int32)) : Int32) &&& 31)) ||| ((1 : Int32) <<< (((y4_6 - y4_6 / (8 : Int32) * (8 : Int32)) : Int32) &&& 31))))) (Int32.toNatClampNeg y2_2) (r0_hampers_6 (Int32.toNatClampNeg y2_2))) (Int32.toNatClampNeg y3_4) (r0_hampers_6 (Int32.toNatClampNeg y3_4))) r0_kinds r0_weights)) rfl d_M_swap_159 (fun H locs hW => ?_)
                        refine lv_iload hx hb d_M_swap_160 (lv_at hl 0 rfl) ?_
                        refine lv_iload_n hx hb d_M_swap_162 rfl (lv_at hl 5 rfl) ?_
                        refine lv_icmp_le (tgt := 186) hx hb d_M_swap_163 (by decide) (fun c_19 => ?_) (fun c_19 => ?_)
                        · replace hr := ip c_19 hr
                          refine lv_iinc (v := (y4_6 + 1)) (lv' := [(4, .int (y4_6 + 1)), (9, .int q_16), (8, .int (r0_hampers_6 (Int32.toNatClampNeg y3_4))), (7, .int (r0_hampers_6 (Int32.toNatClampNeg y2_2))), (6, .int (y4_6 - y4_6 / (8 : Int32) * (8 : Int32))), (5, .int (y4_6 / (8 : Int32))), (1, .int q_1), (0, .ref a_r0), (2, .int y2_2), (3, .int y3_4)]) hx hb d_M_swap_186 hl (k := 9) rfl rfl (by decide) rfl (fun ls hl => ?_)
                          refine lv_goto (tgt := 35) hx hb d_M_swap_189 (by decide) ?_
                          exact ih_6 (y4_6 + 1) (upd (upd (upd (upd r0_hampers_6 (Int32.toNatClampNeg y2_2) ((r0_hampers_6 (Int32.toNatClampNeg y2_2)) ^^^ (((1 : Int32) <<< (((y4_6 / (8 : Int32)) : Int32) &&& 31)) ||| ((1 : Int32) <<< (((y4_6 - y4_6 / (8 : Int32) * (8 : Int32)) : Int32) &&& 31))))) (Int32.toNatClampNeg y3_4) ((r0_hampers_6 (Int32.toNatClampNeg y3_4)) ^^^ (((1 : Int32) <<< (((y4_6 / (8 : Int32)) : Int32) &&& 31)) ||| ((1 : Int32) <<< (((y4_6 - y4_6 / (8 : Int32) * (8 : Int32)) : Int32) &&& 31))))) (Int32.toNatClampNeg y2_2) (r0_hampers_6 (Int32.toNatClampNeg y2_2))) (Int32.toNatClampNeg y3_4) (r0_hampers_6 (Int32.toNatClampNeg y3_4))) (hz1_6 _ (Option.some.inj hr).symm) _ _ _ hW (lv_sub hl [6, 7, 8, 9, 0] rfl)
                        · replace hr := iN c_19 hr
                          refine lv_sipush (v := 1000) hx hb d_M_swap_166 (by decide) ?_
                          refine lv_iload_n hx hb d_M_swap_169 rfl (lv_at hl 7 rfl) ?_
                          refine lv_imul hx hb d_M_swap_170 ?_
                          refine lv_bipush (v := 100) hx hb d_M_swap_171 (by decide) ?_
                          refine lv_iload_n hx hb d_M_swap_173 rfl (lv_at hl 8 rfl) ?_
                          refine lv_imul hx hb d_M_swap_174 ?_
                          refine lv_iadd hx hb d_M_swap_175 ?_
                          refine lv_bipush (v := 10) hx hb d_M_swap_176 (by decide) ?_
                          refine lv_iload hx hb d_M_swap_178 (lv_at hl 4 rfl) ?_
                          refine lv_imul hx hb d_M_swap_180 ?_
                          refine lv_iadd hx hb d_M_swap_181 ?_
                          refine lv_iload hx hb d_M_swap_182 (lv_at hl 3 rfl) ?_
                          refine lv_iadd hx hb d_M_swap_184 ?_
                          have hr := sx_r (hz2_6 _ (Option.some.inj hr).symm).symm hk_6
                          have hr := sx_r (hz2_4 _ (Option.some.inj hr).symm).symm hk_4
                          have hr := sx_r (hz2_2 _ (Option.some.inj hr).symm).symm hk_2
                          obtain rfl := Option.some.inj hr
                          rw [hQ]; exact k_iret C hret hW d_M_swap_185
              exact hl_6 _ 0 r0_hampers_4 hw_6 _ _ _ hW (lv_sub hl [1, 2, 3, 4, 0] rfl)
        exact hl_4 _ (y2_2 + 1) r0_hampers_2 hw_4 _ _ _ hW (lv_sub hl [1, 2, 3, 0] rfl)
  exact hl_2 _ 0 r0_hampers hw_2 _ _ _ hW (lv_sub hl [1, 2, 0] rfl)
def w_M_tell (cI : ClassId) (a_r0 : Nat) (a_r0_figures : Nat) (a_r0_kinds : Nat) (a_r0_weights : Nat) (v_r0_days v_r0_hampers v_r0_wants0 v_r0_left0 v_r0_done0 v_r0_refusals v_r0_letters v_r0_letterMany v_r0_at v_r0_isBad v_r0_statements v_r0_placeIn v_r0_letterOf v_r0_told v_r0_kept v_r0_imaged v_r0_hasImage v_r0_place0 v_r0_isTaking v_r0_keptIn v_r0_turns0 v_r0_turnOf v_r0_turned v_r0_order0 v_r0_likely0 v_r0_leftThen v_r0_row v_r0_rowMany v_r0_seed : Value) (r0_things : Int32) (r0_thrown : Int32) (r0_figures : Nat → Int32) (r0_kinds : Nat → Int32) (r0_weights : Nat → Int32) : va_W := [(a_r0, .inr (9, [.ref a_r0_weights, .int r0_things, .ref a_r0_kinds, .ref a_r0_figures, v_r0_days, v_r0_hampers, v_r0_wants0, v_r0_left0, v_r0_done0, .int r0_thrown, v_r0_refusals, v_r0_letters, v_r0_letterMany, v_r0_at, v_r0_isBad, v_r0_statements, v_r0_placeIn, v_r0_letterOf, v_r0_told, v_r0_kept, v_r0_imaged, v_r0_hasImage, v_r0_place0, v_r0_isTaking, v_r0_keptIn, v_r0_turns0, v_r0_turnOf, v_r0_turned, v_r0_order0, v_r0_likely0, v_r0_leftThen, v_r0_row, v_r0_rowMany, v_r0_seed])), (a_r0_figures, .inl (cI, 8, .inl r0_figures)), (a_r0_kinds, .inl (cI, 8, .inl r0_kinds)), (a_r0_weights, .inl (cI, 6, .inl r0_weights))]
def F_M_tell_J76_10 (y2_1 : Int32) (y3_1 : Int32) (s0_8 : Int32) (s0_10 : Int32) : Option (((Int32) × (Int32) × (Int32)) ⊕ ((Int32))) :=
  (if y2_1 < 0 then (some (.inl (s0_10, s0_8, (y3_1 + 1)))) else (if y2_1 ≤ s0_8 then (some (.inl (s0_10, y2_1, (y3_1 + 1)))) else (some (.inl (s0_10, s0_8, (y3_1 + 1))))))
def F_M_tell_J71_13 (y2_1 : Int32) (y3_1 : Int32) (s0_8 : Int32) : Option (((Int32) × (Int32) × (Int32)) ⊕ ((Int32))) :=
  (F_M_tell_J76_10 y2_1 y3_1 s0_8 y3_1)
def F_M_tell_J59_8 (y1_1 : Int32) (y2_1 : Int32) (y3_1 : Int32) (s0_8 : Int32) : Option (((Int32) × (Int32) × (Int32)) ⊕ ((Int32))) :=
  (if y2_1 < 0 then (F_M_tell_J71_13 y2_1 y3_1 s0_8) else (if y2_1 ≤ s0_8 then (F_M_tell_J76_10 y2_1 y3_1 s0_8 y1_1) else (F_M_tell_J71_13 y2_1 y3_1 s0_8)))
def F_M_tell_L12 (r0_things : Int32) (r0_figures : Nat → Int32) (r0_kinds : Nat → Int32) (r0_weights : Nat → Int32) (y1_1 : Int32) (y2_1 : Int32) (y3_1 : Int32) : Option (((Int32) × (Int32) × (Int32)) ⊕ ((Int32))) :=
  (if r0_things ≤ y3_1 then (some (.inr y1_1)) else ((F_M_goesWith r0_figures r0_kinds y3_1).bind (fun q_3 => ((F_M_weightOf r0_weights q_3).bind (fun q_4 => ((F_M_goesWith r0_figures r0_kinds y3_1).bind (fun q_5 => ((F_M_weightOf r0_weights ((63 : Int32) &&& (q_5 ^^^ (-1)))).bind (fun q_6 => (if (0 : Int32) ≤ (q_4 - q_6) then (F_M_tell_J59_8 y1_1 y2_1 y3_1 (q_4 - q_6)) else (F_M_tell_J59_8 y1_1 y2_1 y3_1 (-(q_4 - q_6)))))))))))))
def F_M_tell (r0_things : Int32) (r0_figures : Nat → Int32) (r0_kinds : Nat → Int32) (r0_weights : Nat → Int32) : Option (Int32 × (Int32)) :=
  ((wh (fun (s : (Int32) × (Int32) × (Int32)) => F_M_tell_L12 r0_things r0_figures r0_kinds r0_weights s.1 s.2.1 s.2.2) 400 (((-9) : Int32), ((-1) : Int32), (0 : Int32))).bind (fun e_1 => (some (e_1, 0))))
set_option maxHeartbeats 4000000 in
set_option maxRecDepth 100000 in
theorem C_M_tell (l : Launch) (D : va_G) (cI cS : ClassId) (a_r0 : Nat) (a_r0_figures : Nat) (a_r0_kinds : Nat) (a_r0_weights : Nat) (v_r0_days v_r0_hampers v_r0_wants0 v_r0_left0 v_r0_done0 v_r0_refusals v_r0_letters v_r0_letterMany v_r0_at v_r0_isBad v_r0_statements v_r0_placeIn v_r0_letterOf v_r0_told v_r0_kept v_r0_imaged v_r0_hasImage v_r0_place0 v_r0_isTaking v_r0_keptIn v_r0_turns0 v_r0_turnOf v_r0_turned v_r0_order0 v_r0_likely0 v_r0_leftThen v_r0_row v_r0_rowMany v_r0_seed : Value) (r0_things : Int32) (r0_thrown : Int32) (r0_figures : Nat → Int32) (r0_kinds : Nat → Int32) (r0_weights : Nat → Int32) (o : Int32 × (Int32)) (hr : F_M_tell r0_things r0_figures r0_kinds r0_weights = some o) : ctI l y_M_tell (Cond.code y_M_tell b_M_tell 5 (some FieldType.int)) (rmd 2) D (kTy cI cS) [.ref a_r0] (w_M_tell cI a_r0 a_r0_figures a_r0_kinds a_r0_weights v_r0_days v_r0_hampers v_r0_wants0 v_r0_left0 v_r0_done0 v_r0_refusals v_r0_letters v_r0_letterMany v_r0_at v_r0_isBad v_r0_statements v_r0_placeIn v_r0_letterOf v_r0_told v_r0_kept v_r0_imaged v_r0_hasImage v_r0_place0 v_r0_isTaking v_r0_keptIn v_r0_turns0 v_r0_turnOf v_r0_turned v_r0_order0 v_r0_likely0 v_r0_leftThen v_r0_row v_r0_rowMany v_r0_seed r0_things r0_thrown r0_figures r0_kinds r0_weights) (w_M_tell cI a_r0 a_r0_figures a_r0_kinds a_r0_weights v_r0_days v_r0_hampers v_r0_wants0 v_r0_left0 v_r0_done0 v_r0_refusals v_r0_letters v_r0_letterMany v_r0_at v_r0_isBad v_r0_statements v_r0_placeIn v_r0_letterOf v_r0_told v_r0_kept v_r0_imaged v_r0_hasImage v_r0_place0 v_r0_isTaking v_r0_keptIn v_r0_turns0 v_r0_turnOf v_r0_turned v_r0_order0 v_r0_likely0 v_r0_leftThen v_r0_row v_r0_rowMany v_r0_seed r0_things o.2 r0_figures r0_kinds r0_weights) o.1 := by
  unfold F_M_tell at hr
  refine ⟨rfl, fun sz => ct_of (w0 := (w_M_tell cI a_r0 a_r0_figures a_r0_kinds a_r0_weights v_r0_days v_r0_hampers v_r0_wants0 v_r0_left0 v_r0_done0 v_r0_refusals v_r0_letters v_r0_letterMany v_r0_at v_r0_isBad v_r0_statements v_r0_placeIn v_r0_letterOf v_r0_told v_r0_kept v_r0_imaged v_r0_hasImage v_r0_place0 v_r0_isTaking v_r0_keptIn v_r0_turns0 v_r0_turnOf v_r0_turned v_r0_order0 v_r0_likely0 v_r0_leftThen v_r0_row v_r0_rowMany v_r0_seed r0_things r0_thrown r0_figures r0_kinds r0_weights)) (Qc := fun A => qI D (w_M_tell cI a_r0 a_r0_figures a_r0_kinds a_r0_weights v_r0_days v_r0_hampers v_r0_wants0 v_r0_left0 v_r0_done0 v_r0_refusals v_r0_letters v_r0_letterMany v_r0_at v_r0_isBad v_r0_statements v_r0_placeIn v_r0_letterOf v_r0_told v_r0_kept v_r0_imaged v_r0_hasImage v_r0_place0 v_r0_isTaking v_r0_keptIn v_r0_turns0 v_r0_turnOf v_r0_turned v_r0_order0 v_r0_likely0 v_r0_leftThen v_r0_row v_r0_rowMany v_r0_seed r0_things o.2 r0_figures r0_kinds r0_weights) o.1 A) rfl (Nat.le_of_ble_eq_true rfl) ?_ sz⟩
  intro p e s m below meth c A hA C hret ls hl hW
  have C : cx p s m ([.ref a_r0] : List Value).toArray meth c b_M_tell 5 R_M D (kTy cI cS) (Cond.code y_M_tell b_M_tell 5 (some FieldType.int)) := C
  obtain ⟨hx, hb, hml, hown, hts, hK, hlk, hN⟩ := id C
  have hl : lv_has ls 5 [(0, .ref a_r0)] := hl
  obtain ⟨Q, hQ⟩ : ∃ Q, Q = MQ below (qI D (w_M_tell cI a_r0 a_r0_figures a_r0_kinds a_r0_weights v_r0_days v_r0_hampers v_r0_wants0 v_r0_left0 v_r0_done0 v_r0_refusals v_r0_letters v_r0_letterMany v_r0_at v_r0_isBad v_r0_statements v_r0_placeIn v_r0_letterOf v_r0_told v_r0_kept v_r0_imaged v_r0_hasImage v_r0_place0 v_r0_isTaking v_r0_keptIn v_r0_turns0 v_r0_turnOf v_r0_turned v_r0_order0 v_r0_likely0 v_r0_leftThen v_r0_row v_r0_rowMany v_r0_seed r0_things o.2 r0_figures r0_kinds r0_weights) o.1 A) ([.ref a_r0] : List Value).toArray s 0 0 A := ⟨_, rfl⟩
  rw [← hQ]
  refine lv_aload_n hx hb d_M_tell_0 rfl (lv_at hl 0 rfl) ?_
  refine lv_iconst (v := 0) hx hb d_M_tell_1 (by decide) ?_
  refine k_put i_M t_M_ok n_M C hW 0 rfl rfl 9 (by decide) qf_M_67 rfl rfl (ty := .int) rfl rfl rfl (Nat.le_of_ble_eq_true rfl) (ws' := (w_M_tell cI a_r0 a_r0_figures a_r0_kinds a_r0_weights v_r0_days v_r0_hampers v_r0_wants0 v_r0_left0 v_r0_done0 v_r0_refusals v_r0_letters v_r0_letterMany v_r0_at v_r0_isBad v_r0_statements v_r0_placeIn v_r0_letterOf v_r0_told v_r0_kept v_r0_imaged v_r0_hasImage v_r0_place0 v_r0_isTaking v_r0_keptIn v_r0_turns0 v_r0_turnOf v_r0_turned v_r0_order0 v_r0_likely0 v_r0_leftThen v_r0_row v_r0_rowMany v_r0_seed r0_things 0 r0_figures r0_kinds r0_weights)) rfl d_M_tell_2 (fun H locs hW => ?_)
  refine lv_bipush (v := (-9)) hx hb d_M_tell_5 (by decide) ?_
  refine lv_istore_n (lv' := [(1, .int (-9)), (0, .ref a_r0)]) hx hb d_M_tell_7 rfl hl (by decide) rfl (fun ls hl => ?_)
  refine lv_iconst (v := (-1)) hx hb d_M_tell_8 (by decide) ?_
  refine lv_istore_n (lv' := [(2, .int (-1)), (1, .int (-9)), (0, .ref a_r0)]) hx hb d_M_tell_9 rfl hl (by decide) rfl (fun ls hl => ?_)
  refine lv_iconst (v := 0) hx hb d_M_tell_10 (by decide) ?_
  refine lv_istore_n (lv' := [(3, .int 0), (2, .int (-1)), (1, .int (-9)), (0, .ref a_r0)]) hx hb d_M_tell_11 rfl hl (by decide) rfl (fun ls hl => ?_)
  obtain ⟨ex_1, hw_1, hk_1⟩ := ob hr
  have hx_1 : ∀ (e_1 : (Int32)), e_1 = ex_1 → ∀ (H : Heap) (locs : List Loc) (ls : Array Slot), wd A s.heap D (w_M_tell cI a_r0 a_r0_figures a_r0_kinds a_r0_weights v_r0_days v_r0_hampers v_r0_wants0 v_r0_left0 v_r0_done0 v_r0_refusals v_r0_letters v_r0_letterMany v_r0_at v_r0_isBad v_r0_statements v_r0_placeIn v_r0_letterOf v_r0_told v_r0_kept v_r0_imaged v_r0_hasImage v_r0_place0 v_r0_isTaking v_r0_keptIn v_r0_turns0 v_r0_turnOf v_r0_turned v_r0_order0 v_r0_likely0 v_r0_leftThen v_r0_row v_r0_rowMany v_r0_seed r0_things 0 r0_figures r0_kinds r0_weights) H locs → lv_has ls 5 [(1, .int e_1)] → W p l e (rmd 2) s m ([.ref a_r0] : List Value).toArray below meth c H locs 0 0 Q (F0 m 100 ls []) := by
    intro e_1 hE H locs ls hW hl
    subst hE; have hr := hk_1
    refine lv_iload_n hx hb d_M_tell_100 rfl (lv_at hl 0 rfl) ?_
    obtain rfl := Option.some.inj hr
    rw [hQ]; exact k_iret C hret hW d_M_tell_101
  have hl_1 : ∀ (k : Nat) (y1_1 : Int32) (y2_1 : Int32) (y3_1 : Int32), wh (fun (s : (Int32) × (Int32) × (Int32)) => F_M_tell_L12 r0_things r0_figures r0_kinds r0_weights s.1 s.2.1 s.2.2) k (y1_1, y2_1, y3_1) = some ex_1 → ∀ (H : Heap) (locs : List Loc) (ls : Array Slot), wd A s.heap D (w_M_tell cI a_r0 a_r0_figures a_r0_kinds a_r0_weights v_r0_days v_r0_hampers v_r0_wants0 v_r0_left0 v_r0_done0 v_r0_refusals v_r0_letters v_r0_letterMany v_r0_at v_r0_isBad v_r0_statements v_r0_placeIn v_r0_letterOf v_r0_told v_r0_kept v_r0_imaged v_r0_hasImage v_r0_place0 v_r0_isTaking v_r0_keptIn v_r0_turns0 v_r0_turnOf v_r0_turned v_r0_order0 v_r0_likely0 v_r0_leftThen v_r0_row v_r0_rowMany v_r0_seed r0_things 0 r0_figures r0_kinds r0_weights) H locs → lv_has ls 5 [(0, .ref a_r0), (1, .int y1_1), (2, .int y2_1), (3, .int y3_1)] → W p l e (rmd 2) s m ([.ref a_r0] : List Value).toArray below meth c H locs 0 0 Q (F0 m 12 ls []) := by
    intro k
    induction k with
    | zero => intro y1_1 y2_1 y3_1 hw; exact absurd hw wh_0
    | succ k ih_1 =>
      intro y1_1 y2_1 y3_1 hw H locs ls hW hl
      obtain ⟨z_1, hr, hz1_1, hz2_1⟩ := wh_s hw
      have hr : F_M_tell_L12 r0_things r0_figures r0_kinds r0_weights y1_1 y2_1 y3_1 = some z_1 := hr
      unfold F_M_tell_L12 at hr
      refine lv_iload_n hx hb d_M_tell_12 rfl (lv_at hl 3 rfl) ?_
      refine lv_aload_n hx hb d_M_tell_13 rfl (lv_at hl 0 rfl) ?_
      refine k_get i_M C hW 0 rfl rfl 1 (by decide) qf_M_71 rfl rfl d_M_tell_14 ?_
      refine lv_icmp_ge (tgt := 100) hx hb d_M_tell_17 (by decide) (fun c_2 => ?_) (fun c_2 => ?_)
      · replace hr := ip c_2 hr
        exact hx_1 _ (hz2_1 _ (Option.some.inj hr).symm) _ _ _ hW (lv_sub hl [1] rfl)
      · replace hr := iN c_2 hr
        refine lv_aload_n hx hb d_M_tell_20 rfl (lv_at hl 0 rfl) ?_
        refine lv_aload_n hx hb d_M_tell_21 rfl (lv_at hl 0 rfl) ?_
        refine lv_iload_n hx hb d_M_tell_22 rfl (lv_at hl 3 rfl) ?_
        obtain ⟨q_3, hc_3, hr⟩ := ob hr
        have ct_3 := C_M_goesWith l D cI cS a_r0 a_r0_figures a_r0_kinds (Value.ref a_r0_weights) (Value.int r0_things) v_r0_days v_r0_hampers v_r0_wants0 v_r0_left0 v_r0_done0 (Value.int 0) v_r0_refusals v_r0_letters v_r0_letterMany v_r0_at v_r0_isBad v_r0_statements v_r0_placeIn v_r0_letterOf v_r0_told v_r0_kept v_r0_imaged v_r0_hasImage v_r0_place0 v_r0_isTaking v_r0_keptIn v_r0_turns0 v_r0_turnOf v_r0_turned v_r0_order0 v_r0_likely0 v_r0_leftThen v_r0_row v_r0_rowMany v_r0_seed r0_figures r0_kinds y3_1 q_3 hc_3
        refine k_goIp hA hW [0, 1, 2] rfl rfl (k_runV C hA hW mw_M_goesWith mv_M_goesWith (ct_3.2 _) [0, 1, 2] rfl rfl 0 rfl rfl qm_M_96 ⟨Nat.le_of_ble_eq_true rfl, Nat.le_of_ble_eq_true rfl, Nat.zero_le _, Nat.zero_le _⟩ rfl rfl (Nat.le_of_ble_eq_true rfl) hl.1 d_M_tell_23) (fun H locs hW => ?_)
        obtain ⟨q_4, hc_4, hr⟩ := ob hr
        have ct_4 := C_M_weightOf l D cI cS a_r0 a_r0_weights (Value.int r0_things) (Value.ref a_r0_kinds) (Value.ref a_r0_figures) v_r0_days v_r0_hampers v_r0_wants0 v_r0_left0 v_r0_done0 (Value.int 0) v_r0_refusals v_r0_letters v_r0_letterMany v_r0_at v_r0_isBad v_r0_statements v_r0_placeIn v_r0_letterOf v_r0_told v_r0_kept v_r0_imaged v_r0_hasImage v_r0_place0 v_r0_isTaking v_r0_keptIn v_r0_turns0 v_r0_turnOf v_r0_turned v_r0_order0 v_r0_likely0 v_r0_leftThen v_r0_row v_r0_rowMany v_r0_seed r0_weights q_3 q_4 hc_4
        refine k_goIp hA hW [0, 3] rfl rfl (k_runV C hA hW mw_M_weightOf mv_M_weightOf (ct_4.2 _) [0, 3] rfl rfl 0 rfl rfl qm_M_224 ⟨Nat.le_of_ble_eq_true rfl, Nat.le_of_ble_eq_true rfl, Nat.zero_le _, Nat.zero_le _⟩ rfl rfl (Nat.le_of_ble_eq_true rfl) hl.1 d_M_tell_26) (fun H locs hW => ?_)
        refine lv_aload_n hx hb d_M_tell_29 rfl (lv_at hl 0 rfl) ?_
        refine lv_bipush (v := 63) hx hb d_M_tell_30 (by decide) ?_
        refine lv_aload_n hx hb d_M_tell_32 rfl (lv_at hl 0 rfl) ?_
        refine lv_iload_n hx hb d_M_tell_33 rfl (lv_at hl 3 rfl) ?_
        obtain ⟨q_5, hc_5, hr⟩ := ob hr
        have ct_5 := C_M_goesWith l D cI cS a_r0 a_r0_figures a_r0_kinds (Value.ref a_r0_weights) (Value.int r0_things) v_r0_days v_r0_hampers v_r0_wants0 v_r0_left0 v_r0_done0 (Value.int 0) v_r0_refusals v_r0_letters v_r0_letterMany v_r0_at v_r0_isBad v_r0_statements v_r0_placeIn v_r0_letterOf v_r0_told v_r0_kept v_r0_imaged v_r0_hasImage v_r0_place0 v_r0_isTaking v_r0_keptIn v_r0_turns0 v_r0_turnOf v_r0_turned v_r0_order0 v_r0_likely0 v_r0_leftThen v_r0_row v_r0_rowMany v_r0_seed r0_figures r0_kinds y3_1 q_5 hc_5
        refine k_goIp hA hW [0, 1, 2] rfl rfl (k_runV C hA hW mw_M_goesWith mv_M_goesWith (ct_5.2 _) [0, 1, 2] rfl rfl 0 rfl rfl qm_M_96 ⟨Nat.le_of_ble_eq_true rfl, Nat.le_of_ble_eq_true rfl, Nat.zero_le _, Nat.zero_le _⟩ rfl rfl (Nat.le_of_ble_eq_true rfl) hl.1 d_M_tell_34) (fun H locs hW => ?_)
        refine lv_iconst (v := (-1)) hx hb d_M_tell_37 (by decide) ?_
        refine lv_ixor hx hb d_M_tell_38 ?_
        refine lv_iand hx hb d_M_tell_39 ?_
        obtain ⟨q_6, hc_6, hr⟩ := ob hr
        have ct_6 := C_M_weightOf l D cI cS a_r0 a_r0_weights (Value.int r0_things) (Value.ref a_r0_kinds) (Value.ref a_r0_figures) v_r0_days v_r0_hampers v_r0_wants0 v_r0_left0 v_r0_done0 (Value.int 0) v_r0_refusals v_r0_letters v_r0_letterMany v_r0_at v_r0_isBad v_r0_statements v_r0_placeIn v_r0_letterOf v_r0_told v_r0_kept v_r0_imaged v_r0_hasImage v_r0_place0 v_r0_isTaking v_r0_keptIn v_r0_turns0 v_r0_turnOf v_r0_turned v_r0_order0 v_r0_likely0 v_r0_leftThen v_r0_row v_r0_rowMany v_r0_seed r0_weights ((63 : Int32) &&& (q_5 ^^^ (-1))) q_6 hc_6
        refine k_goIp hA hW [0, 3] rfl rfl (k_runV C hA hW mw_M_weightOf mv_M_weightOf (ct_6.2 _) [0, 3] rfl rfl 0 rfl rfl qm_M_224 ⟨Nat.le_of_ble_eq_true rfl, Nat.le_of_ble_eq_true rfl, Nat.zero_le _, Nat.zero_le _⟩ rfl rfl (Nat.le_of_ble_eq_true rfl) hl.1 d_M_tell_40) (fun H locs hW => ?_)
        refine lv_isub hx hb d_M_tell_43 ?_
        refine lv_istore (lv' := [(4, .int (q_4 - q_6)), (0, .ref a_r0), (1, .int y1_1), (2, .int y2_1), (3, .int y3_1)]) hx hb d_M_tell_44 hl (by decide) rfl (fun ls hl => ?_)
        refine lv_iload hx hb d_M_tell_46 (lv_at hl 0 rfl) ?_
        have hJ_8 : ∀ (s0_8 : Int32), F_M_tell_J59_8 y1_1 y2_1 y3_1 s0_8 = some z_1 → ∀ (H : Heap) (locs : List Loc) (ls : Array Slot), wd A s.heap D (w_M_tell cI a_r0 a_r0_figures a_r0_kinds a_r0_weights v_r0_days v_r0_hampers v_r0_wants0 v_r0_left0 v_r0_done0 v_r0_refusals v_r0_letters v_r0_letterMany v_r0_at v_r0_isBad v_r0_statements v_r0_placeIn v_r0_letterOf v_r0_told v_r0_kept v_r0_imaged v_r0_hasImage v_r0_place0 v_r0_isTaking v_r0_keptIn v_r0_turns0 v_r0_turnOf v_r0_turned v_r0_order0 v_r0_likely0 v_r0_leftThen v_r0_row v_r0_rowMany v_r0_seed r0_things 0 r0_figures r0_kinds r0_weights) H locs → lv_has ls 5 [(0, .ref a_r0), (1, .int y1_1), (2, .int y2_1), (3, .int y3_1)] → W p l e (rmd 2) s m ([.ref a_r0] : List Value).toArray below meth c H locs 0 0 Q (F0 m 59 ls [.int s0_8]) := by
          intro s0_8 hr H locs ls hW hl
          unfold F_M_tell_J59_8 at hr
          refine lv_istore (lv' := [(4, .int s0_8), (0, .ref a_r0), (1, .int y1_1), (2, .int y2_1), (3, .int y3_1)]) hx hb d_M_tell_59 hl (by decide) rfl (fun ls hl => ?_)
          refine lv_iload_n hx hb d_M_tell_61 rfl (lv_at hl 3 rfl) ?_
          have hJ_10 : ∀ (s0_10 : Int32), F_M_tell_J76_10 y2_1 y3_1 s0_8 s0_10 = some z_1 → ∀ (H : Heap) (locs : List Loc) (ls : Array Slot), wd A s.heap D (w_M_tell cI a_r0 a_r0_figures a_r0_kinds a_r0_weights v_r0_days v_r0_hampers v_r0_wants0 v_r0_left0 v_r0_done0 v_r0_refusals v_r0_letters v_r0_letterMany v_r0_at v_r0_isBad v_r0_statements v_r0_placeIn v_r0_letterOf v_r0_told v_r0_kept v_r0_imaged v_r0_hasImage v_r0_place0 v_r0_isTaking v_r0_keptIn v_r0_turns0 v_r0_turnOf v_r0_turned v_r0_order0 v_r0_likely0 v_r0_leftThen v_r0_row v_r0_rowMany v_r0_seed r0_things 0 r0_figures r0_kinds r0_weights) H locs → lv_has ls 5 [(0, .ref a_r0), (2, .int y2_1), (3, .int y3_1), (4, .int s0_8)] → W p l e (rmd 2) s m ([.ref a_r0] : List Value).toArray below meth c H locs 0 0 Q (F0 m 76 ls [.int s0_10]) := by
            intro s0_10 hr H locs ls hW hl
            unfold F_M_tell_J76_10 at hr
            refine lv_istore_n (lv' := [(1, .int s0_10), (0, .ref a_r0), (2, .int y2_1), (3, .int y3_1), (4, .int s0_8)]) hx hb d_M_tell_76 rfl hl (by decide) rfl (fun ls hl => ?_)
            refine lv_iload_n hx hb d_M_tell_77 rfl (lv_at hl 2 rfl) ?_
            refine lv_if_lt (tgt := 87) hx hb d_M_tell_78 (by decide) (fun c_11 => ?_) (fun c_11 => ?_)
            · replace hr := ip c_11 hr
              refine lv_iload hx hb d_M_tell_87 (lv_at hl 4 rfl) ?_
              refine lv_goto (tgt := 93) hx hb d_M_tell_89 (by decide) ?_
              refine lv_istore_n (lv' := [(2, .int s0_8), (1, .int s0_10), (0, .ref a_r0), (3, .int y3_1), (4, .int s0_8)]) hx hb d_M_tell_93 rfl hl (by decide) rfl (fun ls hl => ?_)
              refine lv_iinc (v := (y3_1 + 1)) (lv' := [(3, .int (y3_1 + 1)), (2, .int s0_8), (1, .int s0_10), (0, .ref a_r0), (4, .int s0_8)]) hx hb d_M_tell_94 hl (k := 3) rfl rfl (by decide) rfl (fun ls hl => ?_)
              refine lv_goto (tgt := 12) hx hb d_M_tell_97 (by decide) ?_
              exact ih_1 s0_10 s0_8 (y3_1 + 1) (hz1_1 _ (Option.some.inj hr).symm) _ _ _ hW (lv_sub hl [3, 2, 1, 0] rfl)
            · replace hr := iN c_11 hr
              refine lv_iload hx hb d_M_tell_81 (lv_at hl 4 rfl) ?_
              refine lv_iload_n hx hb d_M_tell_83 rfl (lv_at hl 2 rfl) ?_
              refine lv_icmp_ge (tgt := 92) hx hb d_M_tell_84 (by decide) (fun c_12 => ?_) (fun c_12 => ?_)
              · replace hr := ip c_12 hr
                refine lv_iload_n hx hb d_M_tell_92 rfl (lv_at hl 2 rfl) ?_
                refine lv_istore_n (lv' := [(2, .int y2_1), (1, .int s0_10), (0, .ref a_r0), (3, .int y3_1), (4, .int s0_8)]) hx hb d_M_tell_93 rfl hl (by decide) rfl (fun ls hl => ?_)
                refine lv_iinc (v := (y3_1 + 1)) (lv' := [(3, .int (y3_1 + 1)), (2, .int y2_1), (1, .int s0_10), (0, .ref a_r0), (4, .int s0_8)]) hx hb d_M_tell_94 hl (k := 3) rfl rfl (by decide) rfl (fun ls hl => ?_)
                refine lv_goto (tgt := 12) hx hb d_M_tell_97 (by decide) ?_
                exact ih_1 s0_10 y2_1 (y3_1 + 1) (hz1_1 _ (Option.some.inj hr).symm) _ _ _ hW (lv_sub hl [3, 2, 1, 0] rfl)
              · replace hr := iN c_12 hr
                refine lv_iload hx hb d_M_tell_87 (lv_at hl 4 rfl) ?_
                refine lv_goto (tgt := 93) hx hb d_M_tell_89 (by decide) ?_
                refine lv_istore_n (lv' := [(2, .int s0_8), (1, .int s0_10), (0, .ref a_r0), (3, .int y3_1), (4, .int s0_8)]) hx hb d_M_tell_93 rfl hl (by decide) rfl (fun ls hl => ?_)
                refine lv_iinc (v := (y3_1 + 1)) (lv' := [(3, .int (y3_1 + 1)), (2, .int s0_8), (1, .int s0_10), (0, .ref a_r0), (4, .int s0_8)]) hx hb d_M_tell_94 hl (k := 3) rfl rfl (by decide) rfl (fun ls hl => ?_)
                refine lv_goto (tgt := 12) hx hb d_M_tell_97 (by decide) ?_
                exact ih_1 s0_10 s0_8 (y3_1 + 1) (hz1_1 _ (Option.some.inj hr).symm) _ _ _ hW (lv_sub hl [3, 2, 1, 0] rfl)
          have hJ_13 : ∀ (_ : Unit), F_M_tell_J71_13 y2_1 y3_1 s0_8 = some z_1 → ∀ (H : Heap) (locs : List Loc) (ls : Array Slot), wd A s.heap D (w_M_tell cI a_r0 a_r0_figures a_r0_kinds a_r0_weights v_r0_days v_r0_hampers v_r0_wants0 v_r0_left0 v_r0_done0 v_r0_refusals v_r0_letters v_r0_letterMany v_r0_at v_r0_isBad v_r0_statements v_r0_placeIn v_r0_letterOf v_r0_told v_r0_kept v_r0_imaged v_r0_hasImage v_r0_place0 v_r0_isTaking v_r0_keptIn v_r0_turns0 v_r0_turnOf v_r0_turned v_r0_order0 v_r0_likely0 v_r0_leftThen v_r0_row v_r0_rowMany v_r0_seed r0_things 0 r0_figures r0_kinds r0_weights) H locs → lv_has ls 5 [(0, .ref a_r0), (2, .int y2_1), (3, .int y3_1), (4, .int s0_8)] → W p l e (rmd 2) s m ([.ref a_r0] : List Value).toArray below meth c H locs 0 0 Q (F0 m 71 ls []) := by
            intro _ hr H locs ls hW hl
            unfold F_M_tell_J71_13 at hr
            refine lv_iload_n hx hb d_M_tell_71 rfl (lv_at hl 2 rfl) ?_
            refine lv_goto (tgt := 76) hx hb d_M_tell_72 (by decide) ?_
            exact hJ_10 y3_1 hr _ _ _ hW (lv_sub hl [0, 1, 2, 3] rfl)
          refine lv_if_lt (tgt := 71) hx hb d_M_tell_62 (by decide) (fun c_9 => ?_) (fun c_9 => ?_)
          · replace hr := ip c_9 hr
            exact hJ_13 () hr _ _ _ hW (lv_sub hl [1, 3, 4, 0] rfl)
          · replace hr := iN c_9 hr
            refine lv_iload hx hb d_M_tell_65 (lv_at hl 0 rfl) ?_
            refine lv_iload_n hx hb d_M_tell_67 rfl (lv_at hl 3 rfl) ?_
            refine lv_icmp_ge (tgt := 75) hx hb d_M_tell_68 (by decide) (fun c_14 => ?_) (fun c_14 => ?_)
            · replace hr := ip c_14 hr
              refine lv_iload_n hx hb d_M_tell_75 rfl (lv_at hl 2 rfl) ?_
              exact hJ_10 y1_1 hr _ _ _ hW (lv_sub hl [1, 3, 4, 0] rfl)
            · replace hr := iN c_14 hr
              exact hJ_13 () hr _ _ _ hW (lv_sub hl [1, 3, 4, 0] rfl)
        refine lv_if_ge (tgt := 57) hx hb d_M_tell_48 (by decide) (fun c_7 => ?_) (fun c_7 => ?_)
        · replace hr := ip c_7 hr
          refine lv_iload hx hb d_M_tell_57 (lv_at hl 0 rfl) ?_
          exact hJ_8 (q_4 - q_6) hr _ _ _ hW (lv_sub hl [1, 2, 3, 4] rfl)
        · replace hr := iN c_7 hr
          refine lv_iload hx hb d_M_tell_51 (lv_at hl 0 rfl) ?_
          refine lv_ineg hx hb d_M_tell_53 ?_
          refine lv_goto (tgt := 59) hx hb d_M_tell_54 (by decide) ?_
          exact hJ_8 (-(q_4 - q_6)) hr _ _ _ hW (lv_sub hl [1, 2, 3, 4] rfl)
  exact hl_1 _ (-9) (-1) 0 hw_1 _ _ _ hW (lv_sub hl [3, 2, 1, 0] rfl)
