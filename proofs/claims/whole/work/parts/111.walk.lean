def w_M_lots (cI : ClassId) (a_r0 : Nat) (a_r0_figures : Nat) (a_r0_hampers : Nat) (a_r0_kept : Nat) (a_r0_kinds : Nat) (a_r0_left0 : Nat) (a_r0_refusals : Nat) (a_r0_wants0 : Nat) (a_r0_weights : Nat) (v_r0_letters v_r0_letterMany v_r0_at v_r0_isBad v_r0_statements v_r0_placeIn v_r0_letterOf v_r0_told v_r0_imaged v_r0_hasImage v_r0_turns0 v_r0_turnOf v_r0_turned v_r0_order0 v_r0_likely0 v_r0_leftThen v_r0_row v_r0_rowMany : Value) (kv : Int32 → Value) (r0_days : Int32) (r0_done0 : Int32) (r0_isTaking : Int32) (r0_keptIn : Int32) (r0_place0 : Int32) (r0_seed : Int32) (r0_things : Int32) (r0_thrown : Int32) (r0_figures : Nat → Int32) (r0_hampers : Nat → Int32) (r0_kept : Nat → Int32) (r0_kinds : Nat → Int32) (r0_left0 : Nat → Int32) (r0_refusals : Nat → Int32) (r0_wants0 : Nat → Int32) (r0_weights : Nat → Int32) : va_W := [(a_r0, .inr (9, [.ref a_r0_weights, .int r0_things, .ref a_r0_kinds, .ref a_r0_figures, .int r0_days, .ref a_r0_hampers, .ref a_r0_wants0, .ref a_r0_left0, .int r0_done0, .int r0_thrown, .ref a_r0_refusals, v_r0_letters, v_r0_letterMany, v_r0_at, v_r0_isBad, v_r0_statements, v_r0_placeIn, v_r0_letterOf, v_r0_told, .ref a_r0_kept, v_r0_imaged, v_r0_hasImage, .int r0_place0, .int r0_isTaking, (kv r0_keptIn), v_r0_turns0, v_r0_turnOf, v_r0_turned, v_r0_order0, v_r0_likely0, v_r0_leftThen, v_r0_row, v_r0_rowMany, .int r0_seed])), (a_r0_figures, .inl (cI, 8, .inl r0_figures)), (a_r0_hampers, .inl (cI, 8, .inl r0_hampers)), (a_r0_kept, .inl (cI, 41, .inl r0_kept)), (a_r0_kinds, .inl (cI, 8, .inl r0_kinds)), (a_r0_left0, .inl (cI, 4, .inl r0_left0)), (a_r0_refusals, .inl (cI, 7, .inl r0_refusals)), (a_r0_wants0, .inl (cI, 4, .inl r0_wants0)), (a_r0_weights, .inl (cI, 6, .inl r0_weights))]
def F_M_lots_J103_14 (r0_wants0_6 : Nat → Int32) (r0_done0_8 : Int32) (r0_left0_8 : Nat → Int32) (y6_8 : Int32) (y9_8 : Int32) (q_10 : Int32 × (Int32)) (q_12 : Int32) (s1_14 : Int32) : Option (((Int32) × (Int32) × (Int32) × (Int32) × (Nat → Int32)) ⊕ ((Int32) × (Int32) × (Int32) × (Nat → Int32))) :=
  ((F_M_spendWith r0_done0_8 r0_left0_8 r0_wants0_6 q_12).bind (fun q_15 => (some (.inl ((y6_8 + s1_14), (y9_8 + 1), q_15.2.1, q_10.2, q_15.2.2)))))
def F_M_lots_L64 (r0_figures_6 : Nat → Int32) (r0_kinds_6 : Nat → Int32) (r0_things_6 : Int32) (r0_wants0_6 : Nat → Int32) (r0_weights_6 : Nat → Int32) (y6_8 : Int32) (y9_8 : Int32) (r0_done0_8 : Int32) (r0_seed_8 : Int32) (r0_left0_8 : Nat → Int32) : Option (((Int32) × (Int32) × (Int32) × (Int32) × (Nat → Int32)) ⊕ ((Int32) × (Int32) × (Int32) × (Nat → Int32))) :=
  (if (10 : Int32) ≤ y9_8 then (some (.inr (y6_8, r0_done0_8, r0_seed_8, r0_left0_8))) else ((F_M_drawBelow r0_seed_8 ((1 : Int32) <<< ((r0_things_6 : Int32) &&& 31))).bind (fun q_10 => ((F_M_couldBe r0_things_6 r0_figures_6 r0_kinds_6 q_10.1).bind (fun q_11 => ((F_M_likeliest r0_weights_6 q_11).bind (fun q_12 => (if (0 : Int32) ≤ q_12 then (F_M_lots_J103_14 r0_wants0_6 r0_done0_8 r0_left0_8 y6_8 y9_8 q_10 q_12 0) else (F_M_lots_J103_14 r0_wants0_6 r0_done0_8 r0_left0_8 y6_8 y9_8 q_10 q_12 1)))))))))
def F_M_lots_L55 (q_4 : Int32) (x1 : Int32) (y5_6 : Int32) (y6_6 : Int32) (y8_6 : Int32) (r0_days_6 : Int32) (r0_done0_6 : Int32) (r0_isTaking_6 : Int32) (r0_keptIn_6 : Int32) (r0_place0_6 : Int32) (r0_seed_6 : Int32) (r0_things_6 : Int32) (r0_figures_6 : Nat → Int32) (r0_hampers_6 : Nat → Int32) (r0_kept_6 : Nat → Int32) (r0_kinds_6 : Nat → Int32) (r0_left0_6 : Nat → Int32) (r0_wants0_6 : Nat → Int32) (r0_weights_6 : Nat → Int32) : Option (((Int32) × (Int32) × (Int32) × (Int32) × (Int32) × (Int32) × (Int32) × (Int32) × (Int32) × (Int32) × (Nat → Int32) × (Nat → Int32) × (Nat → Int32) × (Nat → Int32) × (Nat → Int32) × (Nat → Int32) × (Nat → Int32)) ⊕ ((Int32) × (Int32) × (Int32) × (Int32) × (Int32) × (Int32) × (Int32) × (Int32) × (Int32) × (Nat → Int32) × (Nat → Int32) × (Nat → Int32) × (Nat → Int32) × (Nat → Int32) × (Nat → Int32) × (Nat → Int32))) :=
  (if x1 ≤ y8_6 then (some (.inr (y5_6, y6_6, r0_days_6, r0_done0_6, r0_isTaking_6, r0_keptIn_6, r0_place0_6, r0_seed_6, r0_things_6, r0_figures_6, r0_hampers_6, r0_kept_6, r0_kinds_6, r0_left0_6, r0_wants0_6, r0_weights_6))) else ((wh (fun (s : (Int32) × (Int32) × (Int32) × (Int32) × (Nat → Int32)) => F_M_lots_L64 r0_figures_6 r0_kinds_6 r0_things_6 r0_wants0_6 r0_weights_6 s.1 s.2.1 s.2.2.1 s.2.2.2.1 s.2.2.2.2) 400 (y6_6, (0 : Int32), r0_done0_6, r0_seed_6, r0_left0_6)).bind (fun e_8 => ((F_M_allLeft e_8.2.2.2).bind (fun q_16 => ((F_M_again r0_days_6 e_8.2.1 r0_things_6 r0_figures_6 r0_hampers_6 r0_kept_6 r0_kinds_6 e_8.2.2.2 r0_wants0_6 r0_weights_6).bind (fun q_17 => (some (.inl ((y5_6 + (q_4 - q_16)), e_8.1, (y8_6 + 1), q_17.1, q_17.2.1, q_17.2.2.1, q_17.2.2.2.1, q_17.2.2.2.2.1, e_8.2.2.1, q_17.2.2.2.2.2.1, q_17.2.2.2.2.2.2.1, q_17.2.2.2.2.2.2.2.1, q_17.2.2.2.2.2.2.2.2.1, q_17.2.2.2.2.2.2.2.2.2.1, q_17.2.2.2.2.2.2.2.2.2.2.1, q_17.2.2.2.2.2.2.2.2.2.2.2.1, q_17.2.2.2.2.2.2.2.2.2.2.2.2))))))))))
def F_M_lots (r0_days : Int32) (r0_done0 : Int32) (r0_isTaking : Int32) (r0_keptIn : Int32) (r0_place0 : Int32) (r0_seed : Int32) (r0_things : Int32) (r0_figures : Nat → Int32) (r0_hampers : Nat → Int32) (r0_kept : Nat → Int32) (r0_kinds : Nat → Int32) (r0_left0 : Nat → Int32) (r0_refusals : Nat → Int32) (r0_wants0 : Nat → Int32) (r0_weights : Nat → Int32) (x1 : Int32) (x2 : Int32) (x3 : Int32) : Option (Int32 × (Int32) × (Int32) × (Int32) × (Int32) × (Int32) × (Int32) × (Int32) × (Int32) × (Nat → Int32) × (Nat → Int32) × (Nat → Int32) × (Nat → Int32) × (Nat → Int32) × (Nat → Int32) × (Nat → Int32) × (Nat → Int32)) :=
  ((F_M_wrongNumber x1 (1 : Int32) (20 : Int32)).bind (fun q_1 => ((F_M_wrongBit q_1 x3 (1 : Int32)).bind (fun q_2 => (if (0 : Int32) ≤ q_2 then ((F_M_allLeft r0_left0).bind (fun q_4 => ((F_M_think r0_days r0_done0 r0_things r0_figures r0_hampers r0_kept r0_kinds r0_left0 r0_wants0 r0_weights).bind (fun q_5 => ((wh (fun (s : (Int32) × (Int32) × (Int32) × (Int32) × (Int32) × (Int32) × (Int32) × (Int32) × (Int32) × (Int32) × (Nat → Int32) × (Nat → Int32) × (Nat → Int32) × (Nat → Int32) × (Nat → Int32) × (Nat → Int32) × (Nat → Int32)) => F_M_lots_L55 q_4 x1 s.1 s.2.1 s.2.2.1 s.2.2.2.1 s.2.2.2.2.1 s.2.2.2.2.2.1 s.2.2.2.2.2.2.1 s.2.2.2.2.2.2.2.1 s.2.2.2.2.2.2.2.2.1 s.2.2.2.2.2.2.2.2.2.1 s.2.2.2.2.2.2.2.2.2.2.1 s.2.2.2.2.2.2.2.2.2.2.2.1 s.2.2.2.2.2.2.2.2.2.2.2.2.1 s.2.2.2.2.2.2.2.2.2.2.2.2.2.1 s.2.2.2.2.2.2.2.2.2.2.2.2.2.2.1 s.2.2.2.2.2.2.2.2.2.2.2.2.2.2.2.1 s.2.2.2.2.2.2.2.2.2.2.2.2.2.2.2.2) 400 ((0 : Int32), (0 : Int32), (0 : Int32), q_5.1, q_5.2.1, q_5.2.2.1, q_5.2.2.2.1, q_5.2.2.2.2.1, x2, q_5.2.2.2.2.2.1, q_5.2.2.2.2.2.2.1, q_5.2.2.2.2.2.2.2.1, q_5.2.2.2.2.2.2.2.2.1, q_5.2.2.2.2.2.2.2.2.2.1, q_5.2.2.2.2.2.2.2.2.2.2.1, q_5.2.2.2.2.2.2.2.2.2.2.2.1, q_5.2.2.2.2.2.2.2.2.2.2.2.2)).bind (fun e_6 => (if x3 = 0 then (some (e_6.1, e_6.2.2.1, e_6.2.2.2.1, e_6.2.2.2.2.1, e_6.2.2.2.2.2.1, e_6.2.2.2.2.2.2.1, e_6.2.2.2.2.2.2.2.1, e_6.2.2.2.2.2.2.2.2.1, 0, e_6.2.2.2.2.2.2.2.2.2.1, e_6.2.2.2.2.2.2.2.2.2.2.1, e_6.2.2.2.2.2.2.2.2.2.2.2.1, e_6.2.2.2.2.2.2.2.2.2.2.2.2.1, e_6.2.2.2.2.2.2.2.2.2.2.2.2.2.1, r0_refusals, e_6.2.2.2.2.2.2.2.2.2.2.2.2.2.2.1, e_6.2.2.2.2.2.2.2.2.2.2.2.2.2.2.2)) else (some (e_6.2.1, e_6.2.2.1, e_6.2.2.2.1, e_6.2.2.2.2.1, e_6.2.2.2.2.2.1, e_6.2.2.2.2.2.2.1, e_6.2.2.2.2.2.2.2.1, e_6.2.2.2.2.2.2.2.2.1, 0, e_6.2.2.2.2.2.2.2.2.2.1, e_6.2.2.2.2.2.2.2.2.2.2.1, e_6.2.2.2.2.2.2.2.2.2.2.2.1, e_6.2.2.2.2.2.2.2.2.2.2.2.2.1, e_6.2.2.2.2.2.2.2.2.2.2.2.2.2.1, r0_refusals, e_6.2.2.2.2.2.2.2.2.2.2.2.2.2.2.1, e_6.2.2.2.2.2.2.2.2.2.2.2.2.2.2.2))))))))) else ((F_M_refuse r0_refusals q_2).bind (fun q_19 => (some (q_19.1, r0_days, r0_done0, r0_isTaking, r0_keptIn, r0_place0, r0_seed, r0_things, 0, r0_figures, r0_hampers, r0_kept, r0_kinds, r0_left0, q_19.2, r0_wants0, r0_weights)))))))))
set_option maxHeartbeats 4000000 in
set_option maxRecDepth 100000 in
theorem C_M_lots (l : Launch) (D : va_G) (cI cS : ClassId) (a_r0 : Nat) (a_r0_figures : Nat) (a_r0_hampers : Nat) (a_r0_kept : Nat) (a_r0_kinds : Nat) (a_r0_left0 : Nat) (a_r0_refusals : Nat) (a_r0_wants0 : Nat) (a_r0_weights : Nat) (v_r0_letters v_r0_letterMany v_r0_at v_r0_isBad v_r0_statements v_r0_placeIn v_r0_letterOf v_r0_told v_r0_imaged v_r0_hasImage v_r0_turns0 v_r0_turnOf v_r0_turned v_r0_order0 v_r0_likely0 v_r0_leftThen v_r0_row v_r0_rowMany : Value) (kv : Int32 → Value) (hkv_kept : kv 1 = .ref a_r0_kept) (r0_days : Int32) (r0_done0 : Int32) (r0_isTaking : Int32) (r0_keptIn : Int32) (r0_place0 : Int32) (r0_seed : Int32) (r0_things : Int32) (r0_thrown : Int32) (r0_figures : Nat → Int32) (r0_hampers : Nat → Int32) (r0_kept : Nat → Int32) (r0_kinds : Nat → Int32) (r0_left0 : Nat → Int32) (r0_refusals : Nat → Int32) (r0_wants0 : Nat → Int32) (r0_weights : Nat → Int32) (x1 : Int32) (x2 : Int32) (x3 : Int32) (o : Int32 × (Int32) × (Int32) × (Int32) × (Int32) × (Int32) × (Int32) × (Int32) × (Int32) × (Nat → Int32) × (Nat → Int32) × (Nat → Int32) × (Nat → Int32) × (Nat → Int32) × (Nat → Int32) × (Nat → Int32) × (Nat → Int32)) (hr : F_M_lots r0_days r0_done0 r0_isTaking r0_keptIn r0_place0 r0_seed r0_things r0_figures r0_hampers r0_kept r0_kinds r0_left0 r0_refusals r0_wants0 r0_weights x1 x2 x3 = some o) : ctI l y_M_lots (Cond.code y_M_lots b_M_lots 11 (some FieldType.int)) (rmd 3) D (kTy cI cS) [.ref a_r0, .int x1, .int x2, .int x3] (w_M_lots cI a_r0 a_r0_figures a_r0_hampers a_r0_kept a_r0_kinds a_r0_left0 a_r0_refusals a_r0_wants0 a_r0_weights v_r0_letters v_r0_letterMany v_r0_at v_r0_isBad v_r0_statements v_r0_placeIn v_r0_letterOf v_r0_told v_r0_imaged v_r0_hasImage v_r0_turns0 v_r0_turnOf v_r0_turned v_r0_order0 v_r0_likely0 v_r0_leftThen v_r0_row v_r0_rowMany kv r0_days r0_done0 r0_isTaking r0_keptIn r0_place0 r0_seed r0_things r0_thrown r0_figures r0_hampers r0_kept r0_kinds r0_left0 r0_refusals r0_wants0 r0_weights) (w_M_lots cI a_r0 a_r0_figures a_r0_hampers a_r0_kept a_r0_kinds a_r0_left0 a_r0_refusals a_r0_wants0 a_r0_weights v_r0_letters v_r0_letterMany v_r0_at v_r0_isBad v_r0_statements v_r0_placeIn v_r0_letterOf v_r0_told v_r0_imaged v_r0_hasImage v_r0_turns0 v_r0_turnOf v_r0_turned v_r0_order0 v_r0_likely0 v_r0_leftThen v_r0_row v_r0_rowMany kv o.2.1 o.2.2.1 o.2.2.2.1 o.2.2.2.2.1 o.2.2.2.2.2.1 o.2.2.2.2.2.2.1 o.2.2.2.2.2.2.2.1 o.2.2.2.2.2.2.2.2.1 o.2.2.2.2.2.2.2.2.2.1 o.2.2.2.2.2.2.2.2.2.2.1 o.2.2.2.2.2.2.2.2.2.2.2.1 o.2.2.2.2.2.2.2.2.2.2.2.2.1 o.2.2.2.2.2.2.2.2.2.2.2.2.2.1 o.2.2.2.2.2.2.2.2.2.2.2.2.2.2.1 o.2.2.2.2.2.2.2.2.2.2.2.2.2.2.2.1 o.2.2.2.2.2.2.2.2.2.2.2.2.2.2.2.2) o.1 := by
  unfold F_M_lots at hr
  refine ⟨rfl, fun sz => ct_of (w0 := (w_M_lots cI a_r0 a_r0_figures a_r0_hampers a_r0_kept a_r0_kinds a_r0_left0 a_r0_refusals a_r0_wants0 a_r0_weights v_r0_letters v_r0_letterMany v_r0_at v_r0_isBad v_r0_statements v_r0_placeIn v_r0_letterOf v_r0_told v_r0_imaged v_r0_hasImage v_r0_turns0 v_r0_turnOf v_r0_turned v_r0_order0 v_r0_likely0 v_r0_leftThen v_r0_row v_r0_rowMany kv r0_days r0_done0 r0_isTaking r0_keptIn r0_place0 r0_seed r0_things r0_thrown r0_figures r0_hampers r0_kept r0_kinds r0_left0 r0_refusals r0_wants0 r0_weights)) (Qc := fun A => qI D (w_M_lots cI a_r0 a_r0_figures a_r0_hampers a_r0_kept a_r0_kinds a_r0_left0 a_r0_refusals a_r0_wants0 a_r0_weights v_r0_letters v_r0_letterMany v_r0_at v_r0_isBad v_r0_statements v_r0_placeIn v_r0_letterOf v_r0_told v_r0_imaged v_r0_hasImage v_r0_turns0 v_r0_turnOf v_r0_turned v_r0_order0 v_r0_likely0 v_r0_leftThen v_r0_row v_r0_rowMany kv o.2.1 o.2.2.1 o.2.2.2.1 o.2.2.2.2.1 o.2.2.2.2.2.1 o.2.2.2.2.2.2.1 o.2.2.2.2.2.2.2.1 o.2.2.2.2.2.2.2.2.1 o.2.2.2.2.2.2.2.2.2.1 o.2.2.2.2.2.2.2.2.2.2.1 o.2.2.2.2.2.2.2.2.2.2.2.1 o.2.2.2.2.2.2.2.2.2.2.2.2.1 o.2.2.2.2.2.2.2.2.2.2.2.2.2.1 o.2.2.2.2.2.2.2.2.2.2.2.2.2.2.1 o.2.2.2.2.2.2.2.2.2.2.2.2.2.2.2.1 o.2.2.2.2.2.2.2.2.2.2.2.2.2.2.2.2) o.1 A) rfl (Nat.le_of_ble_eq_true rfl) ?_ sz⟩
  intro p e s m below meth c A hA C hret ls hl hW
  have C : cx p s m ([.ref a_r0, .int x1, .int x2, .int x3] : List Value).toArray meth c b_M_lots 11 R_M D (kTy cI cS) (Cond.code y_M_lots b_M_lots 11 (some FieldType.int)) := C
  obtain ⟨hx, hb, hml, hown, hts, hK, hlk, hN⟩ := id C
  have hl : lv_has ls 11 [(0, .ref a_r0), (1, .int x1), (2, .int x2), (3, .int x3)] := hl
  obtain ⟨Q, hQ⟩ : ∃ Q, Q = MQ below (qI D (w_M_lots cI a_r0 a_r0_figures a_r0_hampers a_r0_kept a_r0_kinds a_r0_left0 a_r0_refusals a_r0_wants0 a_r0_weights v_r0_letters v_r0_letterMany v_r0_at v_r0_isBad v_r0_statements v_r0_placeIn v_r0_letterOf v_r0_told v_r0_imaged v_r0_hasImage v_r0_turns0 v_r0_turnOf v_r0_turned v_r0_order0 v_r0_likely0 v_r0_leftThen v_r0_row v_r0_rowMany kv o.2.1 o.2.2.1 o.2.2.2.1 o.2.2.2.2.1 o.2.2.2.2.2.1 o.2.2.2.2.2.2.1 o.2.2.2.2.2.2.2.1 o.2.2.2.2.2.2.2.2.1 o.2.2.2.2.2.2.2.2.2.1 o.2.2.2.2.2.2.2.2.2.2.1 o.2.2.2.2.2.2.2.2.2.2.2.1 o.2.2.2.2.2.2.2.2.2.2.2.2.1 o.2.2.2.2.2.2.2.2.2.2.2.2.2.1 o.2.2.2.2.2.2.2.2.2.2.2.2.2.2.1 o.2.2.2.2.2.2.2.2.2.2.2.2.2.2.2.1 o.2.2.2.2.2.2.2.2.2.2.2.2.2.2.2.2) o.1 A) ([.ref a_r0, .int x1, .int x2, .int x3] : List Value).toArray s 0 0 A := ⟨_, rfl⟩
  rw [← hQ]
  refine lv_aload_n hx hb d_M_lots_0 rfl (lv_at hl 0 rfl) ?_
  refine lv_iconst (v := 0) hx hb d_M_lots_1 (by decide) ?_
  refine k_put i_M t_M_ok n_M C hW 0 rfl rfl 9 (by decide) qf_M_67 rfl rfl (ty := .int) rfl rfl rfl (Nat.le_of_ble_eq_true rfl) (ws' := (w_M_lots cI a_r0 a_r0_figures a_r0_hampers a_r0_kept a_r0_kinds a_r0_left0 a_r0_refusals a_r0_wants0 a_r0_weights v_r0_letters v_r0_letterMany v_r0_at v_r0_isBad v_r0_statements v_r0_placeIn v_r0_letterOf v_r0_told v_r0_imaged v_r0_hasImage v_r0_turns0 v_r0_turnOf v_r0_turned v_r0_order0 v_r0_likely0 v_r0_leftThen v_r0_row v_r0_rowMany kv r0_days r0_done0 r0_isTaking r0_keptIn r0_place0 r0_seed r0_things 0 r0_figures r0_hampers r0_kept r0_kinds r0_left0 r0_refusals r0_wants0 r0_weights)) rfl d_M_lots_2 (fun H locs hW => ?_)
  refine lv_iload_n hx hb d_M_lots_5 rfl (lv_at hl 1 rfl) ?_
  refine lv_iconst (v := 1) hx hb d_M_lots_6 (by decide) ?_
  refine lv_bipush (v := 20) hx hb d_M_lots_7 (by decide) ?_
  obtain ⟨q_1, hc_1, hr⟩ := ob hr
  have ct_1 := C_M_wrongNumber l D cI cS x1 1 20 q_1 hc_1
  refine k_goIp hA hW [] rfl rfl (k_runS C hA hW mw_M_wrongNumber ms_M_wrongNumber (ct_1.2 _) [] rfl rfl qm_M_208 ⟨Nat.le_of_ble_eq_true rfl, Nat.le_of_ble_eq_true rfl, Nat.zero_le _, Nat.zero_le _⟩ rfl rfl (Nat.le_of_ble_eq_true rfl) hl.1 d_M_lots_9) (fun H locs hW => ?_)
  refine lv_iload_n hx hb d_M_lots_12 rfl (lv_at hl 3 rfl) ?_
  refine lv_iconst (v := 1) hx hb d_M_lots_13 (by decide) ?_
  obtain ⟨q_2, hc_2, hr⟩ := ob hr
  have ct_2 := C_M_wrongBit l D cI cS q_1 x3 1 q_2 hc_2
  refine k_goIp hA hW [] rfl rfl (k_runS C hA hW mw_M_wrongBit ms_M_wrongBit (ct_2.2 _) [] rfl rfl qm_M_219 ⟨Nat.le_of_ble_eq_true rfl, Nat.le_of_ble_eq_true rfl, Nat.zero_le _, Nat.zero_le _⟩ rfl rfl (Nat.le_of_ble_eq_true rfl) hl.1 d_M_lots_14) (fun H locs hW => ?_)
  refine lv_istore (lv' := [(4, .int q_2), (0, .ref a_r0), (1, .int x1), (2, .int x2), (3, .int x3)]) hx hb d_M_lots_17 hl (by decide) rfl (fun ls hl => ?_)
  refine lv_iload hx hb d_M_lots_19 (lv_at hl 0 rfl) ?_
  refine lv_if_ge (tgt := 31) hx hb d_M_lots_21 (by decide) (fun c_3 => ?_) (fun c_3 => ?_)
  · replace hr := ip c_3 hr
    refine lv_aload_n hx hb d_M_lots_31 rfl (lv_at hl 1 rfl) ?_
    refine lv_iload_n hx hb d_M_lots_32 rfl (lv_at hl 3 rfl) ?_
    refine k_put i_M t_M_ok n_M C hW 0 rfl rfl 33 (by decide) qf_M_267 rfl rfl (ty := .int) rfl rfl rfl (Nat.le_of_ble_eq_true rfl) (ws' := (w_M_lots cI a_r0 a_r0_figures a_r0_hampers a_r0_kept a_r0_kinds a_r0_left0 a_r0_refusals a_r0_wants0 a_r0_weights v_r0_letters v_r0_letterMany v_r0_at v_r0_isBad v_r0_statements v_r0_placeIn v_r0_letterOf v_r0_told v_r0_imaged v_r0_hasImage v_r0_turns0 v_r0_turnOf v_r0_turned v_r0_order0 v_r0_likely0 v_r0_leftThen v_r0_row v_r0_rowMany kv r0_days r0_done0 r0_isTaking r0_keptIn r0_place0 x2 r0_things 0 r0_figures r0_hampers r0_kept r0_kinds r0_left0 r0_refusals r0_wants0 r0_weights)) rfl d_M_lots_33 (fun H locs hW => ?_)
    refine lv_iconst (v := 0) hx hb d_M_lots_36 (by decide) ?_
    refine lv_istore (lv' := [(5, .int 0), (4, .int q_2), (0, .ref a_r0), (1, .int x1), (2, .int x2), (3, .int x3)]) hx hb d_M_lots_37 hl (by decide) rfl (fun ls hl => ?_)
    refine lv_iconst (v := 0) hx hb d_M_lots_39 (by decide) ?_
    refine lv_istore (lv' := [(6, .int 0), (5, .int 0), (4, .int q_2), (0, .ref a_r0), (1, .int x1), (2, .int x2), (3, .int x3)]) hx hb d_M_lots_40 hl (by decide) rfl (fun ls hl => ?_)
    refine lv_aload_n hx hb d_M_lots_42 rfl (lv_at hl 3 rfl) ?_
    obtain ⟨q_4, hc_4, hr⟩ := ob hr
    have ct_4 := C_M_allLeft l D cI cS a_r0 a_r0_left0 (Value.ref a_r0_weights) (Value.int r0_things) (Value.ref a_r0_kinds) (Value.ref a_r0_figures) (Value.int r0_days) (Value.ref a_r0_hampers) (Value.ref a_r0_wants0) (Value.int r0_done0) (Value.int 0) (Value.ref a_r0_refusals) v_r0_letters v_r0_letterMany v_r0_at v_r0_isBad v_r0_statements v_r0_placeIn v_r0_letterOf v_r0_told (Value.ref a_r0_kept) v_r0_imaged v_r0_hasImage (Value.int r0_place0) (Value.int r0_isTaking) (kv r0_keptIn) v_r0_turns0 v_r0_turnOf v_r0_turned v_r0_order0 v_r0_likely0 v_r0_leftThen v_r0_row v_r0_rowMany (Value.int x2) r0_left0 q_4 hc_4
    refine k_goIp hA hW [0, 5] rfl rfl (k_runV C hA hW mw_M_allLeft mv_M_allLeft (ct_4.2 _) [0, 5] rfl rfl 0 rfl rfl qm_M_234 ⟨Nat.le_of_ble_eq_true rfl, Nat.le_of_ble_eq_true rfl, Nat.zero_le _, Nat.zero_le _⟩ rfl rfl (Nat.le_of_ble_eq_true rfl) hl.1 d_M_lots_43) (fun H locs hW => ?_)
    refine lv_istore (lv' := [(7, .int q_4), (6, .int 0), (5, .int 0), (4, .int q_2), (0, .ref a_r0), (1, .int x1), (2, .int x2), (3, .int x3)]) hx hb d_M_lots_46 hl (by decide) rfl (fun ls hl => ?_)
    refine lv_aload_n hx hb d_M_lots_48 rfl (lv_at hl 4 rfl) ?_
    obtain ⟨q_5, hc_5, hr⟩ := ob hr
    have ct_5 := C_M_think l D cI cS a_r0 a_r0_figures a_r0_hampers a_r0_kept a_r0_kinds a_r0_left0 a_r0_wants0 a_r0_weights (Value.int 0) (Value.ref a_r0_refusals) v_r0_letters v_r0_letterMany v_r0_at v_r0_isBad v_r0_statements v_r0_placeIn v_r0_letterOf v_r0_told v_r0_imaged v_r0_hasImage v_r0_turns0 v_r0_turnOf v_r0_turned v_r0_order0 v_r0_likely0 v_r0_leftThen v_r0_row v_r0_rowMany (Value.int x2) kv hkv_kept r0_days r0_done0 r0_isTaking r0_keptIn r0_place0 r0_things r0_figures r0_hampers r0_kept r0_kinds r0_left0 r0_wants0 r0_weights q_5 hc_5
    refine k_goV hA hW [0, 1, 2, 3, 4, 5, 7, 8] rfl ct_5.1 (ws' := (w_M_lots cI a_r0 a_r0_figures a_r0_hampers a_r0_kept a_r0_kinds a_r0_left0 a_r0_refusals a_r0_wants0 a_r0_weights v_r0_letters v_r0_letterMany v_r0_at v_r0_isBad v_r0_statements v_r0_placeIn v_r0_letterOf v_r0_told v_r0_imaged v_r0_hasImage v_r0_turns0 v_r0_turnOf v_r0_turned v_r0_order0 v_r0_likely0 v_r0_leftThen v_r0_row v_r0_rowMany kv q_5.1 q_5.2.1 q_5.2.2.1 q_5.2.2.2.1 q_5.2.2.2.2.1 x2 q_5.2.2.2.2.2.1 0 q_5.2.2.2.2.2.2.1 q_5.2.2.2.2.2.2.2.1 q_5.2.2.2.2.2.2.2.2.1 q_5.2.2.2.2.2.2.2.2.2.1 q_5.2.2.2.2.2.2.2.2.2.2.1 r0_refusals q_5.2.2.2.2.2.2.2.2.2.2.2.1 q_5.2.2.2.2.2.2.2.2.2.2.2.2)) rfl (k_runV C hA hW mw_M_think mv_M_think (ct_5.2 _) [0, 1, 2, 3, 4, 5, 7, 8] rfl rfl 0 rfl rfl qm_M_165 ⟨Nat.le_of_ble_eq_true rfl, Nat.le_of_ble_eq_true rfl, Nat.zero_le _, Nat.zero_le _⟩ rfl rfl (Nat.le_of_ble_eq_true rfl) hl.1 d_M_lots_49) (fun H locs hW => ?_)
    refine lv_iconst (v := 0) hx hb d_M_lots_52 (by decide) ?_
    refine lv_istore (lv' := [(8, .int 0), (7, .int q_4), (6, .int 0), (5, .int 0), (4, .int q_2), (0, .ref a_r0), (1, .int x1), (2, .int x2), (3, .int x3)]) hx hb d_M_lots_53 hl (by decide) rfl (fun ls hl => ?_)
    obtain ⟨ex_6, hw_6, hk_6⟩ := ob hr
    have hx_6 : ∀ (e_6 : (Int32) × (Int32) × (Int32) × (Int32) × (Int32) × (Int32) × (Int32) × (Int32) × (Int32) × (Nat → Int32) × (Nat → Int32) × (Nat → Int32) × (Nat → Int32) × (Nat → Int32) × (Nat → Int32) × (Nat → Int32)), e_6 = ex_6 → ∀ (H : Heap) (locs : List Loc) (ls : Array Slot), wd A s.heap D (w_M_lots cI a_r0 a_r0_figures a_r0_hampers a_r0_kept a_r0_kinds a_r0_left0 a_r0_refusals a_r0_wants0 a_r0_weights v_r0_letters v_r0_letterMany v_r0_at v_r0_isBad v_r0_statements v_r0_placeIn v_r0_letterOf v_r0_told v_r0_imaged v_r0_hasImage v_r0_turns0 v_r0_turnOf v_r0_turned v_r0_order0 v_r0_likely0 v_r0_leftThen v_r0_row v_r0_rowMany kv e_6.2.2.1 e_6.2.2.2.1 e_6.2.2.2.2.1 e_6.2.2.2.2.2.1 e_6.2.2.2.2.2.2.1 e_6.2.2.2.2.2.2.2.1 e_6.2.2.2.2.2.2.2.2.1 0 e_6.2.2.2.2.2.2.2.2.2.1 e_6.2.2.2.2.2.2.2.2.2.2.1 e_6.2.2.2.2.2.2.2.2.2.2.2.1 e_6.2.2.2.2.2.2.2.2.2.2.2.2.1 e_6.2.2.2.2.2.2.2.2.2.2.2.2.2.1 r0_refusals e_6.2.2.2.2.2.2.2.2.2.2.2.2.2.2.1 e_6.2.2.2.2.2.2.2.2.2.2.2.2.2.2.2) H locs → lv_has ls 11 [(3, .int x3), (5, .int e_6.1), (6, .int e_6.2.1)] → W p l e (rmd 3) s m ([.ref a_r0, .int x1, .int x2, .int x3] : List Value).toArray below meth c H locs 0 0 Q (F0 m 141 ls []) := by
      intro e_6 hE H locs ls hW hl
      subst hE; have hr := hk_6
      refine lv_iload_n hx hb d_M_lots_141 rfl (lv_at hl 0 rfl) ?_
      refine lv_if_ne (tgt := 150) hx hb d_M_lots_142 (by decide) (fun c_18 => ?_) (fun c_18 => ?_)
      · replace hr := iN c_18 hr
        refine lv_iload hx hb d_M_lots_150 (lv_at hl 2 rfl) ?_
        obtain rfl := Option.some.inj hr
        rw [hQ]; exact k_iret C hret hW d_M_lots_152
      · replace hr := ip c_18 hr
        refine lv_iload hx hb d_M_lots_145 (lv_at hl 1 rfl) ?_
        refine lv_goto (tgt := 152) hx hb d_M_lots_147 (by decide) ?_
        obtain rfl := Option.some.inj hr
        rw [hQ]; exact k_iret C hret hW d_M_lots_152
    have hl_6 : ∀ (k : Nat) (y5_6 : Int32) (y6_6 : Int32) (y8_6 : Int32) (r0_days_6 : Int32) (r0_done0_6 : Int32) (r0_isTaking_6 : Int32) (r0_keptIn_6 : Int32) (r0_place0_6 : Int32) (r0_seed_6 : Int32) (r0_things_6 : Int32) (r0_figures_6 : Nat → Int32) (r0_hampers_6 : Nat → Int32) (r0_kept_6 : Nat → Int32) (r0_kinds_6 : Nat → Int32) (r0_left0_6 : Nat → Int32) (r0_wants0_6 : Nat → Int32) (r0_weights_6 : Nat → Int32), wh (fun (s : (Int32) × (Int32) × (Int32) × (Int32) × (Int32) × (Int32) × (Int32) × (Int32) × (Int32) × (Int32) × (Nat → Int32) × (Nat → Int32) × (Nat → Int32) × (Nat → Int32) × (Nat → Int32) × (Nat → Int32) × (Nat → Int32)) => F_M_lots_L55 q_4 x1 s.1 s.2.1 s.2.2.1 s.2.2.2.1 s.2.2.2.2.1 s.2.2.2.2.2.1 s.2.2.2.2.2.2.1 s.2.2.2.2.2.2.2.1 s.2.2.2.2.2.2.2.2.1 s.2.2.2.2.2.2.2.2.2.1 s.2.2.2.2.2.2.2.2.2.2.1 s.2.2.2.2.2.2.2.2.2.2.2.1 s.2.2.2.2.2.2.2.2.2.2.2.2.1 s.2.2.2.2.2.2.2.2.2.2.2.2.2.1 s.2.2.2.2.2.2.2.2.2.2.2.2.2.2.1 s.2.2.2.2.2.2.2.2.2.2.2.2.2.2.2.1 s.2.2.2.2.2.2.2.2.2.2.2.2.2.2.2.2) k (y5_6, y6_6, y8_6, r0_days_6, r0_done0_6, r0_isTaking_6, r0_keptIn_6, r0_place0_6, r0_seed_6, r0_things_6, r0_figures_6, r0_hampers_6, r0_kept_6, r0_kinds_6, r0_left0_6, r0_wants0_6, r0_weights_6) = some ex_6 → ∀ (H : Heap) (locs : List Loc) (ls : Array Slot), wd A s.heap D (w_M_lots cI a_r0 a_r0_figures a_r0_hampers a_r0_kept a_r0_kinds a_r0_left0 a_r0_refusals a_r0_wants0 a_r0_weights v_r0_letters v_r0_letterMany v_r0_at v_r0_isBad v_r0_statements v_r0_placeIn v_r0_letterOf v_r0_told v_r0_imaged v_r0_hasImage v_r0_turns0 v_r0_turnOf v_r0_turned v_r0_order0 v_r0_likely0 v_r0_leftThen v_r0_row v_r0_rowMany kv r0_days_6 r0_done0_6 r0_isTaking_6 r0_keptIn_6 r0_place0_6 r0_seed_6 r0_things_6 0 r0_figures_6 r0_hampers_6 r0_kept_6 r0_kinds_6 r0_left0_6 r0_refusals r0_wants0_6 r0_weights_6) H locs → lv_has ls 11 [(7, .int q_4), (0, .ref a_r0), (1, .int x1), (3, .int x3), (5, .int y5_6), (6, .int y6_6), (8, .int y8_6)] → W p l e (rmd 3) s m ([.ref a_r0, .int x1, .int x2, .int x3] : List Value).toArray below meth c H locs 0 0 Q (F0 m 55 ls []) := by
      intro k
      induction k with
      | zero => intro y5_6 y6_6 y8_6 r0_days_6 r0_done0_6 r0_isTaking_6 r0_keptIn_6 r0_place0_6 r0_seed_6 r0_things_6 r0_figures_6 r0_hampers_6 r0_kept_6 r0_kinds_6 r0_left0_6 r0_wants0_6 r0_weights_6 hw; exact absurd hw wh_0
      | succ k ih_6 =>
        intro y5_6 y6_6 y8_6 r0_days_6 r0_done0_6 r0_isTaking_6 r0_keptIn_6 r0_place0_6 r0_seed_6 r0_things_6 r0_figures_6 r0_hampers_6 r0_kept_6 r0_kinds_6 r0_left0_6 r0_wants0_6 r0_weights_6 hw H locs ls hW hl
        obtain ⟨z_6, hr, hz1_6, hz2_6⟩ := wh_s hw
        have hr : F_M_lots_L55 q_4 x1 y5_6 y6_6 y8_6 r0_days_6 r0_done0_6 r0_isTaking_6 r0_keptIn_6 r0_place0_6 r0_seed_6 r0_things_6 r0_figures_6 r0_hampers_6 r0_kept_6 r0_kinds_6 r0_left0_6 r0_wants0_6 r0_weights_6 = some z_6 := hr
        unfold F_M_lots_L55 at hr
        refine lv_iload hx hb d_M_lots_55 (lv_at hl 6 rfl) ?_
        refine lv_iload_n hx hb d_M_lots_57 rfl (lv_at hl 2 rfl) ?_
        refine lv_icmp_ge (tgt := 141) hx hb d_M_lots_58 (by decide) (fun c_7 => ?_) (fun c_7 => ?_)
        · replace hr := ip c_7 hr
          exact hx_6 _ (hz2_6 _ (Option.some.inj hr).symm) _ _ _ hW (lv_sub hl [3, 4, 5] rfl)
        · replace hr := iN c_7 hr
          refine lv_iconst (v := 0) hx hb d_M_lots_61 (by decide) ?_
          refine lv_istore (lv' := [(9, .int 0), (7, .int q_4), (0, .ref a_r0), (1, .int x1), (3, .int x3), (5, .int y5_6), (6, .int y6_6), (8, .int y8_6)]) hx hb d_M_lots_62 hl (by decide) rfl (fun ls hl => ?_)
          obtain ⟨ex_8, hw_8, hk_8⟩ := ob hr
          have hx_8 : ∀ (e_8 : (Int32) × (Int32) × (Int32) × (Nat → Int32)), e_8 = ex_8 → ∀ (H : Heap) (locs : List Loc) (ls : Array Slot), wd A s.heap D (w_M_lots cI a_r0 a_r0_figures a_r0_hampers a_r0_kept a_r0_kinds a_r0_left0 a_r0_refusals a_r0_wants0 a_r0_weights v_r0_letters v_r0_letterMany v_r0_at v_r0_isBad v_r0_statements v_r0_placeIn v_r0_letterOf v_r0_told v_r0_imaged v_r0_hasImage v_r0_turns0 v_r0_turnOf v_r0_turned v_r0_order0 v_r0_likely0 v_r0_leftThen v_r0_row v_r0_rowMany kv r0_days_6 e_8.2.1 r0_isTaking_6 r0_keptIn_6 r0_place0_6 e_8.2.2.1 r0_things_6 0 r0_figures_6 r0_hampers_6 r0_kept_6 r0_kinds_6 e_8.2.2.2 r0_refusals r0_wants0_6 r0_weights_6) H locs → lv_has ls 11 [(7, .int q_4), (0, .ref a_r0), (1, .int x1), (3, .int x3), (5, .int y5_6), (8, .int y8_6), (6, .int e_8.1)] → W p l e (rmd 3) s m ([.ref a_r0, .int x1, .int x2, .int x3] : List Value).toArray below meth c H locs 0 0 Q (F0 m 119 ls []) := by
            intro e_8 hE H locs ls hW hl
            subst hE; have hr := hk_8
            refine lv_iload hx hb d_M_lots_119 (lv_at hl 4 rfl) ?_
            refine lv_iload hx hb d_M_lots_121 (lv_at hl 0 rfl) ?_
            refine lv_aload_n hx hb d_M_lots_123 rfl (lv_at hl 1 rfl) ?_
            obtain ⟨q_16, hc_16, hr⟩ := ob hr
            have ct_16 := C_M_allLeft l D cI cS a_r0 a_r0_left0 (Value.ref a_r0_weights) (Value.int r0_things_6) (Value.ref a_r0_kinds) (Value.ref a_r0_figures) (Value.int r0_days_6) (Value.ref a_r0_hampers) (Value.ref a_r0_wants0) (Value.int e_8.2.1) (Value.int 0) (Value.ref a_r0_refusals) v_r0_letters v_r0_letterMany v_r0_at v_r0_isBad v_r0_statements v_r0_placeIn v_r0_letterOf v_r0_told (Value.ref a_r0_kept) v_r0_imaged v_r0_hasImage (Value.int r0_place0_6) (Value.int r0_isTaking_6) (kv r0_keptIn_6) v_r0_turns0 v_r0_turnOf v_r0_turned v_r0_order0 v_r0_likely0 v_r0_leftThen v_r0_row v_r0_rowMany (Value.int e_8.2.2.1) e_8.2.2.2 q_16 hc_16
            refine k_goIp hA hW [0, 5] rfl rfl (k_runV C hA hW mw_M_allLeft mv_M_allLeft (ct_16.2 _) [0, 5] rfl rfl 0 rfl rfl qm_M_234 ⟨Nat.le_of_ble_eq_true rfl, Nat.le_of_ble_eq_true rfl, Nat.zero_le _, Nat.zero_le _⟩ rfl rfl (Nat.le_of_ble_eq_true rfl) hl.1 d_M_lots_124) (fun H locs hW => ?_)
            refine lv_isub hx hb d_M_lots_127 ?_
            refine lv_iadd hx hb d_M_lots_128 ?_
            refine lv_istore (lv' := [(5, .int (y5_6 + (q_4 - q_16))), (7, .int q_4), (0, .ref a_r0), (1, .int x1), (3, .int x3), (8, .int y8_6), (6, .int e_8.1)]) hx hb d_M_lots_129 hl (by decide) rfl (fun ls hl => ?_)
            refine lv_aload_n hx hb d_M_lots_131 rfl (lv_at hl 2 rfl) ?_
            obtain ⟨q_17, hc_17, hr⟩ := ob hr
            have ct_17 := C_M_again l D cI cS a_r0 a_r0_figures a_r0_hampers a_r0_kept a_r0_kinds a_r0_left0 a_r0_wants0 a_r0_weights (Value.int 0) (Value.ref a_r0_refusals) v_r0_letters v_r0_letterMany v_r0_at v_r0_isBad v_r0_statements v_r0_placeIn v_r0_letterOf v_r0_told v_r0_imaged v_r0_hasImage v_r0_turns0 v_r0_turnOf v_r0_turned v_r0_order0 v_r0_likely0 v_r0_leftThen v_r0_row v_r0_rowMany (Value.int e_8.2.2.1) kv hkv_kept r0_days_6 e_8.2.1 r0_isTaking_6 r0_keptIn_6 r0_place0_6 r0_things_6 r0_figures_6 r0_hampers_6 r0_kept_6 r0_kinds_6 e_8.2.2.2 r0_wants0_6 r0_weights_6 q_17 hc_17
            refine k_goV hA hW [0, 1, 2, 3, 4, 5, 7, 8] rfl ct_17.1 (ws' := (w_M_lots cI a_r0 a_r0_figures a_r0_hampers a_r0_kept a_r0_kinds a_r0_left0 a_r0_refusals a_r0_wants0 a_r0_weights v_r0_letters v_r0_letterMany v_r0_at v_r0_isBad v_r0_statements v_r0_placeIn v_r0_letterOf v_r0_told v_r0_imaged v_r0_hasImage v_r0_turns0 v_r0_turnOf v_r0_turned v_r0_order0 v_r0_likely0 v_r0_leftThen v_r0_row v_r0_rowMany kv q_17.1 q_17.2.1 q_17.2.2.1 q_17.2.2.2.1 q_17.2.2.2.2.1 e_8.2.2.1 q_17.2.2.2.2.2.1 0 q_17.2.2.2.2.2.2.1 q_17.2.2.2.2.2.2.2.1 q_17.2.2.2.2.2.2.2.2.1 q_17.2.2.2.2.2.2.2.2.2.1 q_17.2.2.2.2.2.2.2.2.2.2.1 r0_refusals q_17.2.2.2.2.2.2.2.2.2.2.2.1 q_17.2.2.2.2.2.2.2.2.2.2.2.2)) rfl (k_runV C hA hW mw_M_again mv_M_again (ct_17.2 _) [0, 1, 2, 3, 4, 5, 7, 8] rfl rfl 0 rfl rfl qm_M_171 ⟨Nat.le_of_ble_eq_true rfl, Nat.le_of_ble_eq_true rfl, Nat.zero_le _, Nat.zero_le _⟩ rfl rfl (Nat.le_of_ble_eq_true rfl) hl.1 d_M_lots_132) (fun H locs hW => ?_)
            refine lv_iinc (v := (y8_6 + 1)) (lv' := [(8, .int (y8_6 + 1)), (5, .int (y5_6 + (q_4 - q_16))), (7, .int q_4), (0, .ref a_r0), (1, .int x1), (3, .int x3), (6, .int e_8.1)]) hx hb d_M_lots_135 hl (k := 5) rfl rfl (by decide) rfl (fun ls hl => ?_)
            refine lv_goto (tgt := 55) hx hb d_M_lots_138 (by decide) ?_
            exact ih_6 (y5_6 + (q_4 - q_16)) e_8.1 (y8_6 + 1) q_17.1 q_17.2.1 q_17.2.2.1 q_17.2.2.2.1 q_17.2.2.2.2.1 e_8.2.2.1 q_17.2.2.2.2.2.1 q_17.2.2.2.2.2.2.1 q_17.2.2.2.2.2.2.2.1 q_17.2.2.2.2.2.2.2.2.1 q_17.2.2.2.2.2.2.2.2.2.1 q_17.2.2.2.2.2.2.2.2.2.2.1 q_17.2.2.2.2.2.2.2.2.2.2.2.1 q_17.2.2.2.2.2.2.2.2.2.2.2.2 (hz1_6 _ (Option.some.inj hr).symm) _ _ _ hW (lv_sub hl [2, 3, 4, 5, 1, 6, 0] rfl)
          have hl_8 : ∀ (k : Nat) (y6_8 : Int32) (y9_8 : Int32) (r0_done0_8 : Int32) (r0_seed_8 : Int32) (r0_left0_8 : Nat → Int32), wh (fun (s : (Int32) × (Int32) × (Int32) × (Int32) × (Nat → Int32)) => F_M_lots_L64 r0_figures_6 r0_kinds_6 r0_things_6 r0_wants0_6 r0_weights_6 s.1 s.2.1 s.2.2.1 s.2.2.2.1 s.2.2.2.2) k (y6_8, y9_8, r0_done0_8, r0_seed_8, r0_left0_8) = some ex_8 → ∀ (H : Heap) (locs : List Loc) (ls : Array Slot), wd A s.heap D (w_M_lots cI a_r0 a_r0_figures a_r0_hampers a_r0_kept a_r0_kinds a_r0_left0 a_r0_refusals a_r0_wants0 a_r0_weights v_r0_letters v_r0_letterMany v_r0_at v_r0_isBad v_r0_statements v_r0_placeIn v_r0_letterOf v_r0_told v_r0_imaged v_r0_hasImage v_r0_turns0 v_r0_turnOf v_r0_turned v_r0_order0 v_r0_likely0 v_r0_leftThen v_r0_row v_r0_rowMany kv r0_days_6 r0_done0_8 r0_isTaking_6 r0_keptIn_6 r0_place0_6 r0_seed_8 r0_things_6 0 r0_figures_6 r0_hampers_6 r0_kept_6 r0_kinds_6 r0_left0_8 r0_refusals r0_wants0_6 r0_weights_6) H locs → lv_has ls 11 [(7, .int q_4), (0, .ref a_r0), (1, .int x1), (3, .int x3), (5, .int y5_6), (8, .int y8_6), (6, .int y6_8), (9, .int y9_8)] → W p l e (rmd 3) s m ([.ref a_r0, .int x1, .int x2, .int x3] : List Value).toArray below meth c H locs 0 0 Q (F0 m 64 ls []) := by
            intro k
            induction k with
            | zero => intro y6_8 y9_8 r0_done0_8 r0_seed_8 r0_left0_8 hw; exact absurd hw wh_0
            | succ k ih_8 =>
              intro y6_8 y9_8 r0_done0_8 r0_seed_8 r0_left0_8 hw H locs ls hW hl
              obtain ⟨z_8, hr, hz1_8, hz2_8⟩ := wh_s hw
              have hr : F_M_lots_L64 r0_figures_6 r0_kinds_6 r0_things_6 r0_wants0_6 r0_weights_6 y6_8 y9_8 r0_done0_8 r0_seed_8 r0_left0_8 = some z_8 := hr
              unfold F_M_lots_L64 at hr
              refine lv_iload hx hb d_M_lots_64 (lv_at hl 7 rfl) ?_
              refine lv_bipush (v := 10) hx hb d_M_lots_66 (by decide) ?_
              refine lv_icmp_ge (tgt := 119) hx hb d_M_lots_68 (by decide) (fun c_9 => ?_) (fun c_9 => ?_)
              · replace hr := ip c_9 hr
                exact hx_8 _ (hz2_8 _ (Option.some.inj hr).symm) _ _ _ hW (lv_sub hl [0, 1, 2, 3, 4, 5, 6] rfl)
              · replace hr := iN c_9 hr
                refine lv_aload_n hx hb d_M_lots_71 rfl (lv_at hl 1 rfl) ?_
                refine lv_aload_n hx hb d_M_lots_72 rfl (lv_at hl 1 rfl) ?_
                refine lv_aload_n hx hb d_M_lots_73 rfl (lv_at hl 1 rfl) ?_
                refine lv_iconst (v := 1) hx hb d_M_lots_74 (by decide) ?_
                refine lv_aload_n hx hb d_M_lots_75 rfl (lv_at hl 1 rfl) ?_
                refine k_get i_M C hW 0 rfl rfl 1 (by decide) qf_M_71 rfl rfl d_M_lots_76 ?_
                refine lv_ishl hx hb d_M_lots_79 ?_
                obtain ⟨q_10, hc_10, hr⟩ := ob hr
                have ct_10 := C_M_drawBelow l D cI cS a_r0 (Value.ref a_r0_weights) (Value.int r0_things_6) (Value.ref a_r0_kinds) (Value.ref a_r0_figures) (Value.int r0_days_6) (Value.ref a_r0_hampers) (Value.ref a_r0_wants0) (Value.ref a_r0_left0) (Value.int r0_done0_8) (Value.int 0) (Value.ref a_r0_refusals) v_r0_letters v_r0_letterMany v_r0_at v_r0_isBad v_r0_statements v_r0_placeIn v_r0_letterOf v_r0_told (Value.ref a_r0_kept) v_r0_imaged v_r0_hasImage (Value.int r0_place0_6) (Value.int r0_isTaking_6) (kv r0_keptIn_6) v_r0_turns0 v_r0_turnOf v_r0_turned v_r0_order0 v_r0_likely0 v_r0_leftThen v_r0_row v_r0_rowMany r0_seed_8 ((1 : Int32) <<< ((r0_things_6 : Int32) &&& 31)) q_10 hc_10
                refine k_goI hA hW [0] rfl ct_10.1 (ws' := (w_M_lots cI a_r0 a_r0_figures a_r0_hampers a_r0_kept a_r0_kinds a_r0_left0 a_r0_refusals a_r0_wants0 a_r0_weights v_r0_letters v_r0_letterMany v_r0_at v_r0_isBad v_r0_statements v_r0_placeIn v_r0_letterOf v_r0_told v_r0_imaged v_r0_hasImage v_r0_turns0 v_r0_turnOf v_r0_turned v_r0_order0 v_r0_likely0 v_r0_leftThen v_r0_row v_r0_rowMany kv r0_days_6 r0_done0_8 r0_isTaking_6 r0_keptIn_6 r0_place0_6 q_10.2 r0_things_6 0 r0_figures_6 r0_hampers_6 r0_kept_6 r0_kinds_6 r0_left0_8 r0_refusals r0_wants0_6 r0_weights_6)) rfl (k_runV C hA hW mw_M_drawBelow mv_M_drawBelow (ct_10.2 _) [0] rfl rfl 0 rfl rfl qm_M_273 ⟨Nat.le_of_ble_eq_true rfl, Nat.le_of_ble_eq_true rfl, Nat.zero_le _, Nat.zero_le _⟩ rfl rfl (Nat.le_of_ble_eq_true rfl) hl.1 d_M_lots_80) (fun H locs hW => ?_)
                obtain ⟨q_11, hc_11, hr⟩ := ob hr
                have ct_11 := C_M_couldBe l D cI cS a_r0 a_r0_figures a_r0_kinds (Value.ref a_r0_weights) (Value.int r0_days_6) (Value.ref a_r0_hampers) (Value.ref a_r0_wants0) (Value.ref a_r0_left0) (Value.int r0_done0_8) (Value.int 0) (Value.ref a_r0_refusals) v_r0_letters v_r0_letterMany v_r0_at v_r0_isBad v_r0_statements v_r0_placeIn v_r0_letterOf v_r0_told (Value.ref a_r0_kept) v_r0_imaged v_r0_hasImage (Value.int r0_place0_6) (Value.int r0_isTaking_6) (kv r0_keptIn_6) v_r0_turns0 v_r0_turnOf v_r0_turned v_r0_order0 v_r0_likely0 v_r0_leftThen v_r0_row v_r0_rowMany (Value.int q_10.2) r0_things_6 r0_figures_6 r0_kinds_6 q_10.1 q_11 hc_11
                refine k_goIp hA hW [0, 1, 4] rfl rfl (k_runV C hA hW mw_M_couldBe mv_M_couldBe (ct_11.2 _) [0, 1, 4] rfl rfl 0 rfl rfl qm_M_99 ⟨Nat.le_of_ble_eq_true rfl, Nat.le_of_ble_eq_true rfl, Nat.zero_le _, Nat.zero_le _⟩ rfl rfl (Nat.le_of_ble_eq_true rfl) hl.1 d_M_lots_83) (fun H locs hW => ?_)
                obtain ⟨q_12, hc_12, hr⟩ := ob hr
                have ct_12 := C_M_likeliest l D cI cS a_r0 a_r0_weights (Value.int r0_things_6) (Value.ref a_r0_kinds) (Value.ref a_r0_figures) (Value.int r0_days_6) (Value.ref a_r0_hampers) (Value.ref a_r0_wants0) (Value.ref a_r0_left0) (Value.int r0_done0_8) (Value.int 0) (Value.ref a_r0_refusals) v_r0_letters v_r0_letterMany v_r0_at v_r0_isBad v_r0_statements v_r0_placeIn v_r0_letterOf v_r0_told (Value.ref a_r0_kept) v_r0_imaged v_r0_hasImage (Value.int r0_place0_6) (Value.int r0_isTaking_6) (kv r0_keptIn_6) v_r0_turns0 v_r0_turnOf v_r0_turned v_r0_order0 v_r0_likely0 v_r0_leftThen v_r0_row v_r0_rowMany (Value.int q_10.2) r0_weights_6 q_11 q_12 hc_12
                refine k_goIp hA hW [0, 8] rfl rfl (k_runV C hA hW mw_M_likeliest mv_M_likeliest (ct_12.2 _) [0, 8] rfl rfl 0 rfl rfl qm_M_102 ⟨Nat.le_of_ble_eq_true rfl, Nat.le_of_ble_eq_true rfl, Nat.zero_le _, Nat.zero_le _⟩ rfl rfl (Nat.le_of_ble_eq_true rfl) hl.1 d_M_lots_86) (fun H locs hW => ?_)
                refine lv_istore (lv' := [(10, .int q_12), (7, .int q_4), (0, .ref a_r0), (1, .int x1), (3, .int x3), (5, .int y5_6), (8, .int y8_6), (6, .int y6_8), (9, .int y9_8)]) hx hb d_M_lots_89 hl (by decide) rfl (fun ls hl => ?_)
                refine lv_iload hx hb d_M_lots_91 (lv_at hl 7 rfl) ?_
                refine lv_iload hx hb d_M_lots_93 (lv_at hl 0 rfl) ?_
                have hJ_14 : ∀ (s1_14 : Int32), F_M_lots_J103_14 r0_wants0_6 r0_done0_8 r0_left0_8 y6_8 y9_8 q_10 q_12 s1_14 = some z_8 → ∀ (H : Heap) (locs : List Loc) (ls : Array Slot), wd A s.heap D (w_M_lots cI a_r0 a_r0_figures a_r0_hampers a_r0_kept a_r0_kinds a_r0_left0 a_r0_refusals a_r0_wants0 a_r0_weights v_r0_letters v_r0_letterMany v_r0_at v_r0_isBad v_r0_statements v_r0_placeIn v_r0_letterOf v_r0_told v_r0_imaged v_r0_hasImage v_r0_turns0 v_r0_turnOf v_r0_turned v_r0_order0 v_r0_likely0 v_r0_leftThen v_r0_row v_r0_rowMany kv r0_days_6 r0_done0_8 r0_isTaking_6 r0_keptIn_6 r0_place0_6 q_10.2 r0_things_6 0 r0_figures_6 r0_hampers_6 r0_kept_6 r0_kinds_6 r0_left0_8 r0_refusals r0_wants0_6 r0_weights_6) H locs → lv_has ls 11 [(0, .ref a_r0), (1, .int x1), (3, .int x3), (5, .int y5_6), (7, .int q_4), (8, .int y8_6), (9, .int y9_8), (10, .int q_12)] → W p l e (rmd 3) s m ([.ref a_r0, .int x1, .int x2, .int x3] : List Value).toArray below meth c H locs 0 0 Q (F0 m 103 ls [.int s1_14, .int y6_8]) := by
                  intro s1_14 hr H locs ls hW hl
                  unfold F_M_lots_J103_14 at hr
                  refine lv_iadd hx hb d_M_lots_103 ?_
                  refine lv_istore (lv' := [(6, .int (y6_8 + s1_14)), (0, .ref a_r0), (1, .int x1), (3, .int x3), (5, .int y5_6), (7, .int q_4), (8, .int y8_6), (9, .int y9_8), (10, .int q_12)]) hx hb d_M_lots_104 hl (by decide) rfl (fun ls hl => ?_)
                  refine lv_aload_n hx hb d_M_lots_106 rfl (lv_at hl 1 rfl) ?_
                  refine lv_iload hx hb d_M_lots_107 (lv_at hl 8 rfl) ?_
                  obtain ⟨q_15, hc_15, hr⟩ := ob hr
                  have ct_15 := C_M_spendWith l D cI cS a_r0 a_r0_left0 a_r0_wants0 (Value.ref a_r0_weights) (Value.int r0_things_6) (Value.ref a_r0_kinds) (Value.ref a_r0_figures) (Value.int r0_days_6) (Value.ref a_r0_hampers) (Value.int 0) (Value.ref a_r0_refusals) v_r0_letters v_r0_letterMany v_r0_at v_r0_isBad v_r0_statements v_r0_placeIn v_r0_letterOf v_r0_told (Value.ref a_r0_kept) v_r0_imaged v_r0_hasImage (Value.int r0_place0_6) (Value.int r0_isTaking_6) (kv r0_keptIn_6) v_r0_turns0 v_r0_turnOf v_r0_turned v_r0_order0 v_r0_likely0 v_r0_leftThen v_r0_row v_r0_rowMany (Value.int q_10.2) r0_done0_8 r0_left0_8 r0_wants0_6 q_12 q_15 hc_15
                  refine k_goI hA hW [0, 5, 7] rfl ct_15.1 (ws' := (w_M_lots cI a_r0 a_r0_figures a_r0_hampers a_r0_kept a_r0_kinds a_r0_left0 a_r0_refusals a_r0_wants0 a_r0_weights v_r0_letters v_r0_letterMany v_r0_at v_r0_isBad v_r0_statements v_r0_placeIn v_r0_letterOf v_r0_told v_r0_imaged v_r0_hasImage v_r0_turns0 v_r0_turnOf v_r0_turned v_r0_order0 v_r0_likely0 v_r0_leftThen v_r0_row v_r0_rowMany kv r0_days_6 q_15.2.1 r0_isTaking_6 r0_keptIn_6 r0_place0_6 q_10.2 r0_things_6 0 r0_figures_6 r0_hampers_6 r0_kept_6 r0_kinds_6 q_15.2.2 r0_refusals r0_wants0_6 r0_weights_6)) rfl (k_runV C hA hW mw_M_spendWith mv_M_spendWith (ct_15.2 _) [0, 5, 7] rfl rfl 0 rfl rfl qm_M_156 ⟨Nat.le_of_ble_eq_true rfl, Nat.le_of_ble_eq_true rfl, Nat.zero_le _, Nat.zero_le _⟩ rfl rfl (Nat.le_of_ble_eq_true rfl) hl.1 d_M_lots_109) (fun H locs hW => ?_)
                  refine lv_pop hx hb d_M_lots_112 rfl ?_
                  refine lv_iinc (v := (y9_8 + 1)) (lv' := [(9, .int (y9_8 + 1)), (6, .int (y6_8 + s1_14)), (0, .ref a_r0), (1, .int x1), (3, .int x3), (5, .int y5_6), (7, .int q_4), (8, .int y8_6), (10, .int q_12)]) hx hb d_M_lots_113 hl (k := 7) rfl rfl (by decide) rfl (fun ls hl => ?_)
                  refine lv_goto (tgt := 64) hx hb d_M_lots_116 (by decide) ?_
                  exact ih_8 (y6_8 + s1_14) (y9_8 + 1) q_15.2.1 q_10.2 q_15.2.2 (hz1_8 _ (Option.some.inj hr).symm) _ _ _ hW (lv_sub hl [6, 2, 3, 4, 5, 7, 1, 0] rfl)
                refine lv_if_ge (tgt := 102) hx hb d_M_lots_95 (by decide) (fun c_13 => ?_) (fun c_13 => ?_)
                · replace hr := ip c_13 hr
                  refine lv_iconst (v := 0) hx hb d_M_lots_102 (by decide) ?_
                  exact hJ_14 0 hr _ _ _ hW (lv_sub hl [2, 3, 4, 5, 1, 6, 8, 0] rfl)
                · replace hr := iN c_13 hr
                  refine lv_iconst (v := 1) hx hb d_M_lots_98 (by decide) ?_
                  refine lv_goto (tgt := 103) hx hb d_M_lots_99 (by decide) ?_
                  exact hJ_14 1 hr _ _ _ hW (lv_sub hl [2, 3, 4, 5, 1, 6, 8, 0] rfl)
          exact hl_8 _ y6_6 0 r0_done0_6 r0_seed_6 r0_left0_6 hw_8 _ _ _ hW (lv_sub hl [1, 2, 3, 4, 5, 7, 6, 0] rfl)
    exact hl_6 _ 0 0 0 q_5.1 q_5.2.1 q_5.2.2.1 q_5.2.2.2.1 q_5.2.2.2.2.1 x2 q_5.2.2.2.2.2.1 q_5.2.2.2.2.2.2.1 q_5.2.2.2.2.2.2.2.1 q_5.2.2.2.2.2.2.2.2.1 q_5.2.2.2.2.2.2.2.2.2.1 q_5.2.2.2.2.2.2.2.2.2.2.1 q_5.2.2.2.2.2.2.2.2.2.2.2.1 q_5.2.2.2.2.2.2.2.2.2.2.2.2 hw_6 _ _ _ hW (lv_sub hl [1, 5, 6, 8, 3, 2, 0] rfl)
  · replace hr := iN c_3 hr
    refine lv_aload_n hx hb d_M_lots_24 rfl (lv_at hl 1 rfl) ?_
    refine lv_iload hx hb d_M_lots_25 (lv_at hl 0 rfl) ?_
    obtain ⟨q_19, hc_19, hr⟩ := ob hr
    have ct_19 := C_M_refuse l D cI cS a_r0 a_r0_refusals (Value.ref a_r0_weights) (Value.int r0_things) (Value.ref a_r0_kinds) (Value.ref a_r0_figures) (Value.int r0_days) (Value.ref a_r0_hampers) (Value.ref a_r0_wants0) (Value.ref a_r0_left0) (Value.int r0_done0) (Value.int 0) v_r0_letters v_r0_letterMany v_r0_at v_r0_isBad v_r0_statements v_r0_placeIn v_r0_letterOf v_r0_told (Value.ref a_r0_kept) v_r0_imaged v_r0_hasImage (Value.int r0_place0) (Value.int r0_isTaking) (kv r0_keptIn) v_r0_turns0 v_r0_turnOf v_r0_turned v_r0_order0 v_r0_likely0 v_r0_leftThen v_r0_row v_r0_rowMany (Value.int r0_seed) r0_refusals q_2 q_19 hc_19
    refine k_goI hA hW [0, 6] rfl ct_19.1 (ws' := (w_M_lots cI a_r0 a_r0_figures a_r0_hampers a_r0_kept a_r0_kinds a_r0_left0 a_r0_refusals a_r0_wants0 a_r0_weights v_r0_letters v_r0_letterMany v_r0_at v_r0_isBad v_r0_statements v_r0_placeIn v_r0_letterOf v_r0_told v_r0_imaged v_r0_hasImage v_r0_turns0 v_r0_turnOf v_r0_turned v_r0_order0 v_r0_likely0 v_r0_leftThen v_r0_row v_r0_rowMany kv r0_days r0_done0 r0_isTaking r0_keptIn r0_place0 r0_seed r0_things 0 r0_figures r0_hampers r0_kept r0_kinds r0_left0 q_19.2 r0_wants0 r0_weights)) rfl (k_runV C hA hW mw_M_refuse mv_M_refuse (ct_19.2 _) [0, 6] rfl rfl 0 rfl rfl qm_M_108 ⟨Nat.le_of_ble_eq_true rfl, Nat.le_of_ble_eq_true rfl, Nat.zero_le _, Nat.zero_le _⟩ rfl rfl (Nat.le_of_ble_eq_true rfl) hl.1 d_M_lots_27) (fun H locs hW => ?_)
    obtain rfl := Option.some.inj hr
    rw [hQ]; exact k_iret C hret hW d_M_lots_30
def F_M_partOf (x0 : Int64) (x2 : Int64) (x4 : Int32) : Option (Int64) :=
  (if (lg_cmp x0 0) = 0 then (some (Int32.toInt64 x4)) else ((F_M_divisor x0 x2).bind (fun q_2 => (if x4 = 0 then (ck0L q_2 (some (x0 / q_2))) else (ck0L q_2 (some (x2 / q_2)))))))
set_option maxHeartbeats 4000000 in
set_option maxRecDepth 100000 in
theorem C_M_partOf (l : Launch) (D : va_G) (cI cS : ClassId) (x0 : Int64) (x2 : Int64) (x4 : Int32) (o : Int64) (hr : F_M_partOf x0 x2 x4 = some o) : ctL l y_M_partOf (Cond.code y_M_partOf b_M_partOf 7 (some FieldType.long)) (rmd 1) D (kTy cI cS) [.long x0, .long x2, .int x4] [] [] o := by
  unfold F_M_partOf at hr
  refine ⟨rfl, fun sz => ct_of (w0 := []) (Qc := fun A => qL D [] o A) rfl (Nat.le_of_ble_eq_true rfl) ?_ sz⟩
  intro p e s m below meth c A hA C hret ls hl hW
  have C : cx p s m ([.long x0, .long x2, .int x4] : List Value).toArray meth c b_M_partOf 7 R_M D (kTy cI cS) (Cond.code y_M_partOf b_M_partOf 7 (some FieldType.long)) := C
  obtain ⟨hx, hb, hml, hown, hts, hK, hlk, hN⟩ := id C
  have hl : lv_has ls 7 [(0, .long x0), (2, .long x2), (4, .int x4)] := hl
  obtain ⟨Q, hQ⟩ : ∃ Q, Q = MQ below (qL D [] o A) ([.long x0, .long x2, .int x4] : List Value).toArray s 0 0 A := ⟨_, rfl⟩
  rw [← hQ]
  refine lv_lload_n hx hb d_M_partOf_0 rfl (lv_at hl 0 rfl) ?_
  refine lv_lconst (v := 0) hx hb d_M_partOf_1 (by decide) ?_
  refine W.lcmp hx hb d_M_partOf_2 ?_
  refine lv_if_ne (tgt := 10) hx hb d_M_partOf_3 (by decide) (fun c_1 => ?_) (fun c_1 => ?_)
  · replace hr := iN c_1 hr
    refine lv_lload_n hx hb d_M_partOf_10 rfl (lv_at hl 0 rfl) ?_
    refine lv_lload_n hx hb d_M_partOf_11 rfl (lv_at hl 1 rfl) ?_
    obtain ⟨q_2, hc_2, hr⟩ := ob hr
    have ct_2 := C_M_divisor l D cI cS x0 x2 q_2 hc_2
    refine k_goLp hA hW [] rfl rfl (k_runS C hA hW mw_M_divisor ms_M_divisor (ct_2.2 _) [] rfl rfl qm_M_215 ⟨Nat.le_of_ble_eq_true rfl, Nat.le_of_ble_eq_true rfl, Nat.zero_le _, Nat.zero_le _⟩ rfl rfl (Nat.le_of_ble_eq_true rfl) hl.1 d_M_partOf_12) (fun H locs hW => ?_)
    refine lv_lstore (lv' := [(5, .long q_2), (0, .long x0), (2, .long x2), (4, .int x4)]) hx hb d_M_partOf_15 hl (by decide) rfl (fun ls hl => ?_)
    refine lv_iload hx hb d_M_partOf_17 (lv_at hl 3 rfl) ?_
    refine lv_if_ne (tgt := 29) hx hb d_M_partOf_19 (by decide) (fun c_3 => ?_) (fun c_3 => ?_)
    · replace hr := iN c_3 hr
      refine lv_lload_n hx hb d_M_partOf_29 rfl (lv_at hl 2 rfl) ?_
      refine lv_lload hx hb d_M_partOf_30 (lv_at hl 0 rfl) ?_
      obtain ⟨h_4, hr⟩ := ck0L_some hr
      refine lv_ldiv hx hb d_M_partOf_32 h_4 ?_
      obtain rfl := Option.some.inj hr
      rw [hQ]; exact k_lret C hret hW d_M_partOf_33
    · replace hr := ip c_3 hr
      refine lv_lload_n hx hb d_M_partOf_22 rfl (lv_at hl 1 rfl) ?_
      refine lv_lload hx hb d_M_partOf_23 (lv_at hl 0 rfl) ?_
      obtain ⟨h_5, hr⟩ := ck0L_some hr
      refine lv_ldiv hx hb d_M_partOf_25 h_5 ?_
      refine lv_goto (tgt := 33) hx hb d_M_partOf_26 (by decide) ?_
      obtain rfl := Option.some.inj hr
      rw [hQ]; exact k_lret C hret hW d_M_partOf_33
  · replace hr := ip c_1 hr
    refine lv_iload hx hb d_M_partOf_6 (lv_at hl 2 rfl) ?_
    refine lv_i2l hx hb d_M_partOf_8 rfl ?_
    obtain rfl := Option.some.inj hr
    rw [hQ]; exact k_lret C hret hW d_M_partOf_9
def w_M_mean (cI : ClassId) (a_r0 : Nat) (a_r0_figures : Nat) (a_r0_hampers : Nat) (a_r0_kinds : Nat) (a_r0_refusals : Nat) (v_r0_weights v_r0_wants0 v_r0_left0 v_r0_done0 v_r0_letters v_r0_letterMany v_r0_at v_r0_isBad v_r0_statements v_r0_placeIn v_r0_letterOf v_r0_told v_r0_kept v_r0_imaged v_r0_hasImage v_r0_place0 v_r0_isTaking v_r0_keptIn v_r0_turns0 v_r0_turnOf v_r0_turned v_r0_order0 v_r0_likely0 v_r0_leftThen v_r0_row v_r0_rowMany v_r0_seed : Value) (r0_days : Int32) (r0_things : Int32) (r0_thrown : Int32) (r0_figures : Nat → Int32) (r0_hampers : Nat → Int32) (r0_kinds : Nat → Int32) (r0_refusals : Nat → Int32) : va_W := [(a_r0, .inr (9, [v_r0_weights, .int r0_things, .ref a_r0_kinds, .ref a_r0_figures, .int r0_days, .ref a_r0_hampers, v_r0_wants0, v_r0_left0, v_r0_done0, .int r0_thrown, .ref a_r0_refusals, v_r0_letters, v_r0_letterMany, v_r0_at, v_r0_isBad, v_r0_statements, v_r0_placeIn, v_r0_letterOf, v_r0_told, v_r0_kept, v_r0_imaged, v_r0_hasImage, v_r0_place0, v_r0_isTaking, v_r0_keptIn, v_r0_turns0, v_r0_turnOf, v_r0_turned, v_r0_order0, v_r0_likely0, v_r0_leftThen, v_r0_row, v_r0_rowMany, v_r0_seed])), (a_r0_figures, .inl (cI, 8, .inl r0_figures)), (a_r0_hampers, .inl (cI, 8, .inl r0_hampers)), (a_r0_kinds, .inl (cI, 8, .inl r0_kinds)), (a_r0_refusals, .inl (cI, 7, .inl r0_refusals))]
def F_M_mean_L31 (r0_days : Int32) (r0_things : Int32) (r0_figures : Nat → Int32) (r0_hampers : Nat → Int32) (r0_kinds : Nat → Int32) (y2_3 : Int32) (y3_3 : Int32) : Option (((Int32) × (Int32)) ⊕ ((Int32))) :=
  (if r0_days ≤ y3_3 then (some (.inr y2_3)) else (ck y3_3 8 ((F_M_allHeavy r0_things r0_figures r0_kinds (r0_hampers (Int32.toNatClampNeg y3_3))).bind (fun q_6 => (some (.inl ((y2_3 + q_6), (y3_3 + 1))))))))
def F_M_mean (r0_days : Int32) (r0_things : Int32) (r0_figures : Nat → Int32) (r0_hampers : Nat → Int32) (r0_kinds : Nat → Int32) (r0_refusals : Nat → Int32) (x1 : Int32) : Option (Int64 × (Int32) × (Nat → Int32)) :=
  ((F_M_in (Int32.toInt64 x1) (0 : Int64) (1 : Int64)).bind (fun q_1 => (if q_1 = 0 then ((F_M_refuse r0_refusals ((-2) : Int32)).bind (fun q_8 => (some ((((4000000000000000000 : Int64) : Int64) - (Int32.toInt64 q_8.1)), 0, q_8.2)))) else ((wh (fun (s : (Int32) × (Int32)) => F_M_mean_L31 r0_days r0_things r0_figures r0_hampers r0_kinds s.1 s.2) 400 ((0 : Int32), (0 : Int32))).bind (fun e_3 => ((F_M_partOf (Int32.toInt64 e_3) (Int32.toInt64 r0_days) x1).bind (fun q_7 => (some (q_7, 0, r0_refusals)))))))))
set_option maxHeartbeats 4000000 in
set_option maxRecDepth 100000 in
theorem C_M_mean (l : Launch) (D : va_G) (cI cS : ClassId) (a_r0 : Nat) (a_r0_figures : Nat) (a_r0_hampers : Nat) (a_r0_kinds : Nat) (a_r0_refusals : Nat) (v_r0_weights v_r0_wants0 v_r0_left0 v_r0_done0 v_r0_letters v_r0_letterMany v_r0_at v_r0_isBad v_r0_statements v_r0_placeIn v_r0_letterOf v_r0_told v_r0_kept v_r0_imaged v_r0_hasImage v_r0_place0 v_r0_isTaking v_r0_keptIn v_r0_turns0 v_r0_turnOf v_r0_turned v_r0_order0 v_r0_likely0 v_r0_leftThen v_r0_row v_r0_rowMany v_r0_seed : Value) (r0_days : Int32) (r0_things : Int32) (r0_thrown : Int32) (r0_figures : Nat → Int32) (r0_hampers : Nat → Int32) (r0_kinds : Nat → Int32) (r0_refusals : Nat → Int32) (x1 : Int32) (o : Int64 × (Int32) × (Nat → Int32)) (hr : F_M_mean r0_days r0_things r0_figures r0_hampers r0_kinds r0_refusals x1 = some o) : ctL l y_M_mean (Cond.code y_M_mean b_M_mean 4 (some FieldType.long)) (rmd 2) D (kTy cI cS) [.ref a_r0, .int x1] (w_M_mean cI a_r0 a_r0_figures a_r0_hampers a_r0_kinds a_r0_refusals v_r0_weights v_r0_wants0 v_r0_left0 v_r0_done0 v_r0_letters v_r0_letterMany v_r0_at v_r0_isBad v_r0_statements v_r0_placeIn v_r0_letterOf v_r0_told v_r0_kept v_r0_imaged v_r0_hasImage v_r0_place0 v_r0_isTaking v_r0_keptIn v_r0_turns0 v_r0_turnOf v_r0_turned v_r0_order0 v_r0_likely0 v_r0_leftThen v_r0_row v_r0_rowMany v_r0_seed r0_days r0_things r0_thrown r0_figures r0_hampers r0_kinds r0_refusals) (w_M_mean cI a_r0 a_r0_figures a_r0_hampers a_r0_kinds a_r0_refusals v_r0_weights v_r0_wants0 v_r0_left0 v_r0_done0 v_r0_letters v_r0_letterMany v_r0_at v_r0_isBad v_r0_statements v_r0_placeIn v_r0_letterOf v_r0_told v_r0_kept v_r0_imaged v_r0_hasImage v_r0_place0 v_r0_isTaking v_r0_keptIn v_r0_turns0 v_r0_turnOf v_r0_turned v_r0_order0 v_r0_likely0 v_r0_leftThen v_r0_row v_r0_rowMany v_r0_seed r0_days r0_things o.2.1 r0_figures r0_hampers r0_kinds o.2.2) o.1 := by
  unfold F_M_mean at hr
  refine ⟨rfl, fun sz => ct_of (w0 := (w_M_mean cI a_r0 a_r0_figures a_r0_hampers a_r0_kinds a_r0_refusals v_r0_weights v_r0_wants0 v_r0_left0 v_r0_done0 v_r0_letters v_r0_letterMany v_r0_at v_r0_isBad v_r0_statements v_r0_placeIn v_r0_letterOf v_r0_told v_r0_kept v_r0_imaged v_r0_hasImage v_r0_place0 v_r0_isTaking v_r0_keptIn v_r0_turns0 v_r0_turnOf v_r0_turned v_r0_order0 v_r0_likely0 v_r0_leftThen v_r0_row v_r0_rowMany v_r0_seed r0_days r0_things r0_thrown r0_figures r0_hampers r0_kinds r0_refusals)) (Qc := fun A => qL D (w_M_mean cI a_r0 a_r0_figures a_r0_hampers a_r0_kinds a_r0_refusals v_r0_weights v_r0_wants0 v_r0_left0 v_r0_done0 v_r0_letters v_r0_letterMany v_r0_at v_r0_isBad v_r0_statements v_r0_placeIn v_r0_letterOf v_r0_told v_r0_kept v_r0_imaged v_r0_hasImage v_r0_place0 v_r0_isTaking v_r0_keptIn v_r0_turns0 v_r0_turnOf v_r0_turned v_r0_order0 v_r0_likely0 v_r0_leftThen v_r0_row v_r0_rowMany v_r0_seed r0_days r0_things o.2.1 r0_figures r0_hampers r0_kinds o.2.2) o.1 A) rfl (Nat.le_of_ble_eq_true rfl) ?_ sz⟩
  intro p e s m below meth c A hA C hret ls hl hW
  have C : cx p s m ([.ref a_r0, .int x1] : List Value).toArray meth c b_M_mean 4 R_M D (kTy cI cS) (Cond.code y_M_mean b_M_mean 4 (some FieldType.long)) := C
  obtain ⟨hx, hb, hml, hown, hts, hK, hlk, hN⟩ := id C
  have hl : lv_has ls 4 [(0, .ref a_r0), (1, .int x1)] := hl
  obtain ⟨Q, hQ⟩ : ∃ Q, Q = MQ below (qL D (w_M_mean cI a_r0 a_r0_figures a_r0_hampers a_r0_kinds a_r0_refusals v_r0_weights v_r0_wants0 v_r0_left0 v_r0_done0 v_r0_letters v_r0_letterMany v_r0_at v_r0_isBad v_r0_statements v_r0_placeIn v_r0_letterOf v_r0_told v_r0_kept v_r0_imaged v_r0_hasImage v_r0_place0 v_r0_isTaking v_r0_keptIn v_r0_turns0 v_r0_turnOf v_r0_turned v_r0_order0 v_r0_likely0 v_r0_leftThen v_r0_row v_r0_rowMany v_r0_seed r0_days r0_things o.2.1 r0_figures r0_hampers r0_kinds o.2.2) o.1 A) ([.ref a_r0, .int x1] : List Value).toArray s 0 0 A := ⟨_, rfl⟩
  rw [← hQ]
  refine lv_aload_n hx hb d_M_mean_0 rfl (lv_at hl 0 rfl) ?_
  refine lv_iconst (v := 0) hx hb d_M_mean_1 (by decide) ?_
  refine k_put i_M t_M_ok n_M C hW 0 rfl rfl 9 (by decide) qf_M_67 rfl rfl (ty := .int) rfl rfl rfl (Nat.le_of_ble_eq_true rfl) (ws' := (w_M_mean cI a_r0 a_r0_figures a_r0_hampers a_r0_kinds a_r0_refusals v_r0_weights v_r0_wants0 v_r0_left0 v_r0_done0 v_r0_letters v_r0_letterMany v_r0_at v_r0_isBad v_r0_statements v_r0_placeIn v_r0_letterOf v_r0_told v_r0_kept v_r0_imaged v_r0_hasImage v_r0_place0 v_r0_isTaking v_r0_keptIn v_r0_turns0 v_r0_turnOf v_r0_turned v_r0_order0 v_r0_likely0 v_r0_leftThen v_r0_row v_r0_rowMany v_r0_seed r0_days r0_things 0 r0_figures r0_hampers r0_kinds r0_refusals)) rfl d_M_mean_2 (fun H locs hW => ?_)
  refine lv_iload_n hx hb d_M_mean_5 rfl (lv_at hl 1 rfl) ?_
  refine lv_i2l hx hb d_M_mean_6 rfl ?_
  refine lv_lconst (v := 0) hx hb d_M_mean_7 (by decide) ?_
  refine lv_lconst (v := 1) hx hb d_M_mean_8 (by decide) ?_
  obtain ⟨q_1, hc_1, hr⟩ := ob hr
  have ct_1 := C_M_in l D cI cS (Int32.toInt64 x1) 0 1 q_1 hc_1
  refine k_goIp hA hW [] rfl rfl (k_runS C hA hW mw_M_in ms_M_in (ct_1.2 _) [] rfl rfl qm_M_74 ⟨Nat.le_of_ble_eq_true rfl, Nat.le_of_ble_eq_true rfl, Nat.zero_le _, Nat.zero_le _⟩ rfl rfl (Nat.le_of_ble_eq_true rfl) hl.1 d_M_mean_9) (fun H locs hW => ?_)
  refine lv_if_ne (tgt := 27) hx hb d_M_mean_12 (by decide) (fun c_2 => ?_) (fun c_2 => ?_)
  · replace hr := iN c_2 hr
    refine lv_iconst (v := 0) hx hb d_M_mean_27 (by decide) ?_
    refine lv_istore_n (lv' := [(2, .int 0), (0, .ref a_r0), (1, .int x1)]) hx hb d_M_mean_28 rfl hl (by decide) rfl (fun ls hl => ?_)
    refine lv_iconst (v := 0) hx hb d_M_mean_29 (by decide) ?_
    refine lv_istore_n (lv' := [(3, .int 0), (2, .int 0), (0, .ref a_r0), (1, .int x1)]) hx hb d_M_mean_30 rfl hl (by decide) rfl (fun ls hl => ?_)
    obtain ⟨ex_3, hw_3, hk_3⟩ := ob hr
    have hx_3 : ∀ (e_3 : (Int32)), e_3 = ex_3 → ∀ (H : Heap) (locs : List Loc) (ls : Array Slot), wd A s.heap D (w_M_mean cI a_r0 a_r0_figures a_r0_hampers a_r0_kinds a_r0_refusals v_r0_weights v_r0_wants0 v_r0_left0 v_r0_done0 v_r0_letters v_r0_letterMany v_r0_at v_r0_isBad v_r0_statements v_r0_placeIn v_r0_letterOf v_r0_told v_r0_kept v_r0_imaged v_r0_hasImage v_r0_place0 v_r0_isTaking v_r0_keptIn v_r0_turns0 v_r0_turnOf v_r0_turned v_r0_order0 v_r0_likely0 v_r0_leftThen v_r0_row v_r0_rowMany v_r0_seed r0_days r0_things 0 r0_figures r0_hampers r0_kinds r0_refusals) H locs → lv_has ls 4 [(0, .ref a_r0), (1, .int x1), (2, .int e_3)] → W p l e (rmd 2) s m ([.ref a_r0, .int x1] : List Value).toArray below meth c H locs 0 0 Q (F0 m 58 ls []) := by
      intro e_3 hE H locs ls hW hl
      subst hE; have hr := hk_3
      refine lv_iload_n hx hb d_M_mean_58 rfl (lv_at hl 2 rfl) ?_
      refine lv_i2l hx hb d_M_mean_59 rfl ?_
      refine lv_aload_n hx hb d_M_mean_60 rfl (lv_at hl 0 rfl) ?_
      refine k_get i_M C hW 0 rfl rfl 4 (by decide) qf_M_78 rfl rfl d_M_mean_61 ?_
      refine lv_i2l hx hb d_M_mean_64 rfl ?_
      refine lv_iload_n hx hb d_M_mean_65 rfl (lv_at hl 1 rfl) ?_
      obtain ⟨q_7, hc_7, hr⟩ := ob hr
      have ct_7 := C_M_partOf l D cI cS (Int32.toInt64 e_3) (Int32.toInt64 r0_days) x1 q_7 hc_7
      refine k_goLp hA hW [] rfl rfl (k_runS C hA hW mw_M_partOf ms_M_partOf (ct_7.2 _) [] rfl rfl qm_M_227 ⟨Nat.le_of_ble_eq_true rfl, Nat.le_of_ble_eq_true rfl, Nat.zero_le _, Nat.zero_le _⟩ rfl rfl (Nat.le_of_ble_eq_true rfl) hl.1 d_M_mean_66) (fun H locs hW => ?_)
      obtain rfl := Option.some.inj hr
      rw [hQ]; exact k_lret C hret hW d_M_mean_69
    have hl_3 : ∀ (k : Nat) (y2_3 : Int32) (y3_3 : Int32), wh (fun (s : (Int32) × (Int32)) => F_M_mean_L31 r0_days r0_things r0_figures r0_hampers r0_kinds s.1 s.2) k (y2_3, y3_3) = some ex_3 → ∀ (H : Heap) (locs : List Loc) (ls : Array Slot), wd A s.heap D (w_M_mean cI a_r0 a_r0_figures a_r0_hampers a_r0_kinds a_r0_refusals v_r0_weights v_r0_wants0 v_r0_left0 v_r0_done0 v_r0_letters v_r0_letterMany v_r0_at v_r0_isBad v_r0_statements v_r0_placeIn v_r0_letterOf v_r0_told v_r0_kept v_r0_imaged v_r0_hasImage v_r0_place0 v_r0_isTaking v_r0_keptIn v_r0_turns0 v_r0_turnOf v_r0_turned v_r0_order0 v_r0_likely0 v_r0_leftThen v_r0_row v_r0_rowMany v_r0_seed r0_days r0_things 0 r0_figures r0_hampers r0_kinds r0_refusals) H locs → lv_has ls 4 [(0, .ref a_r0), (1, .int x1), (2, .int y2_3), (3, .int y3_3)] → W p l e (rmd 2) s m ([.ref a_r0, .int x1] : List Value).toArray below meth c H locs 0 0 Q (F0 m 31 ls []) := by
      intro k
      induction k with
      | zero => intro y2_3 y3_3 hw; exact absurd hw wh_0
      | succ k ih_3 =>
        intro y2_3 y3_3 hw H locs ls hW hl
        obtain ⟨z_3, hr, hz1_3, hz2_3⟩ := wh_s hw
        have hr : F_M_mean_L31 r0_days r0_things r0_figures r0_hampers r0_kinds y2_3 y3_3 = some z_3 := hr
        unfold F_M_mean_L31 at hr
        refine lv_iload_n hx hb d_M_mean_31 rfl (lv_at hl 3 rfl) ?_
        refine lv_aload_n hx hb d_M_mean_32 rfl (lv_at hl 0 rfl) ?_
        refine k_get i_M C hW 0 rfl rfl 4 (by decide) qf_M_78 rfl rfl d_M_mean_33 ?_
        refine lv_icmp_ge (tgt := 58) hx hb d_M_mean_36 (by decide) (fun c_4 => ?_) (fun c_4 => ?_)
        · replace hr := ip c_4 hr
          exact hx_3 _ (hz2_3 _ (Option.some.inj hr).symm) _ _ _ hW (lv_sub hl [0, 1, 2] rfl)
        · replace hr := iN c_4 hr
          refine lv_iload_n hx hb d_M_mean_39 rfl (lv_at hl 2 rfl) ?_
          refine lv_aload_n hx hb d_M_mean_40 rfl (lv_at hl 0 rfl) ?_
          refine lv_aload_n hx hb d_M_mean_41 rfl (lv_at hl 0 rfl) ?_
          refine k_get i_M C hW 0 rfl rfl 5 (by decide) qf_M_19 rfl rfl d_M_mean_42 ?_
          refine lv_iload_n hx hb d_M_mean_45 rfl (lv_at hl 3 rfl) ?_
          obtain ⟨h_5, hr⟩ := ck_some hr
          refine k_iald C hW 2 rfl h_5 d_M_mean_46 ?_
          obtain ⟨q_6, hc_6, hr⟩ := ob hr
          have ct_6 := C_M_allHeavy l D cI cS a_r0 a_r0_figures a_r0_kinds v_r0_weights (Value.int r0_days) (Value.ref a_r0_hampers) v_r0_wants0 v_r0_left0 v_r0_done0 (Value.int 0) (Value.ref a_r0_refusals) v_r0_letters v_r0_letterMany v_r0_at v_r0_isBad v_r0_statements v_r0_placeIn v_r0_letterOf v_r0_told v_r0_kept v_r0_imaged v_r0_hasImage v_r0_place0 v_r0_isTaking v_r0_keptIn v_r0_turns0 v_r0_turnOf v_r0_turned v_r0_order0 v_r0_likely0 v_r0_leftThen v_r0_row v_r0_rowMany v_r0_seed r0_things r0_figures r0_kinds (r0_hampers (Int32.toNatClampNeg y3_3)) q_6 hc_6
          refine k_goIp hA hW [0, 1, 3] rfl rfl (k_runV C hA hW mw_M_allHeavy mv_M_allHeavy (ct_6.2 _) [0, 1, 3] rfl rfl 0 rfl rfl qm_M_198 ⟨Nat.le_of_ble_eq_true rfl, Nat.le_of_ble_eq_true rfl, Nat.zero_le _, Nat.zero_le _⟩ rfl rfl (Nat.le_of_ble_eq_true rfl) hl.1 d_M_mean_47) (fun H locs hW => ?_)
          refine lv_iadd hx hb d_M_mean_50 ?_
          refine lv_istore_n (lv' := [(2, .int (y2_3 + q_6)), (0, .ref a_r0), (1, .int x1), (3, .int y3_3)]) hx hb d_M_mean_51 rfl hl (by decide) rfl (fun ls hl => ?_)
          refine lv_iinc (v := (y3_3 + 1)) (lv' := [(3, .int (y3_3 + 1)), (2, .int (y2_3 + q_6)), (0, .ref a_r0), (1, .int x1)]) hx hb d_M_mean_52 hl (k := 3) rfl rfl (by decide) rfl (fun ls hl => ?_)
          refine lv_goto (tgt := 31) hx hb d_M_mean_55 (by decide) ?_
          exact ih_3 (y2_3 + q_6) (y3_3 + 1) (hz1_3 _ (Option.some.inj hr).symm) _ _ _ hW (lv_sub hl [2, 3, 1, 0] rfl)
    exact hl_3 _ 0 0 hw_3 _ _ _ hW (lv_sub hl [2, 3, 1, 0] rfl)
  · replace hr := ip c_2 hr
    refine lv_ldc2 (v := 4000000000000000000) hx hb hown (hts _ (List.mem_cons_of_mem _ (qc_M_222))) d_M_mean_15 ?_
    refine lv_aload_n hx hb d_M_mean_18 rfl (lv_at hl 0 rfl) ?_
    refine lv_bipush (v := (-2)) hx hb d_M_mean_19 (by decide) ?_
    obtain ⟨q_8, hc_8, hr⟩ := ob hr
    have ct_8 := C_M_refuse l D cI cS a_r0 a_r0_refusals v_r0_weights (Value.int r0_things) (Value.ref a_r0_kinds) (Value.ref a_r0_figures) (Value.int r0_days) (Value.ref a_r0_hampers) v_r0_wants0 v_r0_left0 v_r0_done0 (Value.int 0) v_r0_letters v_r0_letterMany v_r0_at v_r0_isBad v_r0_statements v_r0_placeIn v_r0_letterOf v_r0_told v_r0_kept v_r0_imaged v_r0_hasImage v_r0_place0 v_r0_isTaking v_r0_keptIn v_r0_turns0 v_r0_turnOf v_r0_turned v_r0_order0 v_r0_likely0 v_r0_leftThen v_r0_row v_r0_rowMany v_r0_seed r0_refusals (-2) q_8 hc_8
    refine k_goI hA hW [0, 4] rfl ct_8.1 (ws' := (w_M_mean cI a_r0 a_r0_figures a_r0_hampers a_r0_kinds a_r0_refusals v_r0_weights v_r0_wants0 v_r0_left0 v_r0_done0 v_r0_letters v_r0_letterMany v_r0_at v_r0_isBad v_r0_statements v_r0_placeIn v_r0_letterOf v_r0_told v_r0_kept v_r0_imaged v_r0_hasImage v_r0_place0 v_r0_isTaking v_r0_keptIn v_r0_turns0 v_r0_turnOf v_r0_turned v_r0_order0 v_r0_likely0 v_r0_leftThen v_r0_row v_r0_rowMany v_r0_seed r0_days r0_things 0 r0_figures r0_hampers r0_kinds q_8.2)) rfl (k_runV C hA hW mw_M_refuse mv_M_refuse (ct_8.2 _) [0, 4] rfl rfl 0 rfl rfl qm_M_108 ⟨Nat.le_of_ble_eq_true rfl, Nat.le_of_ble_eq_true rfl, Nat.zero_le _, Nat.zero_le _⟩ rfl rfl (Nat.le_of_ble_eq_true rfl) hl.1 d_M_mean_21) (fun H locs hW => ?_)
    refine lv_i2l hx hb d_M_mean_24 rfl ?_
    refine lv_lsub hx hb d_M_mean_25 ?_
    obtain rfl := Option.some.inj hr
    rw [hQ]; exact k_lret C hret hW d_M_mean_26
def w_M_need (cI : ClassId) (a_r0 : Nat) (a_r0_left0 : Nat) (a_r0_refusals : Nat) (v_r0_weights v_r0_things v_r0_kinds v_r0_figures v_r0_days v_r0_hampers v_r0_wants0 v_r0_done0 v_r0_letters v_r0_letterMany v_r0_at v_r0_isBad v_r0_statements v_r0_placeIn v_r0_letterOf v_r0_told v_r0_kept v_r0_imaged v_r0_hasImage v_r0_place0 v_r0_isTaking v_r0_keptIn v_r0_turns0 v_r0_turnOf v_r0_turned v_r0_order0 v_r0_likely0 v_r0_leftThen v_r0_row v_r0_rowMany v_r0_seed : Value) (r0_thrown : Int32) (r0_left0 : Nat → Int32) (r0_refusals : Nat → Int32) : va_W := [(a_r0, .inr (9, [v_r0_weights, v_r0_things, v_r0_kinds, v_r0_figures, v_r0_days, v_r0_hampers, v_r0_wants0, .ref a_r0_left0, v_r0_done0, .int r0_thrown, .ref a_r0_refusals, v_r0_letters, v_r0_letterMany, v_r0_at, v_r0_isBad, v_r0_statements, v_r0_placeIn, v_r0_letterOf, v_r0_told, v_r0_kept, v_r0_imaged, v_r0_hasImage, v_r0_place0, v_r0_isTaking, v_r0_keptIn, v_r0_turns0, v_r0_turnOf, v_r0_turned, v_r0_order0, v_r0_likely0, v_r0_leftThen, v_r0_row, v_r0_rowMany, v_r0_seed])), (a_r0_left0, .inl (cI, 4, .inl r0_left0)), (a_r0_refusals, .inl (cI, 7, .inl r0_refusals))]
def F_M_need_L28 (r0_left0 : Nat → Int32) (y2_3 : Int32) (y3_3 : Int32) : Option (((Int32) × (Int32)) ⊕ ((Int32))) :=
  (if (4 : Int32) ≤ y3_3 then (some (.inr y2_3)) else (ck y3_3 4 (ck y2_3 4 (if (r0_left0 (Int32.toNatClampNeg y3_3)) ≤ (r0_left0 (Int32.toNatClampNeg y2_3)) then (some (.inl (y2_3, (y3_3 + 1)))) else (some (.inl (y3_3, (y3_3 + 1))))))))
def F_M_need (r0_left0 : Nat → Int32) (r0_refusals : Nat → Int32) (x1 : Int32) : Option (Int32 × (Int32) × (Nat → Int32)) :=
  ((F_M_in (Int32.toInt64 x1) (0 : Int64) (2 : Int64)).bind (fun q_1 => (if q_1 = 0 then ((F_M_refuse r0_refusals ((-2) : Int32)).bind (fun q_12 => (some (q_12.1, 0, q_12.2)))) else ((wh (fun (s : (Int32) × (Int32)) => F_M_need_L28 r0_left0 s.1 s.2) 400 ((0 : Int32), (1 : Int32))).bind (fun e_3 => (if x1 = 0 then (some (e_3, 0, r0_refusals)) else (if x1 = 1 then (ck e_3 4 (some ((r0_left0 (Int32.toNatClampNeg e_3)), 0, r0_refusals))) else ((F_M_allLeft r0_left0).bind (fun q_10 => (some (q_10, 0, r0_refusals)))))))))))
set_option maxHeartbeats 4000000 in
set_option maxRecDepth 100000 in
theorem C_M_need (l : Launch) (D : va_G) (cI cS : ClassId) (a_r0 : Nat) (a_r0_left0 : Nat) (a_r0_refusals : Nat) (v_r0_weights v_r0_things v_r0_kinds v_r0_figures v_r0_days v_r0_hampers v_r0_wants0 v_r0_done0 v_r0_letters v_r0_letterMany v_r0_at v_r0_isBad v_r0_statements v_r0_placeIn v_r0_letterOf v_r0_told v_r0_kept v_r0_imaged v_r0_hasImage v_r0_place0 v_r0_isTaking v_r0_keptIn v_r0_turns0 v_r0_turnOf v_r0_turned v_r0_order0 v_r0_likely0 v_r0_leftThen v_r0_row v_r0_rowMany v_r0_seed : Value) (r0_thrown : Int32) (r0_left0 : Nat → Int32) (r0_refusals : Nat → Int32) (x1 : Int32) (o : Int32 × (Int32) × (Nat → Int32)) (hr : F_M_need r0_left0 r0_refusals x1 = some o) : ctI l y_M_need (Cond.code y_M_need b_M_need 4 (some FieldType.int)) (rmd 1) D (kTy cI cS) [.ref a_r0, .int x1] (w_M_need cI a_r0 a_r0_left0 a_r0_refusals v_r0_weights v_r0_things v_r0_kinds v_r0_figures v_r0_days v_r0_hampers v_r0_wants0 v_r0_done0 v_r0_letters v_r0_letterMany v_r0_at v_r0_isBad v_r0_statements v_r0_placeIn v_r0_letterOf v_r0_told v_r0_kept v_r0_imaged v_r0_hasImage v_r0_place0 v_r0_isTaking v_r0_keptIn v_r0_turns0 v_r0_turnOf v_r0_turned v_r0_order0 v_r0_likely0 v_r0_leftThen v_r0_row v_r0_rowMany v_r0_seed r0_thrown r0_left0 r0_refusals) (w_M_need cI a_r0 a_r0_left0 a_r0_refusals v_r0_weights v_r0_things v_r0_kinds v_r0_figures v_r0_days v_r0_hampers v_r0_wants0 v_r0_done0 v_r0_letters v_r0_letterMany v_r0_at v_r0_isBad v_r0_statements v_r0_placeIn v_r0_letterOf v_r0_told v_r0_kept v_r0_imaged v_r0_hasImage v_r0_place0 v_r0_isTaking v_r0_keptIn v_r0_turns0 v_r0_turnOf v_r0_turned v_r0_order0 v_r0_likely0 v_r0_leftThen v_r0_row v_r0_rowMany v_r0_seed o.2.1 r0_left0 o.2.2) o.1 := by
  unfold F_M_need at hr
  refine ⟨rfl, fun sz => ct_of (w0 := (w_M_need cI a_r0 a_r0_left0 a_r0_refusals v_r0_weights v_r0_things v_r0_kinds v_r0_figures v_r0_days v_r0_hampers v_r0_wants0 v_r0_done0 v_r0_letters v_r0_letterMany v_r0_at v_r0_isBad v_r0_statements v_r0_placeIn v_r0_letterOf v_r0_told v_r0_kept v_r0_imaged v_r0_hasImage v_r0_place0 v_r0_isTaking v_r0_keptIn v_r0_turns0 v_r0_turnOf v_r0_turned v_r0_order0 v_r0_likely0 v_r0_leftThen v_r0_row v_r0_rowMany v_r0_seed r0_thrown r0_left0 r0_refusals)) (Qc := fun A => qI D (w_M_need cI a_r0 a_r0_left0 a_r0_refusals v_r0_weights v_r0_things v_r0_kinds v_r0_figures v_r0_days v_r0_hampers v_r0_wants0 v_r0_done0 v_r0_letters v_r0_letterMany v_r0_at v_r0_isBad v_r0_statements v_r0_placeIn v_r0_letterOf v_r0_told v_r0_kept v_r0_imaged v_r0_hasImage v_r0_place0 v_r0_isTaking v_r0_keptIn v_r0_turns0 v_r0_turnOf v_r0_turned v_r0_order0 v_r0_likely0 v_r0_leftThen v_r0_row v_r0_rowMany v_r0_seed o.2.1 r0_left0 o.2.2) o.1 A) rfl (Nat.le_of_ble_eq_true rfl) ?_ sz⟩
  intro p e s m below meth c A hA C hret ls hl hW
  have C : cx p s m ([.ref a_r0, .int x1] : List Value).toArray meth c b_M_need 4 R_M D (kTy cI cS) (Cond.code y_M_need b_M_need 4 (some FieldType.int)) := C
  obtain ⟨hx, hb, hml, hown, hts, hK, hlk, hN⟩ := id C
  have hl : lv_has ls 4 [(0, .ref a_r0), (1, .int x1)] := hl
  obtain ⟨Q, hQ⟩ : ∃ Q, Q = MQ below (qI D (w_M_need cI a_r0 a_r0_left0 a_r0_refusals v_r0_weights v_r0_things v_r0_kinds v_r0_figures v_r0_days v_r0_hampers v_r0_wants0 v_r0_done0 v_r0_letters v_r0_letterMany v_r0_at v_r0_isBad v_r0_statements v_r0_placeIn v_r0_letterOf v_r0_told v_r0_kept v_r0_imaged v_r0_hasImage v_r0_place0 v_r0_isTaking v_r0_keptIn v_r0_turns0 v_r0_turnOf v_r0_turned v_r0_order0 v_r0_likely0 v_r0_leftThen v_r0_row v_r0_rowMany v_r0_seed o.2.1 r0_left0 o.2.2) o.1 A) ([.ref a_r0, .int x1] : List Value).toArray s 0 0 A := ⟨_, rfl⟩
  rw [← hQ]
  refine lv_aload_n hx hb d_M_need_0 rfl (lv_at hl 0 rfl) ?_
  refine lv_iconst (v := 0) hx hb d_M_need_1 (by decide) ?_
  refine k_put i_M t_M_ok n_M C hW 0 rfl rfl 9 (by decide) qf_M_67 rfl rfl (ty := .int) rfl rfl rfl (Nat.le_of_ble_eq_true rfl) (ws' := (w_M_need cI a_r0 a_r0_left0 a_r0_refusals v_r0_weights v_r0_things v_r0_kinds v_r0_figures v_r0_days v_r0_hampers v_r0_wants0 v_r0_done0 v_r0_letters v_r0_letterMany v_r0_at v_r0_isBad v_r0_statements v_r0_placeIn v_r0_letterOf v_r0_told v_r0_kept v_r0_imaged v_r0_hasImage v_r0_place0 v_r0_isTaking v_r0_keptIn v_r0_turns0 v_r0_turnOf v_r0_turned v_r0_order0 v_r0_likely0 v_r0_leftThen v_r0_row v_r0_rowMany v_r0_seed 0 r0_left0 r0_refusals)) rfl d_M_need_2 (fun H locs hW => ?_)
  refine lv_iload_n hx hb d_M_need_5 rfl (lv_at hl 1 rfl) ?_
  refine lv_i2l hx hb d_M_need_6 rfl ?_
  refine lv_lconst (v := 0) hx hb d_M_need_7 (by decide) ?_
  refine lv_ldc2 (v := 2) hx hb hown (hts _ (List.mem_cons_of_mem _ (qc_M_265))) d_M_need_8 ?_
  obtain ⟨q_1, hc_1, hr⟩ := ob hr
  have ct_1 := C_M_in l D cI cS (Int32.toInt64 x1) 0 (2 : Int64) q_1 hc_1
  refine k_goIp hA hW [] rfl rfl (k_runS C hA hW mw_M_in ms_M_in (ct_1.2 _) [] rfl rfl qm_M_74 ⟨Nat.le_of_ble_eq_true rfl, Nat.le_of_ble_eq_true rfl, Nat.zero_le _, Nat.zero_le _⟩ rfl rfl (Nat.le_of_ble_eq_true rfl) hl.1 d_M_need_11) (fun H locs hW => ?_)
  refine lv_if_ne (tgt := 24) hx hb d_M_need_14 (by decide) (fun c_2 => ?_) (fun c_2 => ?_)
  · replace hr := iN c_2 hr
    refine lv_iconst (v := 0) hx hb d_M_need_24 (by decide) ?_
    refine lv_istore_n (lv' := [(2, .int 0), (0, .ref a_r0), (1, .int x1)]) hx hb d_M_need_25 rfl hl (by decide) rfl (fun ls hl => ?_)
    refine lv_iconst (v := 1) hx hb d_M_need_26 (by decide) ?_
    refine lv_istore_n (lv' := [(3, .int 1), (2, .int 0), (0, .ref a_r0), (1, .int x1)]) hx hb d_M_need_27 rfl hl (by decide) rfl (fun ls hl => ?_)
    obtain ⟨ex_3, hw_3, hk_3⟩ := ob hr
    have hx_3 : ∀ (e_3 : (Int32)), e_3 = ex_3 → ∀ (H : Heap) (locs : List Loc) (ls : Array Slot), wd A s.heap D (w_M_need cI a_r0 a_r0_left0 a_r0_refusals v_r0_weights v_r0_things v_r0_kinds v_r0_figures v_r0_days v_r0_hampers v_r0_wants0 v_r0_done0 v_r0_letters v_r0_letterMany v_r0_at v_r0_isBad v_r0_statements v_r0_placeIn v_r0_letterOf v_r0_told v_r0_kept v_r0_imaged v_r0_hasImage v_r0_place0 v_r0_isTaking v_r0_keptIn v_r0_turns0 v_r0_turnOf v_r0_turned v_r0_order0 v_r0_likely0 v_r0_leftThen v_r0_row v_r0_rowMany v_r0_seed 0 r0_left0 r0_refusals) H locs → lv_has ls 4 [(0, .ref a_r0), (1, .int x1), (2, .int e_3)] → W p l e (rmd 1) s m ([.ref a_r0, .int x1] : List Value).toArray below meth c H locs 0 0 Q (F0 m 60 ls []) := by
      intro e_3 hE H locs ls hW hl
      subst hE; have hr := hk_3
      refine lv_iload_n hx hb d_M_need_60 rfl (lv_at hl 1 rfl) ?_
      refine lv_if_ne (tgt := 68) hx hb d_M_need_61 (by decide) (fun c_8 => ?_) (fun c_8 => ?_)
      · replace hr := iN c_8 hr
        refine lv_iload_n hx hb d_M_need_68 rfl (lv_at hl 1 rfl) ?_
        refine lv_iconst (v := 1) hx hb d_M_need_69 (by decide) ?_
        refine lv_icmp_ne (tgt := 82) hx hb d_M_need_70 (by decide) (fun c_9 => ?_) (fun c_9 => ?_)
        · replace hr := iN c_9 hr
          refine lv_aload_n hx hb d_M_need_82 rfl (lv_at hl 0 rfl) ?_
          obtain ⟨q_10, hc_10, hr⟩ := ob hr
          have ct_10 := C_M_allLeft l D cI cS a_r0 a_r0_left0 v_r0_weights v_r0_things v_r0_kinds v_r0_figures v_r0_days v_r0_hampers v_r0_wants0 v_r0_done0 (Value.int 0) (Value.ref a_r0_refusals) v_r0_letters v_r0_letterMany v_r0_at v_r0_isBad v_r0_statements v_r0_placeIn v_r0_letterOf v_r0_told v_r0_kept v_r0_imaged v_r0_hasImage v_r0_place0 v_r0_isTaking v_r0_keptIn v_r0_turns0 v_r0_turnOf v_r0_turned v_r0_order0 v_r0_likely0 v_r0_leftThen v_r0_row v_r0_rowMany v_r0_seed r0_left0 q_10 hc_10
          refine k_goIp hA hW [0, 1] rfl rfl (k_runV C hA hW mw_M_allLeft mv_M_allLeft (ct_10.2 _) [0, 1] rfl rfl 0 rfl rfl qm_M_234 ⟨Nat.le_of_ble_eq_true rfl, Nat.le_of_ble_eq_true rfl, Nat.zero_le _, Nat.zero_le _⟩ rfl rfl (Nat.le_of_ble_eq_true rfl) hl.1 d_M_need_83) (fun H locs hW => ?_)
          obtain rfl := Option.some.inj hr
          rw [hQ]; exact k_iret C hret hW d_M_need_86
        · replace hr := ip c_9 hr
          refine lv_aload_n hx hb d_M_need_73 rfl (lv_at hl 0 rfl) ?_
          refine k_get i_M C hW 0 rfl rfl 7 (by decide) qf_M_25 rfl rfl d_M_need_74 ?_
          refine lv_iload_n hx hb d_M_need_77 rfl (lv_at hl 2 rfl) ?_
          obtain ⟨h_11, hr⟩ := ck_some hr
          refine k_iald C hW 1 rfl h_11 d_M_need_78 ?_
          refine lv_goto (tgt := 86) hx hb d_M_need_79 (by decide) ?_
          obtain rfl := Option.some.inj hr
          rw [hQ]; exact k_iret C hret hW d_M_need_86
      · replace hr := ip c_8 hr
        refine lv_iload_n hx hb d_M_need_64 rfl (lv_at hl 2 rfl) ?_
        refine lv_goto (tgt := 86) hx hb d_M_need_65 (by decide) ?_
        obtain rfl := Option.some.inj hr
        rw [hQ]; exact k_iret C hret hW d_M_need_86
    have hl_3 : ∀ (k : Nat) (y2_3 : Int32) (y3_3 : Int32), wh (fun (s : (Int32) × (Int32)) => F_M_need_L28 r0_left0 s.1 s.2) k (y2_3, y3_3) = some ex_3 → ∀ (H : Heap) (locs : List Loc) (ls : Array Slot), wd A s.heap D (w_M_need cI a_r0 a_r0_left0 a_r0_refusals v_r0_weights v_r0_things v_r0_kinds v_r0_figures v_r0_days v_r0_hampers v_r0_wants0 v_r0_done0 v_r0_letters v_r0_letterMany v_r0_at v_r0_isBad v_r0_statements v_r0_placeIn v_r0_letterOf v_r0_told v_r0_kept v_r0_imaged v_r0_hasImage v_r0_place0 v_r0_isTaking v_r0_keptIn v_r0_turns0 v_r0_turnOf v_r0_turned v_r0_order0 v_r0_likely0 v_r0_leftThen v_r0_row v_r0_rowMany v_r0_seed 0 r0_left0 r0_refusals) H locs → lv_has ls 4 [(0, .ref a_r0), (1, .int x1), (2, .int y2_3), (3, .int y3_3)] → W p l e (rmd 1) s m ([.ref a_r0, .int x1] : List Value).toArray below meth c H locs 0 0 Q (F0 m 28 ls []) := by
      intro k
      induction k with
      | zero => intro y2_3 y3_3 hw; exact absurd hw wh_0
      | succ k ih_3 =>
        intro y2_3 y3_3 hw H locs ls hW hl
        obtain ⟨z_3, hr, hz1_3, hz2_3⟩ := wh_s hw
        have hr : F_M_need_L28 r0_left0 y2_3 y3_3 = some z_3 := hr
        unfold F_M_need_L28 at hr
        refine lv_iload_n hx hb d_M_need_28 rfl (lv_at hl 3 rfl) ?_
        refine lv_iconst (v := 4) hx hb d_M_need_29 (by decide) ?_
        refine lv_icmp_ge (tgt := 60) hx hb d_M_need_30 (by decide) (fun c_4 => ?_) (fun c_4 => ?_)
        · replace hr := ip c_4 hr
          exact hx_3 _ (hz2_3 _ (Option.some.inj hr).symm) _ _ _ hW (lv_sub hl [0, 1, 2] rfl)
        · replace hr := iN c_4 hr
          refine lv_aload_n hx hb d_M_need_33 rfl (lv_at hl 0 rfl) ?_
          refine k_get i_M C hW 0 rfl rfl 7 (by decide) qf_M_25 rfl rfl d_M_need_34 ?_
          refine lv_iload_n hx hb d_M_need_37 rfl (lv_at hl 3 rfl) ?_
          obtain ⟨h_5, hr⟩ := ck_some hr
          refine k_iald C hW 1 rfl h_5 d_M_need_38 ?_
          refine lv_aload_n hx hb d_M_need_39 rfl (lv_at hl 0 rfl) ?_
          refine k_get i_M C hW 0 rfl rfl 7 (by decide) qf_M_25 rfl rfl d_M_need_40 ?_
          refine lv_iload_n hx hb d_M_need_43 rfl (lv_at hl 2 rfl) ?_
          obtain ⟨h_6, hr⟩ := ck_some hr
          refine k_iald C hW 1 rfl h_6 d_M_need_44 ?_
          refine lv_icmp_le (tgt := 52) hx hb d_M_need_45 (by decide) (fun c_7 => ?_) (fun c_7 => ?_)
          · replace hr := ip c_7 hr
            refine lv_iload_n hx hb d_M_need_52 rfl (lv_at hl 2 rfl) ?_
            refine lv_istore_n (lv' := [(2, .int y2_3), (0, .ref a_r0), (1, .int x1), (3, .int y3_3)]) hx hb d_M_need_53 rfl hl (by decide) rfl (fun ls hl => ?_)
            refine lv_iinc (v := (y3_3 + 1)) (lv' := [(3, .int (y3_3 + 1)), (2, .int y2_3), (0, .ref a_r0), (1, .int x1)]) hx hb d_M_need_54 hl (k := 3) rfl rfl (by decide) rfl (fun ls hl => ?_)
            refine lv_goto (tgt := 28) hx hb d_M_need_57 (by decide) ?_
            exact ih_3 y2_3 (y3_3 + 1) (hz1_3 _ (Option.some.inj hr).symm) _ _ _ hW (lv_sub hl [2, 3, 1, 0] rfl)
          · replace hr := iN c_7 hr
            refine lv_iload_n hx hb d_M_need_48 rfl (lv_at hl 3 rfl) ?_
            refine lv_goto (tgt := 53) hx hb d_M_need_49 (by decide) ?_
            refine lv_istore_n (lv' := [(2, .int y3_3), (0, .ref a_r0), (1, .int x1), (3, .int y3_3)]) hx hb d_M_need_53 rfl hl (by decide) rfl (fun ls hl => ?_)
            refine lv_iinc (v := (y3_3 + 1)) (lv' := [(3, .int (y3_3 + 1)), (2, .int y3_3), (0, .ref a_r0), (1, .int x1)]) hx hb d_M_need_54 hl (k := 3) rfl rfl (by decide) rfl (fun ls hl => ?_)
            refine lv_goto (tgt := 28) hx hb d_M_need_57 (by decide) ?_
            exact ih_3 y3_3 (y3_3 + 1) (hz1_3 _ (Option.some.inj hr).symm) _ _ _ hW (lv_sub hl [2, 3, 1, 0] rfl)
    exact hl_3 _ 0 1 hw_3 _ _ _ hW (lv_sub hl [2, 3, 1, 0] rfl)
  · replace hr := ip c_2 hr
    refine lv_aload_n hx hb d_M_need_17 rfl (lv_at hl 0 rfl) ?_
    refine lv_bipush (v := (-2)) hx hb d_M_need_18 (by decide) ?_
    obtain ⟨q_12, hc_12, hr⟩ := ob hr
    have ct_12 := C_M_refuse l D cI cS a_r0 a_r0_refusals v_r0_weights v_r0_things v_r0_kinds v_r0_figures v_r0_days v_r0_hampers v_r0_wants0 (Value.ref a_r0_left0) v_r0_done0 (Value.int 0) v_r0_letters v_r0_letterMany v_r0_at v_r0_isBad v_r0_statements v_r0_placeIn v_r0_letterOf v_r0_told v_r0_kept v_r0_imaged v_r0_hasImage v_r0_place0 v_r0_isTaking v_r0_keptIn v_r0_turns0 v_r0_turnOf v_r0_turned v_r0_order0 v_r0_likely0 v_r0_leftThen v_r0_row v_r0_rowMany v_r0_seed r0_refusals (-2) q_12 hc_12
    refine k_goI hA hW [0, 2] rfl ct_12.1 (ws' := (w_M_need cI a_r0 a_r0_left0 a_r0_refusals v_r0_weights v_r0_things v_r0_kinds v_r0_figures v_r0_days v_r0_hampers v_r0_wants0 v_r0_done0 v_r0_letters v_r0_letterMany v_r0_at v_r0_isBad v_r0_statements v_r0_placeIn v_r0_letterOf v_r0_told v_r0_kept v_r0_imaged v_r0_hasImage v_r0_place0 v_r0_isTaking v_r0_keptIn v_r0_turns0 v_r0_turnOf v_r0_turned v_r0_order0 v_r0_likely0 v_r0_leftThen v_r0_row v_r0_rowMany v_r0_seed 0 r0_left0 q_12.2)) rfl (k_runV C hA hW mw_M_refuse mv_M_refuse (ct_12.2 _) [0, 2] rfl rfl 0 rfl rfl qm_M_108 ⟨Nat.le_of_ble_eq_true rfl, Nat.le_of_ble_eq_true rfl, Nat.zero_le _, Nat.zero_le _⟩ rfl rfl (Nat.le_of_ble_eq_true rfl) hl.1 d_M_need_20) (fun H locs hW => ?_)
    obtain rfl := Option.some.inj hr
    rw [hQ]; exact k_iret C hret hW d_M_need_23
def w_M_odds (cI : ClassId) (a_r0 : Nat) (a_r0_figures : Nat) (a_r0_hampers : Nat) (a_r0_kinds : Nat) (a_r0_refusals : Nat) (a_r0_weights : Nat) (v_r0_wants0 v_r0_left0 v_r0_done0 v_r0_letters v_r0_letterMany v_r0_at v_r0_isBad v_r0_statements v_r0_placeIn v_r0_letterOf v_r0_told v_r0_kept v_r0_imaged v_r0_hasImage v_r0_place0 v_r0_isTaking v_r0_keptIn v_r0_turns0 v_r0_turnOf v_r0_turned v_r0_order0 v_r0_likely0 v_r0_leftThen v_r0_row v_r0_rowMany v_r0_seed : Value) (r0_days : Int32) (r0_things : Int32) (r0_thrown : Int32) (r0_figures : Nat → Int32) (r0_hampers : Nat → Int32) (r0_kinds : Nat → Int32) (r0_refusals : Nat → Int32) (r0_weights : Nat → Int32) : va_W := [(a_r0, .inr (9, [.ref a_r0_weights, .int r0_things, .ref a_r0_kinds, .ref a_r0_figures, .int r0_days, .ref a_r0_hampers, v_r0_wants0, v_r0_left0, v_r0_done0, .int r0_thrown, .ref a_r0_refusals, v_r0_letters, v_r0_letterMany, v_r0_at, v_r0_isBad, v_r0_statements, v_r0_placeIn, v_r0_letterOf, v_r0_told, v_r0_kept, v_r0_imaged, v_r0_hasImage, v_r0_place0, v_r0_isTaking, v_r0_keptIn, v_r0_turns0, v_r0_turnOf, v_r0_turned, v_r0_order0, v_r0_likely0, v_r0_leftThen, v_r0_row, v_r0_rowMany, v_r0_seed])), (a_r0_figures, .inl (cI, 8, .inl r0_figures)), (a_r0_hampers, .inl (cI, 8, .inl r0_hampers)), (a_r0_kinds, .inl (cI, 8, .inl r0_kinds)), (a_r0_refusals, .inl (cI, 7, .inl r0_refusals)), (a_r0_weights, .inl (cI, 6, .inl r0_weights))]
def F_M_odds_J86_10 (r0_refusals : Nat → Int32) (r0_weights : Nat → Int32) (q_7 : Int32) (x3 : Int32) (s0_10 : Int64) : Option (Int64 × (Int32) × (Nat → Int32)) :=
  ((F_M_weightOf r0_weights q_7).bind (fun q_11 => ((F_M_partOf s0_10 (Int32.toInt64 q_11) x3).bind (fun q_12 => (some (q_12, 0, r0_refusals))))))
def F_M_odds_J30_3 (r0_things : Int32) (r0_figures : Nat → Int32) (r0_hampers : Nat → Int32) (r0_kinds : Nat → Int32) (r0_refusals : Nat → Int32) (r0_weights : Nat → Int32) (x1 : Int32) (x2 : Int32) (x3 : Int32) (s0_3 : Int32) : Option (Int64 × (Int32) × (Nat → Int32)) :=
  ((F_M_wrongBit s0_3 x3 (1 : Int32)).bind (fun q_4 => (if (0 : Int32) ≤ q_4 then (ck x1 8 ((F_M_couldBe r0_things r0_figures r0_kinds (r0_hampers (Int32.toNatClampNeg x1))).bind (fun q_7 => ((F_M_hasBit q_7 x2).bind (fun q_8 => (if q_8 = 0 then (F_M_odds_J86_10 r0_refusals r0_weights q_7 x3 0) else (ck x2 6 (F_M_odds_J86_10 r0_refusals r0_weights q_7 x3 (Int32.toInt64 (r0_weights (Int32.toNatClampNeg x2))))))))))) else ((F_M_refuse r0_refusals q_4).bind (fun q_14 => (some ((((4000000000000000000 : Int64) : Int64) - (Int32.toInt64 q_14.1)), 0, q_14.2)))))))
def F_M_odds_J29_15 (r0_things : Int32) (r0_figures : Nat → Int32) (r0_hampers : Nat → Int32) (r0_kinds : Nat → Int32) (r0_refusals : Nat → Int32) (r0_weights : Nat → Int32) (x1 : Int32) (x2 : Int32) (x3 : Int32) : Option (Int64 × (Int32) × (Nat → Int32)) :=
  (F_M_odds_J30_3 r0_things r0_figures r0_hampers r0_kinds r0_refusals r0_weights x1 x2 x3 (-1))
def F_M_odds (r0_days : Int32) (r0_things : Int32) (r0_figures : Nat → Int32) (r0_hampers : Nat → Int32) (r0_kinds : Nat → Int32) (r0_refusals : Nat → Int32) (r0_weights : Nat → Int32) (x1 : Int32) (x2 : Int32) (x3 : Int32) : Option (Int64 × (Int32) × (Nat → Int32)) :=
  ((F_M_isDay r0_days x1).bind (fun q_1 => (if q_1 = 0 then (F_M_odds_J29_15 r0_things r0_figures r0_hampers r0_kinds r0_refusals r0_weights x1 x2 x3) else ((F_M_in (Int32.toInt64 x2) (0 : Int64) (5 : Int64)).bind (fun q_16 => (if q_16 = 0 then (F_M_odds_J29_15 r0_things r0_figures r0_hampers r0_kinds r0_refusals r0_weights x1 x2 x3) else (F_M_odds_J30_3 r0_things r0_figures r0_hampers r0_kinds r0_refusals r0_weights x1 x2 x3 0)))))))
set_option maxHeartbeats 4000000 in
set_option maxRecDepth 100000 in
theorem C_M_odds (l : Launch) (D : va_G) (cI cS : ClassId) (a_r0 : Nat) (a_r0_figures : Nat) (a_r0_hampers : Nat) (a_r0_kinds : Nat) (a_r0_refusals : Nat) (a_r0_weights : Nat) (v_r0_wants0 v_r0_left0 v_r0_done0 v_r0_letters v_r0_letterMany v_r0_at v_r0_isBad v_r0_statements v_r0_placeIn v_r0_letterOf v_r0_told v_r0_kept v_r0_imaged v_r0_hasImage v_r0_place0 v_r0_isTaking v_r0_keptIn v_r0_turns0 v_r0_turnOf v_r0_turned v_r0_order0 v_r0_likely0 v_r0_leftThen v_r0_row v_r0_rowMany v_r0_seed : Value) (r0_days : Int32) (r0_things : Int32) (r0_thrown : Int32) (r0_figures : Nat → Int32) (r0_hampers : Nat → Int32) (r0_kinds : Nat → Int32) (r0_refusals : Nat → Int32) (r0_weights : Nat → Int32) (x1 : Int32) (x2 : Int32) (x3 : Int32) (o : Int64 × (Int32) × (Nat → Int32)) (hr : F_M_odds r0_days r0_things r0_figures r0_hampers r0_kinds r0_refusals r0_weights x1 x2 x3 = some o) : ctL l y_M_odds (Cond.code y_M_odds b_M_odds 6 (some FieldType.long)) (rmd 3) D (kTy cI cS) [.ref a_r0, .int x1, .int x2, .int x3] (w_M_odds cI a_r0 a_r0_figures a_r0_hampers a_r0_kinds a_r0_refusals a_r0_weights v_r0_wants0 v_r0_left0 v_r0_done0 v_r0_letters v_r0_letterMany v_r0_at v_r0_isBad v_r0_statements v_r0_placeIn v_r0_letterOf v_r0_told v_r0_kept v_r0_imaged v_r0_hasImage v_r0_place0 v_r0_isTaking v_r0_keptIn v_r0_turns0 v_r0_turnOf v_r0_turned v_r0_order0 v_r0_likely0 v_r0_leftThen v_r0_row v_r0_rowMany v_r0_seed r0_days r0_things r0_thrown r0_figures r0_hampers r0_kinds r0_refusals r0_weights) (w_M_odds cI a_r0 a_r0_figures a_r0_hampers a_r0_kinds a_r0_refusals a_r0_weights v_r0_wants0 v_r0_left0 v_r0_done0 v_r0_letters v_r0_letterMany v_r0_at v_r0_isBad v_r0_statements v_r0_placeIn v_r0_letterOf v_r0_told v_r0_kept v_r0_imaged v_r0_hasImage v_r0_place0 v_r0_isTaking v_r0_keptIn v_r0_turns0 v_r0_turnOf v_r0_turned v_r0_order0 v_r0_likely0 v_r0_leftThen v_r0_row v_r0_rowMany v_r0_seed r0_days r0_things o.2.1 r0_figures r0_hampers r0_kinds o.2.2 r0_weights) o.1 := by
  unfold F_M_odds at hr
  refine ⟨rfl, fun sz => ct_of (w0 := (w_M_odds cI a_r0 a_r0_figures a_r0_hampers a_r0_kinds a_r0_refusals a_r0_weights v_r0_wants0 v_r0_left0 v_r0_done0 v_r0_letters v_r0_letterMany v_r0_at v_r0_isBad v_r0_statements v_r0_placeIn v_r0_letterOf v_r0_told v_r0_kept v_r0_imaged v_r0_hasImage v_r0_place0 v_r0_isTaking v_r0_keptIn v_r0_turns0 v_r0_turnOf v_r0_turned v_r0_order0 v_r0_likely0 v_r0_leftThen v_r0_row v_r0_rowMany v_r0_seed r0_days r0_things r0_thrown r0_figures r0_hampers r0_kinds r0_refusals r0_weights)) (Qc := fun A => qL D (w_M_odds cI a_r0 a_r0_figures a_r0_hampers a_r0_kinds a_r0_refusals a_r0_weights v_r0_wants0 v_r0_left0 v_r0_done0 v_r0_letters v_r0_letterMany v_r0_at v_r0_isBad v_r0_statements v_r0_placeIn v_r0_letterOf v_r0_told v_r0_kept v_r0_imaged v_r0_hasImage v_r0_place0 v_r0_isTaking v_r0_keptIn v_r0_turns0 v_r0_turnOf v_r0_turned v_r0_order0 v_r0_likely0 v_r0_leftThen v_r0_row v_r0_rowMany v_r0_seed r0_days r0_things o.2.1 r0_figures r0_hampers r0_kinds o.2.2 r0_weights) o.1 A) rfl (Nat.le_of_ble_eq_true rfl) ?_ sz⟩
  intro p e s m below meth c A hA C hret ls hl hW
  have C : cx p s m ([.ref a_r0, .int x1, .int x2, .int x3] : List Value).toArray meth c b_M_odds 6 R_M D (kTy cI cS) (Cond.code y_M_odds b_M_odds 6 (some FieldType.long)) := C
  obtain ⟨hx, hb, hml, hown, hts, hK, hlk, hN⟩ := id C
  have hl : lv_has ls 6 [(0, .ref a_r0), (1, .int x1), (2, .int x2), (3, .int x3)] := hl
  obtain ⟨Q, hQ⟩ : ∃ Q, Q = MQ below (qL D (w_M_odds cI a_r0 a_r0_figures a_r0_hampers a_r0_kinds a_r0_refusals a_r0_weights v_r0_wants0 v_r0_left0 v_r0_done0 v_r0_letters v_r0_letterMany v_r0_at v_r0_isBad v_r0_statements v_r0_placeIn v_r0_letterOf v_r0_told v_r0_kept v_r0_imaged v_r0_hasImage v_r0_place0 v_r0_isTaking v_r0_keptIn v_r0_turns0 v_r0_turnOf v_r0_turned v_r0_order0 v_r0_likely0 v_r0_leftThen v_r0_row v_r0_rowMany v_r0_seed r0_days r0_things o.2.1 r0_figures r0_hampers r0_kinds o.2.2 r0_weights) o.1 A) ([.ref a_r0, .int x1, .int x2, .int x3] : List Value).toArray s 0 0 A := ⟨_, rfl⟩
  rw [← hQ]
  refine lv_aload_n hx hb d_M_odds_0 rfl (lv_at hl 0 rfl) ?_
  refine lv_iconst (v := 0) hx hb d_M_odds_1 (by decide) ?_
  refine k_put i_M t_M_ok n_M C hW 0 rfl rfl 9 (by decide) qf_M_67 rfl rfl (ty := .int) rfl rfl rfl (Nat.le_of_ble_eq_true rfl) (ws' := (w_M_odds cI a_r0 a_r0_figures a_r0_hampers a_r0_kinds a_r0_refusals a_r0_weights v_r0_wants0 v_r0_left0 v_r0_done0 v_r0_letters v_r0_letterMany v_r0_at v_r0_isBad v_r0_statements v_r0_placeIn v_r0_letterOf v_r0_told v_r0_kept v_r0_imaged v_r0_hasImage v_r0_place0 v_r0_isTaking v_r0_keptIn v_r0_turns0 v_r0_turnOf v_r0_turned v_r0_order0 v_r0_likely0 v_r0_leftThen v_r0_row v_r0_rowMany v_r0_seed r0_days r0_things 0 r0_figures r0_hampers r0_kinds r0_refusals r0_weights)) rfl d_M_odds_2 (fun H locs hW => ?_)
  refine lv_aload_n hx hb d_M_odds_5 rfl (lv_at hl 0 rfl) ?_
  refine lv_iload_n hx hb d_M_odds_6 rfl (lv_at hl 1 rfl) ?_
  obtain ⟨q_1, hc_1, hr⟩ := ob hr
  have ct_1 := C_M_isDay l D cI cS a_r0 (Value.ref a_r0_weights) (Value.int r0_things) (Value.ref a_r0_kinds) (Value.ref a_r0_figures) (Value.ref a_r0_hampers) v_r0_wants0 v_r0_left0 v_r0_done0 (Value.int 0) (Value.ref a_r0_refusals) v_r0_letters v_r0_letterMany v_r0_at v_r0_isBad v_r0_statements v_r0_placeIn v_r0_letterOf v_r0_told v_r0_kept v_r0_imaged v_r0_hasImage v_r0_place0 v_r0_isTaking v_r0_keptIn v_r0_turns0 v_r0_turnOf v_r0_turned v_r0_order0 v_r0_likely0 v_r0_leftThen v_r0_row v_r0_rowMany v_r0_seed r0_days x1 q_1 hc_1
  refine k_goIp hA hW [0] rfl rfl (k_runV C hA hW mw_M_isDay mv_M_isDay (ct_1.2 _) [0] rfl rfl 0 rfl rfl qm_M_150 ⟨Nat.le_of_ble_eq_true rfl, Nat.le_of_ble_eq_true rfl, Nat.zero_le _, Nat.zero_le _⟩ rfl rfl (Nat.le_of_ble_eq_true rfl) hl.1 d_M_odds_7) (fun H locs hW => ?_)
  have hJ_3 : ∀ (s0_3 : Int32), F_M_odds_J30_3 r0_things r0_figures r0_hampers r0_kinds r0_refusals r0_weights x1 x2 x3 s0_3 = some o → ∀ (H : Heap) (locs : List Loc) (ls : Array Slot), wd A s.heap D (w_M_odds cI a_r0 a_r0_figures a_r0_hampers a_r0_kinds a_r0_refusals a_r0_weights v_r0_wants0 v_r0_left0 v_r0_done0 v_r0_letters v_r0_letterMany v_r0_at v_r0_isBad v_r0_statements v_r0_placeIn v_r0_letterOf v_r0_told v_r0_kept v_r0_imaged v_r0_hasImage v_r0_place0 v_r0_isTaking v_r0_keptIn v_r0_turns0 v_r0_turnOf v_r0_turned v_r0_order0 v_r0_likely0 v_r0_leftThen v_r0_row v_r0_rowMany v_r0_seed r0_days r0_things 0 r0_figures r0_hampers r0_kinds r0_refusals r0_weights) H locs → lv_has ls 6 [(0, .ref a_r0), (1, .int x1), (2, .int x2), (3, .int x3)] → W p l e (rmd 3) s m ([.ref a_r0, .int x1, .int x2, .int x3] : List Value).toArray below meth c H locs 0 0 Q (F0 m 30 ls [.int s0_3]) := by
    intro s0_3 hr H locs ls hW hl
    unfold F_M_odds_J30_3 at hr
    refine lv_iload_n hx hb d_M_odds_30 rfl (lv_at hl 3 rfl) ?_
    refine lv_iconst (v := 1) hx hb d_M_odds_31 (by decide) ?_
    obtain ⟨q_4, hc_4, hr⟩ := ob hr
    have ct_4 := C_M_wrongBit l D cI cS s0_3 x3 1 q_4 hc_4
    refine k_goIp hA hW [] rfl rfl (k_runS C hA hW mw_M_wrongBit ms_M_wrongBit (ct_4.2 _) [] rfl rfl qm_M_219 ⟨Nat.le_of_ble_eq_true rfl, Nat.le_of_ble_eq_true rfl, Nat.zero_le _, Nat.zero_le _⟩ rfl rfl (Nat.le_of_ble_eq_true rfl) hl.1 d_M_odds_32) (fun H locs hW => ?_)
    refine lv_istore (lv' := [(4, .int q_4), (0, .ref a_r0), (1, .int x1), (2, .int x2), (3, .int x3)]) hx hb d_M_odds_35 hl (by decide) rfl (fun ls hl => ?_)
    refine lv_iload hx hb d_M_odds_37 (lv_at hl 0 rfl) ?_
    refine lv_if_ge (tgt := 54) hx hb d_M_odds_39 (by decide) (fun c_5 => ?_) (fun c_5 => ?_)
    · replace hr := ip c_5 hr
      refine lv_aload_n hx hb d_M_odds_54 rfl (lv_at hl 1 rfl) ?_
      refine lv_aload_n hx hb d_M_odds_55 rfl (lv_at hl 1 rfl) ?_
      refine k_get i_M C hW 0 rfl rfl 5 (by decide) qf_M_19 rfl rfl d_M_odds_56 ?_
      refine lv_iload_n hx hb d_M_odds_59 rfl (lv_at hl 2 rfl) ?_
      obtain ⟨h_6, hr⟩ := ck_some hr
      refine k_iald C hW 2 rfl h_6 d_M_odds_60 ?_
      obtain ⟨q_7, hc_7, hr⟩ := ob hr
      have ct_7 := C_M_couldBe l D cI cS a_r0 a_r0_figures a_r0_kinds (Value.ref a_r0_weights) (Value.int r0_days) (Value.ref a_r0_hampers) v_r0_wants0 v_r0_left0 v_r0_done0 (Value.int 0) (Value.ref a_r0_refusals) v_r0_letters v_r0_letterMany v_r0_at v_r0_isBad v_r0_statements v_r0_placeIn v_r0_letterOf v_r0_told v_r0_kept v_r0_imaged v_r0_hasImage v_r0_place0 v_r0_isTaking v_r0_keptIn v_r0_turns0 v_r0_turnOf v_r0_turned v_r0_order0 v_r0_likely0 v_r0_leftThen v_r0_row v_r0_rowMany v_r0_seed r0_things r0_figures r0_kinds (r0_hampers (Int32.toNatClampNeg x1)) q_7 hc_7
      refine k_goIp hA hW [0, 1, 3] rfl rfl (k_runV C hA hW mw_M_couldBe mv_M_couldBe (ct_7.2 _) [0, 1, 3] rfl rfl 0 rfl rfl qm_M_99 ⟨Nat.le_of_ble_eq_true rfl, Nat.le_of_ble_eq_true rfl, Nat.zero_le _, Nat.zero_le _⟩ rfl rfl (Nat.le_of_ble_eq_true rfl) hl.1 d_M_odds_61) (fun H locs hW => ?_)
      refine lv_istore (lv' := [(5, .int q_7), (4, .int q_4), (0, .ref a_r0), (1, .int x1), (2, .int x2), (3, .int x3)]) hx hb d_M_odds_64 hl (by decide) rfl (fun ls hl => ?_)
      refine lv_iload hx hb d_M_odds_66 (lv_at hl 0 rfl) ?_
      refine lv_iload_n hx hb d_M_odds_68 rfl (lv_at hl 4 rfl) ?_
      obtain ⟨q_8, hc_8, hr⟩ := ob hr
      have ct_8 := C_M_hasBit l D cI cS q_7 x2 q_8 hc_8
      refine k_goIp hA hW [] rfl rfl (k_runS C hA hW mw_M_hasBit ms_M_hasBit (ct_8.2 _) [] rfl rfl qm_M_85 ⟨Nat.le_of_ble_eq_true rfl, Nat.le_of_ble_eq_true rfl, Nat.zero_le _, Nat.zero_le _⟩ rfl rfl (Nat.le_of_ble_eq_true rfl) hl.1 d_M_odds_69) (fun H locs hW => ?_)
      have hJ_10 : ∀ (s0_10 : Int64), F_M_odds_J86_10 r0_refusals r0_weights q_7 x3 s0_10 = some o → ∀ (H : Heap) (locs : List Loc) (ls : Array Slot), wd A s.heap D (w_M_odds cI a_r0 a_r0_figures a_r0_hampers a_r0_kinds a_r0_refusals a_r0_weights v_r0_wants0 v_r0_left0 v_r0_done0 v_r0_letters v_r0_letterMany v_r0_at v_r0_isBad v_r0_statements v_r0_placeIn v_r0_letterOf v_r0_told v_r0_kept v_r0_imaged v_r0_hasImage v_r0_place0 v_r0_isTaking v_r0_keptIn v_r0_turns0 v_r0_turnOf v_r0_turned v_r0_order0 v_r0_likely0 v_r0_leftThen v_r0_row v_r0_rowMany v_r0_seed r0_days r0_things 0 r0_figures r0_hampers r0_kinds r0_refusals r0_weights) H locs → lv_has ls 6 [(0, .ref a_r0), (3, .int x3), (5, .int q_7)] → W p l e (rmd 3) s m ([.ref a_r0, .int x1, .int x2, .int x3] : List Value).toArray below meth c H locs 0 0 Q (F0 m 86 ls [.long s0_10]) := by
        intro s0_10 hr H locs ls hW hl
        unfold F_M_odds_J86_10 at hr
        refine lv_aload_n hx hb d_M_odds_86 rfl (lv_at hl 0 rfl) ?_
        refine lv_iload hx hb d_M_odds_87 (lv_at hl 2 rfl) ?_
        obtain ⟨q_11, hc_11, hr⟩ := ob hr
        have ct_11 := C_M_weightOf l D cI cS a_r0 a_r0_weights (Value.int r0_things) (Value.ref a_r0_kinds) (Value.ref a_r0_figures) (Value.int r0_days) (Value.ref a_r0_hampers) v_r0_wants0 v_r0_left0 v_r0_done0 (Value.int 0) (Value.ref a_r0_refusals) v_r0_letters v_r0_letterMany v_r0_at v_r0_isBad v_r0_statements v_r0_placeIn v_r0_letterOf v_r0_told v_r0_kept v_r0_imaged v_r0_hasImage v_r0_place0 v_r0_isTaking v_r0_keptIn v_r0_turns0 v_r0_turnOf v_r0_turned v_r0_order0 v_r0_likely0 v_r0_leftThen v_r0_row v_r0_rowMany v_r0_seed r0_weights q_7 q_11 hc_11
        refine k_goIp hA hW [0, 5] rfl rfl (k_runV C hA hW mw_M_weightOf mv_M_weightOf (ct_11.2 _) [0, 5] rfl rfl 0 rfl rfl qm_M_224 ⟨Nat.le_of_ble_eq_true rfl, Nat.le_of_ble_eq_true rfl, Nat.zero_le _, Nat.zero_le _⟩ rfl rfl (Nat.le_of_ble_eq_true rfl) hl.1 d_M_odds_89) (fun H locs hW => ?_)
        refine lv_i2l hx hb d_M_odds_92 rfl ?_
        refine lv_iload_n hx hb d_M_odds_93 rfl (lv_at hl 1 rfl) ?_
        obtain ⟨q_12, hc_12, hr⟩ := ob hr
        have ct_12 := C_M_partOf l D cI cS s0_10 (Int32.toInt64 q_11) x3 q_12 hc_12
        refine k_goLp hA hW [] rfl rfl (k_runS C hA hW mw_M_partOf ms_M_partOf (ct_12.2 _) [] rfl rfl qm_M_227 ⟨Nat.le_of_ble_eq_true rfl, Nat.le_of_ble_eq_true rfl, Nat.zero_le _, Nat.zero_le _⟩ rfl rfl (Nat.le_of_ble_eq_true rfl) hl.1 d_M_odds_94) (fun H locs hW => ?_)
        obtain rfl := Option.some.inj hr
        rw [hQ]; exact k_lret C hret hW d_M_odds_97
      refine lv_if_eq (tgt := 85) hx hb d_M_odds_72 (by decide) (fun c_9 => ?_) (fun c_9 => ?_)
      · replace hr := ip c_9 hr
        refine lv_lconst (v := 0) hx hb d_M_odds_85 (by decide) ?_
        exact hJ_10 0 hr _ _ _ hW (lv_sub hl [2, 5, 0] rfl)
      · replace hr := iN c_9 hr
        refine lv_aload_n hx hb d_M_odds_75 rfl (lv_at hl 2 rfl) ?_
        refine k_get i_M C hW 0 rfl rfl 0 (by decide) qf_M_7 rfl rfl d_M_odds_76 ?_
        refine lv_iload_n hx hb d_M_odds_79 rfl (lv_at hl 4 rfl) ?_
        obtain ⟨h_13, hr⟩ := ck_some hr
        refine k_iald C hW 5 rfl h_13 d_M_odds_80 ?_
        refine lv_i2l hx hb d_M_odds_81 rfl ?_
        refine lv_goto (tgt := 86) hx hb d_M_odds_82 (by decide) ?_
        exact hJ_10 (Int32.toInt64 (r0_weights (Int32.toNatClampNeg x2))) hr _ _ _ hW (lv_sub hl [2, 5, 0] rfl)
    · replace hr := iN c_5 hr
      refine lv_ldc2 (v := 4000000000000000000) hx hb hown (hts _ (List.mem_cons_of_mem _ (qc_M_222))) d_M_odds_42 ?_
      refine lv_aload_n hx hb d_M_odds_45 rfl (lv_at hl 1 rfl) ?_
      refine lv_iload hx hb d_M_odds_46 (lv_at hl 0 rfl) ?_
      obtain ⟨q_14, hc_14, hr⟩ := ob hr
      have ct_14 := C_M_refuse l D cI cS a_r0 a_r0_refusals (Value.ref a_r0_weights) (Value.int r0_things) (Value.ref a_r0_kinds) (Value.ref a_r0_figures) (Value.int r0_days) (Value.ref a_r0_hampers) v_r0_wants0 v_r0_left0 v_r0_done0 (Value.int 0) v_r0_letters v_r0_letterMany v_r0_at v_r0_isBad v_r0_statements v_r0_placeIn v_r0_letterOf v_r0_told v_r0_kept v_r0_imaged v_r0_hasImage v_r0_place0 v_r0_isTaking v_r0_keptIn v_r0_turns0 v_r0_turnOf v_r0_turned v_r0_order0 v_r0_likely0 v_r0_leftThen v_r0_row v_r0_rowMany v_r0_seed r0_refusals q_4 q_14 hc_14
      refine k_goI hA hW [0, 4] rfl ct_14.1 (ws' := (w_M_odds cI a_r0 a_r0_figures a_r0_hampers a_r0_kinds a_r0_refusals a_r0_weights v_r0_wants0 v_r0_left0 v_r0_done0 v_r0_letters v_r0_letterMany v_r0_at v_r0_isBad v_r0_statements v_r0_placeIn v_r0_letterOf v_r0_told v_r0_kept v_r0_imaged v_r0_hasImage v_r0_place0 v_r0_isTaking v_r0_keptIn v_r0_turns0 v_r0_turnOf v_r0_turned v_r0_order0 v_r0_likely0 v_r0_leftThen v_r0_row v_r0_rowMany v_r0_seed r0_days r0_things 0 r0_figures r0_hampers r0_kinds q_14.2 r0_weights)) rfl (k_runV C hA hW mw_M_refuse mv_M_refuse (ct_14.2 _) [0, 4] rfl rfl 0 rfl rfl qm_M_108 ⟨Nat.le_of_ble_eq_true rfl, Nat.le_of_ble_eq_true rfl, Nat.zero_le _, Nat.zero_le _⟩ rfl rfl (Nat.le_of_ble_eq_true rfl) hl.1 d_M_odds_48) (fun H locs hW => ?_)
      refine lv_i2l hx hb d_M_odds_51 rfl ?_
      refine lv_lsub hx hb d_M_odds_52 ?_
      obtain rfl := Option.some.inj hr
      rw [hQ]; exact k_lret C hret hW d_M_odds_53
  have hJ_15 : ∀ (_ : Unit), F_M_odds_J29_15 r0_things r0_figures r0_hampers r0_kinds r0_refusals r0_weights x1 x2 x3 = some o → ∀ (H : Heap) (locs : List Loc) (ls : Array Slot), wd A s.heap D (w_M_odds cI a_r0 a_r0_figures a_r0_hampers a_r0_kinds a_r0_refusals a_r0_weights v_r0_wants0 v_r0_left0 v_r0_done0 v_r0_letters v_r0_letterMany v_r0_at v_r0_isBad v_r0_statements v_r0_placeIn v_r0_letterOf v_r0_told v_r0_kept v_r0_imaged v_r0_hasImage v_r0_place0 v_r0_isTaking v_r0_keptIn v_r0_turns0 v_r0_turnOf v_r0_turned v_r0_order0 v_r0_likely0 v_r0_leftThen v_r0_row v_r0_rowMany v_r0_seed r0_days r0_things 0 r0_figures r0_hampers r0_kinds r0_refusals r0_weights) H locs → lv_has ls 6 [(0, .ref a_r0), (1, .int x1), (2, .int x2), (3, .int x3)] → W p l e (rmd 3) s m ([.ref a_r0, .int x1, .int x2, .int x3] : List Value).toArray below meth c H locs 0 0 Q (F0 m 29 ls []) := by
    intro _ hr H locs ls hW hl
    unfold F_M_odds_J29_15 at hr
    refine lv_iconst (v := (-1)) hx hb d_M_odds_29 (by decide) ?_
    exact hJ_3 (-1) hr _ _ _ hW (lv_sub hl [0, 1, 2, 3] rfl)
  refine lv_if_eq (tgt := 29) hx hb d_M_odds_10 (by decide) (fun c_2 => ?_) (fun c_2 => ?_)
  · replace hr := ip c_2 hr
    exact hJ_15 () hr _ _ _ hW (lv_sub hl [0, 1, 2, 3] rfl)
  · replace hr := iN c_2 hr
    refine lv_iload_n hx hb d_M_odds_13 rfl (lv_at hl 2 rfl) ?_
    refine lv_i2l hx hb d_M_odds_14 rfl ?_
    refine lv_lconst (v := 0) hx hb d_M_odds_15 (by decide) ?_
    refine lv_ldc2 (v := 5) hx hb hown (hts _ (List.mem_cons_of_mem _ (qc_M_206))) d_M_odds_16 ?_
    obtain ⟨q_16, hc_16, hr⟩ := ob hr
    have ct_16 := C_M_in l D cI cS (Int32.toInt64 x2) 0 (5 : Int64) q_16 hc_16
    refine k_goIp hA hW [] rfl rfl (k_runS C hA hW mw_M_in ms_M_in (ct_16.2 _) [] rfl rfl qm_M_74 ⟨Nat.le_of_ble_eq_true rfl, Nat.le_of_ble_eq_true rfl, Nat.zero_le _, Nat.zero_le _⟩ rfl rfl (Nat.le_of_ble_eq_true rfl) hl.1 d_M_odds_19) (fun H locs hW => ?_)
    refine lv_if_eq (tgt := 29) hx hb d_M_odds_22 (by decide) (fun c_17 => ?_) (fun c_17 => ?_)
    · replace hr := ip c_17 hr
      exact hJ_15 () hr _ _ _ hW (lv_sub hl [0, 1, 2, 3] rfl)
    · replace hr := iN c_17 hr
      refine lv_iconst (v := 0) hx hb d_M_odds_25 (by decide) ?_
      refine lv_goto (tgt := 30) hx hb d_M_odds_26 (by decide) ?_
      exact hJ_3 0 hr _ _ _ hW (lv_sub hl [0, 1, 2, 3] rfl)
def w_M_often (cI : ClassId) (a_r0 : Nat) (a_r0_hampers : Nat) (a_r0_refusals : Nat) (v_r0_weights v_r0_kinds v_r0_figures v_r0_wants0 v_r0_left0 v_r0_done0 v_r0_letters v_r0_letterMany v_r0_at v_r0_isBad v_r0_statements v_r0_placeIn v_r0_letterOf v_r0_told v_r0_kept v_r0_imaged v_r0_hasImage v_r0_place0 v_r0_isTaking v_r0_keptIn v_r0_turns0 v_r0_turnOf v_r0_turned v_r0_order0 v_r0_likely0 v_r0_leftThen v_r0_row v_r0_rowMany v_r0_seed : Value) (r0_days : Int32) (r0_things : Int32) (r0_thrown : Int32) (r0_hampers : Nat → Int32) (r0_refusals : Nat → Int32) : va_W := [(a_r0, .inr (9, [v_r0_weights, .int r0_things, v_r0_kinds, v_r0_figures, .int r0_days, .ref a_r0_hampers, v_r0_wants0, v_r0_left0, v_r0_done0, .int r0_thrown, .ref a_r0_refusals, v_r0_letters, v_r0_letterMany, v_r0_at, v_r0_isBad, v_r0_statements, v_r0_placeIn, v_r0_letterOf, v_r0_told, v_r0_kept, v_r0_imaged, v_r0_hasImage, v_r0_place0, v_r0_isTaking, v_r0_keptIn, v_r0_turns0, v_r0_turnOf, v_r0_turned, v_r0_order0, v_r0_likely0, v_r0_leftThen, v_r0_row, v_r0_rowMany, v_r0_seed])), (a_r0_hampers, .inl (cI, 8, .inl r0_hampers)), (a_r0_refusals, .inl (cI, 7, .inl r0_refusals))]
def F_M_often_L45 (r0_days : Int32) (r0_hampers : Nat → Int32) (y4_3 : Int32) (y5_5 : Int32) (y6_5 : Int32) : Option (((Int32) × (Int32)) ⊕ ((Int32))) :=
  (if r0_days ≤ y6_5 then (some (.inr y5_5)) else (ck y6_5 8 ((F_M_hasBit (r0_hampers (Int32.toNatClampNeg y6_5)) y4_3).bind (fun q_8 => (if q_8 = 0 then (some (.inl ((y5_5 + 0), (y6_5 + 1)))) else (some (.inl ((y5_5 + 1), (y6_5 + 1)))))))))
def F_M_often_J97_11 (y3_3 : Int32) (y4_3 : Int32) (e_5 : (Int32)) (s0_11 : Int32) : Option (((Int32) × (Int32) × (Int32)) ⊕ ((Int32) × (Int32))) :=
  (if e_5 ≤ y3_3 then (some (.inl (s0_11, y3_3, (y4_3 + 1)))) else (some (.inl (s0_11, e_5, (y4_3 + 1)))))
def F_M_often_L30 (r0_days : Int32) (r0_things : Int32) (r0_hampers : Nat → Int32) (y2_3 : Int32) (y3_3 : Int32) (y4_3 : Int32) : Option (((Int32) × (Int32) × (Int32)) ⊕ ((Int32) × (Int32))) :=
  (if r0_things ≤ y4_3 then (some (.inr (y2_3, y3_3))) else ((wh (fun (s : (Int32) × (Int32)) => F_M_often_L45 r0_days r0_hampers y4_3 s.1 s.2) 400 ((0 : Int32), (0 : Int32))).bind (fun e_5 => (if e_5 ≤ y3_3 then (F_M_often_J97_11 y3_3 y4_3 e_5 y2_3) else (F_M_often_J97_11 y3_3 y4_3 e_5 y4_3)))))
def F_M_often (r0_days : Int32) (r0_things : Int32) (r0_hampers : Nat → Int32) (r0_refusals : Nat → Int32) (x1 : Int32) : Option (Int32 × (Int32) × (Nat → Int32)) :=
  ((F_M_in (Int32.toInt64 x1) (0 : Int64) (1 : Int64)).bind (fun q_1 => (if q_1 = 0 then ((F_M_refuse r0_refusals ((-2) : Int32)).bind (fun q_15 => (some (q_15.1, 0, q_15.2)))) else ((wh (fun (s : (Int32) × (Int32) × (Int32)) => F_M_often_L30 r0_days r0_things r0_hampers s.1 s.2.1 s.2.2) 400 (((-9) : Int32), ((-1) : Int32), (0 : Int32))).bind (fun e_3 => (if x1 = 0 then (some (e_3.1, 0, r0_refusals)) else (if (0 : Int32) ≤ e_3.2 then (some (e_3.2, 0, r0_refusals)) else (some (0, 0, r0_refusals)))))))))
set_option maxHeartbeats 4000000 in
set_option maxRecDepth 100000 in
theorem C_M_often (l : Launch) (D : va_G) (cI cS : ClassId) (a_r0 : Nat) (a_r0_hampers : Nat) (a_r0_refusals : Nat) (v_r0_weights v_r0_kinds v_r0_figures v_r0_wants0 v_r0_left0 v_r0_done0 v_r0_letters v_r0_letterMany v_r0_at v_r0_isBad v_r0_statements v_r0_placeIn v_r0_letterOf v_r0_told v_r0_kept v_r0_imaged v_r0_hasImage v_r0_place0 v_r0_isTaking v_r0_keptIn v_r0_turns0 v_r0_turnOf v_r0_turned v_r0_order0 v_r0_likely0 v_r0_leftThen v_r0_row v_r0_rowMany v_r0_seed : Value) (r0_days : Int32) (r0_things : Int32) (r0_thrown : Int32) (r0_hampers : Nat → Int32) (r0_refusals : Nat → Int32) (x1 : Int32) (o : Int32 × (Int32) × (Nat → Int32)) (hr : F_M_often r0_days r0_things r0_hampers r0_refusals x1 = some o) : ctI l y_M_often (Cond.code y_M_often b_M_often 7 (some FieldType.int)) (rmd 1) D (kTy cI cS) [.ref a_r0, .int x1] (w_M_often cI a_r0 a_r0_hampers a_r0_refusals v_r0_weights v_r0_kinds v_r0_figures v_r0_wants0 v_r0_left0 v_r0_done0 v_r0_letters v_r0_letterMany v_r0_at v_r0_isBad v_r0_statements v_r0_placeIn v_r0_letterOf v_r0_told v_r0_kept v_r0_imaged v_r0_hasImage v_r0_place0 v_r0_isTaking v_r0_keptIn v_r0_turns0 v_r0_turnOf v_r0_turned v_r0_order0 v_r0_likely0 v_r0_leftThen v_r0_row v_r0_rowMany v_r0_seed r0_days r0_things r0_thrown r0_hampers r0_refusals) (w_M_often cI a_r0 a_r0_hampers a_r0_refusals v_r0_weights v_r0_kinds v_r0_figures v_r0_wants0 v_r0_left0 v_r0_done0 v_r0_letters v_r0_letterMany v_r0_at v_r0_isBad v_r0_statements v_r0_placeIn v_r0_letterOf v_r0_told v_r0_kept v_r0_imaged v_r0_hasImage v_r0_place0 v_r0_isTaking v_r0_keptIn v_r0_turns0 v_r0_turnOf v_r0_turned v_r0_order0 v_r0_likely0 v_r0_leftThen v_r0_row v_r0_rowMany v_r0_seed r0_days r0_things o.2.1 r0_hampers o.2.2) o.1 := by
  unfold F_M_often at hr
  refine ⟨rfl, fun sz => ct_of (w0 := (w_M_often cI a_r0 a_r0_hampers a_r0_refusals v_r0_weights v_r0_kinds v_r0_figures v_r0_wants0 v_r0_left0 v_r0_done0 v_r0_letters v_r0_letterMany v_r0_at v_r0_isBad v_r0_statements v_r0_placeIn v_r0_letterOf v_r0_told v_r0_kept v_r0_imaged v_r0_hasImage v_r0_place0 v_r0_isTaking v_r0_keptIn v_r0_turns0 v_r0_turnOf v_r0_turned v_r0_order0 v_r0_likely0 v_r0_leftThen v_r0_row v_r0_rowMany v_r0_seed r0_days r0_things r0_thrown r0_hampers r0_refusals)) (Qc := fun A => qI D (w_M_often cI a_r0 a_r0_hampers a_r0_refusals v_r0_weights v_r0_kinds v_r0_figures v_r0_wants0 v_r0_left0 v_r0_done0 v_r0_letters v_r0_letterMany v_r0_at v_r0_isBad v_r0_statements v_r0_placeIn v_r0_letterOf v_r0_told v_r0_kept v_r0_imaged v_r0_hasImage v_r0_place0 v_r0_isTaking v_r0_keptIn v_r0_turns0 v_r0_turnOf v_r0_turned v_r0_order0 v_r0_likely0 v_r0_leftThen v_r0_row v_r0_rowMany v_r0_seed r0_days r0_things o.2.1 r0_hampers o.2.2) o.1 A) rfl (Nat.le_of_ble_eq_true rfl) ?_ sz⟩
  intro p e s m below meth c A hA C hret ls hl hW
  have C : cx p s m ([.ref a_r0, .int x1] : List Value).toArray meth c b_M_often 7 R_M D (kTy cI cS) (Cond.code y_M_often b_M_often 7 (some FieldType.int)) := C
  obtain ⟨hx, hb, hml, hown, hts, hK, hlk, hN⟩ := id C
  have hl : lv_has ls 7 [(0, .ref a_r0), (1, .int x1)] := hl
  obtain ⟨Q, hQ⟩ : ∃ Q, Q = MQ below (qI D (w_M_often cI a_r0 a_r0_hampers a_r0_refusals v_r0_weights v_r0_kinds v_r0_figures v_r0_wants0 v_r0_left0 v_r0_done0 v_r0_letters v_r0_letterMany v_r0_at v_r0_isBad v_r0_statements v_r0_placeIn v_r0_letterOf v_r0_told v_r0_kept v_r0_imaged v_r0_hasImage v_r0_place0 v_r0_isTaking v_r0_keptIn v_r0_turns0 v_r0_turnOf v_r0_turned v_r0_order0 v_r0_likely0 v_r0_leftThen v_r0_row v_r0_rowMany v_r0_seed r0_days r0_things o.2.1 r0_hampers o.2.2) o.1 A) ([.ref a_r0, .int x1] : List Value).toArray s 0 0 A := ⟨_, rfl⟩
  rw [← hQ]
  refine lv_aload_n hx hb d_M_often_0 rfl (lv_at hl 0 rfl) ?_
  refine lv_iconst (v := 0) hx hb d_M_often_1 (by decide) ?_
  refine k_put i_M t_M_ok n_M C hW 0 rfl rfl 9 (by decide) qf_M_67 rfl rfl (ty := .int) rfl rfl rfl (Nat.le_of_ble_eq_true rfl) (ws' := (w_M_often cI a_r0 a_r0_hampers a_r0_refusals v_r0_weights v_r0_kinds v_r0_figures v_r0_wants0 v_r0_left0 v_r0_done0 v_r0_letters v_r0_letterMany v_r0_at v_r0_isBad v_r0_statements v_r0_placeIn v_r0_letterOf v_r0_told v_r0_kept v_r0_imaged v_r0_hasImage v_r0_place0 v_r0_isTaking v_r0_keptIn v_r0_turns0 v_r0_turnOf v_r0_turned v_r0_order0 v_r0_likely0 v_r0_leftThen v_r0_row v_r0_rowMany v_r0_seed r0_days r0_things 0 r0_hampers r0_refusals)) rfl d_M_often_2 (fun H locs hW => ?_)
  refine lv_iload_n hx hb d_M_often_5 rfl (lv_at hl 1 rfl) ?_
  refine lv_i2l hx hb d_M_often_6 rfl ?_
  refine lv_lconst (v := 0) hx hb d_M_often_7 (by decide) ?_
  refine lv_lconst (v := 1) hx hb d_M_often_8 (by decide) ?_
  obtain ⟨q_1, hc_1, hr⟩ := ob hr
  have ct_1 := C_M_in l D cI cS (Int32.toInt64 x1) 0 1 q_1 hc_1
  refine k_goIp hA hW [] rfl rfl (k_runS C hA hW mw_M_in ms_M_in (ct_1.2 _) [] rfl rfl qm_M_74 ⟨Nat.le_of_ble_eq_true rfl, Nat.le_of_ble_eq_true rfl, Nat.zero_le _, Nat.zero_le _⟩ rfl rfl (Nat.le_of_ble_eq_true rfl) hl.1 d_M_often_9) (fun H locs hW => ?_)
  refine lv_if_ne (tgt := 22) hx hb d_M_often_12 (by decide) (fun c_2 => ?_) (fun c_2 => ?_)
  · replace hr := iN c_2 hr
    refine lv_bipush (v := (-9)) hx hb d_M_often_22 (by decide) ?_
    refine lv_istore_n (lv' := [(2, .int (-9)), (0, .ref a_r0), (1, .int x1)]) hx hb d_M_often_24 rfl hl (by decide) rfl (fun ls hl => ?_)
    refine lv_iconst (v := (-1)) hx hb d_M_often_25 (by decide) ?_
    refine lv_istore_n (lv' := [(3, .int (-1)), (2, .int (-9)), (0, .ref a_r0), (1, .int x1)]) hx hb d_M_often_26 rfl hl (by decide) rfl (fun ls hl => ?_)
    refine lv_iconst (v := 0) hx hb d_M_often_27 (by decide) ?_
    refine lv_istore (lv' := [(4, .int 0), (3, .int (-1)), (2, .int (-9)), (0, .ref a_r0), (1, .int x1)]) hx hb d_M_often_28 hl (by decide) rfl (fun ls hl => ?_)
    obtain ⟨ex_3, hw_3, hk_3⟩ := ob hr
    have hx_3 : ∀ (e_3 : (Int32) × (Int32)), e_3 = ex_3 → ∀ (H : Heap) (locs : List Loc) (ls : Array Slot), wd A s.heap D (w_M_often cI a_r0 a_r0_hampers a_r0_refusals v_r0_weights v_r0_kinds v_r0_figures v_r0_wants0 v_r0_left0 v_r0_done0 v_r0_letters v_r0_letterMany v_r0_at v_r0_isBad v_r0_statements v_r0_placeIn v_r0_letterOf v_r0_told v_r0_kept v_r0_imaged v_r0_hasImage v_r0_place0 v_r0_isTaking v_r0_keptIn v_r0_turns0 v_r0_turnOf v_r0_turned v_r0_order0 v_r0_likely0 v_r0_leftThen v_r0_row v_r0_rowMany v_r0_seed r0_days r0_things 0 r0_hampers r0_refusals) H locs → lv_has ls 7 [(1, .int x1), (2, .int e_3.1), (3, .int e_3.2)] → W p l e (rmd 1) s m ([.ref a_r0, .int x1] : List Value).toArray below meth c H locs 0 0 Q (F0 m 117 ls []) := by
      intro e_3 hE H locs ls hW hl
      subst hE; have hr := hk_3
      refine lv_iload_n hx hb d_M_often_117 rfl (lv_at hl 0 rfl) ?_
      refine lv_if_ne (tgt := 125) hx hb d_M_often_118 (by decide) (fun c_13 => ?_) (fun c_13 => ?_)
      · replace hr := iN c_13 hr
        refine lv_iload_n hx hb d_M_often_125 rfl (lv_at hl 2 rfl) ?_
        refine lv_if_ge (tgt := 133) hx hb d_M_often_126 (by decide) (fun c_14 => ?_) (fun c_14 => ?_)
        · replace hr := ip c_14 hr
          refine lv_iload_n hx hb d_M_often_133 rfl (lv_at hl 2 rfl) ?_
          obtain rfl := Option.some.inj hr
          rw [hQ]; exact k_iret C hret hW d_M_often_134
        · replace hr := iN c_14 hr
          refine lv_iconst (v := 0) hx hb d_M_often_129 (by decide) ?_
          refine lv_goto (tgt := 134) hx hb d_M_often_130 (by decide) ?_
          obtain rfl := Option.some.inj hr
          rw [hQ]; exact k_iret C hret hW d_M_often_134
      · replace hr := ip c_13 hr
        refine lv_iload_n hx hb d_M_often_121 rfl (lv_at hl 1 rfl) ?_
        refine lv_goto (tgt := 134) hx hb d_M_often_122 (by decide) ?_
        obtain rfl := Option.some.inj hr
        rw [hQ]; exact k_iret C hret hW d_M_often_134
    have hl_3 : ∀ (k : Nat) (y2_3 : Int32) (y3_3 : Int32) (y4_3 : Int32), wh (fun (s : (Int32) × (Int32) × (Int32)) => F_M_often_L30 r0_days r0_things r0_hampers s.1 s.2.1 s.2.2) k (y2_3, y3_3, y4_3) = some ex_3 → ∀ (H : Heap) (locs : List Loc) (ls : Array Slot), wd A s.heap D (w_M_often cI a_r0 a_r0_hampers a_r0_refusals v_r0_weights v_r0_kinds v_r0_figures v_r0_wants0 v_r0_left0 v_r0_done0 v_r0_letters v_r0_letterMany v_r0_at v_r0_isBad v_r0_statements v_r0_placeIn v_r0_letterOf v_r0_told v_r0_kept v_r0_imaged v_r0_hasImage v_r0_place0 v_r0_isTaking v_r0_keptIn v_r0_turns0 v_r0_turnOf v_r0_turned v_r0_order0 v_r0_likely0 v_r0_leftThen v_r0_row v_r0_rowMany v_r0_seed r0_days r0_things 0 r0_hampers r0_refusals) H locs → lv_has ls 7 [(0, .ref a_r0), (1, .int x1), (2, .int y2_3), (3, .int y3_3), (4, .int y4_3)] → W p l e (rmd 1) s m ([.ref a_r0, .int x1] : List Value).toArray below meth c H locs 0 0 Q (F0 m 30 ls []) := by
      intro k
      induction k with
      | zero => intro y2_3 y3_3 y4_3 hw; exact absurd hw wh_0
      | succ k ih_3 =>
        intro y2_3 y3_3 y4_3 hw H locs ls hW hl
        obtain ⟨z_3, hr, hz1_3, hz2_3⟩ := wh_s hw
        have hr : F_M_often_L30 r0_days r0_things r0_hampers y2_3 y3_3 y4_3 = some z_3 := hr
        unfold F_M_often_L30 at hr
        refine lv_iload hx hb d_M_often_30 (lv_at hl 4 rfl) ?_
        refine lv_aload_n hx hb d_M_often_32 rfl (lv_at hl 0 rfl) ?_
        refine k_get i_M C hW 0 rfl rfl 1 (by decide) qf_M_71 rfl rfl d_M_often_33 ?_
        refine lv_icmp_ge (tgt := 117) hx hb d_M_often_36 (by decide) (fun c_4 => ?_) (fun c_4 => ?_)
        · replace hr := ip c_4 hr
          exact hx_3 _ (hz2_3 _ (Option.some.inj hr).symm) _ _ _ hW (lv_sub hl [1, 2, 3] rfl)
        · replace hr := iN c_4 hr
          refine lv_iconst (v := 0) hx hb d_M_often_39 (by decide) ?_
          refine lv_istore (lv' := [(5, .int 0), (0, .ref a_r0), (1, .int x1), (2, .int y2_3), (3, .int y3_3), (4, .int y4_3)]) hx hb d_M_often_40 hl (by decide) rfl (fun ls hl => ?_)
          refine lv_iconst (v := 0) hx hb d_M_often_42 (by decide) ?_
          refine lv_istore (lv' := [(6, .int 0), (5, .int 0), (0, .ref a_r0), (1, .int x1), (2, .int y2_3), (3, .int y3_3), (4, .int y4_3)]) hx hb d_M_often_43 hl (by decide) rfl (fun ls hl => ?_)
          obtain ⟨ex_5, hw_5, hk_5⟩ := ob hr
          have hx_5 : ∀ (e_5 : (Int32)), e_5 = ex_5 → ∀ (H : Heap) (locs : List Loc) (ls : Array Slot), wd A s.heap D (w_M_often cI a_r0 a_r0_hampers a_r0_refusals v_r0_weights v_r0_kinds v_r0_figures v_r0_wants0 v_r0_left0 v_r0_done0 v_r0_letters v_r0_letterMany v_r0_at v_r0_isBad v_r0_statements v_r0_placeIn v_r0_letterOf v_r0_told v_r0_kept v_r0_imaged v_r0_hasImage v_r0_place0 v_r0_isTaking v_r0_keptIn v_r0_turns0 v_r0_turnOf v_r0_turned v_r0_order0 v_r0_likely0 v_r0_leftThen v_r0_row v_r0_rowMany v_r0_seed r0_days r0_things 0 r0_hampers r0_refusals) H locs → lv_has ls 7 [(0, .ref a_r0), (1, .int x1), (2, .int y2_3), (3, .int y3_3), (4, .int y4_3), (5, .int e_5)] → W p l e (rmd 1) s m ([.ref a_r0, .int x1] : List Value).toArray below meth c H locs 0 0 Q (F0 m 85 ls []) := by
            intro e_5 hE H locs ls hW hl
            subst hE; have hr := hk_5
            refine lv_iload hx hb d_M_often_85 (lv_at hl 5 rfl) ?_
            refine lv_iload_n hx hb d_M_often_87 rfl (lv_at hl 3 rfl) ?_
            have hJ_11 : ∀ (s0_11 : Int32), F_M_often_J97_11 y3_3 y4_3 e_5 s0_11 = some z_3 → ∀ (H : Heap) (locs : List Loc) (ls : Array Slot), wd A s.heap D (w_M_often cI a_r0 a_r0_hampers a_r0_refusals v_r0_weights v_r0_kinds v_r0_figures v_r0_wants0 v_r0_left0 v_r0_done0 v_r0_letters v_r0_letterMany v_r0_at v_r0_isBad v_r0_statements v_r0_placeIn v_r0_letterOf v_r0_told v_r0_kept v_r0_imaged v_r0_hasImage v_r0_place0 v_r0_isTaking v_r0_keptIn v_r0_turns0 v_r0_turnOf v_r0_turned v_r0_order0 v_r0_likely0 v_r0_leftThen v_r0_row v_r0_rowMany v_r0_seed r0_days r0_things 0 r0_hampers r0_refusals) H locs → lv_has ls 7 [(0, .ref a_r0), (1, .int x1), (3, .int y3_3), (4, .int y4_3), (5, .int e_5)] → W p l e (rmd 1) s m ([.ref a_r0, .int x1] : List Value).toArray below meth c H locs 0 0 Q (F0 m 97 ls [.int s0_11]) := by
              intro s0_11 hr H locs ls hW hl
              unfold F_M_often_J97_11 at hr
              refine lv_istore_n (lv' := [(2, .int s0_11), (0, .ref a_r0), (1, .int x1), (3, .int y3_3), (4, .int y4_3), (5, .int e_5)]) hx hb d_M_often_97 rfl hl (by decide) rfl (fun ls hl => ?_)
              refine lv_iload hx hb d_M_often_98 (lv_at hl 5 rfl) ?_
              refine lv_iload_n hx hb d_M_often_100 rfl (lv_at hl 3 rfl) ?_
              refine lv_icmp_le (tgt := 109) hx hb d_M_often_101 (by decide) (fun c_12 => ?_) (fun c_12 => ?_)
              · replace hr := ip c_12 hr
                refine lv_iload_n hx hb d_M_often_109 rfl (lv_at hl 3 rfl) ?_
                refine lv_istore_n (lv' := [(3, .int y3_3), (2, .int s0_11), (0, .ref a_r0), (1, .int x1), (4, .int y4_3), (5, .int e_5)]) hx hb d_M_often_110 rfl hl (by decide) rfl (fun ls hl => ?_)
                refine lv_iinc (v := (y4_3 + 1)) (lv' := [(4, .int (y4_3 + 1)), (3, .int y3_3), (2, .int s0_11), (0, .ref a_r0), (1, .int x1), (5, .int e_5)]) hx hb d_M_often_111 hl (k := 4) rfl rfl (by decide) rfl (fun ls hl => ?_)
                refine lv_goto (tgt := 30) hx hb d_M_often_114 (by decide) ?_
                exact ih_3 s0_11 y3_3 (y4_3 + 1) (hz1_3 _ (Option.some.inj hr).symm) _ _ _ hW (lv_sub hl [3, 4, 2, 1, 0] rfl)
              · replace hr := iN c_12 hr
                refine lv_iload hx hb d_M_often_104 (lv_at hl 5 rfl) ?_
                refine lv_goto (tgt := 110) hx hb d_M_often_106 (by decide) ?_
                refine lv_istore_n (lv' := [(3, .int e_5), (2, .int s0_11), (0, .ref a_r0), (1, .int x1), (4, .int y4_3), (5, .int e_5)]) hx hb d_M_often_110 rfl hl (by decide) rfl (fun ls hl => ?_)
                refine lv_iinc (v := (y4_3 + 1)) (lv' := [(4, .int (y4_3 + 1)), (3, .int e_5), (2, .int s0_11), (0, .ref a_r0), (1, .int x1), (5, .int e_5)]) hx hb d_M_often_111 hl (k := 4) rfl rfl (by decide) rfl (fun ls hl => ?_)
                refine lv_goto (tgt := 30) hx hb d_M_often_114 (by decide) ?_
                exact ih_3 s0_11 e_5 (y4_3 + 1) (hz1_3 _ (Option.some.inj hr).symm) _ _ _ hW (lv_sub hl [3, 4, 2, 1, 0] rfl)
            refine lv_icmp_le (tgt := 96) hx hb d_M_often_88 (by decide) (fun c_10 => ?_) (fun c_10 => ?_)
            · replace hr := ip c_10 hr
              refine lv_iload_n hx hb d_M_often_96 rfl (lv_at hl 2 rfl) ?_
              exact hJ_11 y2_3 hr _ _ _ hW (lv_sub hl [0, 1, 3, 4, 5] rfl)
            · replace hr := iN c_10 hr
              refine lv_iload hx hb d_M_often_91 (lv_at hl 4 rfl) ?_
              refine lv_goto (tgt := 97) hx hb d_M_often_93 (by decide) ?_
              exact hJ_11 y4_3 hr _ _ _ hW (lv_sub hl [0, 1, 3, 4, 5] rfl)
          have hl_5 : ∀ (k : Nat) (y5_5 : Int32) (y6_5 : Int32), wh (fun (s : (Int32) × (Int32)) => F_M_often_L45 r0_days r0_hampers y4_3 s.1 s.2) k (y5_5, y6_5) = some ex_5 → ∀ (H : Heap) (locs : List Loc) (ls : Array Slot), wd A s.heap D (w_M_often cI a_r0 a_r0_hampers a_r0_refusals v_r0_weights v_r0_kinds v_r0_figures v_r0_wants0 v_r0_left0 v_r0_done0 v_r0_letters v_r0_letterMany v_r0_at v_r0_isBad v_r0_statements v_r0_placeIn v_r0_letterOf v_r0_told v_r0_kept v_r0_imaged v_r0_hasImage v_r0_place0 v_r0_isTaking v_r0_keptIn v_r0_turns0 v_r0_turnOf v_r0_turned v_r0_order0 v_r0_likely0 v_r0_leftThen v_r0_row v_r0_rowMany v_r0_seed r0_days r0_things 0 r0_hampers r0_refusals) H locs → lv_has ls 7 [(0, .ref a_r0), (1, .int x1), (2, .int y2_3), (3, .int y3_3), (4, .int y4_3), (5, .int y5_5), (6, .int y6_5)] → W p l e (rmd 1) s m ([.ref a_r0, .int x1] : List Value).toArray below meth c H locs 0 0 Q (F0 m 45 ls []) := by
            intro k
            induction k with
            | zero => intro y5_5 y6_5 hw; exact absurd hw wh_0
            | succ k ih_5 =>
              intro y5_5 y6_5 hw H locs ls hW hl
              obtain ⟨z_5, hr, hz1_5, hz2_5⟩ := wh_s hw
              have hr : F_M_often_L45 r0_days r0_hampers y4_3 y5_5 y6_5 = some z_5 := hr
              unfold F_M_often_L45 at hr
              refine lv_iload hx hb d_M_often_45 (lv_at hl 6 rfl) ?_
              refine lv_aload_n hx hb d_M_often_47 rfl (lv_at hl 0 rfl) ?_
              refine k_get i_M C hW 0 rfl rfl 4 (by decide) qf_M_78 rfl rfl d_M_often_48 ?_
              refine lv_icmp_ge (tgt := 85) hx hb d_M_often_51 (by decide) (fun c_6 => ?_) (fun c_6 => ?_)
              · replace hr := ip c_6 hr
                exact hx_5 _ (hz2_5 _ (Option.some.inj hr).symm) _ _ _ hW (lv_sub hl [0, 1, 2, 3, 4, 5] rfl)
              · replace hr := iN c_6 hr
                refine lv_iload hx hb d_M_often_54 (lv_at hl 5 rfl) ?_
                refine lv_aload_n hx hb d_M_often_56 rfl (lv_at hl 0 rfl) ?_
                refine k_get i_M C hW 0 rfl rfl 5 (by decide) qf_M_19 rfl rfl d_M_often_57 ?_
                refine lv_iload hx hb d_M_often_60 (lv_at hl 6 rfl) ?_
                obtain ⟨h_7, hr⟩ := ck_some hr
                refine k_iald C hW 1 rfl h_7 d_M_often_62 ?_
                refine lv_iload hx hb d_M_often_63 (lv_at hl 4 rfl) ?_
                obtain ⟨q_8, hc_8, hr⟩ := ob hr
                have ct_8 := C_M_hasBit l D cI cS (r0_hampers (Int32.toNatClampNeg y6_5)) y4_3 q_8 hc_8
                refine k_goIp hA hW [] rfl rfl (k_runS C hA hW mw_M_hasBit ms_M_hasBit (ct_8.2 _) [] rfl rfl qm_M_85 ⟨Nat.le_of_ble_eq_true rfl, Nat.le_of_ble_eq_true rfl, Nat.zero_le _, Nat.zero_le _⟩ rfl rfl (Nat.le_of_ble_eq_true rfl) hl.1 d_M_often_65) (fun H locs hW => ?_)
                refine lv_if_eq (tgt := 75) hx hb d_M_often_68 (by decide) (fun c_9 => ?_) (fun c_9 => ?_)
                · replace hr := ip c_9 hr
                  refine lv_iconst (v := 0) hx hb d_M_often_75 (by decide) ?_
                  refine lv_iadd hx hb d_M_often_76 ?_
                  refine lv_istore (lv' := [(5, .int (y5_5 + 0)), (0, .ref a_r0), (1, .int x1), (2, .int y2_3), (3, .int y3_3), (4, .int y4_3), (6, .int y6_5)]) hx hb d_M_often_77 hl (by decide) rfl (fun ls hl => ?_)
                  refine lv_iinc (v := (y6_5 + 1)) (lv' := [(6, .int (y6_5 + 1)), (5, .int (y5_5 + 0)), (0, .ref a_r0), (1, .int x1), (2, .int y2_3), (3, .int y3_3), (4, .int y4_3)]) hx hb d_M_often_79 hl (k := 6) rfl rfl (by decide) rfl (fun ls hl => ?_)
                  refine lv_goto (tgt := 45) hx hb d_M_often_82 (by decide) ?_
                  exact ih_5 (y5_5 + 0) (y6_5 + 1) (hz1_5 _ (Option.some.inj hr).symm) _ _ _ hW (lv_sub hl [2, 3, 4, 5, 6, 1, 0] rfl)
                · replace hr := iN c_9 hr
                  refine lv_iconst (v := 1) hx hb d_M_often_71 (by decide) ?_
                  refine lv_goto (tgt := 76) hx hb d_M_often_72 (by decide) ?_
                  refine lv_iadd hx hb d_M_often_76 ?_
                  refine lv_istore (lv' := [(5, .int (y5_5 + 1)), (0, .ref a_r0), (1, .int x1), (2, .int y2_3), (3, .int y3_3), (4, .int y4_3), (6, .int y6_5)]) hx hb d_M_often_77 hl (by decide) rfl (fun ls hl => ?_)
                  refine lv_iinc (v := (y6_5 + 1)) (lv' := [(6, .int (y6_5 + 1)), (5, .int (y5_5 + 1)), (0, .ref a_r0), (1, .int x1), (2, .int y2_3), (3, .int y3_3), (4, .int y4_3)]) hx hb d_M_often_79 hl (k := 6) rfl rfl (by decide) rfl (fun ls hl => ?_)
                  refine lv_goto (tgt := 45) hx hb d_M_often_82 (by decide) ?_
                  exact ih_5 (y5_5 + 1) (y6_5 + 1) (hz1_5 _ (Option.some.inj hr).symm) _ _ _ hW (lv_sub hl [2, 3, 4, 5, 6, 1, 0] rfl)
          exact hl_5 _ 0 0 hw_5 _ _ _ hW (lv_sub hl [2, 3, 4, 5, 6, 1, 0] rfl)
    exact hl_3 _ (-9) (-1) 0 hw_3 _ _ _ hW (lv_sub hl [3, 4, 2, 1, 0] rfl)
  · replace hr := ip c_2 hr
    refine lv_aload_n hx hb d_M_often_15 rfl (lv_at hl 0 rfl) ?_
    refine lv_bipush (v := (-2)) hx hb d_M_often_16 (by decide) ?_
    obtain ⟨q_15, hc_15, hr⟩ := ob hr
    have ct_15 := C_M_refuse l D cI cS a_r0 a_r0_refusals v_r0_weights (Value.int r0_things) v_r0_kinds v_r0_figures (Value.int r0_days) (Value.ref a_r0_hampers) v_r0_wants0 v_r0_left0 v_r0_done0 (Value.int 0) v_r0_letters v_r0_letterMany v_r0_at v_r0_isBad v_r0_statements v_r0_placeIn v_r0_letterOf v_r0_told v_r0_kept v_r0_imaged v_r0_hasImage v_r0_place0 v_r0_isTaking v_r0_keptIn v_r0_turns0 v_r0_turnOf v_r0_turned v_r0_order0 v_r0_likely0 v_r0_leftThen v_r0_row v_r0_rowMany v_r0_seed r0_refusals (-2) q_15 hc_15
    refine k_goI hA hW [0, 2] rfl ct_15.1 (ws' := (w_M_often cI a_r0 a_r0_hampers a_r0_refusals v_r0_weights v_r0_kinds v_r0_figures v_r0_wants0 v_r0_left0 v_r0_done0 v_r0_letters v_r0_letterMany v_r0_at v_r0_isBad v_r0_statements v_r0_placeIn v_r0_letterOf v_r0_told v_r0_kept v_r0_imaged v_r0_hasImage v_r0_place0 v_r0_isTaking v_r0_keptIn v_r0_turns0 v_r0_turnOf v_r0_turned v_r0_order0 v_r0_likely0 v_r0_leftThen v_r0_row v_r0_rowMany v_r0_seed r0_days r0_things 0 r0_hampers q_15.2)) rfl (k_runV C hA hW mw_M_refuse mv_M_refuse (ct_15.2 _) [0, 2] rfl rfl 0 rfl rfl qm_M_108 ⟨Nat.le_of_ble_eq_true rfl, Nat.le_of_ble_eq_true rfl, Nat.zero_le _, Nat.zero_le _⟩ rfl rfl (Nat.le_of_ble_eq_true rfl) hl.1 d_M_often_18) (fun H locs hW => ?_)
    obtain rfl := Option.some.inj hr
    rw [hQ]; exact k_iret C hret hW d_M_often_21
def w_M_order (cI : ClassId) (a_r0 : Nat) (a_r0_figures : Nat) (a_r0_hampers : Nat) (a_r0_kinds : Nat) (a_r0_left0 : Nat) (a_r0_leftThen : Nat) (a_r0_likely0 : Nat) (a_r0_order0 : Nat) (a_r0_refusals : Nat) (a_r0_wants0 : Nat) (a_r0_weights : Nat) (v_r0_done0 v_r0_letters v_r0_letterMany v_r0_at v_r0_isBad v_r0_statements v_r0_placeIn v_r0_letterOf v_r0_told v_r0_kept v_r0_imaged v_r0_hasImage v_r0_place0 v_r0_isTaking v_r0_keptIn v_r0_turns0 v_r0_turnOf v_r0_turned v_r0_row v_r0_rowMany v_r0_seed : Value) (r0_days : Int32) (r0_things : Int32) (r0_thrown : Int32) (r0_figures : Nat → Int32) (r0_hampers : Nat → Int32) (r0_kinds : Nat → Int32) (r0_left0 : Nat → Int32) (r0_leftThen : Nat → Int32) (r0_likely0 : Nat → Int32) (r0_order0 : Nat → Int32) (r0_refusals : Nat → Int32) (r0_wants0 : Nat → Int32) (r0_weights : Nat → Int32) : va_W := [(a_r0, .inr (9, [.ref a_r0_weights, .int r0_things, .ref a_r0_kinds, .ref a_r0_figures, .int r0_days, .ref a_r0_hampers, .ref a_r0_wants0, .ref a_r0_left0, v_r0_done0, .int r0_thrown, .ref a_r0_refusals, v_r0_letters, v_r0_letterMany, v_r0_at, v_r0_isBad, v_r0_statements, v_r0_placeIn, v_r0_letterOf, v_r0_told, v_r0_kept, v_r0_imaged, v_r0_hasImage, v_r0_place0, v_r0_isTaking, v_r0_keptIn, v_r0_turns0, v_r0_turnOf, v_r0_turned, .ref a_r0_order0, .ref a_r0_likely0, .ref a_r0_leftThen, v_r0_row, v_r0_rowMany, v_r0_seed])), (a_r0_figures, .inl (cI, 8, .inl r0_figures)), (a_r0_hampers, .inl (cI, 8, .inl r0_hampers)), (a_r0_kinds, .inl (cI, 8, .inl r0_kinds)), (a_r0_left0, .inl (cI, 4, .inl r0_left0)), (a_r0_leftThen, .inl (cI, 4, .inl r0_leftThen)), (a_r0_likely0, .inl (cI, 8, .inl r0_likely0)), (a_r0_order0, .inl (cI, 8, .inl r0_order0)), (a_r0_refusals, .inl (cI, 7, .inl r0_refusals)), (a_r0_wants0, .inl (cI, 4, .inl r0_wants0)), (a_r0_weights, .inl (cI, 6, .inl r0_weights))]
def F_M_order_L60 (r0_days : Int32) (r0_things : Int32) (r0_figures : Nat → Int32) (r0_hampers : Nat → Int32) (r0_kinds : Nat → Int32) (r0_weights : Nat → Int32) (y4_4 : Int32) (r0_likely0_4 : Nat → Int32) : Option (((Int32) × (Nat → Int32)) ⊕ ((Nat → Int32))) :=
  (if r0_days ≤ y4_4 then (some (.inr r0_likely0_4)) else ((F_M_likelyOn r0_things r0_figures r0_hampers r0_kinds r0_weights y4_4).bind (fun q_6 => (ck y4_4 8 (some (.inl ((y4_4 + 1), (upd r0_likely0_4 (Int32.toNatClampNeg y4_4) q_6))))))))
def F_M_order_J144_14 (y5_9 : Int32) (y7_9 : Int32) (q_11 : (Nat → Int32)) (q_12 : Int32 × (Nat → Int32)) (s0_14 : Int32) : Option (((Int32) × (Int32) × (Int32) × (Nat → Int32) × (Nat → Int32)) ⊕ ((Int32) × (Int32) × (Nat → Int32) × (Nat → Int32))) :=
  (if q_12.1 ≤ y5_9 then (some (.inl (s0_14, y5_9, (y7_9 + 1), q_12.2, q_11))) else (some (.inl (s0_14, q_12.1, (y7_9 + 1), q_12.2, q_11))))
def F_M_order_L106 (r0_days : Int32) (r0_left0 : Nat → Int32) (r0_wants0 : Nat → Int32) (e_4 : (Nat → Int32)) (q_8 : Int32) (x1 : Int32) (y4_9 : Int32) (y5_9 : Int32) (y7_9 : Int32) (r0_leftThen_9 : Nat → Int32) (r0_order0_9 : Nat → Int32) : Option (((Int32) × (Int32) × (Int32) × (Nat → Int32) × (Nat → Int32)) ⊕ ((Int32) × (Int32) × (Nat → Int32) × (Nat → Int32))) :=
  (if q_8 ≤ y7_9 then (some (.inr (y4_9, y5_9, r0_leftThen_9, r0_order0_9))) else ((F_M_layOrder r0_order0_9 y7_9 r0_days).bind (fun q_11 => ((F_M_doneBy r0_days r0_left0 r0_leftThen_9 e_4 q_11 r0_wants0 x1).bind (fun q_12 => (if q_12.1 ≤ y5_9 then (F_M_order_J144_14 y5_9 y7_9 q_11 q_12 y4_9) else (F_M_order_J144_14 y5_9 y7_9 q_11 q_12 y7_9)))))))
def F_M_order_J46_2 (r0_days : Int32) (r0_things : Int32) (r0_figures : Nat → Int32) (r0_hampers : Nat → Int32) (r0_kinds : Nat → Int32) (r0_left0 : Nat → Int32) (r0_leftThen : Nat → Int32) (r0_likely0 : Nat → Int32) (r0_order0 : Nat → Int32) (r0_refusals : Nat → Int32) (r0_wants0 : Nat → Int32) (r0_weights : Nat → Int32) (x1 : Int32) (x2 : Int32) (s0_2 : Int32) : Option (Int32 × (Int32) × (Nat → Int32) × (Nat → Int32) × (Nat → Int32) × (Nat → Int32)) :=
  (if (0 : Int32) ≤ s0_2 then ((wh (fun (s : (Int32) × (Nat → Int32)) => F_M_order_L60 r0_days r0_things r0_figures r0_hampers r0_kinds r0_weights s.1 s.2) 6000 ((0 : Int32), r0_likely0)).bind (fun e_4 => ((F_M_ordersOf r0_days).bind (fun q_8 => ((wh (fun (s : (Int32) × (Int32) × (Int32) × (Nat → Int32) × (Nat → Int32)) => F_M_order_L106 r0_days r0_left0 r0_wants0 e_4 q_8 x1 s.1 s.2.1 s.2.2.1 s.2.2.2.1 s.2.2.2.2) 6000 ((0 : Int32), ((-1) : Int32), (0 : Int32), r0_leftThen, r0_order0)).bind (fun e_9 => ((F_M_layOrder e_9.2.2.2 e_9.1 r0_days).bind (fun q_16 => (if (0 : Int32) ≤ x2 then (if r0_days ≤ x2 then (some ((-9), 0, e_9.2.2.1, e_4, q_16, r0_refusals)) else (ck x2 8 (some ((q_16 (Int32.toNatClampNeg x2)), 0, e_9.2.2.1, e_4, q_16, r0_refusals)))) else (some (e_9.2.1, 0, e_9.2.2.1, e_4, q_16, r0_refusals))))))))))) else ((F_M_refuse r0_refusals s0_2).bind (fun q_20 => (some (q_20.1, 0, r0_leftThen, r0_likely0, r0_order0, q_20.2)))))
def F_M_order_J15_21 (r0_days : Int32) (r0_things : Int32) (r0_figures : Nat → Int32) (r0_hampers : Nat → Int32) (r0_kinds : Nat → Int32) (r0_left0 : Nat → Int32) (r0_leftThen : Nat → Int32) (r0_likely0 : Nat → Int32) (r0_order0 : Nat → Int32) (r0_refusals : Nat → Int32) (r0_wants0 : Nat → Int32) (r0_weights : Nat → Int32) (x1 : Int32) (x2 : Int32) : Option (Int32 × (Int32) × (Nat → Int32) × (Nat → Int32) × (Nat → Int32) × (Nat → Int32)) :=
  (F_M_order_J46_2 r0_days r0_things r0_figures r0_hampers r0_kinds r0_left0 r0_leftThen r0_likely0 r0_order0 r0_refusals r0_wants0 r0_weights x1 x2 (-4))
def F_M_order (r0_days : Int32) (r0_things : Int32) (r0_figures : Nat → Int32) (r0_hampers : Nat → Int32) (r0_kinds : Nat → Int32) (r0_left0 : Nat → Int32) (r0_leftThen : Nat → Int32) (r0_likely0 : Nat → Int32) (r0_order0 : Nat → Int32) (r0_refusals : Nat → Int32) (r0_wants0 : Nat → Int32) (r0_weights : Nat → Int32) (x1 : Int32) (x2 : Int32) : Option (Int32 × (Int32) × (Nat → Int32) × (Nat → Int32) × (Nat → Int32) × (Nat → Int32)) :=
  (if x1 < 1 then (F_M_order_J15_21 r0_days r0_things r0_figures r0_hampers r0_kinds r0_left0 r0_leftThen r0_likely0 r0_order0 r0_refusals r0_wants0 r0_weights x1 x2) else (if ((-1) : Int32) ≤ x2 then (if x1 ≤ 8 then (if r0_days ≤ 7 then (F_M_order_J46_2 r0_days r0_things r0_figures r0_hampers r0_kinds r0_left0 r0_leftThen r0_likely0 r0_order0 r0_refusals r0_wants0 r0_weights x1 x2 0) else (F_M_order_J46_2 r0_days r0_things r0_figures r0_hampers r0_kinds r0_left0 r0_leftThen r0_likely0 r0_order0 r0_refusals r0_wants0 r0_weights x1 x2 (-3))) else (F_M_order_J46_2 r0_days r0_things r0_figures r0_hampers r0_kinds r0_left0 r0_leftThen r0_likely0 r0_order0 r0_refusals r0_wants0 r0_weights x1 x2 (-6))) else (F_M_order_J15_21 r0_days r0_things r0_figures r0_hampers r0_kinds r0_left0 r0_leftThen r0_likely0 r0_order0 r0_refusals r0_wants0 r0_weights x1 x2)))
set_option maxHeartbeats 4000000 in
set_option maxRecDepth 100000 in
theorem C_M_order (l : Launch) (D : va_G) (cI cS : ClassId) (a_r0 : Nat) (a_r0_figures : Nat) (a_r0_hampers : Nat) (a_r0_kinds : Nat) (a_r0_left0 : Nat) (a_r0_leftThen : Nat) (a_r0_likely0 : Nat) (a_r0_order0 : Nat) (a_r0_refusals : Nat) (a_r0_wants0 : Nat) (a_r0_weights : Nat) (v_r0_done0 v_r0_letters v_r0_letterMany v_r0_at v_r0_isBad v_r0_statements v_r0_placeIn v_r0_letterOf v_r0_told v_r0_kept v_r0_imaged v_r0_hasImage v_r0_place0 v_r0_isTaking v_r0_keptIn v_r0_turns0 v_r0_turnOf v_r0_turned v_r0_row v_r0_rowMany v_r0_seed : Value) (r0_days : Int32) (r0_things : Int32) (r0_thrown : Int32) (r0_figures : Nat → Int32) (r0_hampers : Nat → Int32) (r0_kinds : Nat → Int32) (r0_left0 : Nat → Int32) (r0_leftThen : Nat → Int32) (r0_likely0 : Nat → Int32) (r0_order0 : Nat → Int32) (r0_refusals : Nat → Int32) (r0_wants0 : Nat → Int32) (r0_weights : Nat → Int32) (x1 : Int32) (x2 : Int32) (o : Int32 × (Int32) × (Nat → Int32) × (Nat → Int32) × (Nat → Int32) × (Nat → Int32)) (hr : F_M_order r0_days r0_things r0_figures r0_hampers r0_kinds r0_left0 r0_leftThen r0_likely0 r0_order0 r0_refusals r0_wants0 r0_weights x1 x2 = some o) : ctI l y_M_order (Cond.code y_M_order b_M_order 9 (some FieldType.int)) (rmd 4) D (kTy cI cS) [.ref a_r0, .int x1, .int x2] (w_M_order cI a_r0 a_r0_figures a_r0_hampers a_r0_kinds a_r0_left0 a_r0_leftThen a_r0_likely0 a_r0_order0 a_r0_refusals a_r0_wants0 a_r0_weights v_r0_done0 v_r0_letters v_r0_letterMany v_r0_at v_r0_isBad v_r0_statements v_r0_placeIn v_r0_letterOf v_r0_told v_r0_kept v_r0_imaged v_r0_hasImage v_r0_place0 v_r0_isTaking v_r0_keptIn v_r0_turns0 v_r0_turnOf v_r0_turned v_r0_row v_r0_rowMany v_r0_seed r0_days r0_things r0_thrown r0_figures r0_hampers r0_kinds r0_left0 r0_leftThen r0_likely0 r0_order0 r0_refusals r0_wants0 r0_weights) (w_M_order cI a_r0 a_r0_figures a_r0_hampers a_r0_kinds a_r0_left0 a_r0_leftThen a_r0_likely0 a_r0_order0 a_r0_refusals a_r0_wants0 a_r0_weights v_r0_done0 v_r0_letters v_r0_letterMany v_r0_at v_r0_isBad v_r0_statements v_r0_placeIn v_r0_letterOf v_r0_told v_r0_kept v_r0_imaged v_r0_hasImage v_r0_place0 v_r0_isTaking v_r0_keptIn v_r0_turns0 v_r0_turnOf v_r0_turned v_r0_row v_r0_rowMany v_r0_seed r0_days r0_things o.2.1 r0_figures r0_hampers r0_kinds r0_left0 o.2.2.1 o.2.2.2.1 o.2.2.2.2.1 o.2.2.2.2.2 r0_wants0 r0_weights) o.1 := by
  unfold F_M_order at hr
  refine ⟨rfl, fun sz => ct_of (w0 := (w_M_order cI a_r0 a_r0_figures a_r0_hampers a_r0_kinds a_r0_left0 a_r0_leftThen a_r0_likely0 a_r0_order0 a_r0_refusals a_r0_wants0 a_r0_weights v_r0_done0 v_r0_letters v_r0_letterMany v_r0_at v_r0_isBad v_r0_statements v_r0_placeIn v_r0_letterOf v_r0_told v_r0_kept v_r0_imaged v_r0_hasImage v_r0_place0 v_r0_isTaking v_r0_keptIn v_r0_turns0 v_r0_turnOf v_r0_turned v_r0_row v_r0_rowMany v_r0_seed r0_days r0_things r0_thrown r0_figures r0_hampers r0_kinds r0_left0 r0_leftThen r0_likely0 r0_order0 r0_refusals r0_wants0 r0_weights)) (Qc := fun A => qI D (w_M_order cI a_r0 a_r0_figures a_r0_hampers a_r0_kinds a_r0_left0 a_r0_leftThen a_r0_likely0 a_r0_order0 a_r0_refusals a_r0_wants0 a_r0_weights v_r0_done0 v_r0_letters v_r0_letterMany v_r0_at v_r0_isBad v_r0_statements v_r0_placeIn v_r0_letterOf v_r0_told v_r0_kept v_r0_imaged v_r0_hasImage v_r0_place0 v_r0_isTaking v_r0_keptIn v_r0_turns0 v_r0_turnOf v_r0_turned v_r0_row v_r0_rowMany v_r0_seed r0_days r0_things o.2.1 r0_figures r0_hampers r0_kinds r0_left0 o.2.2.1 o.2.2.2.1 o.2.2.2.2.1 o.2.2.2.2.2 r0_wants0 r0_weights) o.1 A) rfl (Nat.le_of_ble_eq_true rfl) ?_ sz⟩
  intro p e s m below meth c A hA C hret ls hl hW
  have C : cx p s m ([.ref a_r0, .int x1, .int x2] : List Value).toArray meth c b_M_order 9 R_M D (kTy cI cS) (Cond.code y_M_order b_M_order 9 (some FieldType.int)) := C
  obtain ⟨hx, hb, hml, hown, hts, hK, hlk, hN⟩ := id C
  have hl : lv_has ls 9 [(0, .ref a_r0), (1, .int x1), (2, .int x2)] := hl
  obtain ⟨Q, hQ⟩ : ∃ Q, Q = MQ below (qI D (w_M_order cI a_r0 a_r0_figures a_r0_hampers a_r0_kinds a_r0_left0 a_r0_leftThen a_r0_likely0 a_r0_order0 a_r0_refusals a_r0_wants0 a_r0_weights v_r0_done0 v_r0_letters v_r0_letterMany v_r0_at v_r0_isBad v_r0_statements v_r0_placeIn v_r0_letterOf v_r0_told v_r0_kept v_r0_imaged v_r0_hasImage v_r0_place0 v_r0_isTaking v_r0_keptIn v_r0_turns0 v_r0_turnOf v_r0_turned v_r0_row v_r0_rowMany v_r0_seed r0_days r0_things o.2.1 r0_figures r0_hampers r0_kinds r0_left0 o.2.2.1 o.2.2.2.1 o.2.2.2.2.1 o.2.2.2.2.2 r0_wants0 r0_weights) o.1 A) ([.ref a_r0, .int x1, .int x2] : List Value).toArray s 0 0 A := ⟨_, rfl⟩
  rw [← hQ]
  refine lv_aload_n hx hb d_M_order_0 rfl (lv_at hl 0 rfl) ?_
  refine lv_iconst (v := 0) hx hb d_M_order_1 (by decide) ?_
  refine k_put i_M t_M_ok n_M C hW 0 rfl rfl 9 (by decide) qf_M_67 rfl rfl (ty := .int) rfl rfl rfl (Nat.le_of_ble_eq_true rfl) (ws' := (w_M_order cI a_r0 a_r0_figures a_r0_hampers a_r0_kinds a_r0_left0 a_r0_leftThen a_r0_likely0 a_r0_order0 a_r0_refusals a_r0_wants0 a_r0_weights v_r0_done0 v_r0_letters v_r0_letterMany v_r0_at v_r0_isBad v_r0_statements v_r0_placeIn v_r0_letterOf v_r0_told v_r0_kept v_r0_imaged v_r0_hasImage v_r0_place0 v_r0_isTaking v_r0_keptIn v_r0_turns0 v_r0_turnOf v_r0_turned v_r0_row v_r0_rowMany v_r0_seed r0_days r0_things 0 r0_figures r0_hampers r0_kinds r0_left0 r0_leftThen r0_likely0 r0_order0 r0_refusals r0_wants0 r0_weights)) rfl d_M_order_2 (fun H locs hW => ?_)
  refine lv_iload_n hx hb d_M_order_5 rfl (lv_at hl 1 rfl) ?_
  refine lv_iconst (v := 1) hx hb d_M_order_6 (by decide) ?_
  have hJ_2 : ∀ (s0_2 : Int32), F_M_order_J46_2 r0_days r0_things r0_figures r0_hampers r0_kinds r0_left0 r0_leftThen r0_likely0 r0_order0 r0_refusals r0_wants0 r0_weights x1 x2 s0_2 = some o → ∀ (H : Heap) (locs : List Loc) (ls : Array Slot), wd A s.heap D (w_M_order cI a_r0 a_r0_figures a_r0_hampers a_r0_kinds a_r0_left0 a_r0_leftThen a_r0_likely0 a_r0_order0 a_r0_refusals a_r0_wants0 a_r0_weights v_r0_done0 v_r0_letters v_r0_letterMany v_r0_at v_r0_isBad v_r0_statements v_r0_placeIn v_r0_letterOf v_r0_told v_r0_kept v_r0_imaged v_r0_hasImage v_r0_place0 v_r0_isTaking v_r0_keptIn v_r0_turns0 v_r0_turnOf v_r0_turned v_r0_row v_r0_rowMany v_r0_seed r0_days r0_things 0 r0_figures r0_hampers r0_kinds r0_left0 r0_leftThen r0_likely0 r0_order0 r0_refusals r0_wants0 r0_weights) H locs → lv_has ls 9 [(0, .ref a_r0), (1, .int x1), (2, .int x2)] → W p l e (rmd 4) s m ([.ref a_r0, .int x1, .int x2] : List Value).toArray below meth c H locs 0 0 Q (F0 m 46 ls [.int s0_2]) := by
    intro s0_2 hr H locs ls hW hl
    unfold F_M_order_J46_2 at hr
    refine lv_istore_n (lv' := [(3, .int s0_2), (0, .ref a_r0), (1, .int x1), (2, .int x2)]) hx hb d_M_order_46 rfl hl (by decide) rfl (fun ls hl => ?_)
    refine lv_iload_n hx hb d_M_order_47 rfl (lv_at hl 0 rfl) ?_
    refine lv_if_ge (tgt := 57) hx hb d_M_order_48 (by decide) (fun c_3 => ?_) (fun c_3 => ?_)
    · replace hr := ip c_3 hr
      refine lv_iconst (v := 0) hx hb d_M_order_57 (by decide) ?_
      refine lv_istore (lv' := [(4, .int 0), (3, .int s0_2), (0, .ref a_r0), (1, .int x1), (2, .int x2)]) hx hb d_M_order_58 hl (by decide) rfl (fun ls hl => ?_)
      obtain ⟨ex_4, hw_4, hk_4⟩ := ob hr
      have hx_4 : ∀ (e_4 : (Nat → Int32)), e_4 = ex_4 → ∀ (H : Heap) (locs : List Loc) (ls : Array Slot), wd A s.heap D (w_M_order cI a_r0 a_r0_figures a_r0_hampers a_r0_kinds a_r0_left0 a_r0_leftThen a_r0_likely0 a_r0_order0 a_r0_refusals a_r0_wants0 a_r0_weights v_r0_done0 v_r0_letters v_r0_letterMany v_r0_at v_r0_isBad v_r0_statements v_r0_placeIn v_r0_letterOf v_r0_told v_r0_kept v_r0_imaged v_r0_hasImage v_r0_place0 v_r0_isTaking v_r0_keptIn v_r0_turns0 v_r0_turnOf v_r0_turned v_r0_row v_r0_rowMany v_r0_seed r0_days r0_things 0 r0_figures r0_hampers r0_kinds r0_left0 r0_leftThen e_4 r0_order0 r0_refusals r0_wants0 r0_weights) H locs → lv_has ls 9 [(0, .ref a_r0), (1, .int x1), (2, .int x2)] → W p l e (rmd 4) s m ([.ref a_r0, .int x1, .int x2] : List Value).toArray below meth c H locs 0 0 Q (F0 m 88 ls []) := by
        intro e_4 hE H locs ls hW hl
        subst hE; have hr := hk_4
        refine lv_iconst (v := 0) hx hb d_M_order_88 (by decide) ?_
        refine lv_istore (lv' := [(4, .int 0), (0, .ref a_r0), (1, .int x1), (2, .int x2)]) hx hb d_M_order_89 hl (by decide) rfl (fun ls hl => ?_)
        refine lv_iconst (v := (-1)) hx hb d_M_order_91 (by decide) ?_
        refine lv_istore (lv' := [(5, .int (-1)), (4, .int 0), (0, .ref a_r0), (1, .int x1), (2, .int x2)]) hx hb d_M_order_92 hl (by decide) rfl (fun ls hl => ?_)
        refine lv_aload_n hx hb d_M_order_94 rfl (lv_at hl 2 rfl) ?_
        refine k_get i_M C hW 0 rfl rfl 4 (by decide) qf_M_78 rfl rfl d_M_order_95 ?_
        obtain ⟨q_8, hc_8, hr⟩ := ob hr
        have ct_8 := C_M_ordersOf l D cI cS r0_days q_8 hc_8
        refine k_goIp hA hW [] rfl rfl (k_runS C hA hW mw_M_ordersOf ms_M_ordersOf (ct_8.2 _) [] rfl rfl qm_M_243 ⟨Nat.le_of_ble_eq_true rfl, Nat.le_of_ble_eq_true rfl, Nat.zero_le _, Nat.zero_le _⟩ rfl rfl (Nat.le_of_ble_eq_true rfl) hl.1 d_M_order_98) (fun H locs hW => ?_)
        refine lv_istore (lv' := [(6, .int q_8), (5, .int (-1)), (4, .int 0), (0, .ref a_r0), (1, .int x1), (2, .int x2)]) hx hb d_M_order_101 hl (by decide) rfl (fun ls hl => ?_)
        refine lv_iconst (v := 0) hx hb d_M_order_103 (by decide) ?_
        refine lv_istore (lv' := [(7, .int 0), (6, .int q_8), (5, .int (-1)), (4, .int 0), (0, .ref a_r0), (1, .int x1), (2, .int x2)]) hx hb d_M_order_104 hl (by decide) rfl (fun ls hl => ?_)
        obtain ⟨ex_9, hw_9, hk_9⟩ := ob hr
        have hx_9 : ∀ (e_9 : (Int32) × (Int32) × (Nat → Int32) × (Nat → Int32)), e_9 = ex_9 → ∀ (H : Heap) (locs : List Loc) (ls : Array Slot), wd A s.heap D (w_M_order cI a_r0 a_r0_figures a_r0_hampers a_r0_kinds a_r0_left0 a_r0_leftThen a_r0_likely0 a_r0_order0 a_r0_refusals a_r0_wants0 a_r0_weights v_r0_done0 v_r0_letters v_r0_letterMany v_r0_at v_r0_isBad v_r0_statements v_r0_placeIn v_r0_letterOf v_r0_told v_r0_kept v_r0_imaged v_r0_hasImage v_r0_place0 v_r0_isTaking v_r0_keptIn v_r0_turns0 v_r0_turnOf v_r0_turned v_r0_row v_r0_rowMany v_r0_seed r0_days r0_things 0 r0_figures r0_hampers r0_kinds r0_left0 e_9.2.2.1 e_4 e_9.2.2.2 r0_refusals r0_wants0 r0_weights) H locs → lv_has ls 9 [(0, .ref a_r0), (2, .int x2), (4, .int e_9.1), (5, .int e_9.2.1)] → W p l e (rmd 4) s m ([.ref a_r0, .int x1, .int x2] : List Value).toArray below meth c H locs 0 0 Q (F0 m 168 ls []) := by
          intro e_9 hE H locs ls hW hl
          subst hE; have hr := hk_9
          refine lv_aload_n hx hb d_M_order_168 rfl (lv_at hl 0 rfl) ?_
          refine lv_iload hx hb d_M_order_169 (lv_at hl 2 rfl) ?_
          refine lv_aload_n hx hb d_M_order_171 rfl (lv_at hl 0 rfl) ?_
          refine k_get i_M C hW 0 rfl rfl 4 (by decide) qf_M_78 rfl rfl d_M_order_172 ?_
          obtain ⟨q_16, hc_16, hr⟩ := ob hr
          have ct_16 := C_M_layOrder l D cI cS a_r0 a_r0_order0 (Value.ref a_r0_weights) (Value.int r0_things) (Value.ref a_r0_kinds) (Value.ref a_r0_figures) (Value.int r0_days) (Value.ref a_r0_hampers) (Value.ref a_r0_wants0) (Value.ref a_r0_left0) v_r0_done0 (Value.int 0) (Value.ref a_r0_refusals) v_r0_letters v_r0_letterMany v_r0_at v_r0_isBad v_r0_statements v_r0_placeIn v_r0_letterOf v_r0_told v_r0_kept v_r0_imaged v_r0_hasImage v_r0_place0 v_r0_isTaking v_r0_keptIn v_r0_turns0 v_r0_turnOf v_r0_turned (Value.ref a_r0_likely0) (Value.ref a_r0_leftThen) v_r0_row v_r0_rowMany v_r0_seed e_9.2.2.2 e_9.1 r0_days q_16 hc_16
          refine k_goV hA hW [0, 7] rfl ct_16.1 (ws' := (w_M_order cI a_r0 a_r0_figures a_r0_hampers a_r0_kinds a_r0_left0 a_r0_leftThen a_r0_likely0 a_r0_order0 a_r0_refusals a_r0_wants0 a_r0_weights v_r0_done0 v_r0_letters v_r0_letterMany v_r0_at v_r0_isBad v_r0_statements v_r0_placeIn v_r0_letterOf v_r0_told v_r0_kept v_r0_imaged v_r0_hasImage v_r0_place0 v_r0_isTaking v_r0_keptIn v_r0_turns0 v_r0_turnOf v_r0_turned v_r0_row v_r0_rowMany v_r0_seed r0_days r0_things 0 r0_figures r0_hampers r0_kinds r0_left0 e_9.2.2.1 e_4 q_16 r0_refusals r0_wants0 r0_weights)) rfl (k_runV C hA hW mw_M_layOrder mv_M_layOrder (ct_16.2 _) [0, 7] rfl rfl 0 rfl rfl qm_M_246 ⟨Nat.le_of_ble_eq_true rfl, Nat.le_of_ble_eq_true rfl, Nat.zero_le _, Nat.zero_le _⟩ rfl rfl (Nat.le_of_ble_eq_true rfl) hl.1 d_M_order_175) (fun H locs hW => ?_)
          refine lv_iload_n hx hb d_M_order_178 rfl (lv_at hl 1 rfl) ?_
          refine lv_if_ge (tgt := 187) hx hb d_M_order_179 (by decide) (fun c_17 => ?_) (fun c_17 => ?_)
          · replace hr := ip c_17 hr
            refine lv_iload_n hx hb d_M_order_187 rfl (lv_at hl 1 rfl) ?_
            refine lv_aload_n hx hb d_M_order_188 rfl (lv_at hl 0 rfl) ?_
            refine k_get i_M C hW 0 rfl rfl 4 (by decide) qf_M_78 rfl rfl d_M_order_189 ?_
            refine lv_icmp_ge (tgt := 204) hx hb d_M_order_192 (by decide) (fun c_18 => ?_) (fun c_18 => ?_)
            · replace hr := ip c_18 hr
              refine lv_bipush (v := (-9)) hx hb d_M_order_204 (by decide) ?_
              obtain rfl := Option.some.inj hr
              rw [hQ]; exact k_iret C hret hW d_M_order_206
            · replace hr := iN c_18 hr
              refine lv_aload_n hx hb d_M_order_195 rfl (lv_at hl 0 rfl) ?_
              refine k_get i_M C hW 0 rfl rfl 28 (by decide) qf_M_55 rfl rfl d_M_order_196 ?_
              refine lv_iload_n hx hb d_M_order_199 rfl (lv_at hl 1 rfl) ?_
              obtain ⟨h_19, hr⟩ := ck_some hr
              refine k_iald C hW 7 rfl h_19 d_M_order_200 ?_
              refine lv_goto (tgt := 206) hx hb d_M_order_201 (by decide) ?_
              obtain rfl := Option.some.inj hr
              rw [hQ]; exact k_iret C hret hW d_M_order_206
          · replace hr := iN c_17 hr
            refine lv_iload hx hb d_M_order_182 (lv_at hl 3 rfl) ?_
            refine lv_goto (tgt := 206) hx hb d_M_order_184 (by decide) ?_
            obtain rfl := Option.some.inj hr
            rw [hQ]; exact k_iret C hret hW d_M_order_206
        have hl_9 : ∀ (k : Nat) (y4_9 : Int32) (y5_9 : Int32) (y7_9 : Int32) (r0_leftThen_9 : Nat → Int32) (r0_order0_9 : Nat → Int32), wh (fun (s : (Int32) × (Int32) × (Int32) × (Nat → Int32) × (Nat → Int32)) => F_M_order_L106 r0_days r0_left0 r0_wants0 e_4 q_8 x1 s.1 s.2.1 s.2.2.1 s.2.2.2.1 s.2.2.2.2) k (y4_9, y5_9, y7_9, r0_leftThen_9, r0_order0_9) = some ex_9 → ∀ (H : Heap) (locs : List Loc) (ls : Array Slot), wd A s.heap D (w_M_order cI a_r0 a_r0_figures a_r0_hampers a_r0_kinds a_r0_left0 a_r0_leftThen a_r0_likely0 a_r0_order0 a_r0_refusals a_r0_wants0 a_r0_weights v_r0_done0 v_r0_letters v_r0_letterMany v_r0_at v_r0_isBad v_r0_statements v_r0_placeIn v_r0_letterOf v_r0_told v_r0_kept v_r0_imaged v_r0_hasImage v_r0_place0 v_r0_isTaking v_r0_keptIn v_r0_turns0 v_r0_turnOf v_r0_turned v_r0_row v_r0_rowMany v_r0_seed r0_days r0_things 0 r0_figures r0_hampers r0_kinds r0_left0 r0_leftThen_9 e_4 r0_order0_9 r0_refusals r0_wants0 r0_weights) H locs → lv_has ls 9 [(6, .int q_8), (0, .ref a_r0), (1, .int x1), (2, .int x2), (4, .int y4_9), (5, .int y5_9), (7, .int y7_9)] → W p l e (rmd 4) s m ([.ref a_r0, .int x1, .int x2] : List Value).toArray below meth c H locs 0 0 Q (F0 m 106 ls []) := by
          intro k
          induction k with
          | zero => intro y4_9 y5_9 y7_9 r0_leftThen_9 r0_order0_9 hw; exact absurd hw wh_0
          | succ k ih_9 =>
            intro y4_9 y5_9 y7_9 r0_leftThen_9 r0_order0_9 hw H locs ls hW hl
            obtain ⟨z_9, hr, hz1_9, hz2_9⟩ := wh_s hw
            have hr : F_M_order_L106 r0_days r0_left0 r0_wants0 e_4 q_8 x1 y4_9 y5_9 y7_9 r0_leftThen_9 r0_order0_9 = some z_9 := hr
            unfold F_M_order_L106 at hr
            refine lv_iload hx hb d_M_order_106 (lv_at hl 6 rfl) ?_
            refine lv_iload hx hb d_M_order_108 (lv_at hl 0 rfl) ?_
            refine lv_icmp_ge (tgt := 168) hx hb d_M_order_110 (by decide) (fun c_10 => ?_) (fun c_10 => ?_)
            · replace hr := ip c_10 hr
              exact hx_9 _ (hz2_9 _ (Option.some.inj hr).symm) _ _ _ hW (lv_sub hl [1, 3, 4, 5] rfl)
            · replace hr := iN c_10 hr
              refine lv_aload_n hx hb d_M_order_113 rfl (lv_at hl 1 rfl) ?_
              refine lv_iload hx hb d_M_order_114 (lv_at hl 6 rfl) ?_
              refine lv_aload_n hx hb d_M_order_116 rfl (lv_at hl 1 rfl) ?_
              refine k_get i_M C hW 0 rfl rfl 4 (by decide) qf_M_78 rfl rfl d_M_order_117 ?_
              obtain ⟨q_11, hc_11, hr⟩ := ob hr
              have ct_11 := C_M_layOrder l D cI cS a_r0 a_r0_order0 (Value.ref a_r0_weights) (Value.int r0_things) (Value.ref a_r0_kinds) (Value.ref a_r0_figures) (Value.int r0_days) (Value.ref a_r0_hampers) (Value.ref a_r0_wants0) (Value.ref a_r0_left0) v_r0_done0 (Value.int 0) (Value.ref a_r0_refusals) v_r0_letters v_r0_letterMany v_r0_at v_r0_isBad v_r0_statements v_r0_placeIn v_r0_letterOf v_r0_told v_r0_kept v_r0_imaged v_r0_hasImage v_r0_place0 v_r0_isTaking v_r0_keptIn v_r0_turns0 v_r0_turnOf v_r0_turned (Value.ref a_r0_likely0) (Value.ref a_r0_leftThen) v_r0_row v_r0_rowMany v_r0_seed r0_order0_9 y7_9 r0_days q_11 hc_11
              refine k_goV hA hW [0, 7] rfl ct_11.1 (ws' := (w_M_order cI a_r0 a_r0_figures a_r0_hampers a_r0_kinds a_r0_left0 a_r0_leftThen a_r0_likely0 a_r0_order0 a_r0_refusals a_r0_wants0 a_r0_weights v_r0_done0 v_r0_letters v_r0_letterMany v_r0_at v_r0_isBad v_r0_statements v_r0_placeIn v_r0_letterOf v_r0_told v_r0_kept v_r0_imaged v_r0_hasImage v_r0_place0 v_r0_isTaking v_r0_keptIn v_r0_turns0 v_r0_turnOf v_r0_turned v_r0_row v_r0_rowMany v_r0_seed r0_days r0_things 0 r0_figures r0_hampers r0_kinds r0_left0 r0_leftThen_9 e_4 q_11 r0_refusals r0_wants0 r0_weights)) rfl (k_runV C hA hW mw_M_layOrder mv_M_layOrder (ct_11.2 _) [0, 7] rfl rfl 0 rfl rfl qm_M_246 ⟨Nat.le_of_ble_eq_true rfl, Nat.le_of_ble_eq_true rfl, Nat.zero_le _, Nat.zero_le _⟩ rfl rfl (Nat.le_of_ble_eq_true rfl) hl.1 d_M_order_120) (fun H locs hW => ?_)
              refine lv_aload_n hx hb d_M_order_123 rfl (lv_at hl 1 rfl) ?_
              refine lv_iload_n hx hb d_M_order_124 rfl (lv_at hl 2 rfl) ?_
              obtain ⟨q_12, hc_12, hr⟩ := ob hr
              have ct_12 := C_M_doneBy l D cI cS a_r0 a_r0_left0 a_r0_leftThen a_r0_likely0 a_r0_order0 a_r0_wants0 (Value.ref a_r0_weights) (Value.int r0_things) (Value.ref a_r0_kinds) (Value.ref a_r0_figures) (Value.ref a_r0_hampers) v_r0_done0 (Value.int 0) (Value.ref a_r0_refusals) v_r0_letters v_r0_letterMany v_r0_at v_r0_isBad v_r0_statements v_r0_placeIn v_r0_letterOf v_r0_told v_r0_kept v_r0_imaged v_r0_hasImage v_r0_place0 v_r0_isTaking v_r0_keptIn v_r0_turns0 v_r0_turnOf v_r0_turned v_r0_row v_r0_rowMany v_r0_seed r0_days r0_left0 r0_leftThen_9 e_4 q_11 r0_wants0 x1 q_12 hc_12
              refine k_goI hA hW [0, 4, 5, 6, 7, 9] rfl ct_12.1 (ws' := (w_M_order cI a_r0 a_r0_figures a_r0_hampers a_r0_kinds a_r0_left0 a_r0_leftThen a_r0_likely0 a_r0_order0 a_r0_refusals a_r0_wants0 a_r0_weights v_r0_done0 v_r0_letters v_r0_letterMany v_r0_at v_r0_isBad v_r0_statements v_r0_placeIn v_r0_letterOf v_r0_told v_r0_kept v_r0_imaged v_r0_hasImage v_r0_place0 v_r0_isTaking v_r0_keptIn v_r0_turns0 v_r0_turnOf v_r0_turned v_r0_row v_r0_rowMany v_r0_seed r0_days r0_things 0 r0_figures r0_hampers r0_kinds r0_left0 q_12.2 e_4 q_11 r0_refusals r0_wants0 r0_weights)) rfl (k_runV C hA hW mw_M_doneBy mv_M_doneBy (ct_12.2 _) [0, 4, 5, 6, 7, 9] rfl rfl 0 rfl rfl qm_M_249 ⟨Nat.le_of_ble_eq_true rfl, Nat.le_of_ble_eq_true rfl, Nat.zero_le _, Nat.zero_le _⟩ rfl rfl (Nat.le_of_ble_eq_true rfl) hl.1 d_M_order_125) (fun H locs hW => ?_)
              refine lv_istore (lv' := [(8, .int q_12.1), (6, .int q_8), (0, .ref a_r0), (1, .int x1), (2, .int x2), (4, .int y4_9), (5, .int y5_9), (7, .int y7_9)]) hx hb d_M_order_128 hl (by decide) rfl (fun ls hl => ?_)
              refine lv_iload hx hb d_M_order_130 (lv_at hl 0 rfl) ?_
              refine lv_iload hx hb d_M_order_132 (lv_at hl 6 rfl) ?_
              have hJ_14 : ∀ (s0_14 : Int32), F_M_order_J144_14 y5_9 y7_9 q_11 q_12 s0_14 = some z_9 → ∀ (H : Heap) (locs : List Loc) (ls : Array Slot), wd A s.heap D (w_M_order cI a_r0 a_r0_figures a_r0_hampers a_r0_kinds a_r0_left0 a_r0_leftThen a_r0_likely0 a_r0_order0 a_r0_refusals a_r0_wants0 a_r0_weights v_r0_done0 v_r0_letters v_r0_letterMany v_r0_at v_r0_isBad v_r0_statements v_r0_placeIn v_r0_letterOf v_r0_told v_r0_kept v_r0_imaged v_r0_hasImage v_r0_place0 v_r0_isTaking v_r0_keptIn v_r0_turns0 v_r0_turnOf v_r0_turned v_r0_row v_r0_rowMany v_r0_seed r0_days r0_things 0 r0_figures r0_hampers r0_kinds r0_left0 q_12.2 e_4 q_11 r0_refusals r0_wants0 r0_weights) H locs → lv_has ls 9 [(0, .ref a_r0), (1, .int x1), (2, .int x2), (5, .int y5_9), (6, .int q_8), (7, .int y7_9), (8, .int q_12.1)] → W p l e (rmd 4) s m ([.ref a_r0, .int x1, .int x2] : List Value).toArray below meth c H locs 0 0 Q (F0 m 144 ls [.int s0_14]) := by
                intro s0_14 hr H locs ls hW hl
                unfold F_M_order_J144_14 at hr
                refine lv_istore (lv' := [(4, .int s0_14), (0, .ref a_r0), (1, .int x1), (2, .int x2), (5, .int y5_9), (6, .int q_8), (7, .int y7_9), (8, .int q_12.1)]) hx hb d_M_order_144 hl (by decide) rfl (fun ls hl => ?_)
                refine lv_iload hx hb d_M_order_146 (lv_at hl 7 rfl) ?_
                refine lv_iload hx hb d_M_order_148 (lv_at hl 4 rfl) ?_
                refine lv_icmp_le (tgt := 158) hx hb d_M_order_150 (by decide) (fun c_15 => ?_) (fun c_15 => ?_)
                · replace hr := ip c_15 hr
                  refine lv_iload hx hb d_M_order_158 (lv_at hl 4 rfl) ?_
                  refine lv_istore (lv' := [(5, .int y5_9), (4, .int s0_14), (0, .ref a_r0), (1, .int x1), (2, .int x2), (6, .int q_8), (7, .int y7_9), (8, .int q_12.1)]) hx hb d_M_order_160 hl (by decide) rfl (fun ls hl => ?_)
                  refine lv_iinc (v := (y7_9 + 1)) (lv' := [(7, .int (y7_9 + 1)), (5, .int y5_9), (4, .int s0_14), (0, .ref a_r0), (1, .int x1), (2, .int x2), (6, .int q_8), (8, .int q_12.1)]) hx hb d_M_order_162 hl (k := 6) rfl rfl (by decide) rfl (fun ls hl => ?_)
                  refine lv_goto (tgt := 106) hx hb d_M_order_165 (by decide) ?_
                  exact ih_9 s0_14 y5_9 (y7_9 + 1) q_12.2 q_11 (hz1_9 _ (Option.some.inj hr).symm) _ _ _ hW (lv_sub hl [6, 3, 4, 5, 2, 1, 0] rfl)
                · replace hr := iN c_15 hr
                  refine lv_iload hx hb d_M_order_153 (lv_at hl 7 rfl) ?_
                  refine lv_goto (tgt := 160) hx hb d_M_order_155 (by decide) ?_
                  refine lv_istore (lv' := [(5, .int q_12.1), (4, .int s0_14), (0, .ref a_r0), (1, .int x1), (2, .int x2), (6, .int q_8), (7, .int y7_9), (8, .int q_12.1)]) hx hb d_M_order_160 hl (by decide) rfl (fun ls hl => ?_)
                  refine lv_iinc (v := (y7_9 + 1)) (lv' := [(7, .int (y7_9 + 1)), (5, .int q_12.1), (4, .int s0_14), (0, .ref a_r0), (1, .int x1), (2, .int x2), (6, .int q_8), (8, .int q_12.1)]) hx hb d_M_order_162 hl (k := 6) rfl rfl (by decide) rfl (fun ls hl => ?_)
                  refine lv_goto (tgt := 106) hx hb d_M_order_165 (by decide) ?_
                  exact ih_9 s0_14 q_12.1 (y7_9 + 1) q_12.2 q_11 (hz1_9 _ (Option.some.inj hr).symm) _ _ _ hW (lv_sub hl [6, 3, 4, 5, 2, 1, 0] rfl)
              refine lv_icmp_le (tgt := 142) hx hb d_M_order_134 (by decide) (fun c_13 => ?_) (fun c_13 => ?_)
              · replace hr := ip c_13 hr
                refine lv_iload hx hb d_M_order_142 (lv_at hl 5 rfl) ?_
                exact hJ_14 y4_9 hr _ _ _ hW (lv_sub hl [2, 3, 4, 6, 1, 7, 0] rfl)
              · replace hr := iN c_13 hr
                refine lv_iload hx hb d_M_order_137 (lv_at hl 7 rfl) ?_
                refine lv_goto (tgt := 144) hx hb d_M_order_139 (by decide) ?_
                exact hJ_14 y7_9 hr _ _ _ hW (lv_sub hl [2, 3, 4, 6, 1, 7, 0] rfl)
        exact hl_9 _ 0 (-1) 0 r0_leftThen r0_order0 hw_9 _ _ _ hW (lv_sub hl [1, 4, 5, 6, 3, 2, 0] rfl)
      have hl_4 : ∀ (k : Nat) (y4_4 : Int32) (r0_likely0_4 : Nat → Int32), wh (fun (s : (Int32) × (Nat → Int32)) => F_M_order_L60 r0_days r0_things r0_figures r0_hampers r0_kinds r0_weights s.1 s.2) k (y4_4, r0_likely0_4) = some ex_4 → ∀ (H : Heap) (locs : List Loc) (ls : Array Slot), wd A s.heap D (w_M_order cI a_r0 a_r0_figures a_r0_hampers a_r0_kinds a_r0_left0 a_r0_leftThen a_r0_likely0 a_r0_order0 a_r0_refusals a_r0_wants0 a_r0_weights v_r0_done0 v_r0_letters v_r0_letterMany v_r0_at v_r0_isBad v_r0_statements v_r0_placeIn v_r0_letterOf v_r0_told v_r0_kept v_r0_imaged v_r0_hasImage v_r0_place0 v_r0_isTaking v_r0_keptIn v_r0_turns0 v_r0_turnOf v_r0_turned v_r0_row v_r0_rowMany v_r0_seed r0_days r0_things 0 r0_figures r0_hampers r0_kinds r0_left0 r0_leftThen r0_likely0_4 r0_order0 r0_refusals r0_wants0 r0_weights) H locs → lv_has ls 9 [(0, .ref a_r0), (1, .int x1), (2, .int x2), (4, .int y4_4)] → W p l e (rmd 4) s m ([.ref a_r0, .int x1, .int x2] : List Value).toArray below meth c H locs 0 0 Q (F0 m 60 ls []) := by
        intro k
        induction k with
        | zero => intro y4_4 r0_likely0_4 hw; exact absurd hw wh_0
        | succ k ih_4 =>
          intro y4_4 r0_likely0_4 hw H locs ls hW hl
          obtain ⟨z_4, hr, hz1_4, hz2_4⟩ := wh_s hw
          have hr : F_M_order_L60 r0_days r0_things r0_figures r0_hampers r0_kinds r0_weights y4_4 r0_likely0_4 = some z_4 := hr
          unfold F_M_order_L60 at hr
          refine lv_iload hx hb d_M_order_60 (lv_at hl 3 rfl) ?_
          refine lv_aload_n hx hb d_M_order_62 rfl (lv_at hl 0 rfl) ?_
          refine k_get i_M C hW 0 rfl rfl 4 (by decide) qf_M_78 rfl rfl d_M_order_63 ?_
          refine lv_icmp_ge (tgt := 88) hx hb d_M_order_66 (by decide) (fun c_5 => ?_) (fun c_5 => ?_)
          · replace hr := ip c_5 hr
            exact hx_4 _ (hz2_4 _ (Option.some.inj hr).symm) _ _ _ hW (lv_sub hl [0, 1, 2] rfl)
          · replace hr := iN c_5 hr
            refine lv_aload_n hx hb d_M_order_69 rfl (lv_at hl 0 rfl) ?_
            refine k_get i_M C hW 0 rfl rfl 29 (by decide) qf_M_58 rfl rfl d_M_order_70 ?_
            refine lv_iload hx hb d_M_order_73 (lv_at hl 3 rfl) ?_
            refine lv_aload_n hx hb d_M_order_75 rfl (lv_at hl 0 rfl) ?_
            refine lv_iload hx hb d_M_order_76 (lv_at hl 3 rfl) ?_
            obtain ⟨q_6, hc_6, hr⟩ := ob hr
            have ct_6 := C_M_likelyOn l D cI cS a_r0 a_r0_figures a_r0_hampers a_r0_kinds a_r0_weights (Value.int r0_days) (Value.ref a_r0_wants0) (Value.ref a_r0_left0) v_r0_done0 (Value.int 0) (Value.ref a_r0_refusals) v_r0_letters v_r0_letterMany v_r0_at v_r0_isBad v_r0_statements v_r0_placeIn v_r0_letterOf v_r0_told v_r0_kept v_r0_imaged v_r0_hasImage v_r0_place0 v_r0_isTaking v_r0_keptIn v_r0_turns0 v_r0_turnOf v_r0_turned (Value.ref a_r0_order0) (Value.ref a_r0_likely0) (Value.ref a_r0_leftThen) v_r0_row v_r0_rowMany v_r0_seed r0_things r0_figures r0_hampers r0_kinds r0_weights y4_4 q_6 hc_6
            refine k_goIp hA hW [0, 1, 2, 3, 10] rfl rfl (k_runV C hA hW mw_M_likelyOn mv_M_likelyOn (ct_6.2 _) [0, 1, 2, 3, 10] rfl rfl 0 rfl rfl qm_M_153 ⟨Nat.le_of_ble_eq_true rfl, Nat.le_of_ble_eq_true rfl, Nat.zero_le _, Nat.zero_le _⟩ rfl rfl (Nat.le_of_ble_eq_true rfl) hl.1 d_M_order_78) (fun H locs hW => ?_)
            obtain ⟨h_7, hr⟩ := ck_some hr
            refine k_iast C hW 6 rfl h_7 (ws' := (w_M_order cI a_r0 a_r0_figures a_r0_hampers a_r0_kinds a_r0_left0 a_r0_leftThen a_r0_likely0 a_r0_order0 a_r0_refusals a_r0_wants0 a_r0_weights v_r0_done0 v_r0_letters v_r0_letterMany v_r0_at v_r0_isBad v_r0_statements v_r0_placeIn v_r0_letterOf v_r0_told v_r0_kept v_r0_imaged v_r0_hasImage v_r0_place0 v_r0_isTaking v_r0_keptIn v_r0_turns0 v_r0_turnOf v_r0_turned v_r0_row v_r0_rowMany v_r0_seed r0_days r0_things 0 r0_figures r0_hampers r0_kinds r0_left0 r0_leftThen (upd r0_likely0_4 (Int32.toNatClampNeg y4_4) q_6) r0_order0 r0_refusals r0_wants0 r0_weights)) rfl d_M_order_81 (fun H locs hW => ?_)
            refine lv_iinc (v := (y4_4 + 1)) (lv' := [(4, .int (y4_4 + 1)), (0, .ref a_r0), (1, .int x1), (2, .int x2)]) hx hb d_M_order_82 hl (k := 3) rfl rfl (by decide) rfl (fun ls hl => ?_)
            refine lv_goto (tgt := 60) hx hb d_M_order_85 (by decide) ?_
            exact ih_4 (y4_4 + 1) (upd r0_likely0_4 (Int32.toNatClampNeg y4_4) q_6) (hz1_4 _ (Option.some.inj hr).symm) _ _ _ hW (lv_sub hl [1, 2, 3, 0] rfl)
      exact hl_4 _ 0 r0_likely0 hw_4 _ _ _ hW (lv_sub hl [2, 3, 4, 0] rfl)
    · replace hr := iN c_3 hr
      refine lv_aload_n hx hb d_M_order_51 rfl (lv_at hl 1 rfl) ?_
      refine lv_iload_n hx hb d_M_order_52 rfl (lv_at hl 0 rfl) ?_
      obtain ⟨q_20, hc_20, hr⟩ := ob hr
      have ct_20 := C_M_refuse l D cI cS a_r0 a_r0_refusals (Value.ref a_r0_weights) (Value.int r0_things) (Value.ref a_r0_kinds) (Value.ref a_r0_figures) (Value.int r0_days) (Value.ref a_r0_hampers) (Value.ref a_r0_wants0) (Value.ref a_r0_left0) v_r0_done0 (Value.int 0) v_r0_letters v_r0_letterMany v_r0_at v_r0_isBad v_r0_statements v_r0_placeIn v_r0_letterOf v_r0_told v_r0_kept v_r0_imaged v_r0_hasImage v_r0_place0 v_r0_isTaking v_r0_keptIn v_r0_turns0 v_r0_turnOf v_r0_turned (Value.ref a_r0_order0) (Value.ref a_r0_likely0) (Value.ref a_r0_leftThen) v_r0_row v_r0_rowMany v_r0_seed r0_refusals s0_2 q_20 hc_20
      refine k_goI hA hW [0, 8] rfl ct_20.1 (ws' := (w_M_order cI a_r0 a_r0_figures a_r0_hampers a_r0_kinds a_r0_left0 a_r0_leftThen a_r0_likely0 a_r0_order0 a_r0_refusals a_r0_wants0 a_r0_weights v_r0_done0 v_r0_letters v_r0_letterMany v_r0_at v_r0_isBad v_r0_statements v_r0_placeIn v_r0_letterOf v_r0_told v_r0_kept v_r0_imaged v_r0_hasImage v_r0_place0 v_r0_isTaking v_r0_keptIn v_r0_turns0 v_r0_turnOf v_r0_turned v_r0_row v_r0_rowMany v_r0_seed r0_days r0_things 0 r0_figures r0_hampers r0_kinds r0_left0 r0_leftThen r0_likely0 r0_order0 q_20.2 r0_wants0 r0_weights)) rfl (k_runV C hA hW mw_M_refuse mv_M_refuse (ct_20.2 _) [0, 8] rfl rfl 0 rfl rfl qm_M_108 ⟨Nat.le_of_ble_eq_true rfl, Nat.le_of_ble_eq_true rfl, Nat.zero_le _, Nat.zero_le _⟩ rfl rfl (Nat.le_of_ble_eq_true rfl) hl.1 d_M_order_53) (fun H locs hW => ?_)
      obtain rfl := Option.some.inj hr
      rw [hQ]; exact k_iret C hret hW d_M_order_56
  have hJ_21 : ∀ (_ : Unit), F_M_order_J15_21 r0_days r0_things r0_figures r0_hampers r0_kinds r0_left0 r0_leftThen r0_likely0 r0_order0 r0_refusals r0_wants0 r0_weights x1 x2 = some o → ∀ (H : Heap) (locs : List Loc) (ls : Array Slot), wd A s.heap D (w_M_order cI a_r0 a_r0_figures a_r0_hampers a_r0_kinds a_r0_left0 a_r0_leftThen a_r0_likely0 a_r0_order0 a_r0_refusals a_r0_wants0 a_r0_weights v_r0_done0 v_r0_letters v_r0_letterMany v_r0_at v_r0_isBad v_r0_statements v_r0_placeIn v_r0_letterOf v_r0_told v_r0_kept v_r0_imaged v_r0_hasImage v_r0_place0 v_r0_isTaking v_r0_keptIn v_r0_turns0 v_r0_turnOf v_r0_turned v_r0_row v_r0_rowMany v_r0_seed r0_days r0_things 0 r0_figures r0_hampers r0_kinds r0_left0 r0_leftThen r0_likely0 r0_order0 r0_refusals r0_wants0 r0_weights) H locs → lv_has ls 9 [(0, .ref a_r0), (1, .int x1), (2, .int x2)] → W p l e (rmd 4) s m ([.ref a_r0, .int x1, .int x2] : List Value).toArray below meth c H locs 0 0 Q (F0 m 15 ls []) := by
    intro _ hr H locs ls hW hl
    unfold F_M_order_J15_21 at hr
    refine lv_bipush (v := (-4)) hx hb d_M_order_15 (by decide) ?_
    refine lv_goto (tgt := 46) hx hb d_M_order_17 (by decide) ?_
    exact hJ_2 (-4) hr _ _ _ hW (lv_sub hl [0, 1, 2] rfl)
  refine lv_icmp_lt (tgt := 15) hx hb d_M_order_7 (by decide) (fun c_1 => ?_) (fun c_1 => ?_)
  · replace hr := ip c_1 hr
    exact hJ_21 () hr _ _ _ hW (lv_sub hl [0, 1, 2] rfl)
  · replace hr := iN c_1 hr
    refine lv_iload_n hx hb d_M_order_10 rfl (lv_at hl 2 rfl) ?_
    refine lv_iconst (v := (-1)) hx hb d_M_order_11 (by decide) ?_
    refine lv_icmp_ge (tgt := 20) hx hb d_M_order_12 (by decide) (fun c_22 => ?_) (fun c_22 => ?_)
    · replace hr := ip c_22 hr
      refine lv_iload_n hx hb d_M_order_20 rfl (lv_at hl 1 rfl) ?_
      refine lv_bipush (v := 8) hx hb d_M_order_21 (by decide) ?_
      refine lv_icmp_le (tgt := 31) hx hb d_M_order_23 (by decide) (fun c_23 => ?_) (fun c_23 => ?_)
      · replace hr := ip c_23 hr
        refine lv_aload_n hx hb d_M_order_31 rfl (lv_at hl 0 rfl) ?_
        refine k_get i_M C hW 0 rfl rfl 4 (by decide) qf_M_78 rfl rfl d_M_order_32 ?_
        refine lv_bipush (v := 7) hx hb d_M_order_35 (by decide) ?_
        refine lv_icmp_le (tgt := 45) hx hb d_M_order_37 (by decide) (fun c_24 => ?_) (fun c_24 => ?_)
        · replace hr := ip c_24 hr
          refine lv_iconst (v := 0) hx hb d_M_order_45 (by decide) ?_
          exact hJ_2 0 hr _ _ _ hW (lv_sub hl [0, 1, 2] rfl)
        · replace hr := iN c_24 hr
          refine lv_bipush (v := (-3)) hx hb d_M_order_40 (by decide) ?_
          refine lv_goto (tgt := 46) hx hb d_M_order_42 (by decide) ?_
          exact hJ_2 (-3) hr _ _ _ hW (lv_sub hl [0, 1, 2] rfl)
      · replace hr := iN c_23 hr
        refine lv_bipush (v := (-6)) hx hb d_M_order_26 (by decide) ?_
        refine lv_goto (tgt := 46) hx hb d_M_order_28 (by decide) ?_
        exact hJ_2 (-6) hr _ _ _ hW (lv_sub hl [0, 1, 2] rfl)
    · replace hr := iN c_22 hr
      exact hJ_21 () hr _ _ _ hW (lv_sub hl [0, 1, 2] rfl)
def w_M_pack (cI : ClassId) (a_r0 : Nat) (a_r0_figures : Nat) (a_r0_kinds : Nat) (a_r0_refusals : Nat) (v_r0_weights v_r0_days v_r0_hampers v_r0_wants0 v_r0_left0 v_r0_done0 v_r0_letters v_r0_letterMany v_r0_at v_r0_isBad v_r0_statements v_r0_placeIn v_r0_letterOf v_r0_told v_r0_kept v_r0_imaged v_r0_hasImage v_r0_place0 v_r0_isTaking v_r0_keptIn v_r0_turns0 v_r0_turnOf v_r0_turned v_r0_order0 v_r0_likely0 v_r0_leftThen v_r0_row v_r0_rowMany v_r0_seed : Value) (r0_things : Int32) (r0_thrown : Int32) (r0_figures : Nat → Int32) (r0_kinds : Nat → Int32) (r0_refusals : Nat → Int32) : va_W := [(a_r0, .inr (9, [v_r0_weights, .int r0_things, .ref a_r0_kinds, .ref a_r0_figures, v_r0_days, v_r0_hampers, v_r0_wants0, v_r0_left0, v_r0_done0, .int r0_thrown, .ref a_r0_refusals, v_r0_letters, v_r0_letterMany, v_r0_at, v_r0_isBad, v_r0_statements, v_r0_placeIn, v_r0_letterOf, v_r0_told, v_r0_kept, v_r0_imaged, v_r0_hasImage, v_r0_place0, v_r0_isTaking, v_r0_keptIn, v_r0_turns0, v_r0_turnOf, v_r0_turned, v_r0_order0, v_r0_likely0, v_r0_leftThen, v_r0_row, v_r0_rowMany, v_r0_seed])), (a_r0_figures, .inl (cI, 8, .inl r0_figures)), (a_r0_kinds, .inl (cI, 8, .inl r0_kinds)), (a_r0_refusals, .inl (cI, 7, .inl r0_refusals))]
def F_M_pack_J124_15 (y5_6 : Int32) (y6_6 : Int32) (s0_11 : Int32) (s0_13 : Int32) (s0_15 : Int32) : Option (((Int32) × (Int32) × (Int32)) ⊕ ((Int32))) :=
  (if s0_13 = 0 then (some (.inl (s0_15, y5_6, (y6_6 + 1)))) else (some (.inl (s0_15, s0_11, (y6_6 + 1)))))
def F_M_pack_J110_13 (y4_6 : Int32) (y5_6 : Int32) (y6_6 : Int32) (s0_11 : Int32) (s0_13 : Int32) : Option (((Int32) × (Int32) × (Int32)) ⊕ ((Int32))) :=
  (if s0_13 = 0 then (F_M_pack_J124_15 y5_6 y6_6 s0_11 s0_13 y4_6) else (F_M_pack_J124_15 y5_6 y6_6 s0_11 s0_13 y6_6))
def F_M_pack_J105_17 (y4_6 : Int32) (y5_6 : Int32) (y6_6 : Int32) (s0_11 : Int32) : Option (((Int32) × (Int32) × (Int32)) ⊕ ((Int32))) :=
  (F_M_pack_J110_13 y4_6 y5_6 y6_6 s0_11 1)
def F_M_pack_J91_11 (y4_6 : Int32) (y5_6 : Int32) (y6_6 : Int32) (s0_11 : Int32) : Option (((Int32) × (Int32) × (Int32)) ⊕ ((Int32))) :=
  (if y4_6 < 0 then (F_M_pack_J105_17 y4_6 y5_6 y6_6 s0_11) else (if y5_6 ≤ s0_11 then (F_M_pack_J110_13 y4_6 y5_6 y6_6 s0_11 0) else (F_M_pack_J105_17 y4_6 y5_6 y6_6 s0_11)))
def F_M_pack_L48 (r0_things : Int32) (r0_figures : Nat → Int32) (r0_kinds : Nat → Int32) (x1 : Int32) (x2 : Int32) (y4_6 : Int32) (y5_6 : Int32) (y6_6 : Int32) : Option (((Int32) × (Int32) × (Int32)) ⊕ ((Int32))) :=
  (if ((1 : Int32) <<< ((r0_things : Int32) &&& 31)) ≤ y6_6 then (some (.inr y4_6)) else ((F_M_couldBe r0_things r0_figures r0_kinds y6_6).bind (fun q_8 => (if q_8 = ((1 : Int32) <<< ((x1 : Int32) &&& 31)) then (if x2 = 0 then ((F_M_allHeavy r0_things r0_figures r0_kinds y6_6).bind (fun q_20 => (F_M_pack_J91_11 y4_6 y5_6 y6_6 q_20))) else ((F_M_allDear r0_things r0_figures r0_kinds y6_6).bind (fun q_19 => (F_M_pack_J91_11 y4_6 y5_6 y6_6 (-q_19))))) else (some (.inl (y4_6, y5_6, (y6_6 + 1))))))))
def F_M_pack_J22_3 (r0_things : Int32) (r0_figures : Nat → Int32) (r0_kinds : Nat → Int32) (r0_refusals : Nat → Int32) (x1 : Int32) (x2 : Int32) (s0_3 : Int32) : Option (Int32 × (Int32) × (Nat → Int32)) :=
  ((F_M_wrongBit s0_3 x2 (1 : Int32)).bind (fun q_4 => (if (0 : Int32) ≤ q_4 then ((wh (fun (s : (Int32) × (Int32) × (Int32)) => F_M_pack_L48 r0_things r0_figures r0_kinds x1 x2 s.1 s.2.1 s.2.2) 400 (((-9) : Int32), (0 : Int32), (0 : Int32))).bind (fun e_6 => (some (e_6, 0, r0_refusals)))) else ((F_M_refuse r0_refusals q_4).bind (fun q_21 => (some (q_21.1, 0, q_21.2)))))))
def F_M_pack (r0_things : Int32) (r0_figures : Nat → Int32) (r0_kinds : Nat → Int32) (r0_refusals : Nat → Int32) (x1 : Int32) (x2 : Int32) : Option (Int32 × (Int32) × (Nat → Int32)) :=
  ((F_M_in (Int32.toInt64 x1) (0 : Int64) (5 : Int64)).bind (fun q_1 => (if q_1 = 0 then (F_M_pack_J22_3 r0_things r0_figures r0_kinds r0_refusals x1 x2 (-1)) else (F_M_pack_J22_3 r0_things r0_figures r0_kinds r0_refusals x1 x2 0))))
set_option maxHeartbeats 4000000 in
set_option maxRecDepth 100000 in
theorem C_M_pack (l : Launch) (D : va_G) (cI cS : ClassId) (a_r0 : Nat) (a_r0_figures : Nat) (a_r0_kinds : Nat) (a_r0_refusals : Nat) (v_r0_weights v_r0_days v_r0_hampers v_r0_wants0 v_r0_left0 v_r0_done0 v_r0_letters v_r0_letterMany v_r0_at v_r0_isBad v_r0_statements v_r0_placeIn v_r0_letterOf v_r0_told v_r0_kept v_r0_imaged v_r0_hasImage v_r0_place0 v_r0_isTaking v_r0_keptIn v_r0_turns0 v_r0_turnOf v_r0_turned v_r0_order0 v_r0_likely0 v_r0_leftThen v_r0_row v_r0_rowMany v_r0_seed : Value) (r0_things : Int32) (r0_thrown : Int32) (r0_figures : Nat → Int32) (r0_kinds : Nat → Int32) (r0_refusals : Nat → Int32) (x1 : Int32) (x2 : Int32) (o : Int32 × (Int32) × (Nat → Int32)) (hr : F_M_pack r0_things r0_figures r0_kinds r0_refusals x1 x2 = some o) : ctI l y_M_pack (Cond.code y_M_pack b_M_pack 9 (some FieldType.int)) (rmd 3) D (kTy cI cS) [.ref a_r0, .int x1, .int x2] (w_M_pack cI a_r0 a_r0_figures a_r0_kinds a_r0_refusals v_r0_weights v_r0_days v_r0_hampers v_r0_wants0 v_r0_left0 v_r0_done0 v_r0_letters v_r0_letterMany v_r0_at v_r0_isBad v_r0_statements v_r0_placeIn v_r0_letterOf v_r0_told v_r0_kept v_r0_imaged v_r0_hasImage v_r0_place0 v_r0_isTaking v_r0_keptIn v_r0_turns0 v_r0_turnOf v_r0_turned v_r0_order0 v_r0_likely0 v_r0_leftThen v_r0_row v_r0_rowMany v_r0_seed r0_things r0_thrown r0_figures r0_kinds r0_refusals) (w_M_pack cI a_r0 a_r0_figures a_r0_kinds a_r0_refusals v_r0_weights v_r0_days v_r0_hampers v_r0_wants0 v_r0_left0 v_r0_done0 v_r0_letters v_r0_letterMany v_r0_at v_r0_isBad v_r0_statements v_r0_placeIn v_r0_letterOf v_r0_told v_r0_kept v_r0_imaged v_r0_hasImage v_r0_place0 v_r0_isTaking v_r0_keptIn v_r0_turns0 v_r0_turnOf v_r0_turned v_r0_order0 v_r0_likely0 v_r0_leftThen v_r0_row v_r0_rowMany v_r0_seed r0_things o.2.1 r0_figures r0_kinds o.2.2) o.1 := by
  unfold F_M_pack at hr
  refine ⟨rfl, fun sz => ct_of (w0 := (w_M_pack cI a_r0 a_r0_figures a_r0_kinds a_r0_refusals v_r0_weights v_r0_days v_r0_hampers v_r0_wants0 v_r0_left0 v_r0_done0 v_r0_letters v_r0_letterMany v_r0_at v_r0_isBad v_r0_statements v_r0_placeIn v_r0_letterOf v_r0_told v_r0_kept v_r0_imaged v_r0_hasImage v_r0_place0 v_r0_isTaking v_r0_keptIn v_r0_turns0 v_r0_turnOf v_r0_turned v_r0_order0 v_r0_likely0 v_r0_leftThen v_r0_row v_r0_rowMany v_r0_seed r0_things r0_thrown r0_figures r0_kinds r0_refusals)) (Qc := fun A => qI D (w_M_pack cI a_r0 a_r0_figures a_r0_kinds a_r0_refusals v_r0_weights v_r0_days v_r0_hampers v_r0_wants0 v_r0_left0 v_r0_done0 v_r0_letters v_r0_letterMany v_r0_at v_r0_isBad v_r0_statements v_r0_placeIn v_r0_letterOf v_r0_told v_r0_kept v_r0_imaged v_r0_hasImage v_r0_place0 v_r0_isTaking v_r0_keptIn v_r0_turns0 v_r0_turnOf v_r0_turned v_r0_order0 v_r0_likely0 v_r0_leftThen v_r0_row v_r0_rowMany v_r0_seed r0_things o.2.1 r0_figures r0_kinds o.2.2) o.1 A) rfl (Nat.le_of_ble_eq_true rfl) ?_ sz⟩
  intro p e s m below meth c A hA C hret ls hl hW
  have C : cx p s m ([.ref a_r0, .int x1, .int x2] : List Value).toArray meth c b_M_pack 9 R_M D (kTy cI cS) (Cond.code y_M_pack b_M_pack 9 (some FieldType.int)) := C
  obtain ⟨hx, hb, hml, hown, hts, hK, hlk, hN⟩ := id C
  have hl : lv_has ls 9 [(0, .ref a_r0), (1, .int x1), (2, .int x2)] := hl
  obtain ⟨Q, hQ⟩ : ∃ Q, Q = MQ below (qI D (w_M_pack cI a_r0 a_r0_figures a_r0_kinds a_r0_refusals v_r0_weights v_r0_days v_r0_hampers v_r0_wants0 v_r0_left0 v_r0_done0 v_r0_letters v_r0_letterMany v_r0_at v_r0_isBad v_r0_statements v_r0_placeIn v_r0_letterOf v_r0_told v_r0_kept v_r0_imaged v_r0_hasImage v_r0_place0 v_r0_isTaking v_r0_keptIn v_r0_turns0 v_r0_turnOf v_r0_turned v_r0_order0 v_r0_likely0 v_r0_leftThen v_r0_row v_r0_rowMany v_r0_seed r0_things o.2.1 r0_figures r0_kinds o.2.2) o.1 A) ([.ref a_r0, .int x1, .int x2] : List Value).toArray s 0 0 A := ⟨_, rfl⟩
  rw [← hQ]
  refine lv_aload_n hx hb d_M_pack_0 rfl (lv_at hl 0 rfl) ?_
  refine lv_iconst (v := 0) hx hb d_M_pack_1 (by decide) ?_
  refine k_put i_M t_M_ok n_M C hW 0 rfl rfl 9 (by decide) qf_M_67 rfl rfl (ty := .int) rfl rfl rfl (Nat.le_of_ble_eq_true rfl) (ws' := (w_M_pack cI a_r0 a_r0_figures a_r0_kinds a_r0_refusals v_r0_weights v_r0_days v_r0_hampers v_r0_wants0 v_r0_left0 v_r0_done0 v_r0_letters v_r0_letterMany v_r0_at v_r0_isBad v_r0_statements v_r0_placeIn v_r0_letterOf v_r0_told v_r0_kept v_r0_imaged v_r0_hasImage v_r0_place0 v_r0_isTaking v_r0_keptIn v_r0_turns0 v_r0_turnOf v_r0_turned v_r0_order0 v_r0_likely0 v_r0_leftThen v_r0_row v_r0_rowMany v_r0_seed r0_things 0 r0_figures r0_kinds r0_refusals)) rfl d_M_pack_2 (fun H locs hW => ?_)
  refine lv_iload_n hx hb d_M_pack_5 rfl (lv_at hl 1 rfl) ?_
  refine lv_i2l hx hb d_M_pack_6 rfl ?_
  refine lv_lconst (v := 0) hx hb d_M_pack_7 (by decide) ?_
  refine lv_ldc2 (v := 5) hx hb hown (hts _ (List.mem_cons_of_mem _ (qc_M_206))) d_M_pack_8 ?_
  obtain ⟨q_1, hc_1, hr⟩ := ob hr
  have ct_1 := C_M_in l D cI cS (Int32.toInt64 x1) 0 (5 : Int64) q_1 hc_1
  refine k_goIp hA hW [] rfl rfl (k_runS C hA hW mw_M_in ms_M_in (ct_1.2 _) [] rfl rfl qm_M_74 ⟨Nat.le_of_ble_eq_true rfl, Nat.le_of_ble_eq_true rfl, Nat.zero_le _, Nat.zero_le _⟩ rfl rfl (Nat.le_of_ble_eq_true rfl) hl.1 d_M_pack_11) (fun H locs hW => ?_)
  have hJ_3 : ∀ (s0_3 : Int32), F_M_pack_J22_3 r0_things r0_figures r0_kinds r0_refusals x1 x2 s0_3 = some o → ∀ (H : Heap) (locs : List Loc) (ls : Array Slot), wd A s.heap D (w_M_pack cI a_r0 a_r0_figures a_r0_kinds a_r0_refusals v_r0_weights v_r0_days v_r0_hampers v_r0_wants0 v_r0_left0 v_r0_done0 v_r0_letters v_r0_letterMany v_r0_at v_r0_isBad v_r0_statements v_r0_placeIn v_r0_letterOf v_r0_told v_r0_kept v_r0_imaged v_r0_hasImage v_r0_place0 v_r0_isTaking v_r0_keptIn v_r0_turns0 v_r0_turnOf v_r0_turned v_r0_order0 v_r0_likely0 v_r0_leftThen v_r0_row v_r0_rowMany v_r0_seed r0_things 0 r0_figures r0_kinds r0_refusals) H locs → lv_has ls 9 [(0, .ref a_r0), (1, .int x1), (2, .int x2)] → W p l e (rmd 3) s m ([.ref a_r0, .int x1, .int x2] : List Value).toArray below meth c H locs 0 0 Q (F0 m 22 ls [.int s0_3]) := by
    intro s0_3 hr H locs ls hW hl
    unfold F_M_pack_J22_3 at hr
    refine lv_iload_n hx hb d_M_pack_22 rfl (lv_at hl 2 rfl) ?_
    refine lv_iconst (v := 1) hx hb d_M_pack_23 (by decide) ?_
    obtain ⟨q_4, hc_4, hr⟩ := ob hr
    have ct_4 := C_M_wrongBit l D cI cS s0_3 x2 1 q_4 hc_4
    refine k_goIp hA hW [] rfl rfl (k_runS C hA hW mw_M_wrongBit ms_M_wrongBit (ct_4.2 _) [] rfl rfl qm_M_219 ⟨Nat.le_of_ble_eq_true rfl, Nat.le_of_ble_eq_true rfl, Nat.zero_le _, Nat.zero_le _⟩ rfl rfl (Nat.le_of_ble_eq_true rfl) hl.1 d_M_pack_24) (fun H locs hW => ?_)
    refine lv_istore_n (lv' := [(3, .int q_4), (0, .ref a_r0), (1, .int x1), (2, .int x2)]) hx hb d_M_pack_27 rfl hl (by decide) rfl (fun ls hl => ?_)
    refine lv_iload_n hx hb d_M_pack_28 rfl (lv_at hl 0 rfl) ?_
    refine lv_if_ge (tgt := 38) hx hb d_M_pack_29 (by decide) (fun c_5 => ?_) (fun c_5 => ?_)
    · replace hr := ip c_5 hr
      refine lv_bipush (v := (-9)) hx hb d_M_pack_38 (by decide) ?_
      refine lv_istore (lv' := [(4, .int (-9)), (3, .int q_4), (0, .ref a_r0), (1, .int x1), (2, .int x2)]) hx hb d_M_pack_40 hl (by decide) rfl (fun ls hl => ?_)
      refine lv_iconst (v := 0) hx hb d_M_pack_42 (by decide) ?_
      refine lv_istore (lv' := [(5, .int 0), (4, .int (-9)), (3, .int q_4), (0, .ref a_r0), (1, .int x1), (2, .int x2)]) hx hb d_M_pack_43 hl (by decide) rfl (fun ls hl => ?_)
      refine lv_iconst (v := 0) hx hb d_M_pack_45 (by decide) ?_
      refine lv_istore (lv' := [(6, .int 0), (5, .int 0), (4, .int (-9)), (3, .int q_4), (0, .ref a_r0), (1, .int x1), (2, .int x2)]) hx hb d_M_pack_46 hl (by decide) rfl (fun ls hl => ?_)
      obtain ⟨ex_6, hw_6, hk_6⟩ := ob hr
      have hx_6 : ∀ (e_6 : (Int32)), e_6 = ex_6 → ∀ (H : Heap) (locs : List Loc) (ls : Array Slot), wd A s.heap D (w_M_pack cI a_r0 a_r0_figures a_r0_kinds a_r0_refusals v_r0_weights v_r0_days v_r0_hampers v_r0_wants0 v_r0_left0 v_r0_done0 v_r0_letters v_r0_letterMany v_r0_at v_r0_isBad v_r0_statements v_r0_placeIn v_r0_letterOf v_r0_told v_r0_kept v_r0_imaged v_r0_hasImage v_r0_place0 v_r0_isTaking v_r0_keptIn v_r0_turns0 v_r0_turnOf v_r0_turned v_r0_order0 v_r0_likely0 v_r0_leftThen v_r0_row v_r0_rowMany v_r0_seed r0_things 0 r0_figures r0_kinds r0_refusals) H locs → lv_has ls 9 [(4, .int e_6)] → W p l e (rmd 3) s m ([.ref a_r0, .int x1, .int x2] : List Value).toArray below meth c H locs 0 0 Q (F0 m 146 ls []) := by
        intro e_6 hE H locs ls hW hl
        subst hE; have hr := hk_6
        refine lv_iload hx hb d_M_pack_146 (lv_at hl 0 rfl) ?_
        obtain rfl := Option.some.inj hr
        rw [hQ]; exact k_iret C hret hW d_M_pack_148
      have hl_6 : ∀ (k : Nat) (y4_6 : Int32) (y5_6 : Int32) (y6_6 : Int32), wh (fun (s : (Int32) × (Int32) × (Int32)) => F_M_pack_L48 r0_things r0_figures r0_kinds x1 x2 s.1 s.2.1 s.2.2) k (y4_6, y5_6, y6_6) = some ex_6 → ∀ (H : Heap) (locs : List Loc) (ls : Array Slot), wd A s.heap D (w_M_pack cI a_r0 a_r0_figures a_r0_kinds a_r0_refusals v_r0_weights v_r0_days v_r0_hampers v_r0_wants0 v_r0_left0 v_r0_done0 v_r0_letters v_r0_letterMany v_r0_at v_r0_isBad v_r0_statements v_r0_placeIn v_r0_letterOf v_r0_told v_r0_kept v_r0_imaged v_r0_hasImage v_r0_place0 v_r0_isTaking v_r0_keptIn v_r0_turns0 v_r0_turnOf v_r0_turned v_r0_order0 v_r0_likely0 v_r0_leftThen v_r0_row v_r0_rowMany v_r0_seed r0_things 0 r0_figures r0_kinds r0_refusals) H locs → lv_has ls 9 [(0, .ref a_r0), (1, .int x1), (2, .int x2), (4, .int y4_6), (5, .int y5_6), (6, .int y6_6)] → W p l e (rmd 3) s m ([.ref a_r0, .int x1, .int x2] : List Value).toArray below meth c H locs 0 0 Q (F0 m 48 ls []) := by
        intro k
        induction k with
        | zero => intro y4_6 y5_6 y6_6 hw; exact absurd hw wh_0
        | succ k ih_6 =>
          intro y4_6 y5_6 y6_6 hw H locs ls hW hl
          obtain ⟨z_6, hr, hz1_6, hz2_6⟩ := wh_s hw
          have hr : F_M_pack_L48 r0_things r0_figures r0_kinds x1 x2 y4_6 y5_6 y6_6 = some z_6 := hr
          unfold F_M_pack_L48 at hr
          refine lv_iload hx hb d_M_pack_48 (lv_at hl 5 rfl) ?_
          refine lv_iconst (v := 1) hx hb d_M_pack_50 (by decide) ?_
          refine lv_aload_n hx hb d_M_pack_51 rfl (lv_at hl 0 rfl) ?_
          refine k_get i_M C hW 0 rfl rfl 1 (by decide) qf_M_71 rfl rfl d_M_pack_52 ?_
          refine lv_ishl hx hb d_M_pack_55 ?_
          refine lv_icmp_ge (tgt := 146) hx hb d_M_pack_56 (by decide) (fun c_7 => ?_) (fun c_7 => ?_)
          · replace hr := ip c_7 hr
            exact hx_6 _ (hz2_6 _ (Option.some.inj hr).symm) _ _ _ hW (lv_sub hl [3] rfl)
          · replace hr := iN c_7 hr
            refine lv_aload_n hx hb d_M_pack_59 rfl (lv_at hl 0 rfl) ?_
            refine lv_iload hx hb d_M_pack_60 (lv_at hl 5 rfl) ?_
            obtain ⟨q_8, hc_8, hr⟩ := ob hr
            have ct_8 := C_M_couldBe l D cI cS a_r0 a_r0_figures a_r0_kinds v_r0_weights v_r0_days v_r0_hampers v_r0_wants0 v_r0_left0 v_r0_done0 (Value.int 0) (Value.ref a_r0_refusals) v_r0_letters v_r0_letterMany v_r0_at v_r0_isBad v_r0_statements v_r0_placeIn v_r0_letterOf v_r0_told v_r0_kept v_r0_imaged v_r0_hasImage v_r0_place0 v_r0_isTaking v_r0_keptIn v_r0_turns0 v_r0_turnOf v_r0_turned v_r0_order0 v_r0_likely0 v_r0_leftThen v_r0_row v_r0_rowMany v_r0_seed r0_things r0_figures r0_kinds y6_6 q_8 hc_8
            refine k_goIp hA hW [0, 1, 2] rfl rfl (k_runV C hA hW mw_M_couldBe mv_M_couldBe (ct_8.2 _) [0, 1, 2] rfl rfl 0 rfl rfl qm_M_99 ⟨Nat.le_of_ble_eq_true rfl, Nat.le_of_ble_eq_true rfl, Nat.zero_le _, Nat.zero_le _⟩ rfl rfl (Nat.le_of_ble_eq_true rfl) hl.1 d_M_pack_62) (fun H locs hW => ?_)
            refine lv_iconst (v := 1) hx hb d_M_pack_65 (by decide) ?_
            refine lv_iload_n hx hb d_M_pack_66 rfl (lv_at hl 1 rfl) ?_
            refine lv_ishl hx hb d_M_pack_67 ?_
            refine lv_icmp_ne (tgt := 140) hx hb d_M_pack_68 (by decide) (fun c_9 => ?_) (fun c_9 => ?_)
            · replace hr := iN c_9 hr
              refine lv_iinc (v := (y6_6 + 1)) (lv' := [(6, .int (y6_6 + 1)), (0, .ref a_r0), (1, .int x1), (2, .int x2), (4, .int y4_6), (5, .int y5_6)]) hx hb d_M_pack_140 hl (k := 5) rfl rfl (by decide) rfl (fun ls hl => ?_)
              refine lv_goto (tgt := 48) hx hb d_M_pack_143 (by decide) ?_
              exact ih_6 y4_6 y5_6 (y6_6 + 1) (hz1_6 _ (Option.some.inj hr).symm) _ _ _ hW (lv_sub hl [1, 2, 3, 4, 5, 0] rfl)
            · replace hr := ip c_9 hr
              refine lv_iload_n hx hb d_M_pack_71 rfl (lv_at hl 2 rfl) ?_
              have hJ_11 : ∀ (s0_11 : Int32), F_M_pack_J91_11 y4_6 y5_6 y6_6 s0_11 = some z_6 → ∀ (H : Heap) (locs : List Loc) (ls : Array Slot), wd A s.heap D (w_M_pack cI a_r0 a_r0_figures a_r0_kinds a_r0_refusals v_r0_weights v_r0_days v_r0_hampers v_r0_wants0 v_r0_left0 v_r0_done0 v_r0_letters v_r0_letterMany v_r0_at v_r0_isBad v_r0_statements v_r0_placeIn v_r0_letterOf v_r0_told v_r0_kept v_r0_imaged v_r0_hasImage v_r0_place0 v_r0_isTaking v_r0_keptIn v_r0_turns0 v_r0_turnOf v_r0_turned v_r0_order0 v_r0_likely0 v_r0_leftThen v_r0_row v_r0_rowMany v_r0_seed r0_things 0 r0_figures r0_kinds r0_refusals) H locs → lv_has ls 9 [(0, .ref a_r0), (1, .int x1), (2, .int x2), (4, .int y4_6), (5, .int y5_6), (6, .int y6_6)] → W p l e (rmd 3) s m ([.ref a_r0, .int x1, .int x2] : List Value).toArray below meth c H locs 0 0 Q (F0 m 91 ls [.int s0_11]) := by
                intro s0_11 hr H locs ls hW hl
                unfold F_M_pack_J91_11 at hr
                refine lv_istore (lv' := [(7, .int s0_11), (0, .ref a_r0), (1, .int x1), (2, .int x2), (4, .int y4_6), (5, .int y5_6), (6, .int y6_6)]) hx hb d_M_pack_91 hl (by decide) rfl (fun ls hl => ?_)
                refine lv_iload hx hb d_M_pack_93 (lv_at hl 4 rfl) ?_
                have hJ_13 : ∀ (s0_13 : Int32), F_M_pack_J110_13 y4_6 y5_6 y6_6 s0_11 s0_13 = some z_6 → ∀ (H : Heap) (locs : List Loc) (ls : Array Slot), wd A s.heap D (w_M_pack cI a_r0 a_r0_figures a_r0_kinds a_r0_refusals v_r0_weights v_r0_days v_r0_hampers v_r0_wants0 v_r0_left0 v_r0_done0 v_r0_letters v_r0_letterMany v_r0_at v_r0_isBad v_r0_statements v_r0_placeIn v_r0_letterOf v_r0_told v_r0_kept v_r0_imaged v_r0_hasImage v_r0_place0 v_r0_isTaking v_r0_keptIn v_r0_turns0 v_r0_turnOf v_r0_turned v_r0_order0 v_r0_likely0 v_r0_leftThen v_r0_row v_r0_rowMany v_r0_seed r0_things 0 r0_figures r0_kinds r0_refusals) H locs → lv_has ls 9 [(0, .ref a_r0), (1, .int x1), (2, .int x2), (4, .int y4_6), (5, .int y5_6), (6, .int y6_6), (7, .int s0_11)] → W p l e (rmd 3) s m ([.ref a_r0, .int x1, .int x2] : List Value).toArray below meth c H locs 0 0 Q (F0 m 110 ls [.int s0_13]) := by
                  intro s0_13 hr H locs ls hW hl
                  unfold F_M_pack_J110_13 at hr
                  refine lv_istore (lv' := [(8, .int s0_13), (0, .ref a_r0), (1, .int x1), (2, .int x2), (4, .int y4_6), (5, .int y5_6), (6, .int y6_6), (7, .int s0_11)]) hx hb d_M_pack_110 hl (by decide) rfl (fun ls hl => ?_)
                  refine lv_iload hx hb d_M_pack_112 (lv_at hl 0 rfl) ?_
                  have hJ_15 : ∀ (s0_15 : Int32), F_M_pack_J124_15 y5_6 y6_6 s0_11 s0_13 s0_15 = some z_6 → ∀ (H : Heap) (locs : List Loc) (ls : Array Slot), wd A s.heap D (w_M_pack cI a_r0 a_r0_figures a_r0_kinds a_r0_refusals v_r0_weights v_r0_days v_r0_hampers v_r0_wants0 v_r0_left0 v_r0_done0 v_r0_letters v_r0_letterMany v_r0_at v_r0_isBad v_r0_statements v_r0_placeIn v_r0_letterOf v_r0_told v_r0_kept v_r0_imaged v_r0_hasImage v_r0_place0 v_r0_isTaking v_r0_keptIn v_r0_turns0 v_r0_turnOf v_r0_turned v_r0_order0 v_r0_likely0 v_r0_leftThen v_r0_row v_r0_rowMany v_r0_seed r0_things 0 r0_figures r0_kinds r0_refusals) H locs → lv_has ls 9 [(0, .ref a_r0), (1, .int x1), (2, .int x2), (5, .int y5_6), (6, .int y6_6), (7, .int s0_11), (8, .int s0_13)] → W p l e (rmd 3) s m ([.ref a_r0, .int x1, .int x2] : List Value).toArray below meth c H locs 0 0 Q (F0 m 124 ls [.int s0_15]) := by
                    intro s0_15 hr H locs ls hW hl
                    unfold F_M_pack_J124_15 at hr
                    refine lv_istore (lv' := [(4, .int s0_15), (0, .ref a_r0), (1, .int x1), (2, .int x2), (5, .int y5_6), (6, .int y6_6), (7, .int s0_11), (8, .int s0_13)]) hx hb d_M_pack_124 hl (by decide) rfl (fun ls hl => ?_)
                    refine lv_iload hx hb d_M_pack_126 (lv_at hl 7 rfl) ?_
                    refine lv_if_eq (tgt := 136) hx hb d_M_pack_128 (by decide) (fun c_16 => ?_) (fun c_16 => ?_)
                    · replace hr := ip c_16 hr
                      refine lv_iload hx hb d_M_pack_136 (lv_at hl 4 rfl) ?_
                      refine lv_istore (lv' := [(5, .int y5_6), (4, .int s0_15), (0, .ref a_r0), (1, .int x1), (2, .int x2), (6, .int y6_6), (7, .int s0_11), (8, .int s0_13)]) hx hb d_M_pack_138 hl (by decide) rfl (fun ls hl => ?_)
                      refine lv_iinc (v := (y6_6 + 1)) (lv' := [(6, .int (y6_6 + 1)), (5, .int y5_6), (4, .int s0_15), (0, .ref a_r0), (1, .int x1), (2, .int x2), (7, .int s0_11), (8, .int s0_13)]) hx hb d_M_pack_140 hl (k := 5) rfl rfl (by decide) rfl (fun ls hl => ?_)
                      refine lv_goto (tgt := 48) hx hb d_M_pack_143 (by decide) ?_
                      exact ih_6 s0_15 y5_6 (y6_6 + 1) (hz1_6 _ (Option.some.inj hr).symm) _ _ _ hW (lv_sub hl [3, 4, 5, 2, 1, 0] rfl)
                    · replace hr := iN c_16 hr
                      refine lv_iload hx hb d_M_pack_131 (lv_at hl 6 rfl) ?_
                      refine lv_goto (tgt := 138) hx hb d_M_pack_133 (by decide) ?_
                      refine lv_istore (lv' := [(5, .int s0_11), (4, .int s0_15), (0, .ref a_r0), (1, .int x1), (2, .int x2), (6, .int y6_6), (7, .int s0_11), (8, .int s0_13)]) hx hb d_M_pack_138 hl (by decide) rfl (fun ls hl => ?_)
                      refine lv_iinc (v := (y6_6 + 1)) (lv' := [(6, .int (y6_6 + 1)), (5, .int s0_11), (4, .int s0_15), (0, .ref a_r0), (1, .int x1), (2, .int x2), (7, .int s0_11), (8, .int s0_13)]) hx hb d_M_pack_140 hl (k := 5) rfl rfl (by decide) rfl (fun ls hl => ?_)
                      refine lv_goto (tgt := 48) hx hb d_M_pack_143 (by decide) ?_
                      exact ih_6 s0_15 s0_11 (y6_6 + 1) (hz1_6 _ (Option.some.inj hr).symm) _ _ _ hW (lv_sub hl [3, 4, 5, 2, 1, 0] rfl)
                  refine lv_if_eq (tgt := 122) hx hb d_M_pack_114 (by decide) (fun c_14 => ?_) (fun c_14 => ?_)
                  · replace hr := ip c_14 hr
                    refine lv_iload hx hb d_M_pack_122 (lv_at hl 4 rfl) ?_
                    exact hJ_15 y4_6 hr _ _ _ hW (lv_sub hl [1, 2, 3, 5, 6, 7, 0] rfl)
                  · replace hr := iN c_14 hr
                    refine lv_iload hx hb d_M_pack_117 (lv_at hl 6 rfl) ?_
                    refine lv_goto (tgt := 124) hx hb d_M_pack_119 (by decide) ?_
                    exact hJ_15 y6_6 hr _ _ _ hW (lv_sub hl [1, 2, 3, 5, 6, 7, 0] rfl)
                have hJ_17 : ∀ (_ : Unit), F_M_pack_J105_17 y4_6 y5_6 y6_6 s0_11 = some z_6 → ∀ (H : Heap) (locs : List Loc) (ls : Array Slot), wd A s.heap D (w_M_pack cI a_r0 a_r0_figures a_r0_kinds a_r0_refusals v_r0_weights v_r0_days v_r0_hampers v_r0_wants0 v_r0_left0 v_r0_done0 v_r0_letters v_r0_letterMany v_r0_at v_r0_isBad v_r0_statements v_r0_placeIn v_r0_letterOf v_r0_told v_r0_kept v_r0_imaged v_r0_hasImage v_r0_place0 v_r0_isTaking v_r0_keptIn v_r0_turns0 v_r0_turnOf v_r0_turned v_r0_order0 v_r0_likely0 v_r0_leftThen v_r0_row v_r0_rowMany v_r0_seed r0_things 0 r0_figures r0_kinds r0_refusals) H locs → lv_has ls 9 [(0, .ref a_r0), (1, .int x1), (2, .int x2), (4, .int y4_6), (5, .int y5_6), (6, .int y6_6), (7, .int s0_11)] → W p l e (rmd 3) s m ([.ref a_r0, .int x1, .int x2] : List Value).toArray below meth c H locs 0 0 Q (F0 m 105 ls []) := by
                  intro _ hr H locs ls hW hl
                  unfold F_M_pack_J105_17 at hr
                  refine lv_iconst (v := 1) hx hb d_M_pack_105 (by decide) ?_
                  refine lv_goto (tgt := 110) hx hb d_M_pack_106 (by decide) ?_
                  exact hJ_13 1 hr _ _ _ hW (lv_sub hl [0, 1, 2, 3, 4, 5, 6] rfl)
                refine lv_if_lt (tgt := 105) hx hb d_M_pack_95 (by decide) (fun c_12 => ?_) (fun c_12 => ?_)
                · replace hr := ip c_12 hr
                  exact hJ_17 () hr _ _ _ hW (lv_sub hl [1, 2, 3, 4, 5, 6, 0] rfl)
                · replace hr := iN c_12 hr
                  refine lv_iload hx hb d_M_pack_98 (lv_at hl 0 rfl) ?_
                  refine lv_iload hx hb d_M_pack_100 (lv_at hl 5 rfl) ?_
                  refine lv_icmp_ge (tgt := 109) hx hb d_M_pack_102 (by decide) (fun c_18 => ?_) (fun c_18 => ?_)
                  · replace hr := ip c_18 hr
                    refine lv_iconst (v := 0) hx hb d_M_pack_109 (by decide) ?_
                    exact hJ_13 0 hr _ _ _ hW (lv_sub hl [1, 2, 3, 4, 5, 6, 0] rfl)
                  · replace hr := iN c_18 hr
                    exact hJ_17 () hr _ _ _ hW (lv_sub hl [1, 2, 3, 4, 5, 6, 0] rfl)
              refine lv_if_ne (tgt := 84) hx hb d_M_pack_72 (by decide) (fun c_10 => ?_) (fun c_10 => ?_)
              · replace hr := iN c_10 hr
                refine lv_aload_n hx hb d_M_pack_84 rfl (lv_at hl 0 rfl) ?_
                refine lv_iload hx hb d_M_pack_85 (lv_at hl 5 rfl) ?_
                obtain ⟨q_19, hc_19, hr⟩ := ob hr
                have ct_19 := C_M_allDear l D cI cS a_r0 a_r0_figures a_r0_kinds v_r0_weights v_r0_days v_r0_hampers v_r0_wants0 v_r0_left0 v_r0_done0 (Value.int 0) (Value.ref a_r0_refusals) v_r0_letters v_r0_letterMany v_r0_at v_r0_isBad v_r0_statements v_r0_placeIn v_r0_letterOf v_r0_told v_r0_kept v_r0_imaged v_r0_hasImage v_r0_place0 v_r0_isTaking v_r0_keptIn v_r0_turns0 v_r0_turnOf v_r0_turned v_r0_order0 v_r0_likely0 v_r0_leftThen v_r0_row v_r0_rowMany v_r0_seed r0_things r0_figures r0_kinds y6_6 q_19 hc_19
                refine k_goIp hA hW [0, 1, 2] rfl rfl (k_runV C hA hW mw_M_allDear mv_M_allDear (ct_19.2 _) [0, 1, 2] rfl rfl 0 rfl rfl qm_M_201 ⟨Nat.le_of_ble_eq_true rfl, Nat.le_of_ble_eq_true rfl, Nat.zero_le _, Nat.zero_le _⟩ rfl rfl (Nat.le_of_ble_eq_true rfl) hl.1 d_M_pack_87) (fun H locs hW => ?_)
                refine lv_ineg hx hb d_M_pack_90 ?_
                exact hJ_11 (-q_19) hr _ _ _ hW (lv_sub hl [0, 1, 2, 3, 4, 5] rfl)
              · replace hr := ip c_10 hr
                refine lv_aload_n hx hb d_M_pack_75 rfl (lv_at hl 0 rfl) ?_
                refine lv_iload hx hb d_M_pack_76 (lv_at hl 5 rfl) ?_
                obtain ⟨q_20, hc_20, hr⟩ := ob hr
                have ct_20 := C_M_allHeavy l D cI cS a_r0 a_r0_figures a_r0_kinds v_r0_weights v_r0_days v_r0_hampers v_r0_wants0 v_r0_left0 v_r0_done0 (Value.int 0) (Value.ref a_r0_refusals) v_r0_letters v_r0_letterMany v_r0_at v_r0_isBad v_r0_statements v_r0_placeIn v_r0_letterOf v_r0_told v_r0_kept v_r0_imaged v_r0_hasImage v_r0_place0 v_r0_isTaking v_r0_keptIn v_r0_turns0 v_r0_turnOf v_r0_turned v_r0_order0 v_r0_likely0 v_r0_leftThen v_r0_row v_r0_rowMany v_r0_seed r0_things r0_figures r0_kinds y6_6 q_20 hc_20
                refine k_goIp hA hW [0, 1, 2] rfl rfl (k_runV C hA hW mw_M_allHeavy mv_M_allHeavy (ct_20.2 _) [0, 1, 2] rfl rfl 0 rfl rfl qm_M_198 ⟨Nat.le_of_ble_eq_true rfl, Nat.le_of_ble_eq_true rfl, Nat.zero_le _, Nat.zero_le _⟩ rfl rfl (Nat.le_of_ble_eq_true rfl) hl.1 d_M_pack_78) (fun H locs hW => ?_)
                refine lv_goto (tgt := 91) hx hb d_M_pack_81 (by decide) ?_
                exact hJ_11 q_20 hr _ _ _ hW (lv_sub hl [0, 1, 2, 3, 4, 5] rfl)
      exact hl_6 _ (-9) 0 0 hw_6 _ _ _ hW (lv_sub hl [4, 5, 6, 2, 1, 0] rfl)
    · replace hr := iN c_5 hr
      refine lv_aload_n hx hb d_M_pack_32 rfl (lv_at hl 1 rfl) ?_
      refine lv_iload_n hx hb d_M_pack_33 rfl (lv_at hl 0 rfl) ?_
      obtain ⟨q_21, hc_21, hr⟩ := ob hr
      have ct_21 := C_M_refuse l D cI cS a_r0 a_r0_refusals v_r0_weights (Value.int r0_things) (Value.ref a_r0_kinds) (Value.ref a_r0_figures) v_r0_days v_r0_hampers v_r0_wants0 v_r0_left0 v_r0_done0 (Value.int 0) v_r0_letters v_r0_letterMany v_r0_at v_r0_isBad v_r0_statements v_r0_placeIn v_r0_letterOf v_r0_told v_r0_kept v_r0_imaged v_r0_hasImage v_r0_place0 v_r0_isTaking v_r0_keptIn v_r0_turns0 v_r0_turnOf v_r0_turned v_r0_order0 v_r0_likely0 v_r0_leftThen v_r0_row v_r0_rowMany v_r0_seed r0_refusals q_4 q_21 hc_21
      refine k_goI hA hW [0, 3] rfl ct_21.1 (ws' := (w_M_pack cI a_r0 a_r0_figures a_r0_kinds a_r0_refusals v_r0_weights v_r0_days v_r0_hampers v_r0_wants0 v_r0_left0 v_r0_done0 v_r0_letters v_r0_letterMany v_r0_at v_r0_isBad v_r0_statements v_r0_placeIn v_r0_letterOf v_r0_told v_r0_kept v_r0_imaged v_r0_hasImage v_r0_place0 v_r0_isTaking v_r0_keptIn v_r0_turns0 v_r0_turnOf v_r0_turned v_r0_order0 v_r0_likely0 v_r0_leftThen v_r0_row v_r0_rowMany v_r0_seed r0_things 0 r0_figures r0_kinds q_21.2)) rfl (k_runV C hA hW mw_M_refuse mv_M_refuse (ct_21.2 _) [0, 3] rfl rfl 0 rfl rfl qm_M_108 ⟨Nat.le_of_ble_eq_true rfl, Nat.le_of_ble_eq_true rfl, Nat.zero_le _, Nat.zero_le _⟩ rfl rfl (Nat.le_of_ble_eq_true rfl) hl.1 d_M_pack_34) (fun H locs hW => ?_)
      obtain rfl := Option.some.inj hr
      rw [hQ]; exact k_iret C hret hW d_M_pack_37
  refine lv_if_eq (tgt := 21) hx hb d_M_pack_14 (by decide) (fun c_2 => ?_) (fun c_2 => ?_)
  · replace hr := ip c_2 hr
    refine lv_iconst (v := (-1)) hx hb d_M_pack_21 (by decide) ?_
    exact hJ_3 (-1) hr _ _ _ hW (lv_sub hl [0, 1, 2] rfl)
  · replace hr := iN c_2 hr
    refine lv_iconst (v := 0) hx hb d_M_pack_17 (by decide) ?_
    refine lv_goto (tgt := 22) hx hb d_M_pack_18 (by decide) ?_
    exact hJ_3 0 hr _ _ _ hW (lv_sub hl [0, 1, 2] rfl)
def w_M_packs (cI : ClassId) (a_r0 : Nat) (a_r0_figures : Nat) (a_r0_hampers : Nat) (a_r0_kinds : Nat) (a_r0_left0 : Nat) (a_r0_refusals : Nat) (a_r0_turnOf : Nat) (a_r0_turns0 : Nat) (a_r0_wants0 : Nat) (a_r0_weights : Nat) (v_r0_letters v_r0_letterMany v_r0_at v_r0_isBad v_r0_statements v_r0_placeIn v_r0_letterOf v_r0_told v_r0_kept v_r0_imaged v_r0_hasImage v_r0_order0 v_r0_likely0 v_r0_leftThen v_r0_row v_r0_rowMany v_r0_seed : Value) (kv : Int32 → Value) (r0_days : Int32) (r0_done0 : Int32) (r0_isTaking : Int32) (r0_keptIn : Int32) (r0_place0 : Int32) (r0_things : Int32) (r0_thrown : Int32) (r0_turned : Int32) (r0_figures : Nat → Int32) (r0_hampers : Nat → Int32) (r0_kinds : Nat → Int32) (r0_left0 : Nat → Int32) (r0_refusals : Nat → Int32) (r0_turnOf : Nat → Int32) (r0_turns0 : Nat → Int32) (r0_wants0 : Nat → Int32) (r0_weights : Nat → Int32) : va_W := [(a_r0, .inr (9, [.ref a_r0_weights, .int r0_things, .ref a_r0_kinds, .ref a_r0_figures, .int r0_days, .ref a_r0_hampers, .ref a_r0_wants0, .ref a_r0_left0, .int r0_done0, .int r0_thrown, .ref a_r0_refusals, v_r0_letters, v_r0_letterMany, v_r0_at, v_r0_isBad, v_r0_statements, v_r0_placeIn, v_r0_letterOf, v_r0_told, v_r0_kept, v_r0_imaged, v_r0_hasImage, .int r0_place0, .int r0_isTaking, (kv r0_keptIn), .ref a_r0_turns0, .ref a_r0_turnOf, .int r0_turned, v_r0_order0, v_r0_likely0, v_r0_leftThen, v_r0_row, v_r0_rowMany, v_r0_seed])), (a_r0_figures, .inl (cI, 8, .inl r0_figures)), (a_r0_hampers, .inl (cI, 8, .inl r0_hampers)), (a_r0_kinds, .inl (cI, 8, .inl r0_kinds)), (a_r0_left0, .inl (cI, 4, .inl r0_left0)), (a_r0_refusals, .inl (cI, 7, .inl r0_refusals)), (a_r0_turnOf, .inl (cI, 41, .inl r0_turnOf)), (a_r0_turns0, .inl (cI, 328, .inl r0_turns0)), (a_r0_wants0, .inl (cI, 4, .inl r0_wants0)), (a_r0_weights, .inl (cI, 6, .inl r0_weights))]
def F_M_packs_J21_3 (r0_days : Int32) (r0_done0 : Int32) (r0_isTaking : Int32) (r0_keptIn : Int32) (r0_place0 : Int32) (r0_things : Int32) (r0_turned : Int32) (r0_figures : Nat → Int32) (r0_hampers : Nat → Int32) (r0_kinds : Nat → Int32) (r0_left0 : Nat → Int32) (r0_refusals : Nat → Int32) (r0_turnOf : Nat → Int32) (r0_turns0 : Nat → Int32) (r0_wants0 : Nat → Int32) (r0_weights : Nat → Int32) : Option (Int32 × (Int32) × (Int32) × (Int32) × (Int32) × (Int32) × (Int32) × (Int32) × (Int32) × (Nat → Int32) × (Nat → Int32) × (Nat → Int32) × (Nat → Int32) × (Nat → Int32) × (Nat → Int32) × (Nat → Int32) × (Nat → Int32) × (Nat → Int32)) :=
  ((F_M_refuse r0_refusals ((-1) : Int32)).bind (fun q_4 => (some (q_4.1, r0_days, r0_done0, r0_isTaking, r0_keptIn, r0_place0, r0_things, 0, r0_turned, r0_figures, r0_hampers, r0_kinds, r0_left0, q_4.2, r0_turnOf, r0_turns0, r0_wants0, r0_weights))))
def F_M_packs (r0_days : Int32) (r0_done0 : Int32) (r0_isTaking : Int32) (r0_keptIn : Int32) (r0_place0 : Int32) (r0_things : Int32) (r0_turned : Int32) (r0_figures : Nat → Int32) (r0_hampers : Nat → Int32) (r0_kinds : Nat → Int32) (r0_left0 : Nat → Int32) (r0_refusals : Nat → Int32) (r0_turnOf : Nat → Int32) (r0_turns0 : Nat → Int32) (r0_wants0 : Nat → Int32) (r0_weights : Nat → Int32) (x1 : Int32) (x2 : Int32) : Option (Int32 × (Int32) × (Int32) × (Int32) × (Int32) × (Int32) × (Int32) × (Int32) × (Int32) × (Nat → Int32) × (Nat → Int32) × (Nat → Int32) × (Nat → Int32) × (Nat → Int32) × (Nat → Int32) × (Nat → Int32) × (Nat → Int32) × (Nat → Int32)) :=
  ((F_M_isDay r0_days x1).bind (fun q_1 => (if q_1 = 0 then (F_M_packs_J21_3 r0_days r0_done0 r0_isTaking r0_keptIn r0_place0 r0_things r0_turned r0_figures r0_hampers r0_kinds r0_left0 r0_refusals r0_turnOf r0_turns0 r0_wants0 r0_weights) else ((F_M_isThing r0_things x2).bind (fun q_5 => (if q_5 = 0 then (F_M_packs_J21_3 r0_days r0_done0 r0_isTaking r0_keptIn r0_place0 r0_things r0_turned r0_figures r0_hampers r0_kinds r0_left0 r0_refusals r0_turnOf r0_turns0 r0_wants0 r0_weights) else ((F_M_keepTurn r0_days r0_done0 r0_things r0_turned r0_figures r0_hampers r0_kinds r0_left0 r0_turnOf r0_turns0 r0_wants0 r0_weights).bind (fun q_7 => (ck x1 8 (ck x1 8 (ck x1 8 (some ((((((upd q_7.2.2.2.2.2.2.2.2.1 (Int32.toNatClampNeg x1) ((q_7.2.2.2.2.2.2.2.2.1 (Int32.toNatClampNeg x1)) ^^^ ((1 : Int32) <<< ((x2 : Int32) &&& 31)))) (Int32.toNatClampNeg x1)) : Int32) >>> ((x2 : Int32) &&& 31)) &&& 1), q_7.1, q_7.2.1, q_7.2.2.1, q_7.2.2.2.1, q_7.2.2.2.2.1, q_7.2.2.2.2.2.1, 0, q_7.2.2.2.2.2.2.1, q_7.2.2.2.2.2.2.2.1, (upd q_7.2.2.2.2.2.2.2.2.1 (Int32.toNatClampNeg x1) ((q_7.2.2.2.2.2.2.2.2.1 (Int32.toNatClampNeg x1)) ^^^ ((1 : Int32) <<< ((x2 : Int32) &&& 31)))), q_7.2.2.2.2.2.2.2.2.2.1, q_7.2.2.2.2.2.2.2.2.2.2.1, r0_refusals, q_7.2.2.2.2.2.2.2.2.2.2.2.1, q_7.2.2.2.2.2.2.2.2.2.2.2.2.1, q_7.2.2.2.2.2.2.2.2.2.2.2.2.2.1, q_7.2.2.2.2.2.2.2.2.2.2.2.2.2.2)))))))))))))
set_option maxHeartbeats 4000000 in
set_option maxRecDepth 100000 in
theorem C_M_packs (l : Launch) (D : va_G) (cI cS : ClassId) (a_r0 : Nat) (a_r0_figures : Nat) (a_r0_hampers : Nat) (a_r0_kinds : Nat) (a_r0_left0 : Nat) (a_r0_refusals : Nat) (a_r0_turnOf : Nat) (a_r0_turns0 : Nat) (a_r0_wants0 : Nat) (a_r0_weights : Nat) (v_r0_letters v_r0_letterMany v_r0_at v_r0_isBad v_r0_statements v_r0_placeIn v_r0_letterOf v_r0_told v_r0_kept v_r0_imaged v_r0_hasImage v_r0_order0 v_r0_likely0 v_r0_leftThen v_r0_row v_r0_rowMany v_r0_seed : Value) (kv : Int32 → Value) (hkv_turnOf : kv 3 = .ref a_r0_turnOf) (r0_days : Int32) (r0_done0 : Int32) (r0_isTaking : Int32) (r0_keptIn : Int32) (r0_place0 : Int32) (r0_things : Int32) (r0_thrown : Int32) (r0_turned : Int32) (r0_figures : Nat → Int32) (r0_hampers : Nat → Int32) (r0_kinds : Nat → Int32) (r0_left0 : Nat → Int32) (r0_refusals : Nat → Int32) (r0_turnOf : Nat → Int32) (r0_turns0 : Nat → Int32) (r0_wants0 : Nat → Int32) (r0_weights : Nat → Int32) (x1 : Int32) (x2 : Int32) (o : Int32 × (Int32) × (Int32) × (Int32) × (Int32) × (Int32) × (Int32) × (Int32) × (Int32) × (Nat → Int32) × (Nat → Int32) × (Nat → Int32) × (Nat → Int32) × (Nat → Int32) × (Nat → Int32) × (Nat → Int32) × (Nat → Int32) × (Nat → Int32)) (hr : F_M_packs r0_days r0_done0 r0_isTaking r0_keptIn r0_place0 r0_things r0_turned r0_figures r0_hampers r0_kinds r0_left0 r0_refusals r0_turnOf r0_turns0 r0_wants0 r0_weights x1 x2 = some o) : ctI l y_M_packs (Cond.code y_M_packs b_M_packs 3 (some FieldType.int)) (rmd 3) D (kTy cI cS) [.ref a_r0, .int x1, .int x2] (w_M_packs cI a_r0 a_r0_figures a_r0_hampers a_r0_kinds a_r0_left0 a_r0_refusals a_r0_turnOf a_r0_turns0 a_r0_wants0 a_r0_weights v_r0_letters v_r0_letterMany v_r0_at v_r0_isBad v_r0_statements v_r0_placeIn v_r0_letterOf v_r0_told v_r0_kept v_r0_imaged v_r0_hasImage v_r0_order0 v_r0_likely0 v_r0_leftThen v_r0_row v_r0_rowMany v_r0_seed kv r0_days r0_done0 r0_isTaking r0_keptIn r0_place0 r0_things r0_thrown r0_turned r0_figures r0_hampers r0_kinds r0_left0 r0_refusals r0_turnOf r0_turns0 r0_wants0 r0_weights) (w_M_packs cI a_r0 a_r0_figures a_r0_hampers a_r0_kinds a_r0_left0 a_r0_refusals a_r0_turnOf a_r0_turns0 a_r0_wants0 a_r0_weights v_r0_letters v_r0_letterMany v_r0_at v_r0_isBad v_r0_statements v_r0_placeIn v_r0_letterOf v_r0_told v_r0_kept v_r0_imaged v_r0_hasImage v_r0_order0 v_r0_likely0 v_r0_leftThen v_r0_row v_r0_rowMany v_r0_seed kv o.2.1 o.2.2.1 o.2.2.2.1 o.2.2.2.2.1 o.2.2.2.2.2.1 o.2.2.2.2.2.2.1 o.2.2.2.2.2.2.2.1 o.2.2.2.2.2.2.2.2.1 o.2.2.2.2.2.2.2.2.2.1 o.2.2.2.2.2.2.2.2.2.2.1 o.2.2.2.2.2.2.2.2.2.2.2.1 o.2.2.2.2.2.2.2.2.2.2.2.2.1 o.2.2.2.2.2.2.2.2.2.2.2.2.2.1 o.2.2.2.2.2.2.2.2.2.2.2.2.2.2.1 o.2.2.2.2.2.2.2.2.2.2.2.2.2.2.2.1 o.2.2.2.2.2.2.2.2.2.2.2.2.2.2.2.2.1 o.2.2.2.2.2.2.2.2.2.2.2.2.2.2.2.2.2) o.1 := by
  unfold F_M_packs at hr
  refine ⟨rfl, fun sz => ct_of (w0 := (w_M_packs cI a_r0 a_r0_figures a_r0_hampers a_r0_kinds a_r0_left0 a_r0_refusals a_r0_turnOf a_r0_turns0 a_r0_wants0 a_r0_weights v_r0_letters v_r0_letterMany v_r0_at v_r0_isBad v_r0_statements v_r0_placeIn v_r0_letterOf v_r0_told v_r0_kept v_r0_imaged v_r0_hasImage v_r0_order0 v_r0_likely0 v_r0_leftThen v_r0_row v_r0_rowMany v_r0_seed kv r0_days r0_done0 r0_isTaking r0_keptIn r0_place0 r0_things r0_thrown r0_turned r0_figures r0_hampers r0_kinds r0_left0 r0_refusals r0_turnOf r0_turns0 r0_wants0 r0_weights)) (Qc := fun A => qI D (w_M_packs cI a_r0 a_r0_figures a_r0_hampers a_r0_kinds a_r0_left0 a_r0_refusals a_r0_turnOf a_r0_turns0 a_r0_wants0 a_r0_weights v_r0_letters v_r0_letterMany v_r0_at v_r0_isBad v_r0_statements v_r0_placeIn v_r0_letterOf v_r0_told v_r0_kept v_r0_imaged v_r0_hasImage v_r0_order0 v_r0_likely0 v_r0_leftThen v_r0_row v_r0_rowMany v_r0_seed kv o.2.1 o.2.2.1 o.2.2.2.1 o.2.2.2.2.1 o.2.2.2.2.2.1 o.2.2.2.2.2.2.1 o.2.2.2.2.2.2.2.1 o.2.2.2.2.2.2.2.2.1 o.2.2.2.2.2.2.2.2.2.1 o.2.2.2.2.2.2.2.2.2.2.1 o.2.2.2.2.2.2.2.2.2.2.2.1 o.2.2.2.2.2.2.2.2.2.2.2.2.1 o.2.2.2.2.2.2.2.2.2.2.2.2.2.1 o.2.2.2.2.2.2.2.2.2.2.2.2.2.2.1 o.2.2.2.2.2.2.2.2.2.2.2.2.2.2.2.1 o.2.2.2.2.2.2.2.2.2.2.2.2.2.2.2.2.1 o.2.2.2.2.2.2.2.2.2.2.2.2.2.2.2.2.2) o.1 A) rfl (Nat.le_of_ble_eq_true rfl) ?_ sz⟩
  intro p e s m below meth c A hA C hret ls hl hW
  have C : cx p s m ([.ref a_r0, .int x1, .int x2] : List Value).toArray meth c b_M_packs 3 R_M D (kTy cI cS) (Cond.code y_M_packs b_M_packs 3 (some FieldType.int)) := C
  obtain ⟨hx, hb, hml, hown, hts, hK, hlk, hN⟩ := id C
  have hl : lv_has ls 3 [(0, .ref a_r0), (1, .int x1), (2, .int x2)] := hl
  obtain ⟨Q, hQ⟩ : ∃ Q, Q = MQ below (qI D (w_M_packs cI a_r0 a_r0_figures a_r0_hampers a_r0_kinds a_r0_left0 a_r0_refusals a_r0_turnOf a_r0_turns0 a_r0_wants0 a_r0_weights v_r0_letters v_r0_letterMany v_r0_at v_r0_isBad v_r0_statements v_r0_placeIn v_r0_letterOf v_r0_told v_r0_kept v_r0_imaged v_r0_hasImage v_r0_order0 v_r0_likely0 v_r0_leftThen v_r0_row v_r0_rowMany v_r0_seed kv o.2.1 o.2.2.1 o.2.2.2.1 o.2.2.2.2.1 o.2.2.2.2.2.1 o.2.2.2.2.2.2.1 o.2.2.2.2.2.2.2.1 o.2.2.2.2.2.2.2.2.1 o.2.2.2.2.2.2.2.2.2.1 o.2.2.2.2.2.2.2.2.2.2.1 o.2.2.2.2.2.2.2.2.2.2.2.1 o.2.2.2.2.2.2.2.2.2.2.2.2.1 o.2.2.2.2.2.2.2.2.2.2.2.2.2.1 o.2.2.2.2.2.2.2.2.2.2.2.2.2.2.1 o.2.2.2.2.2.2.2.2.2.2.2.2.2.2.2.1 o.2.2.2.2.2.2.2.2.2.2.2.2.2.2.2.2.1 o.2.2.2.2.2.2.2.2.2.2.2.2.2.2.2.2.2) o.1 A) ([.ref a_r0, .int x1, .int x2] : List Value).toArray s 0 0 A := ⟨_, rfl⟩
  rw [← hQ]
  refine lv_aload_n hx hb d_M_packs_0 rfl (lv_at hl 0 rfl) ?_
  refine lv_iconst (v := 0) hx hb d_M_packs_1 (by decide) ?_
  refine k_put i_M t_M_ok n_M C hW 0 rfl rfl 9 (by decide) qf_M_67 rfl rfl (ty := .int) rfl rfl rfl (Nat.le_of_ble_eq_true rfl) (ws' := (w_M_packs cI a_r0 a_r0_figures a_r0_hampers a_r0_kinds a_r0_left0 a_r0_refusals a_r0_turnOf a_r0_turns0 a_r0_wants0 a_r0_weights v_r0_letters v_r0_letterMany v_r0_at v_r0_isBad v_r0_statements v_r0_placeIn v_r0_letterOf v_r0_told v_r0_kept v_r0_imaged v_r0_hasImage v_r0_order0 v_r0_likely0 v_r0_leftThen v_r0_row v_r0_rowMany v_r0_seed kv r0_days r0_done0 r0_isTaking r0_keptIn r0_place0 r0_things 0 r0_turned r0_figures r0_hampers r0_kinds r0_left0 r0_refusals r0_turnOf r0_turns0 r0_wants0 r0_weights)) rfl d_M_packs_2 (fun H locs hW => ?_)
  refine lv_aload_n hx hb d_M_packs_5 rfl (lv_at hl 0 rfl) ?_
  refine lv_iload_n hx hb d_M_packs_6 rfl (lv_at hl 1 rfl) ?_
  obtain ⟨q_1, hc_1, hr⟩ := ob hr
  have ct_1 := C_M_isDay l D cI cS a_r0 (Value.ref a_r0_weights) (Value.int r0_things) (Value.ref a_r0_kinds) (Value.ref a_r0_figures) (Value.ref a_r0_hampers) (Value.ref a_r0_wants0) (Value.ref a_r0_left0) (Value.int r0_done0) (Value.int 0) (Value.ref a_r0_refusals) v_r0_letters v_r0_letterMany v_r0_at v_r0_isBad v_r0_statements v_r0_placeIn v_r0_letterOf v_r0_told v_r0_kept v_r0_imaged v_r0_hasImage (Value.int r0_place0) (Value.int r0_isTaking) (kv r0_keptIn) (Value.ref a_r0_turns0) (Value.ref a_r0_turnOf) (Value.int r0_turned) v_r0_order0 v_r0_likely0 v_r0_leftThen v_r0_row v_r0_rowMany v_r0_seed r0_days x1 q_1 hc_1
  refine k_goIp hA hW [0] rfl rfl (k_runV C hA hW mw_M_isDay mv_M_isDay (ct_1.2 _) [0] rfl rfl 0 rfl rfl qm_M_150 ⟨Nat.le_of_ble_eq_true rfl, Nat.le_of_ble_eq_true rfl, Nat.zero_le _, Nat.zero_le _⟩ rfl rfl (Nat.le_of_ble_eq_true rfl) hl.1 d_M_packs_7) (fun H locs hW => ?_)
  have hJ_3 : ∀ (_ : Unit), F_M_packs_J21_3 r0_days r0_done0 r0_isTaking r0_keptIn r0_place0 r0_things r0_turned r0_figures r0_hampers r0_kinds r0_left0 r0_refusals r0_turnOf r0_turns0 r0_wants0 r0_weights = some o → ∀ (H : Heap) (locs : List Loc) (ls : Array Slot), wd A s.heap D (w_M_packs cI a_r0 a_r0_figures a_r0_hampers a_r0_kinds a_r0_left0 a_r0_refusals a_r0_turnOf a_r0_turns0 a_r0_wants0 a_r0_weights v_r0_letters v_r0_letterMany v_r0_at v_r0_isBad v_r0_statements v_r0_placeIn v_r0_letterOf v_r0_told v_r0_kept v_r0_imaged v_r0_hasImage v_r0_order0 v_r0_likely0 v_r0_leftThen v_r0_row v_r0_rowMany v_r0_seed kv r0_days r0_done0 r0_isTaking r0_keptIn r0_place0 r0_things 0 r0_turned r0_figures r0_hampers r0_kinds r0_left0 r0_refusals r0_turnOf r0_turns0 r0_wants0 r0_weights) H locs → lv_has ls 3 [(0, .ref a_r0)] → W p l e (rmd 3) s m ([.ref a_r0, .int x1, .int x2] : List Value).toArray below meth c H locs 0 0 Q (F0 m 21 ls []) := by
    intro _ hr H locs ls hW hl
    unfold F_M_packs_J21_3 at hr
    refine lv_aload_n hx hb d_M_packs_21 rfl (lv_at hl 0 rfl) ?_
    refine lv_iconst (v := (-1)) hx hb d_M_packs_22 (by decide) ?_
    obtain ⟨q_4, hc_4, hr⟩ := ob hr
    have ct_4 := C_M_refuse l D cI cS a_r0 a_r0_refusals (Value.ref a_r0_weights) (Value.int r0_things) (Value.ref a_r0_kinds) (Value.ref a_r0_figures) (Value.int r0_days) (Value.ref a_r0_hampers) (Value.ref a_r0_wants0) (Value.ref a_r0_left0) (Value.int r0_done0) (Value.int 0) v_r0_letters v_r0_letterMany v_r0_at v_r0_isBad v_r0_statements v_r0_placeIn v_r0_letterOf v_r0_told v_r0_kept v_r0_imaged v_r0_hasImage (Value.int r0_place0) (Value.int r0_isTaking) (kv r0_keptIn) (Value.ref a_r0_turns0) (Value.ref a_r0_turnOf) (Value.int r0_turned) v_r0_order0 v_r0_likely0 v_r0_leftThen v_r0_row v_r0_rowMany v_r0_seed r0_refusals (-1) q_4 hc_4
    refine k_goI hA hW [0, 5] rfl ct_4.1 (ws' := (w_M_packs cI a_r0 a_r0_figures a_r0_hampers a_r0_kinds a_r0_left0 a_r0_refusals a_r0_turnOf a_r0_turns0 a_r0_wants0 a_r0_weights v_r0_letters v_r0_letterMany v_r0_at v_r0_isBad v_r0_statements v_r0_placeIn v_r0_letterOf v_r0_told v_r0_kept v_r0_imaged v_r0_hasImage v_r0_order0 v_r0_likely0 v_r0_leftThen v_r0_row v_r0_rowMany v_r0_seed kv r0_days r0_done0 r0_isTaking r0_keptIn r0_place0 r0_things 0 r0_turned r0_figures r0_hampers r0_kinds r0_left0 q_4.2 r0_turnOf r0_turns0 r0_wants0 r0_weights)) rfl (k_runV C hA hW mw_M_refuse mv_M_refuse (ct_4.2 _) [0, 5] rfl rfl 0 rfl rfl qm_M_108 ⟨Nat.le_of_ble_eq_true rfl, Nat.le_of_ble_eq_true rfl, Nat.zero_le _, Nat.zero_le _⟩ rfl rfl (Nat.le_of_ble_eq_true rfl) hl.1 d_M_packs_23) (fun H locs hW => ?_)
    obtain rfl := Option.some.inj hr
    rw [hQ]; exact k_iret C hret hW d_M_packs_26
  refine lv_if_eq (tgt := 21) hx hb d_M_packs_10 (by decide) (fun c_2 => ?_) (fun c_2 => ?_)
  · replace hr := ip c_2 hr
    exact hJ_3 () hr _ _ _ hW (lv_sub hl [0] rfl)
  · replace hr := iN c_2 hr
    refine lv_aload_n hx hb d_M_packs_13 rfl (lv_at hl 0 rfl) ?_
    refine lv_iload_n hx hb d_M_packs_14 rfl (lv_at hl 2 rfl) ?_
    obtain ⟨q_5, hc_5, hr⟩ := ob hr
    have ct_5 := C_M_isThing l D cI cS a_r0 (Value.ref a_r0_weights) (Value.ref a_r0_kinds) (Value.ref a_r0_figures) (Value.int r0_days) (Value.ref a_r0_hampers) (Value.ref a_r0_wants0) (Value.ref a_r0_left0) (Value.int r0_done0) (Value.int 0) (Value.ref a_r0_refusals) v_r0_letters v_r0_letterMany v_r0_at v_r0_isBad v_r0_statements v_r0_placeIn v_r0_letterOf v_r0_told v_r0_kept v_r0_imaged v_r0_hasImage (Value.int r0_place0) (Value.int r0_isTaking) (kv r0_keptIn) (Value.ref a_r0_turns0) (Value.ref a_r0_turnOf) (Value.int r0_turned) v_r0_order0 v_r0_likely0 v_r0_leftThen v_r0_row v_r0_rowMany v_r0_seed r0_things x2 q_5 hc_5
    refine k_goIp hA hW [0] rfl rfl (k_runV C hA hW mw_M_isThing mv_M_isThing (ct_5.2 _) [0] rfl rfl 0 rfl rfl qm_M_159 ⟨Nat.le_of_ble_eq_true rfl, Nat.le_of_ble_eq_true rfl, Nat.zero_le _, Nat.zero_le _⟩ rfl rfl (Nat.le_of_ble_eq_true rfl) hl.1 d_M_packs_15) (fun H locs hW => ?_)
    refine lv_if_ne (tgt := 27) hx hb d_M_packs_18 (by decide) (fun c_6 => ?_) (fun c_6 => ?_)
    · replace hr := iN c_6 hr
      refine lv_aload_n hx hb d_M_packs_27 rfl (lv_at hl 0 rfl) ?_
      obtain ⟨q_7, hc_7, hr⟩ := ob hr
      have ct_7 := C_M_keepTurn l D cI cS a_r0 a_r0_figures a_r0_hampers a_r0_kinds a_r0_left0 a_r0_turnOf a_r0_turns0 a_r0_wants0 a_r0_weights (Value.int 0) (Value.ref a_r0_refusals) v_r0_letters v_r0_letterMany v_r0_at v_r0_isBad v_r0_statements v_r0_placeIn v_r0_letterOf v_r0_told v_r0_kept v_r0_imaged v_r0_hasImage v_r0_order0 v_r0_likely0 v_r0_leftThen v_r0_row v_r0_rowMany v_r0_seed kv hkv_turnOf r0_days r0_done0 r0_isTaking r0_keptIn r0_place0 r0_things r0_turned r0_figures r0_hampers r0_kinds r0_left0 r0_turnOf r0_turns0 r0_wants0 r0_weights q_7 hc_7
      refine k_goV hA hW [0, 1, 2, 3, 4, 6, 7, 8, 9] rfl ct_7.1 (ws' := (w_M_packs cI a_r0 a_r0_figures a_r0_hampers a_r0_kinds a_r0_left0 a_r0_refusals a_r0_turnOf a_r0_turns0 a_r0_wants0 a_r0_weights v_r0_letters v_r0_letterMany v_r0_at v_r0_isBad v_r0_statements v_r0_placeIn v_r0_letterOf v_r0_told v_r0_kept v_r0_imaged v_r0_hasImage v_r0_order0 v_r0_likely0 v_r0_leftThen v_r0_row v_r0_rowMany v_r0_seed kv q_7.1 q_7.2.1 q_7.2.2.1 q_7.2.2.2.1 q_7.2.2.2.2.1 q_7.2.2.2.2.2.1 0 q_7.2.2.2.2.2.2.1 q_7.2.2.2.2.2.2.2.1 q_7.2.2.2.2.2.2.2.2.1 q_7.2.2.2.2.2.2.2.2.2.1 q_7.2.2.2.2.2.2.2.2.2.2.1 r0_refusals q_7.2.2.2.2.2.2.2.2.2.2.2.1 q_7.2.2.2.2.2.2.2.2.2.2.2.2.1 q_7.2.2.2.2.2.2.2.2.2.2.2.2.2.1 q_7.2.2.2.2.2.2.2.2.2.2.2.2.2.2)) rfl (k_runV C hA hW mw_M_keepTurn mv_M_keepTurn (ct_7.2 _) [0, 1, 2, 3, 4, 6, 7, 8, 9] rfl rfl 0 rfl rfl qm_M_212 ⟨Nat.le_of_ble_eq_true rfl, Nat.le_of_ble_eq_true rfl, Nat.zero_le _, Nat.zero_le _⟩ rfl rfl (Nat.le_of_ble_eq_true rfl) hl.1 d_M_packs_28) (fun H locs hW => ?_)
      refine lv_aload_n hx hb d_M_packs_31 rfl (lv_at hl 0 rfl) ?_
      refine k_get i_M C hW 0 rfl rfl 5 (by decide) qf_M_19 rfl rfl d_M_packs_32 ?_
      refine lv_iload_n hx hb d_M_packs_35 rfl (lv_at hl 1 rfl) ?_
      refine lv_dup2_11 hx hb d_M_packs_36 rfl rfl ?_
      obtain ⟨h_8, hr⟩ := ck_some hr
      refine k_iald C hW 2 rfl h_8 d_M_packs_37 ?_
      refine lv_iconst (v := 1) hx hb d_M_packs_38 (by decide) ?_
      refine lv_iload_n hx hb d_M_packs_39 rfl (lv_at hl 2 rfl) ?_
      refine lv_ishl hx hb d_M_packs_40 ?_
      refine lv_ixor hx hb d_M_packs_41 ?_
      obtain ⟨h_9, hr⟩ := ck_some hr
      refine k_iast C hW 2 rfl h_9 (ws' := (w_M_packs cI a_r0 a_r0_figures a_r0_hampers a_r0_kinds a_r0_left0 a_r0_refusals a_r0_turnOf a_r0_turns0 a_r0_wants0 a_r0_weights v_r0_letters v_r0_letterMany v_r0_at v_r0_isBad v_r0_statements v_r0_placeIn v_r0_letterOf v_r0_told v_r0_kept v_r0_imaged v_r0_hasImage v_r0_order0 v_r0_likely0 v_r0_leftThen v_r0_row v_r0_rowMany v_r0_seed kv q_7.1 q_7.2.1 q_7.2.2.1 q_7.2.2.2.1 q_7.2.2.2.2.1 q_7.2.2.2.2.2.1 0 q_7.2.2.2.2.2.2.1 q_7.2.2.2.2.2.2.2.1 (upd q_7.2.2.2.2.2.2.2.2.1 (Int32.toNatClampNeg x1) ((q_7.2.2.2.2.2.2.2.2.1 (Int32.toNatClampNeg x1)) ^^^ ((1 : Int32) <<< ((x2 : Int32) &&& 31)))) q_7.2.2.2.2.2.2.2.2.2.1 q_7.2.2.2.2.2.2.2.2.2.2.1 r0_refusals q_7.2.2.2.2.2.2.2.2.2.2.2.1 q_7.2.2.2.2.2.2.2.2.2.2.2.2.1 q_7.2.2.2.2.2.2.2.2.2.2.2.2.2.1 q_7.2.2.2.2.2.2.2.2.2.2.2.2.2.2)) rfl d_M_packs_42 (fun H locs hW => ?_)
      refine lv_aload_n hx hb d_M_packs_43 rfl (lv_at hl 0 rfl) ?_
      refine k_get i_M C hW 0 rfl rfl 5 (by decide) qf_M_19 rfl rfl d_M_packs_44 ?_
      refine lv_iload_n hx hb d_M_packs_47 rfl (lv_at hl 1 rfl) ?_
      obtain ⟨h_10, hr⟩ := ck_some hr
      refine k_iald C hW 2 rfl h_10 d_M_packs_48 ?_
      refine lv_iload_n hx hb d_M_packs_49 rfl (lv_at hl 2 rfl) ?_
      refine lv_ishr hx hb d_M_packs_50 ?_
      refine lv_iconst (v := 1) hx hb d_M_packs_51 (by decide) ?_
      refine lv_iand hx hb d_M_packs_52 ?_
      obtain rfl := Option.some.inj hr
      rw [hQ]; exact k_iret C hret hW d_M_packs_53
    · replace hr := ip c_6 hr
      exact hJ_3 () hr _ _ _ hW (lv_sub hl [0] rfl)
